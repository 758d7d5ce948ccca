abbrev b_Ho_dot : ByteArray := prog_1_method_29_code
def y_Ho_dot : MethodName := ⟨"DrawingHouse", "dot", "(II)I"⟩
abbrev z_Ho_dot : List Cond := Cond.code y_Ho_dot b_Ho_dot 3 (some .int) :: lw_g
def e_Ho_dot : en_T := ([(2, 0, 0, [12]), (0, -2147483648, 2147483647, []), (0, -2147483648, 2147483647, [])], some (0, -1, 256, []), true, 6, 0, 0, [([(2, 0, 0, [12]), (0, -2147483648, -1, []), (0, -2147483648, 2147483647, []), (0, -1, -1, [])], [], [3], [], [], []), ([(2, 0, 0, [12]), (0, 0, 2147483647, []), (0, -2147483648, 2147483647, []), (0, -1, -1, [])], [], [3], [], [], []), ([(2, 0, 0, [12]), (0, 0, 63, []), (0, -2147483648, -1, []), (0, -1, -1, [])], [], [3], [], [], []), ([(2, 0, 0, [12]), (0, 0, 63, []), (0, 0, 63, []), (0, 0, 256, [])], [], [3], [], [], []), ([(2, 0, 0, [12]), (0, 0, 63, []), (0, 0, 2147483647, []), (0, -1, -1, [])], [], [3], [], [], [])], [], (0, [], [], [], []))
abbrev b_Ho_fault : ByteArray := prog_1_method_4_code
def y_Ho_fault : MethodName := ⟨"DrawingHouse", "fault", "(I)I"⟩
abbrev z_Ho_fault : List Cond := Cond.code y_Ho_fault b_Ho_fault 2 (some .int) :: lw_g
def e_Ho_fault : en_T := ([(2, 0, 0, [12]), (0, -2147483648, 2147483647, [])], some (0, -1, 2000, []), true, 6, 0, 0, [([(2, 0, 0, [12]), (0, -2147483648, 2147483647, []), (0, -1, -1, [])], [], [2], [], [], []), ([(2, 0, 0, [12]), (0, 1, 1, []), (0, -1, 2000, [])], [], [2], [], [], []), ([(2, 0, 0, [12]), (0, 0, 0, []), (0, -1, 5, [])], [], [2], [], [], [])], [], (0, [], [], [], []))
abbrev b_Ho_isPlace : ByteArray := prog_1_method_30_code
def y_Ho_isPlace : MethodName := ⟨"DrawingHouse", "isPlace", "(I)Z"⟩
abbrev z_Ho_isPlace : List Cond := Cond.code y_Ho_isPlace b_Ho_isPlace 1 (some .boolean) :: lw_g
def e_Ho_isPlace : en_T := ([(0, -2147483648, 2147483647, [])], some (0, 0, 1, []), true, 6, 0, 0, [([(0, -2147483648, -1, []), (0, 0, 0, [])], [], [1], [], [], []), ([(0, 4, 2147483647, []), (0, 0, 0, [])], [], [1], [], [], []), ([(0, 0, 3, []), (0, 1, 1, [])], [], [1], [], [], [])], [], (0, [], [], [], []))
abbrev b_Ho_map : ByteArray := prog_1_method_14_code
def y_Ho_map : MethodName := ⟨"DrawingHouse", "map", "(I)I"⟩
abbrev z_Ho_map : List Cond := Cond.code y_Ho_map b_Ho_map 2 (some .int) :: lw_g
def e_Ho_map : en_T := ([(2, 0, 0, [12]), (0, -2147483648, 2147483647, [])], some (0, -1, 20000, []), true, 6, 0, 0, [([(2, 0, 0, [12]), (0, -2147483648, -1, []), (0, -1, -1, [])], [], [2], [], [], []), ([(2, 0, 0, [12]), (0, 0, 2147483647, []), (0, -1, -1, [])], [], [2], [], [], []), ([(2, 0, 0, [12]), (0, 0, 23, []), (0, -1, 23, [])], [], [2], [], [], []), ([(2, 0, 0, [12]), (0, -1, -1, []), (0, -1, 20000, [])], [], [2], [], [], [])], [], (0, [], [], [], []))
abbrev b_Ho_octet : ByteArray := prog_1_method_27_code
def y_Ho_octet : MethodName := ⟨"DrawingHouse", "octet", "(I)I"⟩
abbrev z_Ho_octet : List Cond := Cond.code y_Ho_octet b_Ho_octet 2 (some .int) :: lw_g
def e_Ho_octet : en_T := ([(2, 0, 0, [12]), (0, -2147483648, 2147483647, [])], some (0, -128, 127, []), true, 6, 0, 0, [([(2, 0, 0, [12]), (0, -2147483648, -1, []), (0, -1, -1, [])], [], [2], [], [], []), ([(2, 0, 0, [12]), (0, 0, 2147483647, []), (0, -1, -1, [])], [], [2], [], [], []), ([(2, 0, 0, [12]), (0, 0, 3999, []), (0, -128, 127, [])], [], [2], [], [], [])], [], (0, [], [], [], []))
abbrev b_Ho_setDot : ByteArray := prog_1_method_45_code
def y_Ho_setDot : MethodName := ⟨"DrawingHouse", "setDot", "(III)V"⟩
abbrev z_Ho_setDot : List Cond := Cond.code y_Ho_setDot b_Ho_setDot 4 none :: lw_g
def e_Ho_setDot : en_T := ([(2, 0, 0, [12]), (0, -31815, 31941, []), (0, -31815, 31941, []), (0, 1, 256, [])], none, false, 6, 0, 0, [], [], (348449143727040986586495598010130648530944, [], [], [], []))
abbrev b_Ho_writeByte : ByteArray := prog_1_method_37_code
def y_Ho_writeByte : MethodName := ⟨"DrawingHouse", "writeByte", "(I)V"⟩
abbrev z_Ho_writeByte : List Cond := Cond.code y_Ho_writeByte b_Ho_writeByte 2 none :: lw_g
def e_Ho_writeByte : en_T := ([(2, 0, 0, [12]), (0, -128, 65535, [])], none, false, 6, 0, 0, [], [], (261336857795280739939871698507597986398208, [(12, 12)], [(20, [0, 2], [30, 0, 1, 1, 12, -1, 0, 0])], [(20, [0, 2], [30, 1, 1, 1, 12, -1, 0, 0])], [(0, 0, 99999999, [])]))
abbrev b_Dr_addBend_at_gb : ByteArray := prog_2_method_4_code
def y_Dr_addBend_at_gb : MethodName := ⟨"DrawingHouse$Drawing", "addBend", "(III)V"⟩
abbrev z_Dr_addBend_at_gb : List Cond := Cond.code y_Dr_addBend_at_gb b_Dr_addBend_at_gb 4 none :: lw_g
def e_Dr_addBend_at_gb : en_T := ([(2, 0, 0, [0]), (0, 0, 47, []), (0, -1, 8000, []), (0, -40000000, 690000000, [])], none, false, 6, 0, 0, [], [], (458752, [], [(20, [0, 1, 4], [30, 0, 1, 2, 4, -1, 0, 0]), (20, [0, 1], [60, 0, 1, 643, 4])], [(20, [0, 1, 4], [30, 1, 1, 2, 4, -1, 0, 0]), (20, [0, 1], [60, 0, 1, 643, 4])], [(0, 0, 23, [])]))
abbrev b_Dr_addBend_at_gl : ByteArray := prog_2_method_4_code
def y_Dr_addBend_at_gl : MethodName := ⟨"DrawingHouse$Drawing", "addBend", "(III)V"⟩
abbrev z_Dr_addBend_at_gl : List Cond := Cond.code y_Dr_addBend_at_gl b_Dr_addBend_at_gl 4 none :: lw_g
def e_Dr_addBend_at_gl : en_T := ([(2, 0, 0, [0]), (0, 0, 47, []), (0, 0, 568320, []), (0, 0, 115, [])], none, false, 6, 0, 0, [], [], (458752, [], [(20, [0, 1, 4], [30, 0, 1, 2, 4, -1, 0, 0]), (20, [0, 1], [60, 0, 1, 643, 4])], [(20, [0, 1, 4], [30, 1, 1, 2, 4, -1, 0, 0]), (20, [0, 1], [60, 0, 1, 643, 4])], [(0, 0, 23, [])]))
abbrev b_Dr_addBend_at_gr : ByteArray := prog_2_method_4_code
def y_Dr_addBend_at_gr : MethodName := ⟨"DrawingHouse$Drawing", "addBend", "(III)V"⟩
abbrev z_Dr_addBend_at_gr : List Cond := Cond.code y_Dr_addBend_at_gr b_Dr_addBend_at_gr 4 none :: lw_g
def e_Dr_addBend_at_gr : en_T := ([(2, 0, 0, [0]), (0, 0, 47, []), (0, -40000011, 1000005999, []), (0, -40000003, 1000005999, [])], none, false, 6, 0, 0, [], [], (458752, [], [(20, [0, 1, 4], [30, 0, 1, 2, 4, -1, 0, 0])], [(20, [0, 1, 4], [30, 1, 1, 2, 4, -1, 0, 0])], [(0, 0, 23, [])]))
abbrev b_Dr_countBends : ByteArray := prog_2_method_31_code
def y_Dr_countBends : MethodName := ⟨"DrawingHouse$Drawing", "countBends", "()J"⟩
abbrev z_Dr_countBends : List Cond := Cond.code y_Dr_countBends b_Dr_countBends 4 (some .long) :: lw_g
def e_Dr_countBends : en_T := ([(2, 0, 0, [0])], some (1, -9223372036854775808, 9223372036854775807, []), true, 6, 0, 0, [], [], (0, [], [], [], []))
abbrev b_Dr_pointX : ByteArray := prog_2_method_10_code
def y_Dr_pointX : MethodName := ⟨"DrawingHouse$Drawing", "pointX", "(II)I"⟩
abbrev z_Dr_pointX : List Cond := Cond.code y_Dr_pointX b_Dr_pointX 3 (some .int) :: lw_g
def e_Dr_pointX : en_T := ([(2, 0, 0, [0]), (0, 0, 47, []), (0, 0, 25, [])], some (0, -41000000, 1001000000, []), true, 6, 0, 0, [([(2, 0, 0, [0]), (0, 0, 47, []), (0, 1, 25, []), (2, 0, 0, [3]), (0, -40000000, 690000000, [])], [], [4], [((0, 0), 3)], [], []), ([(2, 0, 0, [0]), (0, 0, 47, []), (0, 1, 24, []), (2, 0, 0, [3]), (0, -41000000, 1001000000, [])], [], [4], [((0, 0), 3)], [], []), ([(2, 0, 0, [0]), (0, 0, 47, []), (0, 0, 0, []), (2, 0, 0, [3]), (0, -40000000, 690000000, [])], [], [4], [((0, 0), 3)], [], [])], [((0, 0), (2, 0, 0, [3]))], (0, [], [], [(20, [0, 3, 1, 2, 4], [60, 0, 5, 933, 2, 4, 5, 1007, 1008])], []))
abbrev b_Dr_pointY : ByteArray := prog_2_method_11_code
def y_Dr_pointY : MethodName := ⟨"DrawingHouse$Drawing", "pointY", "(II)I"⟩
abbrev z_Dr_pointY : List Cond := Cond.code y_Dr_pointY b_Dr_pointY 3 (some .int) :: lw_g
def e_Dr_pointY : en_T := ([(2, 0, 0, [0]), (0, 0, 47, []), (0, 0, 25, [])], some (0, -41000000, 1001000000, []), true, 6, 0, 0, [([(2, 0, 0, [0]), (0, 0, 47, []), (0, 1, 25, []), (2, 0, 0, [3]), (0, -40000000, 690000000, [])], [], [4], [((0, 0), 3)], [], []), ([(2, 0, 0, [0]), (0, 0, 47, []), (0, 1, 24, []), (2, 0, 0, [3]), (0, -41000000, 1001000000, [])], [], [4], [((0, 0), 3)], [], []), ([(2, 0, 0, [0]), (0, 0, 47, []), (0, 0, 0, []), (2, 0, 0, [3]), (0, -40000000, 690000000, [])], [], [4], [((0, 0), 3)], [], [])], [((0, 0), (2, 0, 0, [3]))], (0, [], [], [(20, [0, 3, 1, 2, 4], [60, 0, 5, 940, 3, 4, 6, 1007, 1008])], []))
abbrev b_Dr_sharedNode : ByteArray := prog_2_method_22_code
def y_Dr_sharedNode : MethodName := ⟨"DrawingHouse$Drawing", "sharedNode", "(II)I"⟩
abbrev z_Dr_sharedNode : List Cond := Cond.code y_Dr_sharedNode b_Dr_sharedNode 5 (some .int) :: lw_g
def e_Dr_sharedNode : en_T := ([(2, 0, 0, [0]), (0, 0, 47, []), (0, 1, 47, [])], some (0, -1, 23, []), true, 6, 0, 0, [], [], (0, [], [], [], []))
abbrev b_Em_countFits : ByteArray := prog_3_method_10_code
def y_Em_countFits : MethodName := ⟨"DrawingHouse$Embedder", "countFits", "(I)I"⟩
abbrev z_Em_countFits : List Cond := Cond.code y_Em_countFits b_Em_countFits 4 (some .int) :: lw_g
def e_Em_countFits : en_T := ([(2, 0, 0, [1]), (0, 0, 33554431, [])], some (0, -2147483648, 2147483647, []), true, 6, 0, 0, [], [], (0, [], [], [], []))
abbrev b_Em_firstFit : ByteArray := prog_3_method_11_code
def y_Em_firstFit : MethodName := ⟨"DrawingHouse$Embedder", "firstFit", "(I)I"⟩
abbrev z_Em_firstFit : List Cond := Cond.code y_Em_firstFit b_Em_firstFit 3 (some .int) :: lw_g
def e_Em_firstFit : en_T := ([(2, 0, 0, [1]), (0, 0, 33554431, [])], some (0, 0, 49, []), true, 6, 0, 0, [], [], (0, [], [], [(20, [2, 0], [50, 1, 0, 1007, 3, 6, 1, 2, 1, 0, 0, 0, 0, 6, 4, 2, 1, 0, 0, 1, 2, 1, 7])], []))
abbrev b_Em_indexIn : ByteArray := prog_3_method_16_code
def y_Em_indexIn : MethodName := ⟨"DrawingHouse$Embedder", "indexIn", "(II)I"⟩
abbrev z_Em_indexIn : List Cond := Cond.code y_Em_indexIn b_Em_indexIn 4 (some .int) :: lw_g
def e_Em_indexIn : en_T := ([(2, 0, 0, [1]), (0, 0, 49, []), (0, 0, 24, [])], some (0, 0, 24, []), true, 6, 0, 0, [], [], (0, [], [], [(20, [3, 0, 1], [50, 0, 1, 1009, 3, 6, 1, 2, 1, 0, 0, 0, 0, 6, 4, 2, 1, 0, 0, 1, 3, 1, 9, 1, 2])], []))
abbrev b_Em_layRing : ByteArray := prog_3_method_7_code
def y_Em_layRing : MethodName := ⟨"DrawingHouse$Embedder", "layRing", "(I)V"⟩
abbrev z_Em_layRing : List Cond := Cond.code y_Em_layRing b_Em_layRing 3 none :: lw_g
def e_Em_layRing : en_T := ([(2, 0, 0, [1]), (0, 0, 24, [])], none, false, 6, 0, 0, [], [], (3758096384, [(1, 6), (1, 7)], [(20, [0, 1], [60, 1, 1, 604, 15, 14])], [(20, [0], [60, 2, 2, 603, 7, 6, 8, 9]), (20, [0], [50, 1, 0, 7, 0, 2, 0, 2, 2, 0, 7]), (20, [0, 1], [60, 1, 0, 606, 6])], []))
abbrev b_Em_leastEdgeAt_at_gn : ByteArray := prog_3_method_20_code
def y_Em_leastEdgeAt_at_gn : MethodName := ⟨"DrawingHouse$Embedder", "leastEdgeAt", "(II)I"⟩
abbrev z_Em_leastEdgeAt_at_gn : List Cond := Cond.code y_Em_leastEdgeAt_at_gn b_Em_leastEdgeAt_at_gn 4 (some .int) :: lw_g
def e_Em_leastEdgeAt_at_gn : en_T := ([(2, 0, 0, [1]), (0, 0, 23, []), (0, 0, 71, [])], some (0, -1, 71, []), true, 6, 0, 0, [], [((0, 0), (2, 0, 0, [5]))], (0, [], [], [(20, [0, 3, 1, 2, 4], [60, 1, 3, 626, 1006, 2, 1007, 1008])], []))
abbrev b_Em_leastEdgeAt_at_gp : ByteArray := prog_3_method_20_code
def y_Em_leastEdgeAt_at_gp : MethodName := ⟨"DrawingHouse$Embedder", "leastEdgeAt", "(II)I"⟩
abbrev z_Em_leastEdgeAt_at_gp : List Cond := Cond.code y_Em_leastEdgeAt_at_gp b_Em_leastEdgeAt_at_gp 4 (some .int) :: lw_g
def e_Em_leastEdgeAt_at_gp : en_T := ([(2, 0, 0, [1]), (0, 0, 24, []), (0, 0, 71, [])], some (0, -1, 71, []), true, 6, 0, 0, [], [((0, 0), (2, 0, 0, [149]))], (0, [], [], [(20, [0, 3, 1, 2, 4], [60, 1, 3, 626, 1006, 2, 1007, 1008])], []))
abbrev b_Em_storeCycle : ByteArray := prog_3_method_17_code
def y_Em_storeCycle : MethodName := ⟨"DrawingHouse$Embedder", "storeCycle", "(III)V"⟩
abbrev z_Em_storeCycle : List Cond := Cond.code y_Em_storeCycle b_Em_storeCycle 5 none :: lw_g
def e_Em_storeCycle : en_T := ([(2, 0, 0, [1]), (0, 0, 49, []), (0, 0, 1225, []), (0, 0, 25, [])], none, false, 6, 0, 0, [], [], (3221225472, [], [(20, [0, 1, 3], [60, 3, 3, 620, 7, 6, 15, 8, 9, 14])], [(20, [0, 1], [60, 3, 3, 621, 7, 6, 15, 8, 9, 14])], []))
abbrev b_Fa_gather : ByteArray := prog_4_method_19_code
def y_Fa_gather : MethodName := ⟨"DrawingHouse$Facts", "gather", "(II)I"⟩
abbrev z_Fa_gather : List Cond := Cond.code y_Fa_gather b_Fa_gather 5 (some .int) :: lw_g
def e_Fa_gather : en_T := ([(2, 0, 0, [2]), (0, 0, 24, []), (0, 0, 23, [])], some (0, 0, 24, []), false, 6, 0, 0, [], [], (70368744177664, [], [], [(20, [0, 2, 1, 3], [60, 0, 2, 569, 11, 13])], []))
abbrev b_Fa_isBridge : ByteArray := prog_4_method_10_code
def y_Fa_isBridge : MethodName := ⟨"DrawingHouse$Facts", "isBridge", "(I)Z"⟩
abbrev z_Fa_isBridge : List Cond := Cond.code y_Fa_isBridge b_Fa_isBridge 3 (some .boolean) :: lw_g
def e_Fa_isBridge : en_T := ([(2, 0, 0, [2]), (0, 0, 47, [])], some (0, 0, 1, []), true, 6, 0, 0, [], [], (0, [], [], [], []))
abbrev b_Fa_nearOf_at_Grnear : ByteArray := prog_4_method_4_code
def y_Fa_nearOf_at_Grnear : MethodName := ⟨"DrawingHouse$Facts", "nearOf", "([III)I"⟩
abbrev z_Fa_nearOf_at_Grnear : List Cond := Cond.code y_Fa_nearOf_at_Grnear b_Fa_nearOf_at_Grnear 5 (some .int) :: lw_g
def e_Fa_nearOf_at_Grnear : en_T := ([(2, 0, 0, [59]), (0, 1, 24, []), (0, 0, 16777215, [])], some (0, 0, 16777215, []), true, 6, 0, 0, [], [], (0, [], [], [(20, [0, 1, 2, 3], [61, 1, 557])], []))
abbrev b_Fa_nearOf_at_Nenear : ByteArray := prog_4_method_4_code
def y_Fa_nearOf_at_Nenear : MethodName := ⟨"DrawingHouse$Facts", "nearOf", "([III)I"⟩
abbrev z_Fa_nearOf_at_Nenear : List Cond := Cond.code y_Fa_nearOf_at_Nenear b_Fa_nearOf_at_Nenear 5 (some .int) :: lw_g
def e_Fa_nearOf_at_Nenear : en_T := ([(2, 0, 0, [82]), (0, 0, 24, []), (0, 0, 33554431, [])], some (0, 0, 16777215, []), true, 6, 0, 0, [], [], (0, [], [], [(20, [0, 1, 2, 3], [61, 1, 557])], []))
abbrev b_Fa_nearOf_at_Npnear : ByteArray := prog_4_method_4_code
def y_Fa_nearOf_at_Npnear : MethodName := ⟨"DrawingHouse$Facts", "nearOf", "([III)I"⟩
abbrev z_Fa_nearOf_at_Npnear : List Cond := Cond.code y_Fa_nearOf_at_Npnear b_Fa_nearOf_at_Npnear 5 (some .int) :: lw_g
def e_Fa_nearOf_at_Npnear : en_T := ([(2, 0, 0, [142]), (0, 0, 25, []), (0, 0, 33554431, [])], some (0, 0, 33554431, []), true, 6, 0, 0, [], [], (0, [], [], [(20, [0, 1, 2, 3], [61, 1, 557])], []))
abbrev b_Fa_relabel_at_Emblock_gn : ByteArray := prog_4_method_9_code
def y_Fa_relabel_at_Emblock_gn : MethodName := ⟨"DrawingHouse$Facts", "relabel", "([IIII)V"⟩
abbrev z_Fa_relabel_at_Emblock_gn : List Cond := Cond.code y_Fa_relabel_at_Emblock_gn b_Fa_relabel_at_Emblock_gn 5 none :: lw_g
def e_Fa_relabel_at_Emblock_gn : en_T := ([(2, 0, 0, [26]), (0, 1, 72, []), (0, 0, 71, []), (0, 0, 71, [])], none, false, 6, 0, 0, [], [], (67108864, [], [(20, [0, 1], [61, 1, 566]), (20, [3, 2], [50, 0, 0, 2, 6, 0, 2, 0, 0, 1, 0, 0, 2, 1, 0, 1, 1]), (20, [0, 4, 5, 1, 2, 3, 6], [61, 3, 581]), (20, [0, 4, 5, 7, 8, 1, 6, 9, 2, 3], [61, 4, 590])], [(20, [0, 1], [61, 1, 566]), (20, [0, 4, 5, 1, 3, 6], [61, 3, 583]), (20, [0, 4, 5, 7, 8, 1, 6, 9, 3], [61, 4, 592])], [(2, 0, 0, [80]), (2, 0, 0, [81]), (0, 0, 24, []), (2, 0, 0, [82]), (0, 0, 25, []), (0, -2147483648, 2147483647, [])]))
abbrev b_Fa_relabel_at_Emblock_gp : ByteArray := prog_4_method_9_code
def y_Fa_relabel_at_Emblock_gp : MethodName := ⟨"DrawingHouse$Facts", "relabel", "([IIII)V"⟩
abbrev z_Fa_relabel_at_Emblock_gp : List Cond := Cond.code y_Fa_relabel_at_Emblock_gp b_Fa_relabel_at_Emblock_gp 5 none :: lw_g
def e_Fa_relabel_at_Emblock_gp : en_T := ([(2, 0, 0, [26]), (0, 1, 72, []), (0, 0, 71, []), (0, 0, 71, [])], none, false, 6, 0, 0, [], [], (67108864, [], [(20, [0, 1], [61, 1, 566]), (20, [3, 2], [50, 0, 0, 2, 6, 0, 2, 0, 0, 1, 0, 0, 2, 1, 0, 1, 1]), (20, [0, 4, 5, 1, 2, 3, 6], [61, 3, 581]), (20, [0, 4, 5, 7, 8, 1, 6, 9, 2, 3], [61, 4, 590])], [(20, [0, 1], [61, 1, 566]), (20, [0, 4, 5, 1, 3, 6], [61, 3, 583]), (20, [0, 4, 5, 7, 8, 1, 6, 9, 3], [61, 4, 592])], [(2, 0, 0, [140]), (2, 0, 0, [141]), (0, 0, 24, []), (2, 0, 0, [142]), (0, 0, 25, []), (0, -2147483648, 2147483647, [])]))
abbrev b_Fa_relabel_at_Fablock_gr : ByteArray := prog_4_method_9_code
def y_Fa_relabel_at_Fablock_gr : MethodName := ⟨"DrawingHouse$Facts", "relabel", "([IIII)V"⟩
abbrev z_Fa_relabel_at_Fablock_gr : List Cond := Cond.code y_Fa_relabel_at_Fablock_gr b_Fa_relabel_at_Fablock_gr 5 none :: lw_g
def e_Fa_relabel_at_Fablock_gr : en_T := ([(2, 0, 0, [38]), (0, 1, 48, []), (0, 0, 47, []), (0, 0, 47, [])], none, false, 6, 0, 0, [], [], (274877906944, [], [(20, [0, 1], [61, 1, 566]), (20, [3, 2], [50, 0, 0, 2, 6, 0, 2, 0, 0, 1, 0, 0, 2, 1, 0, 1, 1]), (20, [0, 4, 5, 1, 2, 3, 6], [61, 3, 581]), (20, [0, 4, 5, 7, 8, 1, 6, 9, 2, 3], [61, 4, 590])], [(20, [0, 1], [61, 1, 566]), (20, [0, 4, 5, 1, 3, 6], [61, 3, 583]), (20, [0, 4, 5, 7, 8, 1, 6, 9, 3], [61, 4, 592])], [(2, 0, 0, [52]), (2, 0, 0, [53]), (0, 0, 24, []), (2, 0, 0, [59]), (0, 0, 25, []), (0, -2147483648, 2147483647, [])]))
abbrev b_Fa_setAll : ByteArray := prog_4_method_12_code
def y_Fa_setAll : MethodName := ⟨"DrawingHouse$Facts", "setAll", "([IIII)V"⟩
abbrev z_Fa_setAll : List Cond := Cond.code y_Fa_setAll b_Fa_setAll 5 none :: lw_g
def e_Fa_setAll : en_T := ([(2, 0, 0, [37]), (0, 1, 24, []), (0, 0, 16777215, []), (0, 0, 23, [])], none, false, 6, 0, 0, [], [], (137438953472, [], [(20, [0, 4, 1, 2, 3, 5, 6], [61, 2, 675])], [(20, [0, 4, 1, 2, 3, 5, 6], [61, 2, 677])], [(2, 0, 0, [59]), (0, -2147483648, 2147483647, []), (0, 0, 23, [])]))
abbrev b_Fa_weights : ByteArray := prog_4_method_24_code
def y_Fa_weights : MethodName := ⟨"DrawingHouse$Facts", "weights", "(LDrawingHouse$Graph;IIZ)I"⟩
abbrev z_Fa_weights : List Cond := Cond.code y_Fa_weights b_Fa_weights 8 (some .int) :: lw_g
def e_Fa_weights : en_T := ([(2, 0, 0, [3]), (0, 0, 23, []), (0, 0, 16777215, []), (0, 0, 1, [])], some (0, -2147483648, 2147483647, []), true, 6, 0, 0, [], [], (0, [], [], [], []))
abbrev b_Gr_edgeBetween_at_Gq : ByteArray := prog_5_method_7_code
def y_Gr_edgeBetween_at_Gq : MethodName := ⟨"DrawingHouse$Graph", "edgeBetween", "(II)I"⟩
abbrev z_Gr_edgeBetween_at_Gq : List Cond := Cond.code y_Gr_edgeBetween_at_Gq b_Gr_edgeBetween_at_Gq 3 (some .int) :: lw_g
def e_Gr_edgeBetween_at_Gq : en_T := ([(2, 0, 0, [164]), (0, 0, 23, []), (0, 0, 23, [])], some (0, -1, 47, []), true, 6, 0, 0, [([(2, 0, 0, [164]), (0, 0, 23, []), (0, 0, 23, []), (0, -1, 47, [])], [], [3], [], [], [])], [], (0, [], [], [(20, [3, 0, 1, 2], [50, 0, 1, 1015, 1, 2, 1, 0, 3, 1, 15, 4, 6, 6, 2, 1, 2, 0, 24, 1, 3])], []))
abbrev b_Gr_edgeBetween_at_Gr : ByteArray := prog_5_method_7_code
def y_Gr_edgeBetween_at_Gr : MethodName := ⟨"DrawingHouse$Graph", "edgeBetween", "(II)I"⟩
abbrev z_Gr_edgeBetween_at_Gr : List Cond := Cond.code y_Gr_edgeBetween_at_Gr b_Gr_edgeBetween_at_Gr 3 (some .int) :: lw_g
def e_Gr_edgeBetween_at_Gr : en_T := ([(2, 0, 0, [3]), (0, 0, 23, []), (0, 0, 23, [])], some (0, -1, 47, []), true, 6, 0, 0, [([(2, 0, 0, [3]), (0, 0, 23, []), (0, 0, 23, []), (0, -1, 47, [])], [], [3], [], [], [])], [], (0, [], [], [(20, [3, 0, 1, 2], [50, 0, 1, 1015, 1, 2, 1, 0, 3, 1, 15, 4, 6, 6, 2, 1, 2, 0, 24, 1, 3])], []))
abbrev b_Gr_fourLetters : ByteArray := prog_5_method_28_code
def y_Gr_fourLetters : MethodName := ⟨"DrawingHouse$Graph", "fourLetters", "(I)I"⟩
abbrev z_Gr_fourLetters : List Cond := Cond.code y_Gr_fourLetters b_Gr_fourLetters 2 (some .int) :: lw_g
def e_Gr_fourLetters : en_T := ([(2, 0, 0, [3]), (0, 0, 188, [])], some (0, -2147483648, 2147483647, []), true, 6, 0, 0, [([(2, 0, 0, [3]), (0, 0, 188, []), (0, -2147483648, 2147483647, [])], [], [2], [], [], [])], [], (0, [], [], [], []))
abbrev b_Gr_half : ByteArray := prog_5_method_8_code
def y_Gr_half : MethodName := ⟨"DrawingHouse$Graph", "half", "(I)I"⟩
abbrev z_Gr_half : List Cond := Cond.code y_Gr_half b_Gr_half 2 (some .int) :: lw_g
def e_Gr_half : en_T := ([(2, 0, 0, [3]), (0, 0, 23, [])], some (0, 1, 9, []), true, 6, 0, 0, [([(2, 0, 0, [3]), (0, 0, 23, []), (0, 1, 9, [])], [], [2], [], [], [])], [], (0, [], [], [(20, [2, 0, 1], [50, 0, 1, 1004, 1, 2, 1, 0, 4, 5, 3, 1, 4, 1, 2, 0, 1])], []))
abbrev b_Gr_hasEdge : ByteArray := prog_5_method_5_code
def y_Gr_hasEdge : MethodName := ⟨"DrawingHouse$Graph", "hasEdge", "(I)Z"⟩
abbrev z_Gr_hasEdge : List Cond := Cond.code y_Gr_hasEdge b_Gr_hasEdge 2 (some .boolean) :: lw_g
def e_Gr_hasEdge : en_T := ([(2, 0, 0, [3]), (0, -2147483648, 2147483647, [])], some (0, 0, 1, []), true, 6, 0, 0, [([(2, 0, 0, [3]), (0, -2147483648, -1, []), (0, 0, 0, [])], [], [2], [], [], []), ([(2, 0, 0, [3]), (0, 0, 2147483647, []), (0, 0, 0, [])], [], [2], [], [], []), ([(2, 0, 0, [3]), (0, 0, 47, []), (0, 1, 1, [])], [], [2], [], [], [])], [], (0, [], [], [(20, [2, 1, 0], [50, 1, 0, 2001, 4, 6, 1, 2, 1, 0, 0, 1, 2, 6, 0, 2, 0, 0, 1, 1, 0, 6, 4, 2, 1, 1, 0, 1, 2, 2, 1]), (20, [2, 1, 0], [50, 1, 0, 2001, 4, 6, 1, 2, 1, 0, 0, 0, 3, 6, 0, 2, 1, 1, 0, -1, 0, 3, 2, 2, 1, 1, 1])], []))
abbrev b_Gr_hasGroup : ByteArray := prog_5_method_6_code
def y_Gr_hasGroup : MethodName := ⟨"DrawingHouse$Graph", "hasGroup", "(I)Z"⟩
abbrev z_Gr_hasGroup : List Cond := Cond.code y_Gr_hasGroup b_Gr_hasGroup 2 (some .boolean) :: lw_g
def e_Gr_hasGroup : en_T := ([(2, 0, 0, [3]), (0, -2147483648, 2147483647, [])], some (0, 0, 1, []), true, 6, 0, 0, [([(2, 0, 0, [3]), (0, -2147483648, -1, []), (0, 0, 0, [])], [], [2], [], [], []), ([(2, 0, 0, [3]), (0, 0, 2147483647, []), (0, 0, 0, [])], [], [2], [], [], []), ([(2, 0, 0, [3]), (0, 0, 7, []), (0, 1, 1, [])], [], [2], [], [], [])], [], (0, [], [], [(20, [2, 1, 0], [50, 1, 0, 2002, 4, 6, 1, 2, 1, 0, 0, 1, 2, 6, 0, 2, 0, 0, 1, 1, 0, 6, 4, 2, 1, 1, 0, 1, 2, 2, 2])], []))
abbrev b_Gr_hasLetters_at_Gq_Retape : ByteArray := prog_5_method_13_code
def y_Gr_hasLetters_at_Gq_Retape : MethodName := ⟨"DrawingHouse$Graph", "hasLetters", "(I[BI)Z"⟩
abbrev z_Gr_hasLetters_at_Gq_Retape : List Cond := Cond.code y_Gr_hasLetters_at_Gq_Retape b_Gr_hasLetters_at_Gq_Retape 5 (some .boolean) :: lw_g
def e_Gr_hasLetters_at_Gq_Retape : en_T := ([(2, 0, 0, [164]), (0, 0, 23, []), (2, 0, 0, [109]), (0, 0, 2000, [])], some (0, 0, 1, []), true, 6, 0, 0, [], [((0, 3), (2, 0, 0, [150])), ((0, 4), (2, 0, 0, [151]))], (0, [], [(20, [0, 1, 3], [30, 2000, 1, 2, 4, 1, 0, 0])], [(20, [5, 4, 2, 1, 3, 6], [61, 3, 1088])], []))
abbrev b_Gr_hasLetters_at_Gr_newGrhasNextName1 : ByteArray := prog_5_method_13_code
def y_Gr_hasLetters_at_Gr_newGrhasNextName1 : MethodName := ⟨"DrawingHouse$Graph", "hasLetters", "(I[BI)Z"⟩
abbrev z_Gr_hasLetters_at_Gr_newGrhasNextName1 : List Cond := Cond.code y_Gr_hasLetters_at_Gr_newGrhasNextName1 b_Gr_hasLetters_at_Gr_newGrhasNextName1 5 (some .boolean) :: lw_g
def e_Gr_hasLetters_at_Gr_newGrhasNextName1 : en_T := ([(2, 0, 0, [3]), (0, 0, 23, []), (2, 0, 0, [296]), (0, 0, 0, [])], some (0, 0, 1, []), true, 6, 0, 0, [], [], (0, [], [(20, [0, 1, 3], [30, 3, 1, 2, 4, 1, 0, 0])], [], []))
abbrev b_Gr_hasNode : ByteArray := prog_5_method_4_code
def y_Gr_hasNode : MethodName := ⟨"DrawingHouse$Graph", "hasNode", "(I)Z"⟩
abbrev z_Gr_hasNode : List Cond := Cond.code y_Gr_hasNode b_Gr_hasNode 2 (some .boolean) :: lw_g
def e_Gr_hasNode : en_T := ([(2, 0, 0, [3]), (0, -2147483648, 2147483647, [])], some (0, 0, 1, []), true, 6, 0, 0, [([(2, 0, 0, [3]), (0, -2147483648, -1, []), (0, 0, 0, [])], [], [2], [], [], []), ([(2, 0, 0, [3]), (0, 0, 2147483647, []), (0, 0, 0, [])], [], [2], [], [], []), ([(2, 0, 0, [3]), (0, 0, 23, []), (0, 1, 1, [])], [], [2], [], [], [])], [], (0, [], [], [(20, [2, 1, 0], [50, 1, 0, 2000, 4, 6, 1, 2, 1, 0, 0, 1, 2, 6, 0, 2, 0, 0, 1, 1, 0, 6, 4, 2, 1, 1, 0, 1, 2, 2, 0])], []))
abbrev b_Gr_nextName : ByteArray := prog_5_method_19_code
def y_Gr_nextName : MethodName := ⟨"DrawingHouse$Graph", "nextName", "([B)I"⟩
abbrev z_Gr_nextName : List Cond := Cond.code y_Gr_nextName b_Gr_nextName 2 (some .int) :: lw_g
def e_Gr_nextName : en_T := ([(2, 0, 0, [3]), (2, 0, 0, [296, 297])], some (0, 2, 3, []), false, 6, 0, 0, [], [], (381944245562716141175333566576758405197150323812363046994276334253946493705625632409387008, [], [], [], []))
abbrev b_Gr_setLetters : ByteArray := prog_5_method_29_code
def y_Gr_setLetters : MethodName := ⟨"DrawingHouse$Graph", "setLetters", "(II)V"⟩
abbrev z_Gr_setLetters : List Cond := Cond.code y_Gr_setLetters b_Gr_setLetters 3 none :: lw_g
def e_Gr_setLetters : en_T := ([(2, 0, 0, [3]), (0, 0, 188, []), (0, -2147483648, 2147483647, [])], none, false, 6, 0, 0, [], [], (281474976710656, [], [], [], []))
abbrev b_Gr_sizeOfGroup : ByteArray := prog_5_method_10_code
def y_Gr_sizeOfGroup : MethodName := ⟨"DrawingHouse$Graph", "sizeOfGroup", "(I)I"⟩
abbrev z_Gr_sizeOfGroup : List Cond := Cond.code y_Gr_sizeOfGroup b_Gr_sizeOfGroup 6 (some .int) :: lw_g
def e_Gr_sizeOfGroup : en_T := ([(2, 0, 0, [3]), (0, 0, 7, [])], some (0, 0, 2376, []), true, 6, 0, 0, [], [], (0, [], [], [], []))
abbrev b_Gr_tie_at_Gq : ByteArray := prog_5_method_16_code
def y_Gr_tie_at_Gq : MethodName := ⟨"DrawingHouse$Graph", "tie", "(I)V"⟩
abbrev z_Gr_tie_at_Gq : List Cond := Cond.code y_Gr_tie_at_Gq b_Gr_tie_at_Gq 2 none :: lw_g
def e_Gr_tie_at_Gq : en_T := ([(2, 0, 0, [164]), (0, 0, 47, [])], none, false, 6, 0, 0, [], [], (8769009823985417509222108996297698117935595257856, [], [(20, [0, 1], [60, 1, 3, 747, 0, 14, 7, 8]), (20, [0], [60, 2, 2, 596, 0, 1, 7, 8]), (20, [1, 0], [50, 1, 0, 1001, 2, 6, 0, 2, 0, 0, 1, 0, 0, 6, 4, 2, 1, 0, 0, 1, 2, 1, 1]), (20, [0, 1], [60, 0, 3, 1086, 7, 8, 15])], [(20, [0, 1], [60, 1, 3, 748, 0, 14, 7, 8]), (20, [0], [60, 2, 2, 596, 0, 1, 7, 8]), (20, [0, 1], [60, 0, 3, 1087, 7, 8, 15])], []))
abbrev b_Gr_tie_at_Gr : ByteArray := prog_5_method_16_code
def y_Gr_tie_at_Gr : MethodName := ⟨"DrawingHouse$Graph", "tie", "(I)V"⟩
abbrev z_Gr_tie_at_Gr : List Cond := Cond.code y_Gr_tie_at_Gr b_Gr_tie_at_Gr 2 none :: lw_g
def e_Gr_tie_at_Gr : en_T := ([(2, 0, 0, [3]), (0, 0, 47, [])], none, false, 6, 0, 0, [], [], (1729382256910270464, [], [(20, [0, 1], [60, 1, 3, 747, 0, 14, 7, 8]), (20, [0], [60, 2, 2, 596, 0, 1, 7, 8]), (20, [1, 0], [50, 1, 0, 1001, 2, 6, 0, 2, 0, 0, 1, 0, 0, 6, 4, 2, 1, 0, 0, 1, 2, 1, 1])], [(20, [0, 1], [60, 1, 3, 748, 0, 14, 7, 8]), (20, [0], [60, 2, 2, 596, 0, 1, 7, 8])], []))
abbrev b_La_countCrossings : ByteArray := prog_6_method_27_code
def y_La_countCrossings : MethodName := ⟨"DrawingHouse$Layers", "countCrossings", "()I"⟩
abbrev z_La_countCrossings : List Cond := Cond.code y_La_countCrossings b_La_countCrossings 7 (some .int) :: lw_g
def e_La_countCrossings : en_T := ([(2, 0, 0, [4])], some (0, -2147483648, 2147483647, []), true, 6, 0, 0, [], [], (0, [], [], [], []))
abbrev b_La_countOrders_at_gk : ByteArray := prog_6_method_13_code
def y_La_countOrders_at_gk : MethodName := ⟨"DrawingHouse$Layers", "countOrders", "(I)I"⟩
abbrev z_La_countOrders_at_gk : List Cond := Cond.code y_La_countOrders_at_gk b_La_countOrders_at_gk 1 (some .int) :: lw_g
def e_La_countOrders_at_gk : en_T := ([(0, 1, 5, [])], some (0, 1, 120, []), true, 6, 0, 0, [([(0, 1, 5, []), (0, 1, 120, [])], [], [1], [], [], [])], [], (0, [], [], [(20, [0, 1], [61, 0, 684])], []))
abbrev b_La_countOrders_at_gs : ByteArray := prog_6_method_13_code
def y_La_countOrders_at_gs : MethodName := ⟨"DrawingHouse$Layers", "countOrders", "(I)I"⟩
abbrev z_La_countOrders_at_gs : List Cond := Cond.code y_La_countOrders_at_gs b_La_countOrders_at_gs 1 (some .int) :: lw_g
def e_La_countOrders_at_gs : en_T := ([(0, 1, 5, [])], some (0, 1, 120, []), true, 6, 0, 0, [([(0, 1, 5, []), (0, 1, 120, [])], [], [1], [], [], [])], [], (0, [], [], [(20, [0, 1], [61, 0, 684])], []))
abbrev b_La_countOrders_at_gx : ByteArray := prog_6_method_13_code
def y_La_countOrders_at_gx : MethodName := ⟨"DrawingHouse$Layers", "countOrders", "(I)I"⟩
abbrev z_La_countOrders_at_gx : List Cond := Cond.code y_La_countOrders_at_gx b_La_countOrders_at_gx 1 (some .int) :: lw_g
def e_La_countOrders_at_gx : en_T := ([(0, 0, 6, [])], some (0, 1, 720, []), true, 6, 0, 0, [([(0, 0, 6, []), (0, 1, 720, [])], [], [1], [], [], [])], [], (0, [], [], [(20, [0, 1], [61, 0, 684])], []))
abbrev b_La_firstOrder : ByteArray := prog_6_method_14_code
def y_La_firstOrder : MethodName := ⟨"DrawingHouse$Layers", "firstOrder", "(I)I"⟩
abbrev z_La_firstOrder : List Cond := Cond.code y_La_firstOrder b_La_firstOrder 1 (some .int) :: lw_g
def e_La_firstOrder : en_T := ([(0, 0, 6, [])], some (0, 0, 153, []), true, 6, 0, 0, [([(0, 0, 6, []), (0, 0, 153, [])], [], [1], [], [], [])], [], (0, [], [], [(20, [0, 1], [61, 0, 685])], []))
abbrev b_La_lowerEnd : ByteArray := prog_6_method_7_code
def y_La_lowerEnd : MethodName := ⟨"DrawingHouse$Layers", "lowerEnd", "(LDrawingHouse$Facts;I)I"⟩
abbrev z_La_lowerEnd : List Cond := Cond.code y_La_lowerEnd b_La_lowerEnd 3 (some .int) :: lw_g
def e_La_lowerEnd : en_T := ([(2, 0, 0, [4]), (2, 0, 0, [2]), (0, 0, 47, [])], some (0, 0, 23, []), true, 6, 0, 0, [([(2, 0, 0, [4]), (2, 0, 0, [2]), (0, 0, 47, []), (2, 0, 0, [3]), (0, 0, 23, [])], [], [4], [((0, 1), 3)], [], [])], [((0, 1), (2, 0, 0, [3]))], (0, [], [], [(20, [3, 1, 2, 4], [60, 0, 3, 650, 7, 8, 1009])], []))
abbrev b_La_pairCost : ByteArray := prog_6_method_19_code
def y_La_pairCost : MethodName := ⟨"DrawingHouse$Layers", "pairCost", "(II)I"⟩
abbrev z_La_pairCost : List Cond := Cond.code y_La_pairCost b_La_pairCost 7 (some .int) :: lw_g
def e_La_pairCost : en_T := ([(2, 0, 0, [4]), (0, 0, 262143, []), (0, 0, 6, [])], some (0, -2147483648, 2147483647, []), true, 6, 0, 0, [], [], (0, [], [(20, [1, 2], [61, 0, 687]), (20, [2], [50, 0, 0, 0, 2, 1, 0, 0, 6])], [], []))
abbrev b_La_setPlaces : ByteArray := prog_6_method_25_code
def y_La_setPlaces : MethodName := ⟨"DrawingHouse$Layers", "setPlaces", "(I)V"⟩
abbrev z_La_setPlaces : List Cond := Cond.code y_La_setPlaces b_La_setPlaces 3 none :: lw_g
def e_La_setPlaces : en_T := ([(2, 0, 0, [4]), (0, 0, 23, [])], none, false, 6, 0, 0, [], [], (4722366482869645213696, [], [], [], []))
abbrev b_La_sizeOf : ByteArray := prog_6_method_12_code
def y_La_sizeOf : MethodName := ⟨"DrawingHouse$Layers", "sizeOf", "(I)I"⟩
abbrev z_La_sizeOf : List Cond := Cond.code y_La_sizeOf b_La_sizeOf 2 (some .int) :: lw_g
def e_La_sizeOf : en_T := ([(2, 0, 0, [4]), (0, -1, 23, [])], some (0, 0, 6, []), true, 6, 0, 0, [([(2, 0, 0, [4]), (0, 0, 23, []), (0, 0, 6, [])], [], [2], [], [], [])], [], (0, [], [(20, [0], [60, 1, 1, 636, 2, 10]), (20, [1, 0], [50, 1, 0, 1002, 2, 6, 0, 2, 0, 0, 1, 0, 0, 6, 4, 2, 1, 0, 0, 1, 2, 1, 2])], [(20, [2, 0, 1], [50, 0, 1, 1010, 1, 2, 1, 0, 5, 9, 3, 1, 10, 4, 2, 1, 2, 0, 1, 3, 1, 10, 1, 2])], []))
abbrev b_La_swap : ByteArray := prog_6_method_4_code
def y_La_swap : MethodName := ⟨"DrawingHouse$Layers", "swap", "([III)V"⟩
abbrev z_La_swap : List Cond := Cond.code y_La_swap b_La_swap 4 none :: lw_g
def e_La_swap : en_T := ([(2, 0, 0, [298]), (0, 0, 5, []), (0, 0, 5, [])], none, false, 6, 0, 0, [], [], (509258994083621521567111422102344540262867098416484062659035112338595324940834176545849344, [], [(20, [0, 3], [61, 1, 735]), (20, [1, 3], [50, 0, 0, 2, 6, 0, 2, 0, 0, 1, 0, 0, 6, 4, 2, 1, 0, 0, 1, 1, 1]), (20, [2, 3], [50, 0, 0, 2, 6, 0, 2, 0, 0, 1, 0, 0, 6, 4, 2, 1, 0, 0, 1, 1, 1])], [(20, [0, 3], [61, 1, 735])], [(0, 1, 6, [])]))
abbrev b_La_upperEnd : ByteArray := prog_6_method_6_code
def y_La_upperEnd : MethodName := ⟨"DrawingHouse$Layers", "upperEnd", "(LDrawingHouse$Facts;I)I"⟩
abbrev z_La_upperEnd : List Cond := Cond.code y_La_upperEnd b_La_upperEnd 3 (some .int) :: lw_g
def e_La_upperEnd : en_T := ([(2, 0, 0, [4]), (2, 0, 0, [2]), (0, 0, 47, [])], some (0, 0, 23, []), true, 6, 0, 0, [([(2, 0, 0, [4]), (2, 0, 0, [2]), (0, 0, 47, []), (2, 0, 0, [3]), (0, 0, 23, [])], [], [4], [((0, 1), 3)], [], [])], [((0, 1), (2, 0, 0, [3]))], (0, [], [], [(20, [3, 1, 2, 4], [60, 0, 3, 649, 7, 8, 1009])], []))
abbrev b_Ne_edgeBetween : ByteArray := prog_7_method_6_code
def y_Ne_edgeBetween : MethodName := ⟨"DrawingHouse$Net", "edgeBetween", "(II)I"⟩
abbrev z_Ne_edgeBetween : List Cond := Cond.code y_Ne_edgeBetween b_Ne_edgeBetween 3 (some .int) :: lw_g
def e_Ne_edgeBetween : en_T := ([(2, 0, 0, [5, 149, 294]), (0, 0, 24, []), (0, 0, 24, [])], some (0, -1, 71, []), true, 6, 0, 0, [([(2, 0, 0, [5, 149, 294]), (0, 0, 24, []), (0, 0, 24, []), (0, -1, 71, [])], [], [3], [], [], [])], [], (0, [], [], [], []))
abbrev b_Ne_endAt : ByteArray := prog_7_method_7_code
def y_Ne_endAt : MethodName := ⟨"DrawingHouse$Net", "endAt", "(II)I"⟩
abbrev z_Ne_endAt : List Cond := Cond.code y_Ne_endAt b_Ne_endAt 3 (some .int) :: lw_g
def e_Ne_endAt : en_T := ([(2, 0, 0, [5, 149, 294]), (0, 0, 71, []), (0, 0, 24, [])], some (0, 0, 143, []), true, 6, 0, 0, [([(2, 0, 0, [5, 149, 294]), (0, 0, 71, []), (0, 0, 24, []), (0, 1, 143, [])], [], [3], [], [], []), ([(2, 0, 0, [5, 149, 294]), (0, 0, 71, []), (0, 0, 24, []), (0, 0, 142, [])], [], [3], [], [], [(3, 2)])], [], (0, [], [], [], []))
abbrev b_Ne_forget : ByteArray := prog_7_method_2_code
def y_Ne_forget : MethodName := ⟨"DrawingHouse$Net", "forget", "()V"⟩
abbrev z_Ne_forget : List Cond := Cond.code y_Ne_forget b_Ne_forget 1 none :: lw_g
def e_Ne_forget : en_T := ([(2, 0, 0, [5])], none, false, 6, 0, 0, [], [], (0, [(5, 0), (5, 1), (5, 2), (5, 3)], [], [(20, [0], [50, 1, 0, 0, 1, 3, 2, 0, 0, 0, -1]), (20, [0], [50, 1, 0, 3, 1, 3, 2, 0, 3, 0, 0])], []))
abbrev b_Ne_join_at_Ne_gk : ByteArray := prog_7_method_5_code
def y_Ne_join_at_Ne_gk : MethodName := ⟨"DrawingHouse$Net", "join", "(II)I"⟩
abbrev z_Ne_join_at_Ne_gk : List Cond := Cond.code y_Ne_join_at_Ne_gk b_Ne_join_at_Ne_gk 4 (some .int) :: lw_g
def e_Ne_join_at_Ne_gk : en_T := ([(2, 0, 0, [5]), (0, 0, 23, []), (0, 0, 23, [])], some (0, -1, 71, []), false, 6, 0, 0, [], [], (18133887294219437620592640, [(5, 6)], [(20, [0], [60, 2, 3, 595, 5, 6, 7, 8, 9]), (20, [1, 0], [50, 1, 0, 1005, 2, 6, 0, 2, 0, 0, 1, 0, 0, 6, 4, 2, 1, 0, 0, 1, 2, 1, 5]), (20, [2, 0], [50, 1, 0, 1005, 2, 6, 0, 2, 0, 0, 1, 0, 0, 6, 4, 2, 1, 0, 0, 1, 2, 1, 5]), (20, [1, 2], [50, 0, 0, 7, 2, 1, 0, 1, 1]), (20, [0, 3], [50, 1, 0, 6, 1, 3, 2, 0, 6, 1, 1])], [(20, [0], [60, 2, 3, 595, 5, 6, 7, 8, 9]), (20, [3, 0], [50, 1, 0, 1006, 3, 6, 0, 2, 0, 72, 1, 0, 1, 3, 2, 1, 6, 4, 2, 1, 0, 0, 1])], [(0, 0, 72, [])]))
abbrev b_Ne_join_at_Np_gk : ByteArray := prog_7_method_5_code
def y_Ne_join_at_Np_gk : MethodName := ⟨"DrawingHouse$Net", "join", "(II)I"⟩
abbrev z_Ne_join_at_Np_gk : List Cond := Cond.code y_Ne_join_at_Np_gk b_Ne_join_at_Np_gk 4 (some .int) :: lw_g
def e_Ne_join_at_Np_gk : en_T := ([(2, 0, 0, [149]), (0, 0, 23, []), (0, 0, 24, [])], some (0, -1, 71, []), false, 6, 0, 0, [], [], (20906948623622459195189735880607838911856640, [(149, 6)], [(20, [0], [60, 2, 3, 595, 5, 6, 7, 8, 9]), (20, [1, 0], [50, 1, 0, 1005, 2, 6, 0, 2, 0, 0, 1, 0, 0, 6, 4, 2, 1, 0, 0, 1, 2, 1, 5]), (20, [2, 0], [50, 1, 0, 1005, 2, 6, 0, 2, 0, 0, 1, 0, 0, 6, 4, 2, 1, 0, 0, 1, 2, 1, 5]), (20, [1, 2], [50, 0, 0, 7, 2, 1, 0, 1, 1]), (20, [0, 3], [50, 1, 0, 6, 1, 3, 2, 0, 6, 1, 1])], [(20, [0], [60, 2, 3, 595, 5, 6, 7, 8, 9]), (20, [3, 0], [50, 1, 0, 1006, 3, 6, 0, 2, 0, 72, 1, 0, 1, 3, 2, 1, 6, 4, 2, 1, 0, 0, 1])], [(0, 0, 72, [])]))
abbrev b_Ne_join_at_Nq_gx : ByteArray := prog_7_method_5_code
def y_Ne_join_at_Nq_gx : MethodName := ⟨"DrawingHouse$Net", "join", "(II)I"⟩
abbrev z_Ne_join_at_Nq_gx : List Cond := Cond.code y_Ne_join_at_Nq_gx b_Ne_join_at_Nq_gx 4 (some .int) :: lw_g
def e_Ne_join_at_Nq_gx : en_T := ([(2, 0, 0, [294]), (0, 0, 23, []), (0, 0, 23, [])], some (0, -1, 71, []), false, 6, 0, 0, [], [], (932481068268349954041341715275289075188355282745026970200869956674674056898500079124480, [(294, 6)], [], [], []))
abbrev b_Ne_nodeOfFace : ByteArray := prog_7_method_13_code
def y_Ne_nodeOfFace : MethodName := ⟨"DrawingHouse$Net", "nodeOfFace", "(II)I"⟩
abbrev z_Ne_nodeOfFace : List Cond := Cond.code y_Ne_nodeOfFace b_Ne_nodeOfFace 3 (some .int) :: lw_g
def e_Ne_nodeOfFace : en_T := ([(2, 0, 0, [5]), (0, 0, 2147483647, []), (0, 0, 2147483647, [])], some (0, -1, 23, []), true, 6, 0, 0, [([(2, 0, 0, [5]), (0, 0, 2147483647, []), (0, 0, 2147483647, []), (0, -1, -1, [])], [], [3], [], [], []), ([(2, 0, 0, [5]), (0, 0, 143, []), (0, 0, 143, []), (0, 0, 23, [])], [], [3], [], [], []), ([(2, 0, 0, [5]), (0, 0, 143, []), (0, 0, 2147483647, []), (0, -1, -1, [])], [], [3], [], [], [])], [], (0, [], [], [], []))
abbrev b_Pl_edgeOfLevel : ByteArray := prog_8_method_8_code
def y_Pl_edgeOfLevel : MethodName := ⟨"DrawingHouse$PlainWays", "edgeOfLevel", "(IIZ)I"⟩
abbrev z_Pl_edgeOfLevel : List Cond := Cond.code y_Pl_edgeOfLevel b_Pl_edgeOfLevel 7 (some .int) :: lw_g
def e_Pl_edgeOfLevel : en_T := ([(2, 0, 0, [6]), (0, 0, 16777215, []), (0, 0, 23, []), (0, 0, 1, [])], some (0, -2147483648, 690000000, []), true, 6, 0, 0, [], [((0, 0), (2, 0, 0, [3])), ((0, 1), (2, 0, 0, [0]))], (0, [], [], [(20, [0, 4, 5, 1, 2, 6], [60, 1, 2, 868, 1000, 4, 2002])], []))
abbrev b_Pl_insertItem : ByteArray := prog_8_method_12_code
def y_Pl_insertItem : MethodName := ⟨"DrawingHouse$PlainWays", "insertItem", "(II)V"⟩
abbrev z_Pl_insertItem : List Cond := Cond.code y_Pl_insertItem b_Pl_insertItem 4 none :: lw_g
def e_Pl_insertItem : en_T := ([(2, 0, 0, [6]), (0, 0, 31, []), (0, 0, 2376, [])], none, false, 6, 0, 0, [], [], (118842243771396506390315925504, [(6, 11)], [(20, [0, 3], [30, 0, 1, 1, 11, -1, 0, 0])], [(20, [0, 3], [30, 1, 1, 1, 11, -1, 0, 0])], [(0, 0, 31, [])]))
abbrev b_Pl_leastOfPart : ByteArray := prog_8_method_4_code
def y_Pl_leastOfPart : MethodName := ⟨"DrawingHouse$PlainWays", "leastOfPart", "(LDrawingHouse$Facts;I)I"⟩
abbrev z_Pl_leastOfPart : List Cond := Cond.code y_Pl_leastOfPart b_Pl_leastOfPart 4 (some .int) :: lw_g
def e_Pl_leastOfPart : en_T := ([(2, 0, 0, [6]), (2, 0, 0, [2]), (0, 0, 23, [])], some (0, 0, 23, []), true, 6, 0, 0, [], [((0, 0), (2, 0, 0, [3]))], (0, [], [(20, [3, 1, 2], [60, 1, 1, 681, 0, 1004])], [(20, [1, 4, 2], [60, 0, 1, 680, 4]), (20, [4, 3], [50, 1, 0, 1000, 2, 6, 0, 2, 0, 0, 1, 0, 0, 6, 4, 2, 1, 0, 0, 1, 2, 1, 0])], []))
abbrev b_Pl_root : ByteArray := prog_8_method_24_code
def y_Pl_root : MethodName := ⟨"DrawingHouse$PlainWays", "root", "(J)J"⟩
abbrev z_Pl_root : List Cond := Cond.code y_Pl_root b_Pl_root 7 (some .long) :: lw_g
def e_Pl_root : en_T := ([(1, 1, 28800000000, [])], some (1, -9223372036854775808, 9223372036854775807, []), true, 6, 0, 0, [], [], (0, [], [], [], []))
abbrev b_Pl_setArea : ByteArray := prog_8_method_10_code
def y_Pl_setArea : MethodName := ⟨"DrawingHouse$PlainWays", "setArea", "(IIIII)V"⟩
abbrev z_Pl_setArea : List Cond := Cond.code y_Pl_setArea b_Pl_setArea 6 none :: lw_g
def e_Pl_setArea : en_T := ([(2, 0, 0, [6]), (0, 0, 31, []), (0, 0, 512, []), (0, 0, 512, []), (0, -512, 512, []), (0, -512, 512, [])], none, false, 6, 0, 0, [([(2, 0, 0, [6]), (0, 0, 31, []), (0, 0, 512, []), (0, 0, 512, []), (0, -512, 512, []), (0, -512, 512, []), (2, 0, 0, [0])], [], [], [((0, 1), 6)], [], [])], [((0, 1), (2, 0, 0, [0]))], (4194304, [], [(20, [2, 4], [61, 0, 791]), (20, [3, 5], [61, 0, 791]), (20, [6], [60, 0, 1, 844, 13])], [(20, [6], [60, 0, 1, 844, 13])], []))
abbrev b_Pl_walkTree : ByteArray := prog_8_method_5_code
def y_Pl_walkTree : MethodName := ⟨"DrawingHouse$PlainWays", "walkTree", "(II)I"⟩
abbrev z_Pl_walkTree : List Cond := Cond.code y_Pl_walkTree b_Pl_walkTree 8 (some .int) :: lw_g
def e_Pl_walkTree : en_T := ([(2, 0, 0, [6]), (0, 0, 23, []), (0, 0, 23, [])], some (0, 1, 24, []), false, 6, 0, 0, [], [((0, 0), (2, 0, 0, [3]))], (8046610255354971786844307456, [], [(20, [0, 4, 2, 5], [60, 0, 2, 678, 2, 1004]), (20, [4, 1, 5], [60, 0, 1, 680, 4]), (20, [3, 4], [60, 1, 2, 671, 0, 14, 1004]), (20, [1, 3], [50, 1, 0, 1000, 2, 6, 0, 2, 0, 0, 1, 0, 0, 6, 4, 2, 1, 0, 0, 1, 2, 1, 0]), (20, [0, 3, 4, 2, 5], [60, 1, 4, 855, 1000, 2, 5, 4, 2004])], [(20, [0, 4, 6, 5], [60, 0, 2, 679, 2, 1004]), (20, [0, 3, 4, 6, 5], [60, 1, 4, 856, 1000, 2, 5, 4, 2004])], [(2, 0, 0, [2]), (0, 0, 24, [])]))
abbrev b_Pn_firstLongFace : ByteArray := prog_9_method_6_code
def y_Pn_firstLongFace : MethodName := ⟨"DrawingHouse$PlanarWays", "firstLongFace", "()I"⟩
abbrev z_Pn_firstLongFace : List Cond := Cond.code y_Pn_firstLongFace b_Pn_firstLongFace 2 (some .int) :: lw_g
def e_Pn_firstLongFace : en_T := ([(2, 0, 0, [7])], some (0, -1, 143, []), true, 6, 0, 0, [], [], (0, [], [], [], []))
abbrev b_Pn_leftFace : ByteArray := prog_9_method_19_code
def y_Pn_leftFace : MethodName := ⟨"DrawingHouse$PlanarWays", "leftFace", "(LDrawingHouse$Net;[II)I"⟩
abbrev z_Pn_leftFace : List Cond := Cond.code y_Pn_leftFace b_Pn_leftFace 4 (some .int) :: lw_g
def e_Pn_leftFace : en_T := ([(2, 0, 0, [5]), (2, 0, 0, [21]), (0, 1, 47, [])], some (0, -1, 143, []), true, 6, 0, 0, [([(2, 0, 0, [5]), (2, 0, 0, [21]), (0, 1, 47, []), (0, -1, 143, [])], [], [3], [], [], [])], [], (0, [], [], [(20, [0, 2, 3], [60, 0, 1, 640, 16])], []))
abbrev b_Pn_rightFace : ByteArray := prog_9_method_20_code
def y_Pn_rightFace : MethodName := ⟨"DrawingHouse$PlanarWays", "rightFace", "(LDrawingHouse$Net;[II)I"⟩
abbrev z_Pn_rightFace : List Cond := Cond.code y_Pn_rightFace b_Pn_rightFace 4 (some .int) :: lw_g
def e_Pn_rightFace : en_T := ([(2, 0, 0, [5]), (2, 0, 0, [21]), (0, 0, 47, [])], some (0, -1, 143, []), true, 6, 0, 0, [([(2, 0, 0, [5]), (2, 0, 0, [21]), (0, 0, 47, []), (0, -1, 143, [])], [], [3], [], [], [])], [], (0, [], [], [(20, [0, 2, 3], [60, 0, 1, 640, 16])], []))
abbrev b_Pn_shiftUnder : ByteArray := prog_9_method_14_code
def y_Pn_shiftUnder : MethodName := ⟨"DrawingHouse$PlanarWays", "shiftUnder", "(LDrawingHouse$Drawing;II)V"⟩
abbrev z_Pn_shiftUnder : List Cond := Cond.code y_Pn_shiftUnder b_Pn_shiftUnder 5 none :: lw_g
def e_Pn_shiftUnder : en_T := ([(2, 0, 0, [7]), (2, 0, 0, [0]), (0, 0, 23, []), (0, 1, 2, [])], none, false, 6, 0, 0, [], [], (16384, [], [(20, [0, 1, 4, 5, 6], [60, 0, 4, 885, 1, 4, 1002, 1003]), (20, [3], [50, 0, 0, 2, 6, 0, 2, 0, 1, 1, 0, 0, 2, 1, 0, 0, 2]), (20, [0, 2, 4], [60, 0, 1, 891, 1])], [(20, [0, 1, 4, 5, 6], [60, 0, 4, 886, 1, 4, 1002, 1003])], [(0, 3, 23, []), (0, 1, 23, []), (0, 0, 23, [])]))
abbrev b_Re_append_at_g1 : ByteArray := prog_10_method_2_code
def y_Re_append_at_g1 : MethodName := ⟨"DrawingHouse$Reader", "append", "(I)V"⟩
abbrev z_Re_append_at_g1 : List Cond := Cond.code y_Re_append_at_g1 b_Re_append_at_g1 3 none :: lw_g
def e_Re_append_at_g1 : en_T := ([(2, 0, 0, [8]), (0, -2147483648, 2147483647, [])], none, false, 6, 0, 0, [], [], (649037107316853453566312041152512, [(8, 1)], [(20, [0, 2], [30, 0, 1, 1, 1, -1, 0, 0]), (20, [0, 2], [30, 0, -1, 1, 1, 1, 0, 0]), (20, [0, 3], [60, 1, 2, 1101, 1, 0, 1001])], [(20, [0, 2], [30, 4, 1, 1, 1, -1, 0, 0]), (20, [0, 2], [30, -4, -1, 1, 1, 1, 0, 0]), (20, [0, 3, 1], [60, 1, 2, 1102, 1, 0, 1001])], [(0, 0, 1996, []), (2, 0, 0, [165])]))
abbrev b_Re_append_at_g2 : ByteArray := prog_10_method_2_code
def y_Re_append_at_g2 : MethodName := ⟨"DrawingHouse$Reader", "append", "(I)V"⟩
abbrev z_Re_append_at_g2 : List Cond := Cond.code y_Re_append_at_g2 b_Re_append_at_g2 3 none :: lw_g
def e_Re_append_at_g2 : en_T := ([(2, 0, 0, [8]), (0, -2147483648, 2147483647, [])], none, false, 6, 0, 0, [], [], (649037107316853453566312041152512, [(8, 1)], [(20, [0, 2], [30, 0, 1, 1, 1, -1, 0, 0]), (20, [0, 2], [30, 0, -1, 1, 1, 1, 0, 0]), (20, [0, 3, 4], [60, 1, 2, 1102, 1, 0, 1001])], [(20, [0, 2], [30, 4, 1, 1, 1, -1, 0, 0]), (20, [0, 2], [30, -4, -1, 1, 1, 1, 0, 0]), (20, [0, 3, 4, 1], [60, 1, 2, 1103, 1, 0, 1001])], [(0, 0, 1996, []), (2, 0, 0, [165]), (0, -2147483648, 2147483647, [])]))
abbrev b_Re_append_at_g3 : ByteArray := prog_10_method_2_code
def y_Re_append_at_g3 : MethodName := ⟨"DrawingHouse$Reader", "append", "(I)V"⟩
abbrev z_Re_append_at_g3 : List Cond := Cond.code y_Re_append_at_g3 b_Re_append_at_g3 3 none :: lw_g
def e_Re_append_at_g3 : en_T := ([(2, 0, 0, [8]), (0, -2147483648, 2147483647, [])], none, false, 6, 0, 0, [], [], (649037107316853453566312041152512, [(8, 1)], [(20, [0, 2], [30, 0, 1, 1, 1, -1, 0, 0]), (20, [0, 2], [30, 0, -1, 1, 1, 1, 0, 0]), (20, [0, 3, 4, 5], [60, 1, 2, 1103, 1, 0, 1001])], [(20, [0, 2], [30, 4, 1, 1, 1, -1, 0, 0]), (20, [0, 2], [30, -4, -1, 1, 1, 1, 0, 0]), (20, [0, 3, 4, 5, 1], [60, 1, 2, 1104, 1, 0, 1001])], [(0, 0, 1996, []), (2, 0, 0, [165]), (0, -2147483648, 2147483647, []), (0, -2147483648, 2147483647, [])]))
abbrev b_Re_append_at_g4 : ByteArray := prog_10_method_2_code
def y_Re_append_at_g4 : MethodName := ⟨"DrawingHouse$Reader", "append", "(I)V"⟩
abbrev z_Re_append_at_g4 : List Cond := Cond.code y_Re_append_at_g4 b_Re_append_at_g4 3 none :: lw_g
def e_Re_append_at_g4 : en_T := ([(2, 0, 0, [8]), (0, -2147483648, 2147483647, [])], none, false, 6, 0, 0, [], [], (649037107316853453566312041152512, [(8, 1)], [(20, [0, 2], [30, 0, 1, 1, 1, -1, 0, 0]), (20, [0, 2], [30, 0, -1, 1, 1, 1, 0, 0]), (20, [0, 3, 4, 5, 6], [60, 1, 2, 1104, 1, 0, 1001])], [(20, [0, 2], [30, 4, 1, 1, 1, -1, 0, 0]), (20, [0, 2], [30, -4, -1, 1, 1, 1, 0, 0]), (20, [0, 3, 4, 5, 6, 1], [60, 1, 2, 1105, 1, 0, 1001])], [(0, 0, 1996, []), (2, 0, 0, [165]), (0, -2147483648, 2147483647, []), (0, -2147483648, 2147483647, []), (0, -2147483648, 2147483647, [])]))
abbrev b_Re_append_at_g5 : ByteArray := prog_10_method_2_code
def y_Re_append_at_g5 : MethodName := ⟨"DrawingHouse$Reader", "append", "(I)V"⟩
abbrev z_Re_append_at_g5 : List Cond := Cond.code y_Re_append_at_g5 b_Re_append_at_g5 3 none :: lw_g
def e_Re_append_at_g5 : en_T := ([(2, 0, 0, [8]), (0, -2147483648, 2147483647, [])], none, false, 6, 0, 0, [], [], (649037107316853453566312041152512, [(8, 1)], [(20, [0, 2], [30, 0, 1, 1, 1, -1, 0, 0]), (20, [0, 2], [30, 0, -1, 1, 1, 1, 0, 0]), (20, [0, 3, 4, 5, 6, 7], [60, 1, 2, 1105, 1, 0, 1001])], [(20, [0, 2], [30, 4, 1, 1, 1, -1, 0, 0]), (20, [0, 2], [30, -4, -1, 1, 1, 1, 0, 0]), (20, [0, 3, 4, 5, 6, 7, 1], [60, 1, 2, 1106, 1, 0, 1001])], [(0, 0, 1996, []), (2, 0, 0, [165]), (0, -2147483648, 2147483647, []), (0, -2147483648, 2147483647, []), (0, -2147483648, 2147483647, []), (0, -2147483648, 2147483647, [])]))
abbrev b_Re_fail : ByteArray := prog_10_method_4_code
def y_Re_fail : MethodName := ⟨"DrawingHouse$Reader", "fail", "(I)Z"⟩
abbrev z_Re_fail : List Cond := Cond.code y_Re_fail b_Re_fail 2 (some .boolean) :: lw_g
def e_Re_fail : en_T := ([(2, 0, 0, [8]), (0, 1, 5, [])], some (0, 0, 0, []), false, 6, 0, 0, [], [], (0, [(8, 2), (8, 3)], [], [(20, [2, 0, 1], [50, 3, 0, 1002, 1003, 1008, 2, 6, 1, 2, 1, 0, 0, 0, 2, 7, 1, 3, 2, 1, 2, 1, 2, 1, 3, 2, 1, 3, 2, 1, 8])], []))
abbrev b_Re_isDigit : ByteArray := prog_10_method_6_code
def y_Re_isDigit : MethodName := ⟨"DrawingHouse$Reader", "isDigit", "(I)Z"⟩
abbrev z_Re_isDigit : List Cond := Cond.code y_Re_isDigit b_Re_isDigit 1 (some .boolean) :: lw_g
def e_Re_isDigit : en_T := ([(0, -128, 127, [])], some (0, 0, 1, []), true, 6, 0, 0, [([(0, -128, 47, []), (0, 0, 0, [])], [], [1], [], [], []), ([(0, 58, 127, []), (0, 0, 0, [])], [], [1], [], [], []), ([(0, 48, 57, []), (0, 1, 1, [])], [], [1], [], [], [])], [], (0, [], [], [(20, [0, 1], [61, 0, 1098])], []))
abbrev b_Re_isLetter : ByteArray := prog_10_method_5_code
def y_Re_isLetter : MethodName := ⟨"DrawingHouse$Reader", "isLetter", "(I)Z"⟩
abbrev z_Re_isLetter : List Cond := Cond.code y_Re_isLetter b_Re_isLetter 1 (some .boolean) :: lw_g
def e_Re_isLetter : en_T := ([(0, -128, 127, [])], some (0, 0, 1, []), true, 6, 0, 0, [([(0, -128, 64, []), (0, 0, 0, [])], [], [1], [], [], []), ([(0, 91, 96, []), (0, 0, 0, [])], [], [1], [], [], []), ([(0, 65, 90, []), (0, 1, 1, [])], [], [1], [], [], []), ([(0, 97, 122, []), (0, 1, 1, [])], [], [1], [], [], []), ([(0, 123, 127, []), (0, 0, 0, [])], [], [1], [], [], [])], [], (0, [], [], [(20, [0, 1], [61, 0, 1097])], []))
abbrev b_Re_isSign : ByteArray := prog_10_method_7_code
def y_Re_isSign : MethodName := ⟨"DrawingHouse$Reader", "isSign", "(I)Z"⟩
abbrev z_Re_isSign : List Cond := Cond.code y_Re_isSign b_Re_isSign 1 (some .boolean) :: lw_g
def e_Re_isSign : en_T := ([(0, -128, 127, [])], some (0, 0, 1, []), true, 6, 0, 0, [], [], (0, [], [], [(20, [0, 1], [61, 0, 1100])], []))
abbrev b_Ro_enter : ByteArray := prog_11_method_7_code
def y_Ro_enter : MethodName := ⟨"DrawingHouse$Router", "enter", "(II)V"⟩
abbrev z_Ro_enter : List Cond := Cond.code y_Ro_enter b_Ro_enter 3 none :: lw_g
def e_Ro_enter : en_T := ([(2, 0, 0, [9]), (0, 0, 23999, []), (0, -2147483646, 1000000003, [])], none, false, 6, 0, 0, [], [], (77884452878022414427957444938301440, [(9, 14)], [(20, [0], [50, 1, 1, 14, 11, 5, 2, 0, 4, 0, 9, 4, 5, 3, 0, 11, 7, 0, 0, 1, 2, 0, 14]), (20, [0], [50, 3, 1, 14, 4, 5, 12, 5, 3, 2, 0, 14, 0, 9, 4, 5, 3, 0, 12, 7, 0, 0, 1, 6, 2, 0, 4, 6, 3, 2, 0, 4, 2, 0, 5]), (20, [0], [50, 1, 1, 14, 13, 5, 3, 2, 0, 14, 0, 9, 4, 5, 3, 0, 13, 7, 0, 0, 1, 2, 0, 14]), (20, [1, 0], [50, 2, 0, 1004, 1005, 0, 6, 4, 2, 1, 0, 0, 1, 6, 2, 0, 4, 6, 3, 2, 1, 4, 2, 1, 5]), (20, [0, 3], [30, 0, 1, 1, 14, -1, 0, 0]), (20, [0, 3], [30, 0, -1, 1, 14, 1, 0, 0])], [(20, [0], [50, 1, 1, 14, 11, 5, 2, 0, 4, 0, 9, 4, 5, 3, 0, 11, 7, 0, 0, 1, 2, 0, 14]), (20, [0], [50, 3, 1, 14, 4, 5, 12, 5, 3, 2, 0, 14, 0, 9, 4, 5, 3, 0, 12, 7, 0, 0, 1, 6, 2, 0, 4, 6, 3, 2, 0, 4, 2, 0, 5]), (20, [0], [50, 1, 1, 14, 13, 5, 3, 2, 0, 14, 0, 9, 4, 5, 3, 0, 13, 7, 0, 0, 1, 2, 0, 14]), (20, [3, 0], [30, 0, 1, 0, 0, -1, 1, 14])], [(0, 0, 48004, [])]))
abbrev b_Ro_next : ByteArray := prog_11_method_6_code
def y_Ro_next : MethodName := ⟨"DrawingHouse$Router", "next", "(II)I"⟩
abbrev z_Ro_next : List Cond := Cond.code y_Ro_next b_Ro_next 4 (some .int) :: lw_g
def e_Ro_next : en_T := ([(2, 0, 0, [9]), (0, 0, 5999, []), (0, 0, 3, [])], some (0, -1, 5999, []), true, 6, 0, 0, [], [], (0, [], [(20, [0], [50, 2, 0, 4, 5, 2, 7, 0, 2, 0, 1, 2, 0, 4, 2, 7, 0, 2, 0, 1, 2, 0, 5, 0, 8, 6, 3, 2, 0, 4, 2, 0, 5, 0, 6000]), (20, [1, 0], [50, 2, 0, 1004, 1005, 0, 6, 4, 2, 1, 0, 0, 1, 6, 3, 2, 1, 4, 2, 1, 5])], [(20, [3, 0], [50, 2, 0, 1004, 1005, 3, 6, 1, 2, 1, 0, 0, -1, 2, 6, 0, 2, 0, 0, 1, 0, 0, 6, 4, 2, 1, 0, 0, 1, 6, 3, 2, 1, 4, 2, 1, 5])], []))
abbrev b_Ro_pointOf : ByteArray := prog_11_method_4_code
def y_Ro_pointOf : MethodName := ⟨"DrawingHouse$Router", "pointOf", "(I)I"⟩
abbrev z_Ro_pointOf : List Cond := Cond.code y_Ro_pointOf b_Ro_pointOf 2 (some .int) :: lw_g
def e_Ro_pointOf : en_T := ([(2, 0, 0, [9]), (0, 0, 23, [])], some (0, 0, 5999, []), true, 6, 0, 0, [([(2, 0, 0, [9]), (0, 0, 23, []), (2, 0, 0, [3]), (2, 0, 0, [0]), (0, 0, 5999, [])], [], [4], [((0, 0), 2), ((0, 1), 3)], [], [])], [((0, 0), (2, 0, 0, [3])), ((0, 1), (2, 0, 0, [0]))], (0, [], [(20, [0, 2, 3], [60, 5, 3, 839, 2, 3, 4, 5, 1000, 1004, 2002, 2003]), (20, [1, 2], [50, 1, 0, 1000, 2, 6, 0, 2, 0, 0, 1, 0, 0, 6, 4, 2, 1, 0, 0, 1, 2, 1, 0])], [(20, [0, 3, 1, 4], [60, 3, 2, 842, 2, 3, 4, 1002, 1003]), (20, [4, 0], [50, 2, 0, 1004, 1005, 2, 6, 0, 2, 0, 0, 1, 0, 0, 6, 4, 2, 1, 0, 0, 1, 6, 3, 2, 1, 4, 2, 1, 5])], []))
abbrev b_St_addArc_at_gl : ByteArray := prog_12_method_5_code
def y_St_addArc_at_gl : MethodName := ⟨"DrawingHouse$Stretch", "addArc", "(IIII)V"⟩
abbrev z_St_addArc_at_gl : List Cond := Cond.code y_St_addArc_at_gl b_St_addArc_at_gl 5 none :: lw_g
def e_St_addArc_at_gl : en_T := ([(2, 0, 0, [10]), (0, 0, 23, []), (0, 0, 23, []), (0, 0, 1000000000, []), (0, -1, 1, [])], none, false, 6, 0, 0, [], [], (4984604984193434523389276476051292160, [(10, 1)], [(20, [0, 5, 6, 7], [60, 1, 8, 651, 1, 2, 3, 4, 5, 1007, 1008, 1009, 2009]), (20, [5, 6, 7, 1, 2, 3, 4], [60, 0, 4, 655, 7, 8, 9, 1009]), (20, [7], [50, 0, 0, 0, 2, 1, 0, 0, 191])], [(20, [0, 5, 6, 7], [60, 1, 8, 652, 1, 2, 3, 4, 5, 1007, 1008, 1009, 2009])], [(2, 0, 0, [3]), (2, 0, 0, [2]), (0, 0, 384, [])]))
abbrev b_St_addArc_at_gx : ByteArray := prog_12_method_5_code
def y_St_addArc_at_gx : MethodName := ⟨"DrawingHouse$Stretch", "addArc", "(IIII)V"⟩
abbrev z_St_addArc_at_gx : List Cond := Cond.code y_St_addArc_at_gx b_St_addArc_at_gx 5 none :: lw_g
def e_St_addArc_at_gx : en_T := ([(2, 0, 0, [10]), (0, 0, 71, []), (0, 0, 71, []), (0, 0, 1000000000, []), (0, -20, 20, [])], none, false, 6, 0, 0, [], [], (4984604984193434523389276476051292160, [(10, 1)], [], [], []))
abbrev b_St_begin : ByteArray := prog_12_method_2_code
def y_St_begin : MethodName := ⟨"DrawingHouse$Stretch", "begin", "(I)V"⟩
abbrev z_St_begin : List Cond := Cond.code y_St_begin b_St_begin 2 none :: lw_g
def e_St_begin : en_T := ([(2, 0, 0, [10]), (0, 0, 72, [])], none, false, 6, 0, 0, [], [], (0, [(10, 0), (10, 1)], [], [(20, [0, 1], [50, 2, 0, 1, 0, 2, 7, 1, 3, 2, 0, 1, 0, 0, 1, 3, 2, 0, 0, 1, 1])], []))
abbrev b_St_raise_at_gl : ByteArray := prog_12_method_8_code
def y_St_raise_at_gl : MethodName := ⟨"DrawingHouse$Stretch", "raise", "()Z"⟩
abbrev z_St_raise_at_gl : List Cond := Cond.code y_St_raise_at_gl b_St_raise_at_gl 3 (some .boolean) :: lw_g
def e_St_raise_at_gl : en_T := ([(2, 0, 0, [10])], some (0, 0, 1, []), false, 6, 0, 0, [], [], (15950735949418990474845684723364134912, [], [(20, [0, 1], [60, 2, 6, 516, 0, 1, 2, 3, 4, 5, 6, 7]), (20, [0, 2, 1], [60, 1, 1, 520, 0, 6])], [(20, [0, 1, 3], [60, 2, 6, 518, 0, 1, 2, 3, 4, 5, 6, 7]), (20, [0, 2, 1], [60, 1, 1, 521, 0, 6])], [(0, 0, 288, []), (0, 0, 9999, [])]))
abbrev b_St_raise_at_gl2 : ByteArray := prog_12_method_8_code
def y_St_raise_at_gl2 : MethodName := ⟨"DrawingHouse$Stretch", "raise", "()Z"⟩
abbrev z_St_raise_at_gl2 : List Cond := Cond.code y_St_raise_at_gl2 b_St_raise_at_gl2 3 (some .boolean) :: lw_g
def e_St_raise_at_gl2 : en_T := ([(2, 0, 0, [10])], some (0, 0, 1, []), false, 6, 0, 0, [], [], (15950735949418990474845684723364134912, [], [(20, [0, 1], [60, 2, 5, 526, 0, 1, 2, 3, 4, 5, 6])], [(20, [0, 1, 2], [60, 2, 5, 528, 0, 1, 2, 3, 4, 5, 6])], [(0, 0, 73, [])]))
abbrev b_St_raise_at_gr : ByteArray := prog_12_method_8_code
def y_St_raise_at_gr : MethodName := ⟨"DrawingHouse$Stretch", "raise", "()Z"⟩
abbrev z_St_raise_at_gr : List Cond := Cond.code y_St_raise_at_gr b_St_raise_at_gr 3 (some .boolean) :: lw_g
def e_St_raise_at_gr : en_T := ([(2, 0, 0, [10])], some (0, 0, 1, []), false, 6, 0, 0, [], [], (15950735949418990474845684723364134912, [], [], [], []))
abbrev b_St_raise_at_gr2 : ByteArray := prog_12_method_8_code
def y_St_raise_at_gr2 : MethodName := ⟨"DrawingHouse$Stretch", "raise", "()Z"⟩
abbrev z_St_raise_at_gr2 : List Cond := Cond.code y_St_raise_at_gr2 b_St_raise_at_gr2 3 (some .boolean) :: lw_g
def e_St_raise_at_gr2 : en_T := ([(2, 0, 0, [10])], some (0, 0, 1, []), false, 6, 0, 0, [], [], (15950735949418990474845684723364134912, [], [(20, [0, 1], [60, 0, 1, 539, 6])], [(20, [0, 1], [60, 0, 1, 540, 6])], [(0, 0, 73, [])]))
abbrev b_Sy_emit : ByteArray := prog_13_method_8_code
def y_Sy_emit : MethodName := ⟨"DrawingHouse$Styler", "emit", "(II)V"⟩
abbrev z_Sy_emit : List Cond := Cond.code y_Sy_emit b_Sy_emit 3 none :: lw_g
def e_Sy_emit : en_T := ([(2, 0, 0, [11]), (0, 0, 13, []), (0, 0, 1000000, [])], none, false, 6, 0, 0, [], [], (85070591730234615865843651857942052864, [(11, 11)], [(20, [1, 2], [50, 0, 0, 2, 6, 0, 2, 0, 0, 1, 0, 2, 6, 0, 2, 0, 0, 1, 1, 0, 10, 4, 6, 6, 2, 1, 0, 0, 65536, 1, 1, 0, 851970])], [], []))
abbrev b_Sy_fail : ByteArray := prog_13_method_3_code
def y_Sy_fail : MethodName := ⟨"DrawingHouse$Styler", "fail", "(I)Z"⟩
abbrev z_Sy_fail : List Cond := Cond.code y_Sy_fail b_Sy_fail 2 (some .boolean) :: lw_g
def e_Sy_fail : en_T := ([(2, 0, 0, [11]), (0, 1, 2, [])], some (0, 0, 0, []), false, 6, 0, 0, [], [], (0, [(11, 1), (11, 2)], [], [], []))
abbrev b_Sy_isSmall : ByteArray := prog_13_method_4_code
def y_Sy_isSmall : MethodName := ⟨"DrawingHouse$Styler", "isSmall", "(I)Z"⟩
abbrev z_Sy_isSmall : List Cond := Cond.code y_Sy_isSmall b_Sy_isSmall 1 (some .boolean) :: lw_g
def e_Sy_isSmall : en_T := ([(0, -128, 127, [])], some (0, 0, 1, []), true, 6, 0, 0, [([(0, -128, 96, []), (0, 0, 0, [])], [], [1], [], [], []), ([(0, 123, 127, []), (0, 0, 0, [])], [], [1], [], [], []), ([(0, 97, 122, []), (0, 1, 1, [])], [], [1], [], [], [])], [], (0, [], [], [], []))
abbrev b_Sy_pop : ByteArray := prog_13_method_23_code
def y_Sy_pop : MethodName := ⟨"DrawingHouse$Styler", "pop", "()J"⟩
abbrev z_Sy_pop : List Cond := Cond.code y_Sy_pop b_Sy_pop 1 (some .long) :: lw_g
def e_Sy_pop : en_T := ([(2, 0, 0, [11])], some (1, -9223372036854775808, 9223372036854775807, []), false, 6, 0, 0, [], [], (0, [(11, 15)], [], [], []))
abbrev b_Sy_push : ByteArray := prog_13_method_22_code
def y_Sy_push : MethodName := ⟨"DrawingHouse$Styler", "push", "(J)V"⟩
abbrev z_Sy_push : List Cond := Cond.code y_Sy_push b_Sy_push 3 none :: lw_g
def e_Sy_push : en_T := ([(2, 0, 0, [11]), (1, -9223372036854775808, 9223372036854775807, [])], none, false, 6, 0, 0, [], [], (680564733841876926926749214863536422912, [(11, 15)], [], [], []))
abbrev b_Mo_across1 : ByteArray := prog_15_method_63_code
def y_Mo_across1 : MethodName := ⟨"DrawingHouseModel", "across", "(II)I"⟩
abbrev z_Mo_across1 : List Cond := Cond.code y_Mo_across1 b_Mo_across1 3 (some .int) :: lw_g
def e_Mo_across1 : en_T := ([(2, 0, 0, [165]), (0, 0, 79, []), (0, 0, 24, [])], some (0, 0, 24, []), true, 6, 0, 0, [([(2, 0, 0, [165]), (0, 0, 79, []), (0, 0, 24, []), (0, 0, 24, [])], [], [3], [], [], [])], [], (0, [], [], [(20, [0, 1, 2, 3], [60, 0, 2, 84, 33, 34])], []))
abbrev b_Mo_apart_at_ga : ByteArray := prog_15_method_112_code
def y_Mo_apart_at_ga : MethodName := ⟨"DrawingHouseModel", "apart", "(III)V"⟩
abbrev z_Mo_apart_at_ga : List Cond := Cond.code y_Mo_apart_at_ga b_Mo_apart_at_ga 4 none :: lw_g
def e_Mo_apart_at_ga : en_T := ([(2, 0, 0, [165]), (0, 0, 75, []), (0, 0, 75, []), (0, 2, 20, [])], none, false, 6, 0, 0, [], [], (188719626670054478562669105609137414715460010957784007367725271744512, [(165, 81)], [(20, [0, 4], [50, 1, 0, 81, 1, 3, 2, 0, 81, 1, 1]), (20, [0, 5, 6], [60, 2, 5, 469, 81, 101, 105, 106, 87, 88, 89]), (20, [0, 5, 6, 1, 2], [60, 1, 2, 466, 101, 105, 106]), (20, [3], [50, 0, 0, 2, 6, 0, 2, 0, 2, 1, 0, 0, 2, 1, 0, 0, 202])], [(20, [0, 4], [50, 1, 0, 81, 1, 3, 2, 0, 81, 4, 2, 1, 1, 0, 1]), (20, [0, 5, 6], [60, 2, 5, 467, 81, 101, 105, 106, 87, 88, 89])], [(0, 0, 199, []), (0, 0, 75, []), (0, 1, 75, [])]))
abbrev b_Mo_apart_at_gl : ByteArray := prog_15_method_112_code
def y_Mo_apart_at_gl : MethodName := ⟨"DrawingHouseModel", "apart", "(III)V"⟩
abbrev z_Mo_apart_at_gl : List Cond := Cond.code y_Mo_apart_at_gl b_Mo_apart_at_gl 4 none :: lw_g
def e_Mo_apart_at_gl : en_T := ([(2, 0, 0, [165]), (0, 0, 75, []), (0, 0, 75, []), (0, 1, 1, [])], none, false, 6, 0, 0, [], [], (188719626670054478562669105609137414715460010957784007367725271744512, [(165, 81)], [(20, [0, 4], [50, 1, 0, 81, 1, 3, 2, 0, 81, 1, 1]), (20, [0], [60, 3, 9, 434, 5, 80, 81, 2, 95, 83, 84, 85, 86, 87, 88, 89]), (20, [0, 4, 1], [60, 1, 2, 432, 5, 2, 95]), (20, [0, 4, 2], [60, 1, 2, 433, 5, 2, 95]), (20, [3], [50, 0, 0, 1, 2, 1, 0, 0, 1])], [(20, [0, 4], [50, 1, 0, 81, 1, 3, 2, 0, 81, 4, 2, 1, 1, 0, 1]), (20, [0], [60, 3, 9, 434, 5, 80, 81, 2, 95, 83, 84, 85, 86, 87, 88, 89])], [(0, 0, 199, [])]))
abbrev b_Mo_at1 : ByteArray := prog_15_method_64_code
def y_Mo_at1 : MethodName := ⟨"DrawingHouseModel", "at", "(II)Z"⟩
abbrev z_Mo_at1 : List Cond := Cond.code y_Mo_at1 b_Mo_at1 3 (some .boolean) :: lw_g
def e_Mo_at1 : en_T := ([(2, 0, 0, [165]), (0, 0, 79, []), (0, -1, 25, [])], some (0, 0, 1, []), true, 6, 0, 0, [([(2, 0, 0, [165]), (0, 0, 79, []), (0, -1, 25, []), (0, 0, 0, [])], [], [3], [], [], []), ([(2, 0, 0, [165]), (0, 0, 79, []), (0, 0, 24, []), (0, 1, 1, [])], [], [3], [], [], [])], [], (0, [], [], [(20, [0, 1, 2, 3], [60, 0, 3, 83, 33, 34, 35])], []))
abbrev b_Mo_behind : ByteArray := prog_15_method_86_code
def y_Mo_behind : MethodName := ⟨"DrawingHouseModel", "behind", "(II)I"⟩
abbrev z_Mo_behind : List Cond := Cond.code y_Mo_behind b_Mo_behind 6 (some .int) :: lw_g
def e_Mo_behind : en_T := ([(2, 0, 0, [165]), (0, 0, 24, []), (0, 0, 24, [])], some (0, -1, 24, []), true, 6, 0, 0, [], [], (0, [], [(20, [0], [60, 1, 1, 170, 39, 40]), (20, [0, 1, 2], [60, 1, 2, 172, 39, 40, 41])], [(20, [0, 1, 2, 3], [60, 1, 2, 171, 39, 40, 41])], []))
abbrev b_Mo_bits : ByteArray := prog_15_method_79_code
def y_Mo_bits : MethodName := ⟨"DrawingHouseModel", "bits", "()V"⟩
abbrev z_Mo_bits : List Cond := Cond.code y_Mo_bits b_Mo_bits 3 none :: lw_g
def e_Mo_bits : en_T := ([(2, 0, 0, [165])], none, false, 6, 0, 0, [], [], (37662610412320084583014736539245998496614132666784207077376, [], [(20, [0], [60, 1, 5, 106, 32, 33, 34, 43, 42, 44])], [(20, [0], [60, 1, 6, 109, 32, 33, 34, 43, 42, 44, 50]), (20, [0], [60, 1, 3, 113, 39, 40, 41, 51])], []))
abbrev b_Mo_bounded : ByteArray := prog_15_method_176_code
def y_Mo_bounded : MethodName := ⟨"DrawingHouseModel", "bounded", "(JJ)J"⟩
abbrev z_Mo_bounded : List Cond := Cond.code y_Mo_bounded b_Mo_bounded 4 (some .long) :: lw_g
def e_Mo_bounded : en_T := ([(1, -9223372036854775808, 9223372036854775807, []), (1, 0, 256, [])], some (1, -256, 256, []), true, 6, 0, 0, [([(1, -256, 256, []), (1, 0, 256, [])], [], [0], [], [], []), ([(1, -9223372036854775808, -1, []), (1, 0, 256, []), (1, -256, 0, [])], [], [2], [], [], []), ([(1, 1, 9223372036854775807, []), (1, 0, 256, [])], [], [1], [], [], [])], [], (0, [], [], [(20, [1, 2], [50, 0, 0, 2, 10, 0, 2, 0, 0, 4, 2, 1, 0, 1, 1, 0, 2, 1, 1, 1, 0])], []))
abbrev b_Mo_byteAt : ByteArray := prog_15_method_25_code
def y_Mo_byteAt : MethodName := ⟨"DrawingHouseModel", "byteAt", "(I)I"⟩
abbrev z_Mo_byteAt : List Cond := Cond.code y_Mo_byteAt b_Mo_byteAt 2 (some .int) :: lw_g
def e_Mo_byteAt : en_T := ([(2, 0, 0, [165]), (0, 0, 2147483647, [])], some (0, -1, 255, []), true, 6, 0, 0, [([(2, 0, 0, [165]), (0, 0, 2147483647, []), (0, -1, -1, [])], [], [2], [], [], []), ([(2, 0, 0, [165]), (0, 0, 1999, []), (0, 0, 255, [])], [], [2], [], [], [])], [], (0, [], [], [(20, [1, 0, 2], [50, 1, 1, 1010, 1001, 4, 11, 0, 6, 4, 2, 1, 0, 0, 1, 2, 1, 10, 1, 2, 1, 2, 9, 5, 3, 1, 1, 1, 0, 0, 256]), (20, [0, 1, 2], [50, 1, 0, 10, 4, 7, 0, 3, 2, 0, 10, 1, 1, 1, 2, 1, 2, 0, -1])], []))
abbrev b_Mo_changed : ByteArray := prog_15_method_42_code
def y_Mo_changed : MethodName := ⟨"DrawingHouseModel", "changed", "(I)V"⟩
abbrev z_Mo_changed : List Cond := Cond.code y_Mo_changed b_Mo_changed 3 none :: lw_g
def e_Mo_changed : en_T := ([(2, 0, 0, [165]), (0, 0, 3, [])], none, false, 6, 0, 0, [], [], (13167250334658166317790837384643486365066931331056204492459474944, [], [], [], []))
abbrev b_Mo_clear : ByteArray := prog_15_method_8_code
def y_Mo_clear : MethodName := ⟨"DrawingHouseModel", "clear", "(I)V"⟩
abbrev z_Mo_clear : List Cond := Cond.code y_Mo_clear b_Mo_clear 3 none :: lw_g
def e_Mo_clear : en_T := ([(2, 0, 0, [165]), (5, 0, 66297, [539])], none, false, 6, 0, 0, [], [], (187072209578355573530071658587684226515959365500928, [], [(20, [0, 1], [60, 0, 3, 235, 2, 3, 4])], [(20, [0, 1], [50, 0, 1, 2, 1, 9, 3, 0, 2, 4, 2, 1, 1, 0, 2, 0, 1]), (20, [0, 1], [60, 0, 3, 235, 2, 3, 4]), (20, [0, 1], [60, 0, 1, 1035, 2])], []))
abbrev b_Mo_closer : ByteArray := prog_15_method_74_code
def y_Mo_closer : MethodName := ⟨"DrawingHouseModel", "closer", "(IIIIZ)Z"⟩
abbrev z_Mo_closer : List Cond := Cond.code y_Mo_closer b_Mo_closer 6 (some .boolean) :: lw_g
def e_Mo_closer : en_T := ([(2, 0, 0, [165]), (0, 0, 24, []), (0, 0, 24, []), (0, 0, 24, []), (0, 0, 24, []), (0, 0, 1, [])], some (0, 0, 1, []), false, 6, 0, 0, [], [], (6277101735386680763835789423207666416102355444464034512896, [], [(20, [0, 3, 4, 5], [60, 3, 6, 124, 31, 32, 49, 33, 34, 43, 44, 42, 48]), (20, [0, 3, 4, 5, 6, 7, 8, 9], [60, 1, 6, 125, 49, 33, 34, 43, 44, 42, 48]), (20, [0, 7, 10], [60, 1, 1, 128, 31, 48]), (20, [0, 1, 2], [60, 2, 4, 121, 32, 49, 33, 34, 43, 44]), (20, [1, 0], [30, -1, 1, 0, 0, -1, 1, 31]), (20, [2, 0], [30, -1, 1, 0, 0, -1, 1, 31])], [(20, [0, 3, 4, 5], [60, 3, 6, 124, 31, 32, 49, 33, 34, 43, 44, 42, 48]), (20, [0, 1, 2, 3, 4, 5, 6, 7, 8, 9, 10, 11], [60, 2, 6, 129, 31, 49, 33, 34, 43, 44, 42, 48])], [(0, 0, 80, []), (0, 0, 1, []), (0, 0, 24, []), (0, 0, 24, []), (0, -2, 26000060, [])]))
abbrev b_Mo_cost_at_ga : ByteArray := prog_15_method_111_code
def y_Mo_cost_at_ga : MethodName := ⟨"DrawingHouseModel", "cost", "(IIIZ)V"⟩
abbrev z_Mo_cost_at_ga : List Cond := Cond.code y_Mo_cost_at_ga b_Mo_cost_at_ga 5 none :: lw_g
def e_Mo_cost_at_ga : en_T := ([(2, 0, 0, [165]), (0, 0, 75, []), (0, 0, 75, []), (0, 0, 72, []), (0, 0, 0, [])], none, false, 6, 0, 0, [], [], (25274950000453724807500326644080903756534822896131786701034634608640, [(165, 80)], [(20, [0, 5], [50, 1, 0, 80, 1, 3, 2, 0, 80, 1, 1]), (20, [0], [60, 2, 4, 456, 79, 80, 83, 84, 85, 86]), (20, [1, 0], [50, 1, 0, 1079, 2, 6, 0, 2, 0, 0, 1, 0, 0, 6, 4, 2, 1, 0, 0, 1, 2, 1, 79]), (20, [2, 0], [50, 1, 0, 1079, 2, 6, 0, 2, 0, 0, 1, 0, 0, 6, 4, 2, 1, 0, 0, 1, 2, 1, 79])], [(20, [0, 5], [50, 1, 0, 80, 1, 3, 2, 0, 80, 4, 2, 1, 1, 0, 1]), (20, [0], [60, 2, 4, 456, 79, 80, 83, 84, 85, 86])], [(0, 0, 199, [])]))
abbrev b_Mo_cost_at_gl : ByteArray := prog_15_method_111_code
def y_Mo_cost_at_gl : MethodName := ⟨"DrawingHouseModel", "cost", "(IIIZ)V"⟩
abbrev z_Mo_cost_at_gl : List Cond := Cond.code y_Mo_cost_at_gl b_Mo_cost_at_gl 5 none :: lw_g
def e_Mo_cost_at_gl : en_T := ([(2, 0, 0, [165]), (0, 0, 75, []), (0, 0, 75, []), (0, 0, 9, []), (0, 1, 1, [])], none, false, 6, 0, 0, [], [], (25274950000453724807500326644080903756534822896131786701034634608640, [(165, 80)], [(20, [0, 5], [50, 1, 0, 80, 1, 3, 2, 0, 80, 1, 1]), (20, [0], [60, 3, 9, 434, 5, 80, 81, 2, 95, 83, 84, 85, 86, 87, 88, 89]), (20, [0, 5, 1], [60, 1, 2, 432, 5, 2, 95]), (20, [0, 5, 2], [60, 1, 2, 433, 5, 2, 95])], [(20, [0, 5], [50, 1, 0, 80, 1, 3, 2, 0, 80, 4, 2, 1, 1, 0, 1]), (20, [0], [60, 3, 9, 434, 5, 80, 81, 2, 95, 83, 84, 85, 86, 87, 88, 89])], [(0, 0, 199, [])]))
abbrev b_Mo_degree : ByteArray := prog_15_method_58_code
def y_Mo_degree : MethodName := ⟨"DrawingHouseModel", "degree", "(II)I"⟩
abbrev z_Mo_degree : List Cond := Cond.code y_Mo_degree b_Mo_degree 5 (some .int) :: lw_g
def e_Mo_degree : en_T := ([(2, 0, 0, [165]), (5, 0, 66297, [539]), (0, 0, 23, [])], some (0, -2147483648, 2147483647, []), true, 6, 0, 0, [], [], (0, [], [], [], []))
abbrev b_Mo_dx : ByteArray := prog_15_method_190_code
def y_Mo_dx : MethodName := ⟨"DrawingHouseModel", "dx", "(I)I"⟩
abbrev z_Mo_dx : List Cond := Cond.code y_Mo_dx b_Mo_dx 1 (some .int) :: lw_g
def e_Mo_dx : en_T := ([(0, 0, 3, [])], some (0, -1, 1, []), true, 6, 0, 0, [([(0, 1, 3, []), (0, 0, 0, [])], [], [1], [], [], []), ([(0, 2, 2, []), (0, -1, -1, [])], [], [1], [], [], []), ([(0, 0, 0, []), (0, 1, 1, [])], [], [1], [], [], [])], [], (0, [], [], [(20, [0, 1], [50, 0, 0, 3, 14, 2, 6, 1, 2, 1, 0, 0, 0, 1, 2, 1, 1, 0, 1, 3, 14, 2, 6, 1, 2, 1, 0, 0, 2, 1, 2, 1, 1, 0, -1, 2, 6, 7, 2, 1, 0, 0, 0, 2, 6, 7, 2, 1, 0, 0, 2, 1, 2, 1, 1, 0, 0])], []))
abbrev b_Mo_dy : ByteArray := prog_15_method_191_code
def y_Mo_dy : MethodName := ⟨"DrawingHouseModel", "dy", "(I)I"⟩
abbrev z_Mo_dy : List Cond := Cond.code y_Mo_dy b_Mo_dy 1 (some .int) :: lw_g
def e_Mo_dy : en_T := ([(0, 0, 3, [])], some (0, -1, 1, []), true, 6, 0, 0, [([(0, 0, 2, []), (0, 0, 0, [])], [], [1], [], [], []), ([(0, 3, 3, []), (0, -1, -1, [])], [], [1], [], [], []), ([(0, 1, 1, []), (0, 1, 1, [])], [], [1], [], [], [])], [], (0, [], [], [(20, [0, 1], [50, 0, 0, 3, 14, 2, 6, 1, 2, 1, 0, 0, 1, 1, 2, 1, 1, 0, 1, 3, 14, 2, 6, 1, 2, 1, 0, 0, 3, 1, 2, 1, 1, 0, -1, 2, 6, 7, 2, 1, 0, 0, 1, 2, 6, 7, 2, 1, 0, 0, 3, 1, 2, 1, 1, 0, 0])], []))
abbrev b_Mo_edgeWay : ByteArray := prog_15_method_57_code
def y_Mo_edgeWay : MethodName := ⟨"DrawingHouseModel", "edgeWay", "(III)I"⟩
abbrev z_Mo_edgeWay : List Cond := Cond.code y_Mo_edgeWay b_Mo_edgeWay 8 (some .int) :: lw_g
def e_Mo_edgeWay : en_T := ([(2, 0, 0, [165]), (5, 0, 66297, [539]), (0, -1, 23, []), (0, 0, 23, [])], some (0, 0, 3, []), true, 6, 0, 0, [], [], (0, [], [], [], []))
abbrev b_Mo_edges : ByteArray := prog_15_method_12_code
def y_Mo_edges : MethodName := ⟨"DrawingHouseModel", "edges", "()I"⟩
abbrev z_Mo_edges : List Cond := Cond.code y_Mo_edges b_Mo_edges 1 (some .int) :: lw_g
def e_Mo_edges : en_T := ([(2, 0, 0, [165])], some (0, 0, 48, []), true, 6, 0, 0, [([(2, 0, 0, [165]), (0, 0, 48, [])], [], [1], [], [], [])], [], (0, [], [], [(20, [1, 0], [30, 0, 1, 0, 0, -1, 3, 2005001]), (20, [1, 0], [30, 0, -1, 0, 0, 1, 3, 2005001])], []))
abbrev b_Mo_feed : ByteArray := prog_15_method_6_code
def y_Mo_feed : MethodName := ⟨"DrawingHouseModel", "feed", "(IIIII)I"⟩
abbrev z_Mo_feed : List Cond := Cond.code y_Mo_feed b_Mo_feed 8 (some .int) :: lw_g
def e_Mo_feed : en_T := ([(2, 0, 0, [165]), (0, -2147483648, 2147483647, []), (0, -2147483648, 2147483647, []), (0, -2147483648, 2147483647, []), (0, -2147483648, 2147483647, []), (0, -2147483648, 2147483647, [])], some (0, -1, 2000, []), false, 6, 0, 0, [], [], (93536104789177786765035829293842113257979682750464, [(165, 0)], [(20, [0, 6, 7], [50, 1, 0, 0, 3, 32, 2, 11, 0, 7, 4, 3, 2, 0, 0, 0, 20, 0, 2000, 2, 11, 1, 2, 1, 1, 4, 3, 2, 0, 0, 0, 20, 1, 2, 1, 2, 1, 1, 2, 7, 0, 2, 0, 1981, 2, 0, 0, 2, 7, 1, 2, 1, 1, 2, 0, 0, 1, 2, 1, 2, 0, -1]), (20, [0, 8, 1, 2, 3, 4, 5, 6, 7], [60, 1, 2, 1107, 0, 1, 1000])], [(20, [0, 6], [50, 1, 0, 0, 1, 3, 2, 0, 0, 1, 1]), (20, [9, 7], [50, 0, 0, 1, 2, 1, 0, 1, 1]), (20, [0, 8, 6], [60, 0, 2, 1109, 1, 1000])], [(0, 0, 2000, []), (0, -1, 2000, []), (2, 0, 0, [8])]))
abbrev b_Mo_fitsFace : ByteArray := prog_15_method_78_code
def y_Mo_fitsFace : MethodName := ⟨"DrawingHouseModel", "fitsFace", "(II)Z"⟩
abbrev z_Mo_fitsFace : List Cond := Cond.code y_Mo_fitsFace b_Mo_fitsFace 3 (some .boolean) :: lw_g
def e_Mo_fitsFace : en_T := ([(2, 0, 0, [165]), (0, 0, 79, []), (0, 0, 119, [])], some (0, 0, 1, []), true, 6, 0, 0, [([(2, 0, 0, [165]), (0, 0, 79, []), (0, 0, 119, []), (0, 0, 0, [])], [], [3], [], [], []), ([(2, 0, 0, [165]), (0, 0, 79, []), (0, 0, 119, []), (0, 1, 1, [])], [], [3], [], [], [])], [], (0, [], [], [(20, [0, 1, 2, 3], [60, 0, 2, 115, 50, 51])], []))
abbrev b_Mo_flood : ByteArray := prog_15_method_65_code
def y_Mo_flood : MethodName := ⟨"DrawingHouseModel", "flood", "(II)V"⟩
abbrev z_Mo_flood : List Cond := Cond.code y_Mo_flood b_Mo_flood 5 none :: lw_g
def e_Mo_flood : en_T := ([(2, 0, 0, [165]), (0, 0, 24, []), (0, -1, 24, [])], none, false, 6, 0, 0, [], [], (49039857307708443467467104868809893875799651909875269632, [], [(20, [0], [60, 2, 2, 75, 31, 32, 33, 34]), (20, [1, 0], [30, -1, 1, 0, 0, -1, 1, 31])], [(20, [0, 1, 2], [60, 2, 4, 80, 31, 32, 33, 34, 35, 38])], []))
abbrev b_Mo_fromOf : ByteArray := prog_15_method_87_code
def y_Mo_fromOf : MethodName := ⟨"DrawingHouseModel", "fromOf", "(I)I"⟩
abbrev z_Mo_fromOf : List Cond := Cond.code y_Mo_fromOf b_Mo_fromOf 2 (some .int) :: lw_g
def e_Mo_fromOf : en_T := ([(2, 0, 0, [165]), (0, 0, 159, [])], some (0, 0, 24, []), true, 6, 0, 0, [([(2, 0, 0, [165]), (0, 0, 159, []), (0, 0, 24, [])], [], [2], [], [], [])], [], (0, [], [], [(20, [0, 1, 2], [60, 0, 2, 185, 33, 34])], []))
abbrev b_Mo_gatherOne : ByteArray := prog_15_method_168_code
def y_Mo_gatherOne : MethodName := ⟨"DrawingHouseModel", "gatherOne", "(II)V"⟩
abbrev z_Mo_gatherOne : List Cond := Cond.code y_Mo_gatherOne b_Mo_gatherOne 4 none :: lw_g
def e_Mo_gatherOne : en_T := ([(2, 0, 0, [165]), (0, 0, 107, []), (0, 0, 4095, [])], none, false, 6, 0, 0, [], [], (5558020283391177380331407280417019576956959263950747073893964032379830222716928, [(165, 132)], [(20, [0, 3], [30, 0, 1, 1, 132, -1, 0, 0]), (20, [0], [60, 1, 2, 773, 132, 130, 131]), (20, [1], [50, 0, 0, 3, 14, 2, 6, 0, 2, 0, 0, 1, 0, 0, 2, 1, 0, 0, 23, 2, 6, 0, 2, 0, 100, 1, 0, 0, 2, 1, 0, 0, 107]), (20, [2], [50, 0, 0, 2, 6, 0, 2, 0, 1, 1, 0, 0, 2, 1, 0, 0, 2400])], [(20, [0, 3], [30, 1, 1, 1, 132, -1, 0, 0]), (20, [0], [60, 1, 2, 773, 132, 130, 131])], [(0, 0, 39, [])]))
abbrev b_Mo_groupOf : ByteArray := prog_15_method_19_code
def y_Mo_groupOf : MethodName := ⟨"DrawingHouseModel", "groupOf", "(I)I"⟩
abbrev z_Mo_groupOf : List Cond := Cond.code y_Mo_groupOf b_Mo_groupOf 2 (some .int) :: lw_g
def e_Mo_groupOf : en_T := ([(2, 0, 0, [165]), (0, 0, 23, [])], some (0, 0, 7, []), true, 6, 0, 0, [([(2, 0, 0, [165]), (0, 0, 23, []), (0, 0, 7, [])], [], [2], [], [], [])], [], (0, [], [], [(20, [2, 0, 1], [50, 1, 1, 1005, 1002, 1, 2, 1, 0, 3, 1, 2, 4, 7, 4, 3, 2, 1, 5, 0, 243, 1, 2])], []))
abbrev b_Mo_groups : ByteArray := prog_15_method_13_code
def y_Mo_groups : MethodName := ⟨"DrawingHouseModel", "groups", "()I"⟩
abbrev z_Mo_groups : List Cond := Cond.code y_Mo_groups b_Mo_groups 1 (some .int) :: lw_g
def e_Mo_groups : en_T := ([(2, 0, 0, [165])], some (0, 0, 8, []), true, 6, 0, 0, [([(2, 0, 0, [165]), (0, 0, 8, [])], [], [1], [], [], [])], [], (0, [], [], [(20, [1, 0], [30, 0, 1, 0, 0, -1, 3, 2005002]), (20, [1, 0], [30, 0, -1, 0, 0, 1, 3, 2005002])], []))
abbrev b_Mo_hangs : ByteArray := prog_15_method_160_code
def y_Mo_hangs : MethodName := ⟨"DrawingHouseModel", "hangs", "(II)V"⟩
abbrev z_Mo_hangs : List Cond := Cond.code y_Mo_hangs b_Mo_hangs 3 none :: lw_g
def e_Mo_hangs : en_T := ([(2, 0, 0, [165]), (0, 0, 23, []), (0, 0, 23, [])], none, false, 6, 0, 0, [], [], (694752535423897172541425910052127447119619907993843384236745504047478777839616, [], [(20, [0], [50, 1, 3, 5, 2, 128, 127, 5, 2, 0, 24, 4, 14, 0, 6, 4, 2, 7, 0, 0, 1, 3, 0, 2, 2, 0, 5, 2, 9, 0, 2, 0, -1, 3, 0, 128, 7, 0, 2, 9, 0, 5, 3, 0, 128, 7, 0, 0, 24, 4, 9, 0, 2, 0, 0, 3, 0, 127, 7, 0, 2, 17, 0, 9, 4, 5, 3, 0, 127, 7, 0, 0, 1, 3, 0, 2, 2, 0, 5, 2, 12, 0, 2, 0, 0, 3, 0, 128, 3, 0, 127, 7, 0, 0, 12, 4, 8, 3, 0, 128, 3, 0, 127, 7, 0, 0, 1, 3, 0, 128, 7, 0]), (20, [1, 0], [30, -1, 1, 0, 0, -1, 3, 2005000]), (20, [2, 0], [30, -1, 1, 0, 0, -1, 3, 2005000]), (20, [0, 2, 1], [50, 0, 1, 128, 2, 9, 0, 2, 0, 0, 3, 0, 128, 1, 1, 2, 9, 0, 5, 3, 0, 128, 1, 1, 0, 23, 0, 5, 3, 0, 128, 1, 2, 0, -1]), (20, [0, 3], [60, 1, 5, 813, 5, 2, 127, 128, 16, 129])], [(20, [0], [50, 1, 3, 5, 2, 128, 127, 5, 2, 0, 24, 4, 14, 0, 6, 4, 2, 7, 0, 0, 1, 3, 0, 2, 2, 0, 5, 2, 9, 0, 2, 0, -1, 3, 0, 128, 7, 0, 2, 9, 0, 5, 3, 0, 128, 7, 0, 0, 24, 4, 9, 0, 2, 0, 0, 3, 0, 127, 7, 0, 2, 17, 0, 9, 4, 5, 3, 0, 127, 7, 0, 0, 1, 3, 0, 2, 2, 0, 5, 2, 12, 0, 2, 0, 0, 3, 0, 128, 3, 0, 127, 7, 0, 0, 12, 4, 8, 3, 0, 128, 3, 0, 127, 7, 0, 0, 1, 3, 0, 128, 7, 0]), (20, [0, 3], [60, 1, 5, 813, 5, 2, 127, 128, 16, 129])], [(0, 0, 24, [])]))
abbrev b_Mo_head : ByteArray := prog_15_method_15_code
def y_Mo_head : MethodName := ⟨"DrawingHouseModel", "head", "(I)I"⟩
abbrev z_Mo_head : List Cond := Cond.code y_Mo_head b_Mo_head 2 (some .int) :: lw_g
def e_Mo_head : en_T := ([(2, 0, 0, [165]), (0, 0, 47, [])], some (0, 0, 23, []), true, 6, 0, 0, [([(2, 0, 0, [165]), (0, 0, 47, []), (0, 0, 23, [])], [], [2], [], [], [])], [], (0, [], [], [(20, [2, 0, 1], [50, 1, 1, 1005, 1002, 1, 2, 1, 0, 3, 1, 2, 4, 7, 4, 3, 2, 1, 5, 0, 315, 1, 2])], []))
abbrev b_Mo_in : ByteArray := prog_15_method_3_code
def y_Mo_in : MethodName := ⟨"DrawingHouseModel", "in", "(III)Z"⟩
abbrev z_Mo_in : List Cond := Cond.code y_Mo_in b_Mo_in 3 (some .boolean) :: lw_g
def e_Mo_in : en_T := ([(0, -2147483648, 2147483647, []), (0, -300000009, 299999999, []), (0, -299999999, 300000009, [])], some (0, 0, 1, []), true, 6, 0, 0, [([(0, -2147483648, 299999998, []), (0, -300000009, 299999999, []), (0, -299999999, 300000009, []), (0, 0, 0, [])], [], [3], [], [(0, 1, -1000000000000, -1)], []), ([(0, -299999998, 2147483647, []), (0, -300000009, 299999999, []), (0, -299999999, 300000009, []), (0, 0, 0, [])], [], [3], [], [(0, 2, 1, 1000000000000), (0, 1, 0, 1000000000000)], []), ([(0, -300000009, 300000009, []), (0, -300000009, 299999999, []), (0, -299999999, 300000009, []), (0, 1, 1, [])], [], [3], [], [(0, 2, -1000000000000, 0), (0, 1, 0, 1000000000000)], [])], [], (0, [], [], [], []))
abbrev b_Mo_isAhead : ByteArray := prog_15_method_164_code
def y_Mo_isAhead : MethodName := ⟨"DrawingHouseModel", "isAhead", "(III)Z"⟩
abbrev z_Mo_isAhead : List Cond := Cond.code y_Mo_isAhead b_Mo_isAhead 5 (some .boolean) :: lw_g
def e_Mo_isAhead : en_T := ([(2, 0, 0, [165]), (0, 0, 23, []), (0, -1, 23, []), (0, 0, 23, [])], some (0, 0, 1, []), true, 6, 0, 0, [], [], (0, [], [(20, [0], [50, 1, 3, 5, 2, 128, 127, 5, 2, 0, 24, 4, 14, 0, 6, 4, 2, 7, 0, 0, 1, 3, 0, 2, 2, 0, 5, 2, 9, 0, 2, 0, -1, 3, 0, 128, 7, 0, 2, 9, 0, 5, 3, 0, 128, 7, 0, 0, 24, 4, 9, 0, 2, 0, 0, 3, 0, 127, 7, 0, 2, 17, 0, 9, 4, 5, 3, 0, 127, 7, 0, 0, 1, 3, 0, 2, 2, 0, 5, 2, 12, 0, 2, 0, 0, 3, 0, 128, 3, 0, 127, 7, 0, 0, 12, 4, 8, 3, 0, 128, 3, 0, 127, 7, 0, 0, 1, 3, 0, 128, 7, 0]), (20, [1, 0], [30, -1, 1, 0, 0, -1, 3, 2005000])], [(20, [0, 1, 2, 3, 4], [60, 0, 1, 799, 127])], []))
abbrev b_Mo_isBridge : ByteArray := prog_15_method_97_code
def y_Mo_isBridge : MethodName := ⟨"DrawingHouseModel", "isBridge", "(I)Z"⟩
abbrev z_Mo_isBridge : List Cond := Cond.code y_Mo_isBridge b_Mo_isBridge 4 (some .boolean) :: lw_g
def e_Mo_isBridge : en_T := ([(2, 0, 0, [165]), (0, 0, 47, [])], some (0, 0, 1, []), true, 6, 0, 0, [], [], (0, [], [], [], []))
abbrev b_Mo_isEnd : ByteArray := prog_15_method_77_code
def y_Mo_isEnd : MethodName := ⟨"DrawingHouseModel", "isEnd", "(II)Z"⟩
abbrev z_Mo_isEnd : List Cond := Cond.code y_Mo_isEnd b_Mo_isEnd 3 (some .boolean) :: lw_g
def e_Mo_isEnd : en_T := ([(2, 0, 0, [165]), (0, 0, 79, []), (0, 0, 25, [])], some (0, 0, 1, []), true, 6, 0, 0, [([(2, 0, 0, [165]), (0, 0, 79, []), (0, 0, 25, []), (0, 0, 0, [])], [], [3], [], [], []), ([(2, 0, 0, [165]), (0, 0, 79, []), (0, 0, 25, []), (0, 1, 1, [])], [], [3], [], [], [])], [], (0, [], [], [(20, [0, 1, 2, 3], [60, 0, 1, 114, 50])], []))
abbrev b_Mo_isMember : ByteArray := prog_15_method_116_code
def y_Mo_isMember : MethodName := ⟨"DrawingHouseModel", "isMember", "(I)Z"⟩
abbrev z_Mo_isMember : List Cond := Cond.code y_Mo_isMember b_Mo_isMember 3 (some .boolean) :: lw_g
def e_Mo_isMember : en_T := ([(2, 0, 0, [165]), (0, 0, 23, [])], some (0, 0, 1, []), true, 6, 0, 0, [], [], (0, [], [], [(20, [0, 1, 2], [60, 1, 1, 380, 99, 98]), (20, [0, 1, 2], [60, 1, 1, 385, 99, 98])], []))
abbrev b_Mo_isSmall : ByteArray := prog_15_method_127_code
def y_Mo_isSmall : MethodName := ⟨"DrawingHouseModel", "isSmall", "()Z"⟩
abbrev z_Mo_isSmall : List Cond := Cond.code y_Mo_isSmall b_Mo_isSmall 2 (some .boolean) :: lw_g
def e_Mo_isSmall : en_T := ([(2, 0, 0, [165])], some (0, 0, 1, []), true, 6, 0, 0, [], [], (0, [], [], [(20, [0, 1], [60, 1, 1, 459, 101, 105])], []))
abbrev b_Mo_isUnder : ByteArray := prog_15_method_161_code
def y_Mo_isUnder : MethodName := ⟨"DrawingHouseModel", "isUnder", "(II)Z"⟩
abbrev z_Mo_isUnder : List Cond := Cond.code y_Mo_isUnder b_Mo_isUnder 4 (some .boolean) :: lw_g
def e_Mo_isUnder : en_T := ([(2, 0, 0, [165]), (0, 0, 23, []), (0, 0, 23, [])], some (0, 0, 1, []), true, 6, 0, 0, [], [], (0, [], [(20, [0], [50, 1, 3, 5, 2, 128, 127, 5, 2, 0, 24, 4, 14, 0, 6, 4, 2, 7, 0, 0, 1, 3, 0, 2, 2, 0, 5, 2, 9, 0, 2, 0, -1, 3, 0, 128, 7, 0, 2, 9, 0, 5, 3, 0, 128, 7, 0, 0, 24, 4, 9, 0, 2, 0, 0, 3, 0, 127, 7, 0, 2, 17, 0, 9, 4, 5, 3, 0, 127, 7, 0, 0, 1, 3, 0, 2, 2, 0, 5, 2, 12, 0, 2, 0, 0, 3, 0, 128, 3, 0, 127, 7, 0, 0, 12, 4, 8, 3, 0, 128, 3, 0, 127, 7, 0, 0, 1, 3, 0, 128, 7, 0]), (20, [1, 0], [30, -1, 1, 0, 0, -1, 3, 2005000])], [(20, [0, 1, 2, 3], [60, 0, 1, 797, 128])], []))
abbrev b_Mo_isWithin : ByteArray := prog_15_method_101_code
def y_Mo_isWithin : MethodName := ⟨"DrawingHouseModel", "isWithin", "(II)Z"⟩
abbrev z_Mo_isWithin : List Cond := Cond.code y_Mo_isWithin b_Mo_isWithin 4 (some .boolean) :: lw_g
def e_Mo_isWithin : en_T := ([(2, 0, 0, [165]), (0, -1, 7, []), (0, -1, 7, [])], some (0, 0, 1, []), true, 6, 0, 0, [], [], (0, [], [], [(20, [0, 1, 2, 3], [60, 1, 1, 779, 5, 2])], []))
abbrev b_Mo_line_at_g1 : ByteArray := prog_15_method_126_code
def y_Mo_line_at_g1 : MethodName := ⟨"DrawingHouseModel", "line", "(II)V"⟩
abbrev z_Mo_line_at_g1 : List Cond := Cond.code y_Mo_line_at_g1 b_Mo_line_at_g1 3 none :: lw_g
def e_Mo_line_at_g1 : en_T := ([(2, 0, 0, [165]), (0, 0, 75, []), (0, 0, 75, [])], none, false, 6, 0, 0, [], [], (5300541194335152988749892502228755547482451690626856874364818603877859328, [(165, 107)], [(20, [0, 3], [50, 1, 0, 107, 1, 3, 2, 0, 107, 1, 1]), (20, [0], [60, 3, 4, 439, 5, 107, 100, 2, 102, 108, 109]), (20, [0, 1, 2], [60, 2, 2, 465, 5, 100, 2, 102])], [(20, [0, 3], [50, 1, 0, 107, 1, 3, 2, 0, 107, 4, 2, 1, 1, 0, 1]), (20, [0], [60, 3, 4, 440, 5, 107, 100, 2, 102, 108, 109])], [(0, 0, 129, [])]))
abbrev b_Mo_line_at_g2 : ByteArray := prog_15_method_126_code
def y_Mo_line_at_g2 : MethodName := ⟨"DrawingHouseModel", "line", "(II)V"⟩
abbrev z_Mo_line_at_g2 : List Cond := Cond.code y_Mo_line_at_g2 b_Mo_line_at_g2 3 none :: lw_g
def e_Mo_line_at_g2 : en_T := ([(2, 0, 0, [165]), (0, 0, 75, []), (0, 0, 75, [])], none, false, 6, 0, 0, [], [], (5300541194335152988749892502228755547482451690626856874364818603877859328, [(165, 107)], [(20, [0, 3], [50, 1, 0, 107, 1, 3, 2, 0, 107, 1, 1]), (20, [0], [60, 3, 4, 439, 5, 107, 100, 2, 102, 108, 109]), (20, [0, 1, 2], [60, 2, 2, 464, 5, 100, 2, 102])], [(20, [0, 3], [50, 1, 0, 107, 1, 3, 2, 0, 107, 4, 2, 1, 1, 0, 1]), (20, [0], [60, 3, 4, 439, 5, 107, 100, 2, 102, 108, 109])], [(0, 0, 129, [])]))
abbrev b_Mo_longOf : ByteArray := prog_15_method_20_code
def y_Mo_longOf : MethodName := ⟨"DrawingHouseModel", "longOf", "(I)I"⟩
abbrev z_Mo_longOf : List Cond := Cond.code y_Mo_longOf b_Mo_longOf 2 (some .int) :: lw_g
def e_Mo_longOf : en_T := ([(2, 0, 0, [165]), (0, 0, 23, [])], some (0, 0, 8, []), true, 6, 0, 0, [([(2, 0, 0, [165]), (0, 0, 23, []), (0, 0, 8, [])], [], [2], [], [], [])], [], (0, [], [], [(20, [2, 0, 1], [50, 1, 1, 1005, 1002, 1, 2, 1, 0, 3, 1, 2, 4, 3, 2, 1, 5, 4, 2, 0, 195, 1, 2])], []))
abbrev b_Mo_low : ByteArray := prog_15_method_152_code
def y_Mo_low : MethodName := ⟨"DrawingHouseModel", "low", "(I)I"⟩
abbrev z_Mo_low : List Cond := Cond.code y_Mo_low b_Mo_low 2 (some .int) :: lw_g
def e_Mo_low : en_T := ([(2, 0, 0, [165]), (0, 0, 79, [])], some (0, 0, 24, []), true, 6, 0, 0, [([(2, 0, 0, [165]), (0, 0, 79, []), (0, 0, 24, [])], [], [2], [], [], [])], [], (0, [], [], [(20, [0, 1, 2], [60, 0, 2, 788, 33, 34])], []))
abbrev b_Mo_max : ByteArray := prog_15_method_4_code
def y_Mo_max : MethodName := ⟨"DrawingHouseModel", "max", "(II)I"⟩
abbrev z_Mo_max : List Cond := Cond.code y_Mo_max b_Mo_max 2 (some .int) :: lw_g
def e_Mo_max : en_T := ([(0, -900000000, 2147483647, []), (0, -900000000, 900000000, [])], some (0, -900000000, 2147483647, []), true, 6, 0, 0, [([(0, -900000000, 900000000, []), (0, -900000000, 900000000, [])], [], [1], [], [(0, 1, -1000000000000, 0)], []), ([(0, -899999999, 2147483647, []), (0, -900000000, 900000000, [])], [], [0], [], [(0, 1, 1, 1000000000000)], [])], [], (0, [], [], [(7, [0, 2], [5]), (7, [1, 2], [5])], []))
abbrev b_Mo_mayGo : ByteArray := prog_15_method_72_code
def y_Mo_mayGo : MethodName := ⟨"DrawingHouseModel", "mayGo", "(I)Z"⟩
abbrev z_Mo_mayGo : List Cond := Cond.code y_Mo_mayGo b_Mo_mayGo 2 (some .boolean) :: lw_g
def e_Mo_mayGo : en_T := ([(2, 0, 0, [165]), (0, 0, 79, [])], some (0, 0, 1, []), true, 6, 0, 0, [([(2, 0, 0, [165]), (0, 0, 79, []), (0, 0, 0, [])], [], [2], [], [], []), ([(2, 0, 0, [165]), (0, 0, 79, []), (0, 1, 1, [])], [], [2], [], [], [])], [], (0, [], [], [(20, [0, 1, 2], [60, 1, 2, 120, 49, 43, 44])], []))
abbrev b_Mo_min : ByteArray := prog_15_method_5_code
def y_Mo_min : MethodName := ⟨"DrawingHouseModel", "min", "(II)I"⟩
abbrev z_Mo_min : List Cond := Cond.code y_Mo_min b_Mo_min 2 (some .int) :: lw_g
def e_Mo_min : en_T := ([(0, -2147483648, 300000000, []), (0, -900000000, 900000000, [])], some (0, -2147483648, 300000000, []), true, 6, 0, 0, [([(0, -900000000, 300000000, []), (0, -900000000, 300000000, [])], [], [1], [], [(0, 1, 0, 1000000000000)], []), ([(0, -2147483648, 300000000, []), (0, -900000000, 900000000, [])], [], [0], [], [(0, 1, -1000000000000, -1)], [])], [], (0, [], [], [(7, [2, 0], [5]), (7, [2, 1], [5])], []))
abbrev b_Mo_missing : ByteArray := prog_15_method_69_code
def y_Mo_missing : MethodName := ⟨"DrawingHouseModel", "missing", "()Z"⟩
abbrev z_Mo_missing : List Cond := Cond.code y_Mo_missing b_Mo_missing 2 (some .boolean) :: lw_g
def e_Mo_missing : en_T := ([(2, 0, 0, [165])], some (0, 0, 1, []), true, 6, 0, 0, [], [], (0, [], [], [(20, [0, 1], [60, 1, 1, 155, 32, 43])], []))
abbrev b_Mo_move : ByteArray := prog_15_method_150_code
def y_Mo_move : MethodName := ⟨"DrawingHouseModel", "move", "(II)V"⟩
abbrev z_Mo_move : List Cond := Cond.code y_Mo_move b_Mo_move 4 none :: lw_g
def e_Mo_move : en_T := ([(2, 0, 0, [165]), (0, 0, 33554431, []), (0, 1, 2, [])], none, false, 6, 0, 0, [], [], (26328072917139296674479506920917608079723773850137277813577744384, [], [(20, [0, 1, 3, 4], [60, 1, 3, 832, 31, 74, 75, 96]), (20, [0], [60, 1, 1, 835, 31, 96]), (20, [3, 0], [50, 1, 0, 1031, 0, 2, 1, 0, 2, 1, 31]), (20, [2], [50, 0, 0, 2, 6, 0, 2, 0, 1, 1, 0, 0, 2, 1, 0, 0, 2])], [(20, [0, 3, 4], [60, 1, 3, 833, 31, 74, 75, 96])], [(0, 3, 24, []), (0, 0, 30, [])]))
abbrev b_Mo_newLine_at_g1 : ByteArray := prog_15_method_142_code
def y_Mo_newLine_at_g1 : MethodName := ⟨"DrawingHouseModel", "newLine", "(II)I"⟩
abbrev z_Mo_newLine_at_g1 : List Cond := Cond.code y_Mo_newLine_at_g1 b_Mo_newLine_at_g1 3 (some .int) :: lw_g
def e_Mo_newLine_at_g1 : en_T := ([(2, 0, 0, [165]), (0, 0, 0, []), (0, 0, 24, [])], some (0, 0, 79, []), false, 6, 0, 0, [([(2, 0, 0, [165]), (0, 0, 0, []), (0, 0, 24, []), (0, 0, 79, []), (0, -2, 25, []), (0, 0, 79, []), (0, 1, 80, [])], [], [5], [((0, 32), 6)], [(5, 6, -1, -1), (5, 3, 0, 0), (6, 3, 1, 1)], [])], [((0, 32), (0, 0, 80, []))], (10727468786061222008508429190052164285331173855285215232, [(165, 32)], [(20, [0], [50, 1, 0, 32, 0, 3, 2, 0, 32, 0, 79]), (20, [1], [50, 0, 0, 1, 2, 1, 0, 0, 0]), (20, [0, 2], [60, 2, 5, 245, 31, 32, 33, 34, 35, 36, 37]), (20, [0, 4], [60, 2, 3, 266, 31, 32, 33, 34, 35])], [(20, [0, 2, 5], [60, 2, 5, 247, 31, 32, 33, 34, 35, 36, 37]), (20, [0, 2], [60, 2, 3, 268, 31, 32, 33, 34, 35]), (20, [0, 4], [60, 2, 3, 267, 31, 32, 33, 34, 35])], [(0, -2, 25, [])]))
abbrev b_Mo_newLine_at_g3 : ByteArray := prog_15_method_142_code
def y_Mo_newLine_at_g3 : MethodName := ⟨"DrawingHouseModel", "newLine", "(II)I"⟩
abbrev z_Mo_newLine_at_g3 : List Cond := Cond.code y_Mo_newLine_at_g3 b_Mo_newLine_at_g3 3 (some .int) :: lw_g
def e_Mo_newLine_at_g3 : en_T := ([(2, 0, 0, [165]), (0, 0, 24, []), (0, 0, 24, [])], some (0, 0, 79, []), false, 6, 0, 0, [([(2, 0, 0, [165]), (0, 0, 24, []), (0, 0, 24, []), (0, 0, 79, []), (0, 0, 159, []), (0, 0, 159, []), (0, 0, 80, []), (0, 0, 79, []), (0, 1, 80, [])], [], [7], [((0, 32), 8)], [(7, 8, -1, -1), (7, 3, 0, 0), (8, 3, 1, 1)], [])], [((0, 32), (0, 0, 80, []))], (10727468786061222008508429190052164285331173855285215232, [(165, 32)], [(20, [0], [50, 1, 0, 32, 0, 3, 2, 0, 32, 0, 79]), (20, [0, 1, 2, 4, 5], [60, 2, 5, 246, 31, 32, 33, 34, 35, 36, 37]), (20, [0], [60, 2, 3, 264, 31, 32, 33, 34, 35]), (20, [0, 6], [50, 1, 0, 32, 1, 3, 2, 0, 32, 1, 1])], [(20, [0, 1, 2, 4, 5, 7], [60, 2, 5, 249, 31, 32, 33, 34, 35, 36, 37]), (20, [0], [60, 2, 3, 264, 31, 32, 33, 34, 35]), (20, [0, 6], [50, 1, 0, 32, 1, 3, 2, 0, 32, 4, 2, 1, 1, 0, 1])], [(0, 0, 159, []), (0, 0, 159, []), (0, 0, 80, [])]))
abbrev b_Mo_nextOrder_at_gm : ByteArray := prog_15_method_120_code
def y_Mo_nextOrder_at_gm : MethodName := ⟨"DrawingHouseModel", "nextOrder", "(I)Z"⟩
abbrev z_Mo_nextOrder_at_gm : List Cond := Cond.code y_Mo_nextOrder_at_gm b_Mo_nextOrder_at_gm 7 (some .boolean) :: lw_g
def e_Mo_nextOrder_at_gm : en_T := ([(2, 0, 0, [165]), (0, 0, 26, [])], some (0, 0, 1, []), false, 6, 0, 0, [], [], (6901746346790563787434755862277025452451108972170386555162524223799296, [], [(20, [1], [50, 0, 0, 0, 2, 1, 0, 0, 8]), (20, [0, 1], [60, 0, 1, 322, 96]), (20, [0, 1, 2], [60, 0, 1, 323, 96]), (20, [0, 1], [60, 0, 2, 328, 96, 98])], [(20, [0, 1], [60, 0, 1, 322, 96]), (20, [0, 1, 2, 3], [60, 0, 1, 324, 96]), (20, [0, 1], [60, 0, 2, 328, 96, 98])], [(0, -2, 16777216, [])]))
abbrev b_Mo_nextOrder_at_gx : ByteArray := prog_15_method_120_code
def y_Mo_nextOrder_at_gx : MethodName := ⟨"DrawingHouseModel", "nextOrder", "(I)Z"⟩
abbrev z_Mo_nextOrder_at_gx : List Cond := Cond.code y_Mo_nextOrder_at_gx b_Mo_nextOrder_at_gx 7 (some .boolean) :: lw_g
def e_Mo_nextOrder_at_gx : en_T := ([(2, 0, 0, [165]), (0, 0, 8, [])], some (0, 0, 1, []), false, 6, 0, 0, [], [], (6901746346790563787434755862277025452451108972170386555162524223799296, [], [(20, [1], [50, 0, 0, 0, 2, 1, 0, 0, 8]), (20, [0, 1], [60, 0, 1, 322, 96]), (20, [0, 1, 2], [60, 0, 1, 323, 96])], [(20, [0, 1], [60, 0, 1, 322, 96]), (20, [0, 1, 2, 3], [60, 0, 1, 324, 96])], [(0, -2, 16777216, [])]))
abbrev b_Mo_nodes : ByteArray := prog_15_method_11_code
def y_Mo_nodes : MethodName := ⟨"DrawingHouseModel", "nodes", "()I"⟩
abbrev z_Mo_nodes : List Cond := Cond.code y_Mo_nodes b_Mo_nodes 1 (some .int) :: lw_g
def e_Mo_nodes : en_T := ([(2, 0, 0, [165])], some (0, 0, 24, []), true, 6, 0, 0, [([(2, 0, 0, [165]), (0, 0, 24, [])], [], [1], [], [], [])], [], (0, [], [], [(20, [1, 0], [30, 0, 1, 0, 0, -1, 3, 2005000]), (20, [1, 0], [30, 0, -1, 0, 0, 1, 3, 2005000])], []))
abbrev b_Mo_one : ByteArray := prog_15_method_17_code
def y_Mo_one : MethodName := ⟨"DrawingHouseModel", "one", "(I)I"⟩
abbrev z_Mo_one : List Cond := Cond.code y_Mo_one b_Mo_one 2 (some .int) :: lw_g
def e_Mo_one : en_T := ([(2, 0, 0, [165]), (0, 0, 47, [])], some (0, 0, 1, []), true, 6, 0, 0, [([(2, 0, 0, [165]), (0, 0, 47, []), (0, 0, 1, [])], [], [2], [], [], [])], [], (0, [], [], [], []))
abbrev b_Mo_placeIn : ByteArray := prog_15_method_118_code
def y_Mo_placeIn : MethodName := ⟨"DrawingHouseModel", "placeIn", "(I)I"⟩
abbrev z_Mo_placeIn : List Cond := Cond.code y_Mo_placeIn b_Mo_placeIn 3 (some .int) :: lw_g
def e_Mo_placeIn : en_T := ([(2, 0, 0, [165]), (0, 0, 23, [])], some (0, 0, 26, []), true, 6, 0, 0, [], [], (0, [], [], [(20, [0, 1, 2], [60, 1, 1, 359, 99, 97])], []))
abbrev b_Mo_placeOf : ByteArray := prog_15_method_128_code
def y_Mo_placeOf : MethodName := ⟨"DrawingHouseModel", "placeOf", "(I)I"⟩
abbrev z_Mo_placeOf : List Cond := Cond.code y_Mo_placeOf b_Mo_placeOf 4 (some .int) :: lw_g
def e_Mo_placeOf : en_T := ([(2, 0, 0, [165]), (0, 0, 75, [])], some (0, 0, 79, []), true, 6, 0, 0, [], [], (0, [], [(20, [0], [60, 4, 6, 445, 5, 100, 101, 107, 2, 95, 102, 104, 108, 109]), (20, [0], [60, 2, 3, 448, 100, 101, 102, 105, 106]), (20, [1, 0], [50, 1, 0, 1100, 2, 6, 0, 2, 0, 0, 1, 0, 0, 6, 4, 2, 1, 0, 0, 1, 2, 1, 100])], [(20, [0, 1, 2], [60, 0, 3, 449, 102, 105, 106])], []))
abbrev b_Mo_pointsOf : ByteArray := prog_15_method_183_code
def y_Mo_pointsOf : MethodName := ⟨"DrawingHouseModel", "pointsOf", "(I)I"⟩
abbrev z_Mo_pointsOf : List Cond := Cond.code y_Mo_pointsOf b_Mo_pointsOf 2 (some .int) :: lw_g
def e_Mo_pointsOf : en_T := ([(2, 0, 0, [165]), (0, 0, 47, [])], some (0, 2, 26, []), true, 6, 0, 0, [([(2, 0, 0, [165]), (0, 0, 47, []), (0, 2, 26, [])], [], [2], [], [], [])], [], (0, [], [], [(20, [2, 0, 1], [50, 1, 1, 1139, 1064, 1, 2, 1, 0, 4, 14, 3, 1, 64, 4, 7, 6, 2, 0, 48, 2, 1, 139, 1, 2, 0, 2])], []))
abbrev b_Mo_putAt_at_g1 : ByteArray := prog_15_method_141_code
def y_Mo_putAt_at_g1 : MethodName := ⟨"DrawingHouseModel", "putAt", "(III)V"⟩
abbrev z_Mo_putAt_at_g1 : List Cond := Cond.code y_Mo_putAt_at_g1 b_Mo_putAt_at_g1 5 none :: lw_g
def e_Mo_putAt_at_g1 : en_T := ([(2, 0, 0, [165]), (0, 0, 24, []), (0, 0, 79, []), (0, 0, 79, [])], none, false, 6, 0, 0, [], [], (36779892980781332600600328651607420406849738932406452224, [], [(20, [0, 1, 2, 3, 4], [60, 2, 5, 251, 31, 32, 33, 34, 35, 36, 37])], [(20, [0, 4, 2], [60, 2, 5, 248, 31, 32, 33, 34, 35, 36, 37])], [(0, 0, 24, [])]))
abbrev b_Mo_putAt_at_g2 : ByteArray := prog_15_method_141_code
def y_Mo_putAt_at_g2 : MethodName := ⟨"DrawingHouseModel", "putAt", "(III)V"⟩
abbrev z_Mo_putAt_at_g2 : List Cond := Cond.code y_Mo_putAt_at_g2 b_Mo_putAt_at_g2 5 none :: lw_g
def e_Mo_putAt_at_g2 : en_T := ([(2, 0, 0, [165]), (0, 0, 24, []), (0, 0, 79, []), (0, 0, 79, [])], none, false, 6, 0, 0, [], [], (36779892980781332600600328651607420406849738932406452224, [], [(20, [0, 1, 2, 3, 4], [60, 2, 5, 252, 31, 32, 33, 34, 35, 36, 37])], [(20, [0], [60, 2, 5, 261, 31, 32, 33, 34, 35, 36, 37])], [(0, 0, 24, [])]))
abbrev b_Mo_putAt_at_g3 : ByteArray := prog_15_method_141_code
def y_Mo_putAt_at_g3 : MethodName := ⟨"DrawingHouseModel", "putAt", "(III)V"⟩
abbrev z_Mo_putAt_at_g3 : List Cond := Cond.code y_Mo_putAt_at_g3 b_Mo_putAt_at_g3 5 none :: lw_g
def e_Mo_putAt_at_g3 : en_T := ([(2, 0, 0, [165]), (0, 0, 24, []), (0, 0, 79, []), (0, 0, 79, [])], none, false, 6, 0, 0, [], [], (36779892980781332600600328651607420406849738932406452224, [], [(20, [0, 1, 2, 3, 4, 5, 6, 7], [60, 2, 5, 253, 31, 32, 33, 34, 35, 36, 37])], [(20, [0, 4, 5, 6, 7, 2], [60, 2, 5, 250, 31, 32, 33, 34, 35, 36, 37])], [(0, 0, 24, []), (0, 0, 24, []), (0, 0, 159, []), (0, 0, 159, [])]))
abbrev b_Mo_putAt_at_g4 : ByteArray := prog_15_method_141_code
def y_Mo_putAt_at_g4 : MethodName := ⟨"DrawingHouseModel", "putAt", "(III)V"⟩
abbrev z_Mo_putAt_at_g4 : List Cond := Cond.code y_Mo_putAt_at_g4 b_Mo_putAt_at_g4 5 none :: lw_g
def e_Mo_putAt_at_g4 : en_T := ([(2, 0, 0, [165]), (0, 0, 24, []), (0, 0, 79, []), (0, 0, 79, [])], none, false, 6, 0, 0, [], [], (36779892980781332600600328651607420406849738932406452224, [], [(20, [0, 1, 2, 3, 4, 5, 6, 7], [60, 2, 5, 254, 31, 32, 33, 34, 35, 36, 37])], [(20, [0], [60, 2, 5, 261, 31, 32, 33, 34, 35, 36, 37])], [(0, 0, 24, []), (0, 0, 24, []), (0, 0, 159, []), (0, 0, 159, [])]))
abbrev b_Mo_px : ByteArray := prog_15_method_181_code
def y_Mo_px : MethodName := ⟨"DrawingHouseModel", "px", "(I)I"⟩
abbrev z_Mo_px : List Cond := Cond.code y_Mo_px b_Mo_px 2 (some .int) :: lw_g
def e_Mo_px : en_T := ([(2, 0, 0, [165]), (0, 0, 23, [])], some (0, -300000000, 300000000, []), true, 6, 0, 0, [([(2, 0, 0, [165]), (0, 0, 23, []), (0, -300000000, 300000000, [])], [], [2], [], [], [])], [], (0, [], [], [(20, [2, 0, 1], [50, 1, 1, 1139, 1062, 1, 2, 1, 0, 3, 1, 62, 4, 7, 6, 2, 0, 24, 2, 1, 139, 1, 2])], []))
abbrev b_Mo_py : ByteArray := prog_15_method_182_code
def y_Mo_py : MethodName := ⟨"DrawingHouseModel", "py", "(I)I"⟩
abbrev z_Mo_py : List Cond := Cond.code y_Mo_py b_Mo_py 2 (some .int) :: lw_g
def e_Mo_py : en_T := ([(2, 0, 0, [165]), (0, 0, 23, [])], some (0, -300000000, 300000000, []), true, 6, 0, 0, [([(2, 0, 0, [165]), (0, 0, 23, []), (0, -300000000, 300000000, [])], [], [2], [], [], [])], [], (0, [], [], [(20, [2, 0, 1], [50, 1, 1, 1139, 1063, 1, 2, 1, 0, 3, 1, 63, 4, 7, 6, 2, 0, 24, 2, 1, 139, 1, 2])], []))
abbrev b_Mo_reached_at_gb : ByteArray := prog_15_method_193_code
def y_Mo_reached_at_gb : MethodName := ⟨"DrawingHouseModel", "reached", "(II)V"⟩
abbrev z_Mo_reached_at_gb : List Cond := Cond.code y_Mo_reached_at_gb b_Mo_reached_at_gb 4 none :: lw_g
def e_Mo_reached_at_gb : en_T := ([(2, 0, 0, [165]), (0, 0, 23999, []), (0, 1, 1000003, [])], none, false, 6, 0, 0, [], [], (829997695653082488796156820542274923492239250083311563034831962168721313259061248, [], [(20, [0, 3, 4], [60, 2, 4, 495, 146, 147, 143, 140, 141, 142]), (20, [0, 3, 4, 1, 2], [60, 2, 2, 498, 146, 147, 143, 140]), (20, [0, 5, 4], [60, 0, 1, 497, 140])], [(20, [0, 3, 4], [60, 2, 4, 495, 146, 147, 143, 140, 141, 142]), (20, [0, 5, 4], [60, 0, 1, 497, 140])], [(0, 0, 5999, []), (0, 0, 1000008, []), (0, 0, 23999, [])]))
abbrev b_Mo_reached_at_gi : ByteArray := prog_15_method_193_code
def y_Mo_reached_at_gi : MethodName := ⟨"DrawingHouseModel", "reached", "(II)V"⟩
abbrev z_Mo_reached_at_gi : List Cond := Cond.code y_Mo_reached_at_gi b_Mo_reached_at_gi 4 none :: lw_g
def e_Mo_reached_at_gi : en_T := ([(2, 0, 0, [165]), (0, 0, 23999, []), (0, 0, 0, [])], none, false, 6, 0, 0, [], [], (829997695653082488796156820542274923492239250083311563034831962168721313259061248, [], [(20, [0, 3], [60, 2, 4, 496, 146, 147, 143, 140, 141, 142]), (20, [0, 3, 1, 2], [60, 2, 2, 499, 146, 147, 143, 140])], [(20, [0, 3], [60, 2, 4, 496, 146, 147, 143, 140, 141, 142])], [(0, 0, 5999, [])]))
abbrev b_Mo_rootOf : ByteArray := prog_15_method_174_code
def y_Mo_rootOf : MethodName := ⟨"DrawingHouseModel", "rootOf", "(J)J"⟩
abbrev z_Mo_rootOf : List Cond := Cond.code y_Mo_rootOf b_Mo_rootOf 6 (some .long) :: lw_g
def e_Mo_rootOf : en_T := ([(1, 1, 28800000000, [])], some (1, -9223372036854775808, 9223372036854775807, []), true, 6, 0, 0, [], [], (0, [], [], [], []))
abbrev b_Mo_rowOf : ByteArray := prog_15_method_7_code
def y_Mo_rowOf : MethodName := ⟨"DrawingHouseModel", "rowOf", "(II)I"⟩
abbrev z_Mo_rowOf : List Cond := Cond.code y_Mo_rowOf b_Mo_rowOf 2 (some .int) :: lw_g
def e_Mo_rowOf : en_T := ([(0, 0, 3, []), (0, 0, 30, [])], some (5, 0, 66297, [539]), true, 6, 0, 0, [([(0, 0, 3, []), (0, 0, 30, []), (0, 0, 66297, [])], [], [2], [], [], [(2, 539)])], [], (0, [], [], [(23, [2, 0, 1], [0, 1, -16709, -539]), (23, [2, 0, 1], [0, -1, 16709, 539])], []))
abbrev b_Mo_rowPlace : ByteArray := prog_15_method_157_code
def y_Mo_rowPlace : MethodName := ⟨"DrawingHouseModel", "rowPlace", "(I)I"⟩
abbrev z_Mo_rowPlace : List Cond := Cond.code y_Mo_rowPlace b_Mo_rowPlace 3 (some .int) :: lw_g
def e_Mo_rowPlace : en_T := ([(2, 0, 0, [165]), (0, 0, 24, [])], some (0, 0, 99, []), true, 6, 0, 0, [], [], (0, [], [(20, [0, 1], [60, 1, 1, 308, 125, 117])], [(20, [0, 1, 2], [60, 1, 1, 310, 125, 117])], []))
abbrev b_Mo_setBox : ByteArray := prog_15_method_166_code
def y_Mo_setBox : MethodName := ⟨"DrawingHouseModel", "setBox", "(IIZIIII)V"⟩
abbrev z_Mo_setBox : List Cond := Cond.code y_Mo_setBox b_Mo_setBox 10 none :: lw_g
def e_Mo_setBox : en_T := ([(2, 0, 0, [165]), (0, 0, 3, []), (0, 0, 99, []), (0, 0, 1, []), (0, 0, 512, []), (0, 0, 512, []), (0, -512, 512, []), (0, -512, 512, [])], none, false, 6, 0, 0, [], [], (9873027343927236252929815095344103029896415193801479180091654144, [], [(20, [3, 2], [50, 0, 0, 3, 14, 2, 6, 1, 2, 1, 0, 0, 1, 0, 2, 1, 1, 0, 7, 2, 6, 1, 2, 1, 0, 0, 0, 0, 2, 1, 1, 0, 23]), (20, [4, 6], [61, 0, 791]), (20, [5, 7], [61, 0, 791]), (20, [0, 1], [60, 0, 1, 789, 72])], [(20, [0, 1], [60, 0, 1, 789, 72])], []))
abbrev b_Mo_setOrder : ByteArray := prog_15_method_134_code
def y_Mo_setOrder : MethodName := ⟨"DrawingHouseModel", "setOrder", "(II)V"⟩
abbrev z_Mo_setOrder : List Cond := Cond.code y_Mo_setOrder b_Mo_setOrder 5 none :: lw_g
def e_Mo_setOrder : en_T := ([(2, 0, 0, [165]), (0, 0, 75, []), (0, 0, 719, [])], none, false, 6, 0, 0, [], [], (905509120698921968911439969130745739361585497148754716037323178162467635200, [], [(20, [0], [60, 0, 3, 367, 110, 111, 112]), (20, [0, 1], [50, 0, 1, 105, 0, 5, 3, 0, 105, 1, 1, 0, 6]), (20, [2, 0, 1], [50, 0, 2, 1111, 1105, 0, 6, 4, 2, 1, 0, 0, 1, 3, 1, 111, 3, 1, 105, 1, 2]), (20, [0], [60, 2, 3, 448, 100, 101, 102, 105, 106]), (20, [1, 0], [50, 1, 0, 1101, 2, 6, 0, 2, 0, 0, 1, 0, 0, 6, 4, 2, 1, 0, 0, 1, 2, 1, 101]), (20, [2], [50, 0, 0, 0, 2, 0, 0, 1, 0])], [(20, [0], [60, 2, 3, 448, 100, 101, 102, 105, 106])], []))
abbrev b_Mo_shareNew : ByteArray := prog_15_method_76_code
def y_Mo_shareNew : MethodName := ⟨"DrawingHouseModel", "shareNew", "(II)Z"⟩
abbrev z_Mo_shareNew : List Cond := Cond.code y_Mo_shareNew b_Mo_shareNew 5 (some .boolean) :: lw_g
def e_Mo_shareNew : en_T := ([(2, 0, 0, [165]), (0, 0, 79, []), (0, 0, 79, [])], some (0, 0, 1, []), true, 6, 0, 0, [], [], (0, [], [], [(20, [0, 1, 2, 3], [60, 0, 3, 98, 33, 34, 42])], []))
abbrev b_Mo_sign : ByteArray := prog_15_method_31_code
def y_Mo_sign : MethodName := ⟨"DrawingHouseModel", "sign", "(I)Z"⟩
abbrev z_Mo_sign : List Cond := Cond.code y_Mo_sign b_Mo_sign 2 (some .boolean) :: lw_g
def e_Mo_sign : en_T := ([(2, 0, 0, [165]), (0, 45, 125, [])], some (0, 0, 1, []), true, 6, 0, 0, [([(2, 0, 0, [165]), (0, 45, 125, []), (0, 0, 0, [])], [], [2], [], [], []), ([(2, 0, 0, [165]), (0, 45, 125, []), (0, 1, 1, [])], [], [2], [], [], [])], [], (0, [], [], [(20, [2, 0], [50, 2, 0, 1012, 1008, 4, 6, 1, 2, 1, 0, 0, 1, 2, 7, 1, 3, 2, 1, 12, 0, 3, 1, 3, 2, 1, 8, 0, 0]), (20, [0, 1, 2], [60, 3, 0, 963, 8, 12, 14])], []))
abbrev b_Mo_signOf : ByteArray := prog_15_method_199_code
def y_Mo_signOf : MethodName := ⟨"DrawingHouseModel", "signOf", "(J)I"⟩
abbrev z_Mo_signOf : List Cond := Cond.code y_Mo_signOf b_Mo_signOf 2 (some .int) :: lw_g
def e_Mo_signOf : en_T := ([(1, -2160000039600000000, 2160000039600000000, [])], some (0, -1, 1, []), true, 6, 0, 0, [([(1, 0, 0, []), (0, 0, 0, [])], [], [1], [], [], []), ([(1, -2160000039600000000, -1, []), (0, -1, -1, [])], [], [1], [], [], []), ([(1, 1, 2160000039600000000, []), (0, 1, 1, [])], [], [1], [], [], [])], [], (0, [], [], [], []))
abbrev b_Mo_size : ByteArray := prog_15_method_18_code
def y_Mo_size : MethodName := ⟨"DrawingHouseModel", "size", "(I)I"⟩
abbrev z_Mo_size : List Cond := Cond.code y_Mo_size b_Mo_size 2 (some .int) :: lw_g
def e_Mo_size : en_T := ([(2, 0, 0, [165]), (0, 0, 23, [])], some (0, 0, 99, []), true, 6, 0, 0, [([(2, 0, 0, [165]), (0, 0, 23, []), (0, 0, 99, [])], [], [2], [], [], [])], [], (0, [], [], [(20, [2, 0, 1], [50, 1, 1, 1005, 1002, 1, 2, 1, 0, 3, 1, 2, 4, 7, 4, 3, 2, 1, 5, 0, 219, 1, 2])], []))
abbrev b_Mo_split : ByteArray := prog_15_method_83_code
def y_Mo_split : MethodName := ⟨"DrawingHouseModel", "split", "(I)V"⟩
abbrev z_Mo_split : List Cond := Cond.code y_Mo_split b_Mo_split 7 none :: lw_g
def e_Mo_split : en_T := ([(2, 0, 0, [165]), (0, 0, 119, [])], none, false, 6, 0, 0, [], [], (294287034331902719831626327557457810416785997056819855360, [(165, 39)], [(20, [0, 2, 1], [60, 4, 8, 143, 31, 32, 39, 45, 33, 34, 35, 17, 43, 40, 41, 46]), (20, [0], [50, 1, 0, 39, 0, 3, 2, 0, 39, 0, 118]), (20, [0, 3], [30, -120, -1, 1, 39, -1, 0, 0])], [(20, [0, 2], [60, 3, 8, 151, 32, 39, 45, 33, 34, 35, 17, 43, 40, 41, 46]), (20, [0, 3], [30, -121, -1, 1, 39, -1, 0, 0])], [(0, 0, 79, []), (0, -2, 120, [])]))
abbrev b_Mo_styleSign : ByteArray := prog_15_method_214_code
def y_Mo_styleSign : MethodName := ⟨"DrawingHouseModel", "styleSign", "(I)Z"⟩
abbrev z_Mo_styleSign : List Cond := Cond.code y_Mo_styleSign b_Mo_styleSign 2 (some .boolean) :: lw_g
def e_Mo_styleSign : en_T := ([(2, 0, 0, [165]), (0, 40, 125, [])], some (0, 0, 1, []), true, 6, 0, 0, [([(2, 0, 0, [165]), (0, 40, 125, []), (0, 0, 5, []), (0, 0, 0, [])], [], [3], [], [], []), ([(2, 0, 0, [165]), (0, 40, 125, []), (0, 0, 5, []), (0, 1, 1, [])], [], [3], [], [], [])], [], (0, [], [(20, [0, 2], [50, 1, 0, 8, 1, 3, 2, 0, 8, 1, 1])], [(20, [3, 0], [50, 1, 1, 1158, 1160, 4, 6, 1, 2, 1, 0, 0, 1, 1, 6, 3, 1, 160, 2, 1, 158, 0, 3]), (20, [0, 1, 3, 2], [60, 1, 2, 14, 158, 160, 161])], [(0, 0, 5, [])]))
abbrev b_Mo_tail : ByteArray := prog_15_method_14_code
def y_Mo_tail : MethodName := ⟨"DrawingHouseModel", "tail", "(I)I"⟩
abbrev z_Mo_tail : List Cond := Cond.code y_Mo_tail b_Mo_tail 2 (some .int) :: lw_g
def e_Mo_tail : en_T := ([(2, 0, 0, [165]), (0, 0, 47, [])], some (0, 0, 23, []), true, 6, 0, 0, [([(2, 0, 0, [165]), (0, 0, 47, []), (0, 0, 23, [])], [], [2], [], [], [])], [], (0, [], [], [(20, [2, 0, 1], [50, 1, 1, 1005, 1002, 1, 2, 1, 0, 3, 1, 2, 4, 7, 4, 3, 2, 1, 5, 0, 267, 1, 2])], []))
abbrev b_Mo_toOf : ByteArray := prog_15_method_88_code
def y_Mo_toOf : MethodName := ⟨"DrawingHouseModel", "toOf", "(I)I"⟩
abbrev z_Mo_toOf : List Cond := Cond.code y_Mo_toOf b_Mo_toOf 2 (some .int) :: lw_g
def e_Mo_toOf : en_T := ([(2, 0, 0, [165]), (0, 0, 159, [])], some (0, 0, 24, []), true, 6, 0, 0, [([(2, 0, 0, [165]), (0, 0, 159, []), (0, 0, 24, [])], [], [2], [], [], [])], [], (0, [], [], [(20, [0, 1, 2], [60, 0, 2, 186, 33, 34])], []))
abbrev b_Mo_turnOf : ByteArray := prog_15_method_198_code
def y_Mo_turnOf : MethodName := ⟨"DrawingHouseModel", "turnOf", "(JJJJJJ)J"⟩
abbrev z_Mo_turnOf : List Cond := Cond.code y_Mo_turnOf b_Mo_turnOf 12 (some .long) :: lw_g
def e_Mo_turnOf : en_T := ([(1, -300000011, 300000000, []), (1, -900000000, 900000000, []), (1, -300000011, 300000000, []), (1, -900000000, 900000000, []), (1, -300000011, 300000000, []), (1, -900000000, 900000000, [])], some (1, -2160000039600000000, 2160000039600000000, []), true, 6, 0, 0, [([(1, -300000011, 300000000, []), (1, -900000000, 900000000, []), (1, -300000011, 300000000, []), (1, -900000000, 900000000, []), (1, -300000011, 300000000, []), (1, -900000000, 900000000, []), (1, -2160000039600000000, 2160000039600000000, [])], [], [6], [], [], [])], [], (0, [], [], [], []))
abbrev b_Mo_weigh : ByteArray := prog_15_method_131_code
def y_Mo_weigh : MethodName := ⟨"DrawingHouseModel", "weigh", "(II)V"⟩
abbrev z_Mo_weigh : List Cond := Cond.code y_Mo_weigh b_Mo_weigh 6 none :: lw_g
def e_Mo_weigh : en_T := ([(2, 0, 0, [165]), (0, 0, 75, []), (0, 0, 719, [])], none, false, 6, 0, 0, [], [], (565391060729082985466655200237733925064794847000198066598913984413638328320, [], [(20, [0], [60, 0, 3, 367, 110, 111, 112]), (20, [0], [60, 3, 5, 474, 100, 101, 107, 102, 105, 108, 109, 115]), (20, [1, 0], [50, 1, 0, 1101, 2, 6, 0, 2, 0, 0, 1, 0, 0, 6, 4, 2, 1, 0, 0, 1, 2, 1, 101]), (20, [2], [50, 0, 0, 0, 2, 0, 0, 1, 0]), (20, [2, 0, 1], [50, 0, 2, 1111, 1105, 0, 6, 4, 2, 1, 0, 0, 1, 3, 1, 111, 3, 1, 105, 1, 2])], [(20, [0, 1, 2], [60, 1, 8, 477, 107, 105, 110, 112, 102, 108, 109, 115, 114])], []))
abbrev b_Mo_weighed : ByteArray := prog_15_method_132_code
def y_Mo_weighed : MethodName := ⟨"DrawingHouseModel", "weighed", "(II)I"⟩
abbrev z_Mo_weighed : List Cond := Cond.code y_Mo_weighed b_Mo_weighed 7 (some .int) :: lw_g
def e_Mo_weighed : en_T := ([(2, 0, 0, [165]), (0, 0, 6, []), (0, 0, 719, [])], some (0, 0, 1048575, []), true, 6, 0, 0, [], [], (0, [], [(20, [0], [60, 0, 3, 367, 110, 111, 112]), (20, [1], [50, 0, 0, 2, 6, 0, 2, 0, 0, 1, 0, 0, 2, 1, 0, 0, 6]), (20, [2], [50, 0, 0, 0, 2, 0, 0, 1, 0]), (20, [2, 0, 1], [50, 0, 1, 1111, 0, 6, 4, 2, 1, 0, 0, 1, 3, 1, 111, 1, 2])], [(20, [0, 1, 2, 3], [60, 0, 3, 480, 110, 112, 114]), (20, [3], [50, 0, 0, 2, 6, 0, 2, 0, 0, 1, 0, 0, 2, 1, 0, 0, 518400])], []))
abbrev b_Mo_weight : ByteArray := prog_15_method_16_code
def y_Mo_weight : MethodName := ⟨"DrawingHouseModel", "weight", "(I)I"⟩
abbrev z_Mo_weight : List Cond := Cond.code y_Mo_weight b_Mo_weight 2 (some .int) :: lw_g
def e_Mo_weight : en_T := ([(2, 0, 0, [165]), (0, 0, 47, [])], some (0, 0, 9, []), true, 6, 0, 0, [([(2, 0, 0, [165]), (0, 0, 47, []), (0, 0, 9, [])], [], [2], [], [], [])], [], (0, [], [], [], []))
abbrev b_Mo_write1 : ByteArray := prog_15_method_232_code
def y_Mo_write1 : MethodName := ⟨"DrawingHouseModel", "write", "(I)V"⟩
abbrev z_Mo_write1 : List Cond := Cond.code y_Mo_write1 b_Mo_write1 2 none :: lw_g
def e_Mo_write1 : en_T := ([(2, 0, 0, [165]), (0, -2147483648, 2147483647, [])], none, false, 6, 0, 0, [], [], (7770675568902916283677847627294075626569627356208558085007249638955617140820833992704, [(165, 170)], [(20, [0, 2], [30, 0, 1, 1, 170, -1, 0, 0])], [(20, [0, 2], [30, 1, 1, 1, 170, -1, 0, 0])], [(0, 0, 99999999, [])]))
abbrev b_Mo_wrong : ByteArray := prog_15_method_30_code
def y_Mo_wrong : MethodName := ⟨"DrawingHouseModel", "wrong", "(II)V"⟩
abbrev z_Mo_wrong : List Cond := Cond.code y_Mo_wrong b_Mo_wrong 3 none :: lw_g
def e_Mo_wrong : en_T := ([(2, 0, 0, [165]), (0, 1, 5, []), (0, 0, 2000, [])], none, false, 6, 0, 0, [], [], (0, [(165, 8), (165, 9)], [(20, [0, 3], [30, 0, 1, 1, 8, -1, 0, 0]), (20, [0, 3], [30, 0, -1, 1, 8, 1, 0, 0])], [(20, [0], [30, -1, -1, 1, 8]), (20, [3, 0, 1, 2], [50, 2, 0, 1008, 1009, 3, 15, 2, 6, 0, 2, 0, 1, 1, 0, 1, 3, 2, 1, 8, 1, 0, 2, 6, 1, 2, 1, 0, 0, 0, 2, 7, 1, 3, 2, 1, 8, 1, 2, 1, 3, 2, 1, 9, 1, 3])], [(0, 0, 5, [])]))
abbrev b_Ho_feed : ByteArray := prog_1_method_2_code
def y_Ho_feed : MethodName := ⟨"DrawingHouse", "feed", "(IIIII)I"⟩
abbrev z_Ho_feed : List Cond := Cond.code y_Ho_feed b_Ho_feed 6 (some .int) :: lw_g
def e_Ho_feed : en_T := ([(2, 0, 0, [12]), (0, -2147483648, 2147483647, []), (0, -2147483648, 2147483647, []), (0, -2147483648, 2147483647, []), (0, -2147483648, 2147483647, []), (0, -2147483648, 2147483647, [])], some (0, -1, 2000, []), false, 7, 0, 0, [([(2, 0, 0, [12]), (0, -2147483648, 2147483647, []), (0, -2147483648, 2147483647, []), (0, -2147483648, 2147483647, []), (0, -2147483648, 2147483647, []), (0, -2147483648, 2147483647, []), (2, 0, 0, [8]), (0, 0, 2000, []), (0, -1, 2000, []), (2, 0, 0, [165]), (0, 0, 2000, [])], [], [10], [((0, 4), 6)], [], []), ([(2, 0, 0, [12]), (0, -2147483648, 2147483647, []), (0, -2147483648, 2147483647, []), (0, -2147483648, 2147483647, []), (0, -2147483648, 2147483647, []), (0, -2147483648, 2147483647, []), (2, 0, 0, [8]), (0, 0, 2000, []), (0, -1, 2000, []), (2, 0, 0, [165]), (0, -1, -1, [])], [], [10], [((0, 4), 6)], [], [])], [((0, 4), (2, 0, 0, [8]))], (649037107316853453566312041152512, [(8, 1)], [(20, [6, 7, 8], [50, 1, 0, 1, 3, 32, 2, 11, 0, 7, 4, 3, 2, 0, 1, 0, 20, 0, 2000, 2, 11, 1, 2, 1, 1, 4, 3, 2, 0, 1, 0, 20, 1, 2, 1, 2, 1, 1, 2, 7, 0, 2, 0, 1981, 2, 0, 1, 2, 7, 1, 2, 1, 1, 2, 0, 1, 1, 2, 1, 2, 0, -1]), (20, [9, 7, 8], [50, 1, 0, 0, 3, 32, 2, 11, 0, 7, 4, 3, 2, 0, 0, 0, 20, 0, 2000, 2, 11, 1, 2, 1, 1, 4, 3, 2, 0, 0, 0, 20, 1, 2, 1, 2, 1, 1, 2, 7, 0, 2, 0, 1981, 2, 0, 0, 2, 7, 1, 2, 1, 1, 2, 0, 0, 1, 2, 1, 2, 0, -1]), (20, [6, 9], [60, 1, 2, 1101, 1, 0, 1001])], [(20, [6, 7], [50, 1, 0, 1, 1, 3, 2, 0, 1, 1, 1]), (20, [10, 8], [50, 0, 0, 1, 2, 1, 0, 1, 1]), (20, [9, 6, 1, 2, 3, 4, 5, 7, 8], [60, 1, 2, 1107, 0, 1, 1000])], [(0, 0, 2000, []), (0, -1, 2000, []), (2, 0, 0, [165])]))
abbrev b_Ho_hasDrawing : ByteArray := prog_1_method_31_code
def y_Ho_hasDrawing : MethodName := ⟨"DrawingHouse", "hasDrawing", "(I)Z"⟩
abbrev z_Ho_hasDrawing : List Cond := Cond.code y_Ho_hasDrawing b_Ho_hasDrawing 2 (some .boolean) :: lw_g
def e_Ho_hasDrawing : en_T := ([(2, 0, 0, [12]), (0, -2147483648, 2147483647, [])], some (0, 0, 1, []), true, 7, 0, 0, [([(2, 0, 0, [12]), (0, -2147483648, -1, []), (0, 0, 0, [])], [], [2], [], [], []), ([(2, 0, 0, [12]), (0, 4, 2147483647, []), (0, 0, 0, [])], [], [2], [], [], []), ([(2, 0, 0, [12]), (0, 0, 3, []), (0, 0, 0, [])], [], [2], [], [], []), ([(2, 0, 0, [12]), (0, 0, 3, []), (0, 1, 1, [])], [], [2], [], [], [])], [], (0, [], [], [(20, [2, 1, 0], [51, 0, 0, 1, 4001002003, 4, 6, 1, 2, 1, 0, 0, 1, 2, 6, 0, 2, 0, 0, 1, 1, 2, 6, 0, 2, 1, 1, 0, 3, 7, 6, 14, 2, 3, 4001, 1, 1, 0, -1]), (20, [2, 1, 0], [51, 0, 0, 1, 4001002003, 4, 6, 1, 2, 1, 0, 0, 0, 3, 6, 0, 2, 1, 1, 0, -1, 3, 6, 0, 2, 0, 4, 1, 1, 1, 6, 14, 2, 3, 4001, 1, 1, 0, -1])], []))
abbrev b_Ho_writeName_at_GrgroupName : ByteArray := prog_1_method_40_code
def y_Ho_writeName_at_GrgroupName : MethodName := ⟨"DrawingHouse", "writeName", "([BII)V"⟩
abbrev z_Ho_writeName_at_GrgroupName : List Cond := Cond.code y_Ho_writeName_at_GrgroupName b_Ho_writeName_at_GrgroupName 5 none :: lw_g
def e_Ho_writeName_at_GrgroupName : en_T := ([(2, 0, 0, [12]), (2, 0, 0, [57]), (0, 1, 7, []), (0, 0, 8, [])], none, false, 7, 0, 0, [], [], (261336857795280739939871698507597986398208, [(12, 12)], [(20, [0, 4], [30, 0, 1, 1, 12, -1, 0, 0])], [(20, [0, 4], [30, 8, 1, 1, 12, -1, 0, 0])], [(0, 0, 99999992, [])]))
abbrev b_Ho_writeName_at_Grname : ByteArray := prog_1_method_40_code
def y_Ho_writeName_at_Grname : MethodName := ⟨"DrawingHouse", "writeName", "([BII)V"⟩
abbrev z_Ho_writeName_at_Grname : List Cond := Cond.code y_Ho_writeName_at_Grname b_Ho_writeName_at_Grname 5 none :: lw_g
def e_Ho_writeName_at_Grname : en_T := ([(2, 0, 0, [12]), (2, 0, 0, [48]), (0, 0, 23, []), (0, 0, 8, [])], none, false, 7, 0, 0, [], [], (261336857795280739939871698507597986398208, [(12, 12)], [(20, [0, 4], [30, 0, 1, 1, 12, -1, 0, 0])], [(20, [0, 4], [30, 8, 1, 1, 12, -1, 0, 0])], [(0, 0, 99999992, [])]))
abbrev b_Dr_countUpward : ByteArray := prog_2_method_30_code
def y_Dr_countUpward : MethodName := ⟨"DrawingHouse$Drawing", "countUpward", "()J"⟩
abbrev z_Dr_countUpward : List Cond := Cond.code y_Dr_countUpward b_Dr_countUpward 6 (some .long) :: lw_g
def e_Dr_countUpward : en_T := ([(2, 0, 0, [0])], some (1, -9223372036854775808, 9223372036854775807, []), true, 7, 0, 0, [], [], (0, [], [], [], []))
abbrev b_Dr_dropBends : ByteArray := prog_2_method_3_code
def y_Dr_dropBends : MethodName := ⟨"DrawingHouse$Drawing", "dropBends", "()V"⟩
abbrev z_Dr_dropBends : List Cond := Cond.code y_Dr_dropBends b_Dr_dropBends 1 none :: lw_g
def e_Dr_dropBends : en_T := ([(2, 0, 0, [0])], none, false, 6, 0, 0, [], [], (65536, [], [], [(20, [0], [60, 0, 1, 641, 4])], []))
abbrev b_Dr_scaledX : ByteArray := prog_2_method_18_code
def y_Dr_scaledX : MethodName := ⟨"DrawingHouse$Drawing", "scaledX", "(II)I"⟩
abbrev z_Dr_scaledX : List Cond := Cond.code y_Dr_scaledX b_Dr_scaledX 3 (some .int) :: lw_g
def e_Dr_scaledX : en_T := ([(2, 0, 0, [0]), (0, -41000000, 1001000000, []), (0, 0, 64, [])], some (0, -63, 63, []), true, 6, 0, 0, [([(2, 0, 0, [0]), (0, -41000000, 1001000000, []), (0, 0, 64, []), (0, -63, 63, [])], [], [3], [], [], [])], [], (0, [], [(20, [0, 1], [50, 2, 0, 17, 19, 2, 7, 0, 3, 2, 0, 17, 1, 1, 0, 2, 1, 1, 2, 0, 19])], [], []))
abbrev b_Dr_scaledY : ByteArray := prog_2_method_19_code
def y_Dr_scaledY : MethodName := ⟨"DrawingHouse$Drawing", "scaledY", "(II)I"⟩
abbrev z_Dr_scaledY : List Cond := Cond.code y_Dr_scaledY b_Dr_scaledY 3 (some .int) :: lw_g
def e_Dr_scaledY : en_T := ([(2, 0, 0, [0]), (0, -41000000, 1001000000, []), (0, 0, 64, [])], some (0, -63, 63, []), true, 6, 0, 0, [([(2, 0, 0, [0]), (0, -41000000, 1001000000, []), (0, 0, 64, []), (0, -63, 63, [])], [], [3], [], [], [])], [], (0, [], [(20, [0, 1], [50, 2, 0, 18, 20, 2, 7, 0, 3, 2, 0, 18, 1, 1, 0, 2, 1, 1, 2, 0, 20])], [], []))
abbrev b_Dr_wipe : ByteArray := prog_2_method_2_code
def y_Dr_wipe : MethodName := ⟨"DrawingHouse$Drawing", "wipe", "()V"⟩
abbrev z_Dr_wipe : List Cond := Cond.code y_Dr_wipe b_Dr_wipe 1 none :: lw_g
def e_Dr_wipe : en_T := ([(2, 0, 0, [0])], none, false, 6, 0, 0, [], [], (8388608, [(0, 1)], [], [], []))
abbrev b_Em_copyOther : ByteArray := prog_3_method_15_code
def y_Em_copyOther : MethodName := ⟨"DrawingHouse$Embedder", "copyOther", "(III)I"⟩
abbrev z_Em_copyOther : List Cond := Cond.code y_Em_copyOther b_Em_copyOther 8 (some .int) :: lw_g
def e_Em_copyOther : en_T := ([(2, 0, 0, [1]), (0, 0, 49, []), (0, 0, 24, []), (0, 0, 24, [])], some (0, 0, 25, []), false, 7, 0, 0, [], [], (536870912, [], [(20, [0], [60, 2, 2, 603, 7, 6, 8, 9]), (20, [0], [60, 2, 1, 613, 6, 15, 14]), (20, [1, 0], [50, 1, 0, 1007, 2, 6, 0, 2, 0, 0, 1, 0, 0, 6, 4, 2, 1, 0, 0, 1, 2, 1, 7]), (20, [0], [50, 1, 0, 7, 0, 7, 4, 3, 2, 0, 7, 0, 1, 0, 50])], [(20, [0], [60, 2, 2, 603, 7, 6, 8, 9]), (20, [0, 4], [60, 3, 2, 619, 7, 6, 15, 8, 14]), (20, [4], [50, 0, 0, 2, 6, 0, 2, 0, 0, 1, 0, 0, 2, 1, 0, 0, 25])], []))
abbrev b_Em_copyStretch : ByteArray := prog_3_method_14_code
def y_Em_copyStretch : MethodName := ⟨"DrawingHouse$Embedder", "copyStretch", "(III)I"⟩
abbrev z_Em_copyStretch : List Cond := Cond.code y_Em_copyStretch b_Em_copyStretch 8 (some .int) :: lw_g
def e_Em_copyStretch : en_T := ([(2, 0, 0, [1]), (0, 0, 49, []), (0, 0, 24, []), (0, 0, 24, [])], some (0, 0, 25, []), false, 7, 0, 0, [], [], (4294967296, [], [(20, [0], [60, 2, 2, 603, 7, 6, 8, 9]), (20, [1, 0], [50, 1, 0, 1007, 2, 6, 0, 2, 0, 0, 1, 0, 0, 6, 4, 2, 1, 0, 0, 1, 2, 1, 7])], [(20, [0, 4], [60, 1, 1, 615, 6, 11])], []))
abbrev b_Em_drawWay_at_gn : ByteArray := prog_3_method_8_code
def y_Em_drawWay_at_gn : MethodName := ⟨"DrawingHouse$Embedder", "drawWay", "()V"⟩
abbrev z_Em_drawWay_at_gn : List Cond := Cond.code y_Em_drawWay_at_gn b_Em_drawWay_at_gn 3 none :: lw_g
def e_Em_drawWay_at_gn : en_T := ([(2, 0, 0, [1])], none, false, 7, 0, 0, [], [((0, 0), (2, 0, 0, [5]))], (134217728, [], [], [], []))
abbrev b_Em_drawWay_at_gp : ByteArray := prog_3_method_8_code
def y_Em_drawWay_at_gp : MethodName := ⟨"DrawingHouse$Embedder", "drawWay", "()V"⟩
abbrev z_Em_drawWay_at_gp : List Cond := Cond.code y_Em_drawWay_at_gp b_Em_drawWay_at_gp 3 none :: lw_g
def e_Em_drawWay_at_gp : en_T := ([(2, 0, 0, [1])], none, false, 7, 0, 0, [], [((0, 0), (2, 0, 0, [149]))], (134217728, [], [], [], []))
abbrev b_Fa_learnBlocksAt : ByteArray := prog_4_method_13_code
def y_Fa_learnBlocksAt : MethodName := ⟨"DrawingHouse$Facts", "learnBlocksAt", "(LDrawingHouse$Graph;)V"⟩
abbrev z_Fa_learnBlocksAt : List Cond := Cond.code y_Fa_learnBlocksAt b_Fa_learnBlocksAt 6 none :: lw_g
def e_Fa_learnBlocksAt : en_T := ([(2, 0, 0, [2]), (2, 0, 0, [3])], none, false, 6, 0, 0, [], [], (2473901162496, [], [], [], []))
abbrev b_Fa_lowest : ByteArray := prog_4_method_5_code
def y_Fa_lowest : MethodName := ⟨"DrawingHouse$Facts", "lowest", "(I)I"⟩
abbrev z_Fa_lowest : List Cond := Cond.code y_Fa_lowest b_Fa_lowest 1 (some .int) :: lw_g
def e_Fa_lowest : en_T := ([(0, 0, 33554431, [])], some (0, 0, 63, []), true, 6, 0, 0, [([(0, 0, 33554431, []), (0, 0, 63, [])], [], [1], [], [], [])], [], (0, [], [], [(20, [0, 1], [61, 0, 555])], []))
abbrev b_Fa_numberStrong_at_Faloop : ByteArray := prog_4_method_15_code
def y_Fa_numberStrong_at_Faloop : MethodName := ⟨"DrawingHouse$Facts", "numberStrong", "(I[I)I"⟩
abbrev z_Fa_numberStrong_at_Faloop : List Cond := Cond.code y_Fa_numberStrong_at_Faloop b_Fa_numberStrong_at_Faloop 6 (some .int) :: lw_g
def e_Fa_numberStrong_at_Faloop : en_T := ([(2, 0, 0, [2]), (0, 0, 24, []), (2, 0, 0, [44])], some (0, 0, 24, []), false, 6, 0, 0, [], [((0, 10), (2, 0, 0, [43]))], (26388279066624, [], [(20, [0, 4], [60, 1, 3, 719, 1001, 10, 1007, 1008])], [(20, [0, 1, 1], [60, 0, 1, 717, 10]), (20, [3, 2, 1], [61, 2, 723]), (20, [2, 1, 5], [61, 1, 724]), (20, [0, 4], [60, 1, 3, 719, 1001, 10, 1007, 1008])], [(2, 0, 0, [3])]))
abbrev b_Fa_numberStrong_at_Fastrong : ByteArray := prog_4_method_15_code
def y_Fa_numberStrong_at_Fastrong : MethodName := ⟨"DrawingHouse$Facts", "numberStrong", "(I[I)I"⟩
abbrev z_Fa_numberStrong_at_Fastrong : List Cond := Cond.code y_Fa_numberStrong_at_Fastrong b_Fa_numberStrong_at_Fastrong 6 (some .int) :: lw_g
def e_Fa_numberStrong_at_Fastrong : en_T := ([(2, 0, 0, [2]), (0, 0, 24, []), (2, 0, 0, [39])], some (0, 0, 24, []), false, 6, 0, 0, [], [((0, 10), (2, 0, 0, [43]))], (9345848836096, [], [], [], []))
abbrev b_Fa_peel : ByteArray := prog_4_method_17_code
def y_Fa_peel : MethodName := ⟨"DrawingHouse$Facts", "peel", "(LDrawingHouse$Graph;II)I"⟩
abbrev z_Fa_peel : List Cond := Cond.code y_Fa_peel b_Fa_peel 6 (some .int) :: lw_g
def e_Fa_peel : en_T := ([(2, 0, 0, [2]), (2, 0, 0, [3]), (0, 0, 16777215, []), (0, 0, 23, [])], some (0, 0, 16777215, []), false, 6, 0, 0, [], [], (1099511627776, [], [], [], []))
abbrev b_Fa_pickLast : ByteArray := prog_4_method_25_code
def y_Fa_pickLast : MethodName := ⟨"DrawingHouse$Facts", "pickLast", "(LDrawingHouse$Graph;II)I"⟩
abbrev z_Fa_pickLast : List Cond := Cond.code y_Fa_pickLast b_Fa_pickLast 6 (some .int) :: lw_g
def e_Fa_pickLast : en_T := ([(2, 0, 0, [2]), (2, 0, 0, [3]), (0, 0, 16777215, []), (0, 8, 24, [])], some (0, -1, 23, []), true, 7, 0, 0, [], [], (0, [], [], [(20, [2, 4], [61, 0, 574])], []))
abbrev b_Fa_spread_at_Grnear : ByteArray := prog_4_method_3_code
def y_Fa_spread_at_Grnear : MethodName := ⟨"DrawingHouse$Facts", "spread", "([IIII)I"⟩
abbrev z_Fa_spread_at_Grnear : List Cond := Cond.code y_Fa_spread_at_Grnear b_Fa_spread_at_Grnear 7 (some .int) :: lw_g
def e_Fa_spread_at_Grnear : en_T := ([(2, 0, 0, [59]), (0, 1, 24, []), (0, 1, 8388608, []), (0, -1, 16777215, [])], some (0, 0, 16777215, []), true, 7, 0, 0, [], [], (0, [], [], [(20, [0, 1, 2, 3, 4], [61, 1, 579])], []))
abbrev b_Fa_spread_at_Nenear : ByteArray := prog_4_method_3_code
def y_Fa_spread_at_Nenear : MethodName := ⟨"DrawingHouse$Facts", "spread", "([IIII)I"⟩
abbrev z_Fa_spread_at_Nenear : List Cond := Cond.code y_Fa_spread_at_Nenear b_Fa_spread_at_Nenear 7 (some .int) :: lw_g
def e_Fa_spread_at_Nenear : en_T := ([(2, 0, 0, [82]), (0, 0, 24, []), (0, 0, 16777215, []), (0, 0, 33554431, [])], some (0, 0, 16777215, []), true, 7, 0, 0, [], [], (0, [], [], [(20, [0, 1, 2, 3, 4], [61, 1, 579])], []))
abbrev b_Fa_spread_at_Npnear : ByteArray := prog_4_method_3_code
def y_Fa_spread_at_Npnear : MethodName := ⟨"DrawingHouse$Facts", "spread", "([IIII)I"⟩
abbrev z_Fa_spread_at_Npnear : List Cond := Cond.code y_Fa_spread_at_Npnear b_Fa_spread_at_Npnear 7 (some .int) :: lw_g
def e_Fa_spread_at_Npnear : en_T := ([(2, 0, 0, [142]), (0, 0, 25, []), (0, 0, 33554431, []), (0, 0, 33554431, [])], some (0, 0, 33554431, []), true, 7, 0, 0, [], [], (0, [], [], [(20, [0, 1, 2, 3, 4], [61, 1, 579])], []))
abbrev b_Fa_weightOf : ByteArray := prog_4_method_20_code
def y_Fa_weightOf : MethodName := ⟨"DrawingHouse$Facts", "weightOf", "(LDrawingHouse$Graph;II)I"⟩
abbrev z_Fa_weightOf : List Cond := Cond.code y_Fa_weightOf b_Fa_weightOf 4 (some .int) :: lw_g
def e_Fa_weightOf : en_T := ([(2, 0, 0, [3]), (0, 0, 23, []), (0, 0, 23, [])], some (0, 0, 9, []), true, 7, 0, 0, [([(2, 0, 0, [3]), (0, 0, 23, []), (0, 0, 23, []), (0, 0, 0, [])], [], [3], [], [], []), ([(2, 0, 0, [3]), (0, 0, 23, []), (0, 0, 23, []), (0, 0, 9, [])], [], [3], [], [], [])], [], (0, [], [], [(20, [0, 1, 2, 3], [60, 0, 3, 709, 7, 9, 15])], []))
abbrev b_Gr_addEdge_at_Gq : ByteArray := prog_5_method_15_code
def y_Gr_addEdge_at_Gq : MethodName := ⟨"DrawingHouse$Graph", "addEdge", "(III)I"⟩
abbrev z_Gr_addEdge_at_Gq : List Cond := Cond.code y_Gr_addEdge_at_Gq b_Gr_addEdge_at_Gq 5 (some .int) :: lw_g
def e_Gr_addEdge_at_Gq : en_T := ([(2, 0, 0, [164]), (0, 0, 23, []), (0, 0, 23, []), (0, 0, 1, [])], some (0, 0, 47, []), false, 7, 0, 0, [([(2, 0, 0, [164]), (0, 0, 23, []), (0, 0, 23, []), (0, 0, 1, []), (0, 0, 47, []), (2, 0, 0, [8]), (0, 0, 47, []), (0, 1, 48, [])], [], [4], [((0, 1), 7)], [(7, 4, 1, 1)], [])], [((0, 1), (0, 0, 47, []))], (9111549270234847880676097628965576950667454447616, [(164, 1)], [(20, [0], [60, 2, 3, 670, 0, 1, 14, 7, 8]), (20, [0], [60, 2, 2, 596, 0, 1, 7, 8]), (20, [1, 0, 2], [50, 1, 0, 1000, 2, 6, 0, 2, 0, 0, 1, 0, 2, 11, 0, 6, 4, 2, 1, 0, 0, 1, 2, 1, 0, 2, 6, 0, 2, 0, 0, 1, 2, 2, 11, 0, 6, 4, 2, 1, 2, 0, 1, 2, 1, 0, 3, 10, 0, 6, 4, 2, 1, 0, 0, 1, 1, 2, 0, 6, 4, 2, 1, 2, 0, 1, 1, 0]), (20, [5, 0, 1, 2], [60, 6, 5, 1067, 5, 6, 8, 1000, 1001, 1002, 0, 1004, 1003, 1007, 1008]), (20, [0], [60, 1, 3, 1085, 1, 7, 8, 15]), (20, [0, 6], [30, 0, 1, 1, 1, -1, 0, 0]), (20, [0, 6], [30, 0, -1, 1, 1, 1, 0, 0])], [(20, [0], [60, 2, 3, 670, 0, 1, 14, 7, 8]), (20, [0], [60, 2, 2, 596, 0, 1, 7, 8]), (20, [5, 0, 1, 2], [60, 6, 5, 1068, 5, 6, 8, 1000, 1001, 1002, 0, 1004, 1003, 1007, 1008]), (20, [0], [60, 1, 3, 1085, 1, 7, 8, 15]), (20, [0, 6], [50, 1, 0, 1, 1, 3, 2, 0, 1, 4, 2, 1, 1, 0, 1])], [(2, 0, 0, [8]), (0, 0, 47, [])]))
abbrev b_Gr_addEdge_at_Gr : ByteArray := prog_5_method_15_code
def y_Gr_addEdge_at_Gr : MethodName := ⟨"DrawingHouse$Graph", "addEdge", "(III)I"⟩
abbrev z_Gr_addEdge_at_Gr : List Cond := Cond.code y_Gr_addEdge_at_Gr b_Gr_addEdge_at_Gr 5 (some .int) :: lw_g
def e_Gr_addEdge_at_Gr : en_T := ([(2, 0, 0, [3]), (0, 0, 23, []), (0, 0, 23, []), (0, 0, 1, [])], some (0, 0, 47, []), false, 7, 0, 0, [([(2, 0, 0, [3]), (0, 0, 23, []), (0, 0, 23, []), (0, 0, 1, []), (0, 0, 47, []), (0, 1, 48, [])], [], [4], [((0, 1), 5)], [(5, 4, 1, 1)], [])], [((0, 1), (0, 0, 47, []))], (1796936251320827904, [(3, 1)], [(20, [0], [60, 2, 3, 670, 0, 1, 14, 7, 8]), (20, [0], [60, 2, 2, 596, 0, 1, 7, 8]), (20, [1, 0, 2], [50, 1, 0, 1000, 2, 6, 0, 2, 0, 0, 1, 0, 2, 11, 0, 6, 4, 2, 1, 0, 0, 1, 2, 1, 0, 2, 6, 0, 2, 0, 0, 1, 2, 2, 11, 0, 6, 4, 2, 1, 2, 0, 1, 2, 1, 0, 3, 10, 0, 6, 4, 2, 1, 0, 0, 1, 1, 2, 0, 6, 4, 2, 1, 2, 0, 1, 1, 0])], [(20, [0], [60, 2, 3, 670, 0, 1, 14, 7, 8]), (20, [0], [60, 2, 2, 596, 0, 1, 7, 8])], []))
abbrev b_Gr_addNode_at_Gq_Retape : ByteArray := prog_5_method_14_code
def y_Gr_addNode_at_Gq_Retape : MethodName := ⟨"DrawingHouse$Graph", "addNode", "([BIII)I"⟩
abbrev z_Gr_addNode_at_Gq_Retape : List Cond := Cond.code y_Gr_addNode_at_Gq_Retape b_Gr_addNode_at_Gq_Retape 6 (some .int) :: lw_g
def e_Gr_addNode_at_Gq_Retape : en_T := ([(2, 0, 0, [164]), (2, 0, 0, [109]), (0, 0, 2000, []), (0, 0, 8, []), (0, 0, 7, [])], some (0, 0, 23, []), false, 6, 0, 0, [([(2, 0, 0, [164]), (2, 0, 0, [109]), (0, 0, 2000, []), (0, 0, 8, []), (0, 0, 7, []), (2, 0, 0, [150]), (2, 0, 0, [151]), (2, 0, 0, [154]), (2, 0, 0, [155]), (0, 0, 48, []), (0, 0, 8, []), (0, 0, 23, []), (0, 0, 24, []), (0, 0, 2000, []), (0, 1, 24, [])], [], [11], [((0, 3), 5), ((0, 4), 6), ((0, 7), 7), ((0, 8), 8), ((0, 1), 9), ((0, 2), 10), ((0, 0), 14)], [(14, 11, 1, 1)], [])], [((0, 3), (2, 0, 0, [150])), ((0, 4), (2, 0, 0, [151])), ((0, 7), (2, 0, 0, [154])), ((0, 8), (2, 0, 0, [155])), ((0, 1), (0, 0, 48, [])), ((0, 2), (0, 0, 8, [])), ((0, 0), (0, 0, 23, []))], (2944411990052395234623243954974308466357606285312, [(164, 0)], [(21, [2, 3], [2000]), (20, [0, 12], [50, 1, 0, 0, 1, 3, 2, 0, 0, 1, 1]), (20, [0], [50, 1, 0, 0, 0, 3, 2, 0, 0, 0, 23]), (20, [0], [60, 2, 3, 670, 0, 1, 14, 7, 8]), (20, [0], [60, 2, 2, 596, 0, 1, 7, 8]), (20, [6, 5, 7, 8, 1, 2, 3, 13, 12, 9, 10], [61, 5, 1092])], [(20, [0], [60, 2, 3, 670, 0, 1, 14, 7, 8]), (20, [0], [60, 2, 2, 596, 0, 1, 7, 8]), (20, [0, 12], [50, 1, 0, 0, 1, 3, 2, 0, 0, 4, 2, 1, 1, 0, 1]), (20, [14, 12], [50, 0, 0, 1, 2, 1, 0, 1, 1]), (20, [6, 5, 7, 8, 1, 2, 3, 13, 14, 12, 9, 10], [61, 5, 1093])], [(0, 0, 24, []), (0, 0, 2000, [])]))
abbrev b_Gr_addNode_at_Gr_newGrperform45 : ByteArray := prog_5_method_14_code
def y_Gr_addNode_at_Gr_newGrperform45 : MethodName := ⟨"DrawingHouse$Graph", "addNode", "([BIII)I"⟩
abbrev z_Gr_addNode_at_Gr_newGrperform45 : List Cond := Cond.code y_Gr_addNode_at_Gr_newGrperform45 b_Gr_addNode_at_Gr_newGrperform45 6 (some .int) :: lw_g
def e_Gr_addNode_at_Gr_newGrperform45 : en_T := ([(2, 0, 0, [3]), (2, 0, 0, [297]), (0, 0, 2000, []), (0, 0, 8, []), (0, 0, 7, [])], some (0, 0, 23, []), false, 6, 0, 0, [([(2, 0, 0, [3]), (2, 0, 0, [297]), (0, 0, 2000, []), (0, 0, 8, []), (0, 0, 7, []), (0, 0, 23, []), (0, 0, 24, []), (0, 1, 24, [])], [], [5], [((0, 0), 7)], [(7, 5, 1, 1)], [])], [((0, 0), (0, 0, 23, []))], (580682876954083328, [(3, 0)], [(21, [2, 3], [3]), (20, [0, 6], [50, 1, 0, 0, 1, 3, 2, 0, 0, 1, 1]), (20, [0], [50, 1, 0, 0, 0, 3, 2, 0, 0, 0, 23]), (20, [0], [60, 2, 3, 670, 0, 1, 14, 7, 8]), (20, [0], [60, 2, 2, 596, 0, 1, 7, 8])], [(20, [0], [60, 2, 3, 670, 0, 1, 14, 7, 8]), (20, [0], [60, 2, 2, 596, 0, 1, 7, 8]), (20, [0, 6], [50, 1, 0, 0, 1, 3, 2, 0, 0, 4, 2, 1, 1, 0, 1]), (20, [7, 6], [50, 0, 0, 1, 2, 1, 0, 1, 1])], [(0, 0, 24, [])]))
abbrev b_Gr_clear_at_Gq : ByteArray := prog_5_method_2_code
def y_Gr_clear_at_Gq : MethodName := ⟨"DrawingHouse$Graph", "clear", "()V"⟩
abbrev z_Gr_clear_at_Gq : List Cond := Cond.code y_Gr_clear_at_Gq b_Gr_clear_at_Gq 1 none :: lw_g
def e_Gr_clear_at_Gq : en_T := ([(2, 0, 0, [164])], none, false, 6, 0, 0, [], [], (8769009823985417509222108996297698117935595257856, [(164, 0), (164, 1), (164, 2), (164, 17), (164, 18)], [], [(20, [0], [60, 2, 3, 670, 0, 1, 14, 7, 8]), (20, [0], [60, 2, 2, 596, 0, 1, 7, 8]), (20, [0], [50, 1, 0, 17, 1, 3, 2, 0, 17, 0, 0]), (20, [0], [50, 1, 0, 18, 1, 3, 2, 0, 18, 0, 0]), (20, [0], [60, 1, 3, 1085, 1, 7, 8, 15]), (20, [0], [50, 3, 0, 0, 1, 2, 2, 7, 1, 3, 2, 0, 0, 0, 0, 2, 7, 1, 3, 2, 0, 1, 0, 0, 1, 3, 2, 0, 2, 0, 1])], []))
abbrev b_Gr_distance : ByteArray := prog_5_method_11_code
def y_Gr_distance : MethodName := ⟨"DrawingHouse$Graph", "distance", "(II)I"⟩
abbrev z_Gr_distance : List Cond := Cond.code y_Gr_distance b_Gr_distance 5 (some .int) :: lw_g
def e_Gr_distance : en_T := ([(2, 0, 0, [3]), (0, 0, 23, []), (0, 0, 23, [])], some (0, -1, 23, []), true, 7, 0, 0, [], [], (0, [], [], [], []))
abbrev b_Gr_findNode_at_Gq_Retape : ByteArray := prog_5_method_12_code
def y_Gr_findNode_at_Gq_Retape : MethodName := ⟨"DrawingHouse$Graph", "findNode", "([BII)I"⟩
abbrev z_Gr_findNode_at_Gq_Retape : List Cond := Cond.code y_Gr_findNode_at_Gq_Retape b_Gr_findNode_at_Gq_Retape 5 (some .int) :: lw_g
def e_Gr_findNode_at_Gq_Retape : en_T := ([(2, 0, 0, [164]), (2, 0, 0, [109]), (0, 0, 2000, []), (0, 0, 8, [])], some (0, -1, 23, []), true, 7, 0, 0, [], [((0, 3), (2, 0, 0, [150])), ((0, 4), (2, 0, 0, [151])), ((0, 7), (2, 0, 0, [154])), ((0, 8), (2, 0, 0, [155])), ((0, 0), (0, 0, 24, [])), ((0, 1), (0, 0, 48, [])), ((0, 2), (0, 0, 8, []))], (0, [], [(21, [2, 3], [2000]), (20, [0, 11], [30, 0, 1, 1, 0, -1, 0, 0]), (20, [0, 11], [30, 0, -1, 1, 0, 1, 0, 0])], [(20, [12, 0], [50, 1, 0, 1000, 3, 6, 1, 2, 1, 0, 0, -1, 2, 6, 0, 2, 0, 0, 1, 0, 0, 6, 4, 2, 1, 0, 0, 1, 2, 1, 0]), (20, [5, 4, 1, 11, 2, 3, 12], [61, 3, 1091]), (20, [0, 11], [50, 1, 0, 0, 1, 3, 2, 0, 0, 1, 1])], [(0, 0, 24, [])]))
abbrev b_Gr_findNode_at_Gr_newGrhasNextName1 : ByteArray := prog_5_method_12_code
def y_Gr_findNode_at_Gr_newGrhasNextName1 : MethodName := ⟨"DrawingHouse$Graph", "findNode", "([BII)I"⟩
abbrev z_Gr_findNode_at_Gr_newGrhasNextName1 : List Cond := Cond.code y_Gr_findNode_at_Gr_newGrhasNextName1 b_Gr_findNode_at_Gr_newGrhasNextName1 5 (some .int) :: lw_g
def e_Gr_findNode_at_Gr_newGrhasNextName1 : en_T := ([(2, 0, 0, [3]), (2, 0, 0, [296]), (0, 0, 0, []), (0, 2, 3, [])], some (0, -1, 23, []), true, 7, 0, 0, [], [], (0, [], [(21, [2, 3], [3])], [(20, [4, 0], [50, 1, 0, 1000, 3, 6, 1, 2, 1, 0, 0, -1, 2, 6, 0, 2, 0, 0, 1, 0, 0, 6, 4, 2, 1, 0, 0, 1, 2, 1, 0])], []))
abbrev b_Gr_pack : ByteArray := prog_5_method_26_code
def y_Gr_pack : MethodName := ⟨"DrawingHouse$Graph", "pack", "(I)V"⟩
abbrev z_Gr_pack : List Cond := Cond.code y_Gr_pack b_Gr_pack 4 none :: lw_g
def e_Gr_pack : en_T := ([(2, 0, 0, [3]), (0, 0, 30, [])], none, false, 7, 0, 0, [], [((0, 16), (2, 0, 0, [61]))], (2305843009213693952, [], [(20, [0, 1], [60, 0, 1, 737, 16]), (20, [0], [60, 2, 2, 596, 0, 1, 7, 8])], [(20, [0, 1], [60, 0, 1, 738, 16]), (20, [0], [60, 2, 2, 596, 0, 1, 7, 8])], []))
abbrev b_Gr_relation : ByteArray := prog_5_method_9_code
def y_Gr_relation : MethodName := ⟨"DrawingHouse$Graph", "relation", "(II)I"⟩
abbrev z_Gr_relation : List Cond := Cond.code y_Gr_relation b_Gr_relation 4 (some .int) :: lw_g
def e_Gr_relation : en_T := ([(2, 0, 0, [3]), (0, 0, 23, []), (0, 0, 23, [])], some (0, 0, 3, []), true, 7, 0, 0, [([(2, 0, 0, [3]), (0, 0, 23, []), (0, 0, 23, []), (0, 3, 3, [])], [], [3], [], [], []), ([(2, 0, 0, [3]), (0, 0, 23, []), (0, 0, 23, []), (0, 2, 2, [])], [], [3], [], [], []), ([(2, 0, 0, [3]), (0, 0, 23, []), (0, 0, 23, []), (0, 1, 1, [])], [], [3], [], [], []), ([(2, 0, 0, [3]), (0, 0, 23, []), (0, 0, 23, []), (0, 0, 0, [])], [], [3], [], [], [])], [], (0, [], [], [], []))
abbrev b_Gr_removeEdge_at_gn : ByteArray := prog_5_method_23_code
def y_Gr_removeEdge_at_gn : MethodName := ⟨"DrawingHouse$Graph", "removeEdge", "(I)V"⟩
abbrev z_Gr_removeEdge_at_gn : List Cond := Cond.code y_Gr_removeEdge_at_gn b_Gr_removeEdge_at_gn 3 none :: lw_g
def e_Gr_removeEdge_at_gn : en_T := ([(2, 0, 0, [3]), (0, 0, 47, [])], none, false, 6, 0, 0, [([(2, 0, 0, [3]), (0, 0, 47, []), (2, 0, 0, [52]), (2, 0, 0, [53]), (0, 1, 48, []), (0, 0, 23, []), (0, 0, 47, [])], [], [], [((0, 7), 2), ((0, 8), 3), ((0, 1), 6)], [(6, 4, -1, -1)], [])], [((0, 7), (2, 0, 0, [52])), ((0, 8), (2, 0, 0, [53])), ((0, 1), (0, 1, 48, []))], (67553994410557440, [(3, 1)], [(20, [1, 0], [50, 1, 0, 1001, 2, 6, 0, 2, 0, 0, 1, 0, 0, 6, 4, 2, 1, 0, 0, 1, 2, 1, 1]), (20, [0], [60, 2, 2, 596, 0, 1, 7, 8]), (20, [0, 1, 5], [60, 1, 2, 757, 1, 7, 8])], [(20, [0], [60, 2, 2, 596, 0, 1, 7, 8]), (20, [0, 1, 5], [60, 1, 2, 758, 1, 7, 8]), (20, [1, 0], [50, 1, 0, 1001, 0, 2, 1, 0, 2, 1, 1])], [(0, 0, 23, [])]))
abbrev b_Gr_removeEdge_at_gx : ByteArray := prog_5_method_23_code
def y_Gr_removeEdge_at_gx : MethodName := ⟨"DrawingHouse$Graph", "removeEdge", "(I)V"⟩
abbrev z_Gr_removeEdge_at_gx : List Cond := Cond.code y_Gr_removeEdge_at_gx b_Gr_removeEdge_at_gx 3 none :: lw_g
def e_Gr_removeEdge_at_gx : en_T := ([(2, 0, 0, [3]), (0, 0, 47, [])], none, false, 6, 0, 0, [([(2, 0, 0, [3]), (0, 0, 47, []), (2, 0, 0, [52]), (2, 0, 0, [53]), (0, 1, 48, []), (0, 0, 47, [])], [], [], [((0, 7), 2), ((0, 8), 3), ((0, 1), 5)], [(5, 4, -1, -1)], [])], [((0, 7), (2, 0, 0, [52])), ((0, 8), (2, 0, 0, [53])), ((0, 1), (0, 1, 48, []))], (67553994410557440, [(3, 1)], [(20, [1, 0], [50, 1, 0, 1001, 2, 6, 0, 2, 0, 0, 1, 0, 0, 6, 4, 2, 1, 0, 0, 1, 2, 1, 1]), (20, [0], [60, 2, 2, 596, 0, 1, 7, 8])], [(20, [0], [60, 2, 2, 596, 0, 1, 7, 8])], []))
abbrev b_La_fillPairs : ByteArray := prog_6_method_18_code
def y_La_fillPairs : MethodName := ⟨"DrawingHouse$Layers", "fillPairs", "(I)V"⟩
abbrev z_La_fillPairs : List Cond := Cond.code y_La_fillPairs b_La_fillPairs 8 none :: lw_g
def e_La_fillPairs : en_T := ([(2, 0, 0, [4]), (0, 0, 22, [])], none, false, 6, 0, 0, [], [], (302231454903657293676544, [], [(20, [0], [60, 2, 2, 668, 3, 2, 7, 9]), (20, [0], [60, 1, 1, 688, 3, 12]), (20, [1, 0], [50, 1, 0, 1002, 2, 6, 0, 2, 0, 0, 1, 0, 0, 6, 4, 2, 1, 0, 0, 2, 2, 1, 2])], [], []))
abbrev b_La_halfOf : ByteArray := prog_6_method_28_code
def y_La_halfOf : MethodName := ⟨"DrawingHouse$Layers", "halfOf", "(I)I"⟩
abbrev z_La_halfOf : List Cond := Cond.code y_La_halfOf b_La_halfOf 2 (some .int) :: lw_g
def e_La_halfOf : en_T := ([(2, 0, 0, [4]), (0, 0, 71, [])], some (0, 0, 9, []), true, 7, 0, 0, [([(2, 0, 0, [4]), (0, 0, 71, []), (2, 0, 0, [3]), (0, 0, 0, [])], [], [3], [((0, 1), 2)], [], []), ([(2, 0, 0, [4]), (0, 0, 23, []), (2, 0, 0, [3]), (0, 1, 9, [])], [], [3], [((0, 1), 2)], [], [])], [((0, 1), (2, 0, 0, [3]))], (0, [], [], [], []))
abbrev b_La_listLayers : ByteArray := prog_6_method_11_code
def y_La_listLayers : MethodName := ⟨"DrawingHouse$Layers", "listLayers", "()I"⟩
abbrev z_La_listLayers : List Cond := Cond.code y_La_listLayers b_La_listLayers 5 (some .int) :: lw_g
def e_La_listLayers : en_T := ([(2, 0, 0, [4])], some (0, 0, 72, []), false, 6, 0, 0, [], [], (9149585060559937601536, [], [], [(20, [0, 1], [60, 1, 1, 635, 2, 10]), (20, [0, 1], [60, 2, 2, 691, 3, 2, 4, 12])], []))
abbrev b_La_nextOrder : ByteArray := prog_6_method_3_code
def y_La_nextOrder : MethodName := ⟨"DrawingHouse$Layers", "nextOrder", "([II)V"⟩
abbrev z_La_nextOrder : List Cond := Cond.code y_La_nextOrder b_La_nextOrder 5 none :: lw_g
def e_La_nextOrder : en_T := ([(2, 0, 0, [298]), (0, 1, 6, [])], none, false, 7, 0, 0, [], [], (509258994083621521567111422102344540262867098416484062659035112338595324940834176545849344, [], [(20, [0, 1], [61, 1, 735])], [(20, [0, 1], [61, 1, 735])], []))
abbrev b_La_settlePairs : ByteArray := prog_6_method_20_code
def y_La_settlePairs : MethodName := ⟨"DrawingHouse$Layers", "settlePairs", "(I)I"⟩
abbrev z_La_settlePairs : List Cond := Cond.code y_La_settlePairs b_La_settlePairs 6 (some .int) :: lw_g
def e_La_settlePairs : en_T := ([(2, 0, 0, [4]), (0, 0, 6, [])], some (0, -2147483648, 2147483647, []), false, 6, 0, 0, [], [], (302231454903657293676544, [], [], [], []))
abbrev b_La_sortLayer : ByteArray := prog_6_method_26_code
def y_La_sortLayer : MethodName := ⟨"DrawingHouse$Layers", "sortLayer", "(II)V"⟩
abbrev z_La_sortLayer : List Cond := Cond.code y_La_sortLayer b_La_sortLayer 6 none :: lw_g
def e_La_sortLayer : en_T := ([(2, 0, 0, [4]), (0, 0, 23, []), (0, 0, 22, [])], none, false, 7, 0, 0, [], [], (35417748621522339102720, [], [], [], []))
abbrev b_Ne_init : ByteArray := prog_7_method_1_code
def y_Ne_init : MethodName := ⟨"DrawingHouse$Net", "<init>", "()V"⟩
abbrev z_Ne_init : List Cond := Cond.code y_Ne_init b_Ne_init 1 none :: lw_g
def e_Ne_init : en_T := ([(2, 0, 0, [305])], none, false, 6, 10, 1444, [([(2, 0, 0, [305]), (3, 0, 0, [284]), (3, 0, 0, [285]), (3, 0, 0, [286]), (3, 0, 0, [287]), (3, 0, 0, [288]), (3, 0, 0, [289]), (3, 0, 0, [290]), (3, 0, 0, [291]), (3, 0, 0, [292]), (3, 0, 0, [293]), (2, 0, 0, [284]), (2, 0, 0, [285]), (2, 0, 0, [286]), (2, 0, 0, [287]), (2, 0, 0, [288]), (2, 0, 0, [289]), (2, 0, 0, [290]), (2, 0, 0, [291]), (2, 0, 0, [292]), (2, 0, 0, [293])], [], [], [((0, 4), 11), ((0, 7), 12), ((0, 8), 13), ((0, 9), 14), ((0, 10), 15), ((0, 11), 16), ((0, 12), 17), ((0, 14), 18), ((0, 15), 19), ((0, 16), 20)], [], [])], [((0, 4), (3, 0, 0, [284])), ((0, 7), (3, 0, 0, [285])), ((0, 8), (3, 0, 0, [286])), ((0, 9), (3, 0, 0, [287])), ((0, 10), (3, 0, 0, [288])), ((0, 11), (3, 0, 0, [289])), ((0, 12), (3, 0, 0, [290])), ((0, 14), (3, 0, 0, [291])), ((0, 15), (3, 0, 0, [292])), ((0, 16), (3, 0, 0, [293]))], (0, [(305, 0), (305, 1), (305, 2), (305, 3), (305, 4), (305, 5), (305, 6), (305, 7), (305, 8), (305, 9), (305, 10), (305, 11), (305, 12), (305, 13), (305, 14), (305, 15), (305, 16)], [], [], []))
abbrev b_Ne_begin_at_Ne : ByteArray := prog_7_method_3_code
def y_Ne_begin_at_Ne : MethodName := ⟨"DrawingHouse$Net", "begin", "(I)V"⟩
abbrev z_Ne_begin_at_Ne : List Cond := Cond.code y_Ne_begin_at_Ne b_Ne_begin_at_Ne 2 none :: lw_g
def e_Ne_begin_at_Ne : en_T := ([(2, 0, 0, [5]), (0, 0, 24, [])], none, false, 6, 0, 0, [], [], (53192736063043683687071744, [(5, 5), (5, 6), (5, 13)], [], [(20, [0], [60, 2, 3, 595, 5, 6, 7, 8, 9]), (20, [0, 1], [50, 1, 0, 5, 1, 3, 2, 0, 5, 1, 1]), (20, [0], [50, 1, 0, 6, 1, 3, 2, 0, 6, 0, 0])], []))
abbrev b_Ne_begin_at_Np : ByteArray := prog_7_method_3_code
def y_Ne_begin_at_Np : MethodName := ⟨"DrawingHouse$Net", "begin", "(I)V"⟩
abbrev z_Ne_begin_at_Np : List Cond := Cond.code y_Ne_begin_at_Np b_Ne_begin_at_Np 2 none :: lw_g
def e_Ne_begin_at_Np : en_T := ([(2, 0, 0, [149]), (0, 0, 24, [])], none, false, 6, 0, 0, [], [], (61327049295959213639223225249782994141446144, [(149, 5), (149, 6), (149, 13)], [], [(20, [0], [60, 2, 3, 595, 5, 6, 7, 8, 9]), (20, [0, 1], [50, 1, 0, 5, 1, 3, 2, 0, 5, 1, 1]), (20, [0], [50, 1, 0, 6, 1, 3, 2, 0, 6, 0, 0])], []))
abbrev b_Ne_begin_at_Nq : ByteArray := prog_7_method_3_code
def y_Ne_begin_at_Nq : MethodName := ⟨"DrawingHouse$Net", "begin", "(I)V"⟩
abbrev z_Ne_begin_at_Nq : List Cond := Cond.code y_Ne_begin_at_Nq b_Ne_begin_at_Nq 2 none :: lw_g
def e_Ne_begin_at_Nq : en_T := ([(2, 0, 0, [294]), (0, 0, 24, [])], none, false, 6, 0, 0, [], [], (2735277800253826531854602364807514620552508829385412445922551872912377233568933565431808, [(294, 5), (294, 6), (294, 13)], [], [(20, [0], [60, 2, 3, 595, 5, 6, 7, 8, 9]), (20, [0, 1], [50, 1, 0, 5, 1, 3, 2, 0, 5, 1, 1]), (20, [0], [50, 1, 0, 6, 1, 3, 2, 0, 6, 0, 0])], []))
abbrev b_Ne_insertBehind : ByteArray := prog_7_method_8_code
def y_Ne_insertBehind : MethodName := ⟨"DrawingHouse$Net", "insertBehind", "(III)V"⟩
abbrev z_Ne_insertBehind : List Cond := Cond.code y_Ne_insertBehind b_Ne_insertBehind 4 none :: lw_g
def e_Ne_insertBehind : en_T := ([(2, 0, 0, [294]), (0, 0, 71, []), (0, 0, 23, []), (0, 0, 71, [])], none, false, 7, 0, 0, [], [], (994646472819573284310764496293641680200912301594695434880927953786318994025066751066112, [], [], [], []))
abbrev b_Pl_init : ByteArray := prog_8_method_1_code
def y_Pl_init : MethodName := ⟨"DrawingHouse$PlainWays", "<init>", "()V"⟩
abbrev z_Pl_init : List Cond := Cond.code y_Pl_init b_Pl_init 1 none :: lw_g
def e_Pl_init : en_T := ([(2, 0, 0, [302])], none, false, 6, 13, 308, [([(2, 0, 0, [302]), (3, 0, 0, [89]), (3, 0, 0, [90]), (3, 0, 0, [91]), (3, 0, 0, [92]), (3, 0, 0, [93]), (3, 0, 0, [94]), (3, 0, 0, [95]), (3, 0, 0, [96]), (3, 0, 0, [97]), (3, 0, 0, [98]), (3, 0, 0, [99]), (3, 0, 0, [100]), (3, 0, 0, [101]), (2, 0, 0, [89]), (2, 0, 0, [90]), (2, 0, 0, [91]), (2, 0, 0, [92]), (2, 0, 0, [93]), (2, 0, 0, [94]), (2, 0, 0, [95]), (2, 0, 0, [96]), (2, 0, 0, [97]), (2, 0, 0, [98]), (2, 0, 0, [99]), (2, 0, 0, [100]), (2, 0, 0, [101])], [], [], [((0, 2), 14), ((0, 3), 15), ((0, 4), 16), ((0, 5), 17), ((0, 6), 18), ((0, 7), 19), ((0, 9), 20), ((0, 10), 21), ((0, 12), 22), ((0, 15), 23), ((0, 16), 24), ((0, 17), 25), ((0, 18), 26)], [], [])], [((0, 2), (3, 0, 0, [89])), ((0, 3), (3, 0, 0, [90])), ((0, 4), (3, 0, 0, [91])), ((0, 5), (3, 0, 0, [92])), ((0, 6), (3, 0, 0, [93])), ((0, 7), (3, 0, 0, [94])), ((0, 9), (3, 0, 0, [95])), ((0, 10), (3, 0, 0, [96])), ((0, 12), (3, 0, 0, [97])), ((0, 15), (3, 0, 0, [98])), ((0, 16), (3, 0, 0, [99])), ((0, 17), (3, 0, 0, [100])), ((0, 18), (3, 0, 0, [101]))], (0, [(302, 0), (302, 1), (302, 2), (302, 3), (302, 4), (302, 5), (302, 6), (302, 7), (302, 8), (302, 9), (302, 10), (302, 11), (302, 12), (302, 13), (302, 14), (302, 15), (302, 16), (302, 17), (302, 18)], [], [], []))
abbrev b_Pl_crossingsAt : ByteArray := prog_8_method_19_code
def y_Pl_crossingsAt : MethodName := ⟨"DrawingHouse$PlainWays", "crossingsAt", "(II)I"⟩
abbrev z_Pl_crossingsAt : List Cond := Cond.code y_Pl_crossingsAt b_Pl_crossingsAt 7 (some .int) :: lw_g
def e_Pl_crossingsAt : en_T := ([(2, 0, 0, [6]), (0, 0, 23, []), (0, 0, 16777215, [])], some (0, -2147483648, 2147483647, []), true, 6, 0, 0, [], [((0, 0), (2, 0, 0, [3]))], (0, [], [], [], []))
abbrev b_Pl_fewestNeighbours : ByteArray := prog_8_method_26_code
def y_Pl_fewestNeighbours : MethodName := ⟨"DrawingHouse$PlainWays", "fewestNeighbours", "(I)I"⟩
abbrev z_Pl_fewestNeighbours : List Cond := Cond.code y_Pl_fewestNeighbours b_Pl_fewestNeighbours 6 (some .int) :: lw_g
def e_Pl_fewestNeighbours : en_T := ([(2, 0, 0, [6]), (0, 0, 16777215, [])], some (0, 0, 23, []), true, 6, 0, 0, [], [((0, 0), (2, 0, 0, [3]))], (0, [], [], [(20, [2, 1, 3], [60, 1, 0, 547, 0])], []))
abbrev b_Pl_layRow : ByteArray := prog_8_method_16_code
def y_Pl_layRow : MethodName := ⟨"DrawingHouse$PlainWays", "layRow", "(IIII)V"⟩
abbrev z_Pl_layRow : List Cond := Cond.code y_Pl_layRow b_Pl_layRow 12 none :: lw_g
def e_Pl_layRow : en_T := ([(2, 0, 0, [6]), (0, 0, 31, []), (0, 1, 32, []), (0, 0, 131071, []), (0, -2147483648, 131071, [])], none, false, 7, 0, 0, [], [((0, 1), (2, 0, 0, [0]))], (158456325028528675187092094976, [], [(20, [0], [60, 0, 1, 845, 12]), (20, [5], [60, 0, 1, 844, 13]), (20, [0, 1, 2, 3, 4], [60, 0, 1, 848, 10])], [(20, [0], [60, 0, 1, 845, 12]), (20, [5], [60, 0, 1, 844, 13])], []))
abbrev b_Pn_pickFromLine : ByteArray := prog_9_method_9_code
def y_Pn_pickFromLine : MethodName := ⟨"DrawingHouse$PlanarWays", "pickFromLine", "()I"⟩
abbrev z_Pn_pickFromLine : List Cond := Cond.code y_Pn_pickFromLine b_Pn_pickFromLine 5 (some .int) :: lw_g
def e_Pn_pickFromLine : en_T := ([(2, 0, 0, [7])], some (0, 1, 23, []), true, 6, 0, 0, [], [], (0, [], [], [(20, [1, 0], [50, 1, 0, 1003, 3, 6, 1, 2, 1, 0, 0, 1, 2, 6, 0, 2, 0, 1, 1, 0, 0, 6, 4, 2, 1, 0, 0, 2, 2, 1, 3])], []))
abbrev b_Pn_raiseNodes : ByteArray := prog_9_method_18_code
def y_Pn_raiseNodes : MethodName := ⟨"DrawingHouse$PlanarWays", "raiseNodes", "(LDrawingHouse$Graph;LDrawingHouse$Drawing;)V"⟩
abbrev z_Pn_raiseNodes : List Cond := Cond.code y_Pn_raiseNodes b_Pn_raiseNodes 6 none :: lw_g
def e_Pn_raiseNodes : en_T := ([(2, 0, 0, [7]), (2, 0, 0, [3]), (2, 0, 0, [0])], none, false, 6, 0, 0, [], [], (32768, [], [(20, [3, 4], [62, 2000000]), (20, [0, 1], [60, 1, 1, 911, 1000, 2])], [(20, [3, 4], [62, 2000000]), (20, [1, 2], [60, 1, 1, 912, 0, 1003])], [(2, 0, 0, [12]), (0, 0, 3072, [])]))
abbrev b_Pn_replaceInLine_at_gg : ByteArray := prog_9_method_11_code
def y_Pn_replaceInLine_at_gg : MethodName := ⟨"DrawingHouse$PlanarWays", "replaceInLine", "(III)V"⟩
abbrev z_Pn_replaceInLine_at_gg : List Cond := Cond.code y_Pn_replaceInLine_at_gg b_Pn_replaceInLine_at_gg 5 none :: lw_g
def e_Pn_replaceInLine_at_gg : en_T := ([(2, 0, 0, [7]), (0, 1, 24, []), (0, -24, 22, []), (0, 1, 1, [])], none, false, 6, 0, 0, [([(2, 0, 0, [7]), (0, 1, 24, []), (0, -24, 22, []), (0, 1, 1, []), (2, 0, 0, [102]), (0, 3, 23, [])], [], [], [((0, 1), 4)], [], []), ([(2, 0, 0, [7]), (0, 1, 24, []), (0, 0, 22, []), (0, 1, 1, []), (2, 0, 0, [102]), (0, 3, 23, [])], [], [], [((0, 1), 4)], [], []), ([(2, 0, 0, [7]), (0, 1, 24, []), (0, -24, -1, []), (0, 1, 1, []), (2, 0, 0, [102]), (0, 3, 23, [])], [], [], [((0, 1), 4)], [], [])], [((0, 1), (2, 0, 0, [102]))], (10141204801825835211973625643008, [(7, 3)], [(20, [0, 5], [60, 1, 2, 889, 3, 2, 1]), (20, [0, 5], [50, 0, 2, 6, 1, 1, 5, 3, 0, 6, 0, 0, 3, 0, 1, 1, 1]), (20, [1, 2, 0], [50, 1, 0, 2003, 2, 6, 0, 2, 0, 1, 1, 0, 0, 10, 4, 6, 4, 2, 1, 0, 1, 1, 0, 1, 2, 2, 3]), (20, [3], [50, 0, 0, 1, 2, 1, 0, 0, 1])], [(20, [0, 5], [60, 1, 2, 890, 3, 2, 1])], [(0, 3, 23, [])]))
abbrev b_Pn_replaceInLine_at_gi : ByteArray := prog_9_method_11_code
def y_Pn_replaceInLine_at_gi : MethodName := ⟨"DrawingHouse$PlanarWays", "replaceInLine", "(III)V"⟩
abbrev z_Pn_replaceInLine_at_gi : List Cond := Cond.code y_Pn_replaceInLine_at_gi b_Pn_replaceInLine_at_gi 5 none :: lw_g
def e_Pn_replaceInLine_at_gi : en_T := ([(2, 0, 0, [7]), (0, 0, 23, []), (0, 0, 0, []), (0, 0, 23, [])], none, false, 6, 0, 0, [([(2, 0, 0, [7]), (0, 0, 23, []), (0, 0, 0, []), (0, 1, 23, []), (2, 0, 0, [106]), (0, -2147483648, 2147483647, []), (0, -2147483648, 2147483647, []), (0, 0, 24, [])], [], [], [((0, 6), 4)], [], []), ([(2, 0, 0, [7]), (0, 0, 23, []), (0, 0, 0, []), (0, 0, 23, []), (2, 0, 0, [106]), (0, -2147483648, 2147483647, []), (0, -2147483648, 2147483647, []), (0, 0, 24, [])], [], [], [((0, 6), 4)], [], [])], [((0, 6), (2, 0, 0, [106]))], (10141204801825835211973625643008, [(7, 3)], [(20, [0, 5, 6], [60, 1, 1, 900, 3, 2]), (20, [0, 5, 6, 3], [60, 0, 1, 909, 6]), (20, [1, 0], [50, 1, 0, 1003, 2, 6, 0, 2, 0, 0, 1, 0, 0, 2, 1, 0, 2, 1, 3]), (20, [2], [50, 0, 0, 1, 2, 1, 0, 0, 0]), (20, [3], [50, 0, 0, 0, 2, 0, 1, 1, 0]), (20, [7, 0], [50, 1, 0, 1003, 0, 6, 4, 2, 1, 0, 0, 2, 2, 1, 3])], [(20, [0, 5, 6], [60, 1, 1, 901, 3, 2]), (20, [7, 0], [50, 1, 0, 1003, 0, 6, 4, 2, 1, 0, 0, 3, 2, 1, 3])], [(0, -2147483648, 2147483647, []), (0, -2147483648, 2147483647, []), (0, 0, 24, [])]))
abbrev b_Pn_replaceInLine_at_gx : ByteArray := prog_9_method_11_code
def y_Pn_replaceInLine_at_gx : MethodName := ⟨"DrawingHouse$PlanarWays", "replaceInLine", "(III)V"⟩
abbrev z_Pn_replaceInLine_at_gx : List Cond := Cond.code y_Pn_replaceInLine_at_gx b_Pn_replaceInLine_at_gx 5 none :: lw_g
def e_Pn_replaceInLine_at_gx : en_T := ([(2, 0, 0, [7]), (0, 1, 22, []), (0, 1, 1, []), (0, 0, 24, [])], none, false, 6, 0, 0, [], [], (10141204801825835211973625643008, [(7, 3)], [], [], []))
abbrev b_Ro_init : ByteArray := prog_11_method_1_code
def y_Ro_init : MethodName := ⟨"DrawingHouse$Router", "<init>", "()V"⟩
abbrev z_Ro_init : List Cond := Cond.code y_Ro_init b_Ro_init 1 none :: lw_g
def e_Ro_init : en_T := ([(2, 0, 0, [303])], none, false, 6, 7, 126060, [([(2, 0, 0, [303]), (3, 0, 0, [111]), (3, 0, 0, [112]), (3, 0, 0, [113]), (3, 0, 0, [114]), (3, 0, 0, [115]), (3, 0, 0, [116]), (3, 0, 0, [117]), (2, 0, 0, [111]), (2, 0, 0, [112]), (2, 0, 0, [113]), (2, 0, 0, [114]), (2, 0, 0, [115]), (2, 0, 0, [116]), (2, 0, 0, [117])], [], [], [((0, 9), 8), ((0, 10), 9), ((0, 11), 10), ((0, 12), 11), ((0, 13), 12), ((0, 15), 13), ((0, 16), 14)], [], [])], [((0, 9), (3, 0, 0, [111])), ((0, 10), (3, 0, 0, [112])), ((0, 11), (3, 0, 0, [113])), ((0, 12), (3, 0, 0, [114])), ((0, 13), (3, 0, 0, [115])), ((0, 15), (3, 0, 0, [116])), ((0, 16), (3, 0, 0, [117]))], (0, [(303, 0), (303, 1), (303, 2), (303, 3), (303, 4), (303, 5), (303, 6), (303, 7), (303, 8), (303, 9), (303, 10), (303, 11), (303, 12), (303, 13), (303, 14), (303, 15), (303, 16), (303, 17)], [], [], []))
abbrev b_Ro_nextStep : ByteArray := prog_11_method_11_code
def y_Ro_nextStep : MethodName := ⟨"DrawingHouse$Router", "nextStep", "(III)I"⟩
abbrev z_Ro_nextStep : List Cond := Cond.code y_Ro_nextStep b_Ro_nextStep 7 (some .int) :: lw_g
def e_Ro_nextStep : en_T := ([(2, 0, 0, [9]), (0, 0, 5999, []), (0, -1, 3, []), (0, -2147483648, 1000000000, [])], some (0, 0, 3, []), true, 7, 0, 0, [], [], (0, [], [(20, [0], [50, 2, 0, 4, 5, 2, 7, 0, 2, 0, 1, 2, 0, 4, 2, 7, 0, 2, 0, 1, 2, 0, 5, 0, 8, 6, 3, 2, 0, 4, 2, 0, 5, 0, 6000]), (20, [1, 0], [50, 2, 0, 1004, 1005, 0, 6, 4, 2, 1, 0, 0, 1, 6, 3, 2, 1, 4, 2, 1, 5])], [], []))
abbrev b_St_init : ByteArray := prog_12_method_1_code
def y_St_init : MethodName := ⟨"DrawingHouse$Stretch", "<init>", "()V"⟩
abbrev z_St_init : List Cond := Cond.code y_St_init b_St_init 1 none :: lw_g
def e_St_init : en_T := ([(2, 0, 0, [300])], none, false, 6, 7, 1752, [([(2, 0, 0, [300]), (3, 0, 0, [118]), (3, 0, 0, [119]), (3, 0, 0, [120]), (3, 0, 0, [121]), (3, 0, 0, [122]), (3, 0, 0, [123]), (3, 0, 0, [124]), (2, 0, 0, [118]), (2, 0, 0, [119]), (2, 0, 0, [120]), (2, 0, 0, [121]), (2, 0, 0, [122]), (2, 0, 0, [123]), (2, 0, 0, [124])], [], [], [((0, 2), 8), ((0, 3), 9), ((0, 4), 10), ((0, 5), 11), ((0, 6), 12), ((0, 7), 13), ((0, 8), 14)], [], [])], [((0, 2), (3, 0, 0, [118])), ((0, 3), (3, 0, 0, [119])), ((0, 4), (3, 0, 0, [120])), ((0, 5), (3, 0, 0, [121])), ((0, 6), (3, 0, 0, [122])), ((0, 7), (3, 0, 0, [123])), ((0, 8), (3, 0, 0, [124]))], (0, [(300, 0), (300, 1), (300, 2), (300, 3), (300, 4), (300, 5), (300, 6), (300, 7), (300, 8)], [], [], []))
abbrev b_St_addGap_at_gl : ByteArray := prog_12_method_4_code
def y_St_addGap_at_gl : MethodName := ⟨"DrawingHouse$Stretch", "addGap", "(III)V"⟩
abbrev z_St_addGap_at_gl : List Cond := Cond.code y_St_addGap_at_gl b_St_addGap_at_gl 4 none :: lw_g
def e_St_addGap_at_gl : en_T := ([(2, 0, 0, [10]), (0, 0, 23, []), (0, 0, 23, []), (0, 1, 1, [])], none, false, 7, 0, 0, [], [], (4984604984193434523389276476051292160, [(10, 1)], [(20, [0, 4, 5, 6], [60, 1, 8, 651, 1, 2, 3, 4, 5, 1007, 1008, 1009, 2009]), (20, [4, 5, 6, 1, 2], [60, 0, 4, 657, 7, 8, 9, 1009]), (20, [6], [50, 0, 0, 0, 2, 1, 0, 0, 191]), (20, [3], [50, 0, 0, 1, 2, 1, 0, 0, 1])], [(20, [0, 4, 5, 6], [60, 1, 8, 653, 1, 2, 3, 4, 5, 1007, 1008, 1009, 2009])], [(2, 0, 0, [3]), (2, 0, 0, [2]), (0, 0, 384, [])]))
abbrev b_St_addGap_at_gx : ByteArray := prog_12_method_4_code
def y_St_addGap_at_gx : MethodName := ⟨"DrawingHouse$Stretch", "addGap", "(III)V"⟩
abbrev z_St_addGap_at_gx : List Cond := Cond.code y_St_addGap_at_gx b_St_addGap_at_gx 4 none :: lw_g
def e_St_addGap_at_gx : en_T := ([(2, 0, 0, [10]), (0, 0, 71, []), (0, 0, 71, []), (0, 2, 20, [])], none, false, 7, 0, 0, [], [], (4984604984193434523389276476051292160, [(10, 1)], [], [], []))
abbrev b_St_addPiece_at_gl : ByteArray := prog_12_method_3_code
def y_St_addPiece_at_gl : MethodName := ⟨"DrawingHouse$Stretch", "addPiece", "(III)V"⟩
abbrev z_St_addPiece_at_gl : List Cond := Cond.code y_St_addPiece_at_gl b_St_addPiece_at_gl 4 none :: lw_g
def e_St_addPiece_at_gl : en_T := ([(2, 0, 0, [10]), (0, 0, 23, []), (0, 0, 23, []), (0, 0, 9, [])], none, false, 7, 0, 0, [], [], (4984604984193434523389276476051292160, [(10, 1)], [(20, [0, 4, 5, 6], [60, 1, 8, 651, 1, 2, 3, 4, 5, 1007, 1008, 1009, 2009]), (20, [4, 5, 6, 1, 2, 3], [60, 0, 4, 656, 7, 8, 9, 1009]), (20, [6], [50, 0, 0, 0, 2, 1, 0, 0, 191])], [(20, [0, 4, 5, 6], [60, 1, 8, 653, 1, 2, 3, 4, 5, 1007, 1008, 1009, 2009])], [(2, 0, 0, [3]), (2, 0, 0, [2]), (0, 0, 384, [])]))
abbrev b_St_addPiece_at_gx : ByteArray := prog_12_method_3_code
def y_St_addPiece_at_gx : MethodName := ⟨"DrawingHouse$Stretch", "addPiece", "(III)V"⟩
abbrev z_St_addPiece_at_gx : List Cond := Cond.code y_St_addPiece_at_gx b_St_addPiece_at_gx 4 none :: lw_g
def e_St_addPiece_at_gx : en_T := ([(2, 0, 0, [10]), (0, 0, 71, []), (0, 0, 71, []), (0, 0, 576, [])], none, false, 7, 0, 0, [], [], (4984604984193434523389276476051292160, [(10, 1)], [], [], []))
abbrev b_St_ringInBy : ByteArray := prog_12_method_9_code
def y_St_ringInBy : MethodName := ⟨"DrawingHouse$Stretch", "ringInBy", "()I"⟩
abbrev z_St_ringInBy : List Cond := Cond.code y_St_ringInBy b_St_ringInBy 4 (some .int) :: lw_g
def e_St_ringInBy : en_T := ([(2, 0, 0, [10])], some (0, -1, 71, []), false, 6, 0, 0, [], [], (21267647932558653966460912964485513216, [], [], [(20, [0, 1], [60, 1, 2, 512, 0, 2, 7])], []))
abbrev b_St_sendRound_at_gl : ByteArray := prog_12_method_10_code
def y_St_sendRound_at_gl : MethodName := ⟨"DrawingHouse$Stretch", "sendRound", "(I)V"⟩
abbrev z_St_sendRound_at_gl : List Cond := Cond.code y_St_sendRound_at_gl b_St_sendRound_at_gl 5 none :: lw_g
def e_St_sendRound_at_gl : en_T := ([(2, 0, 0, [10]), (0, 0, 71, [])], none, false, 6, 0, 0, [], [], (1329227995784915872903807060280344576, [], [(20, [0], [60, 2, 5, 529, 0, 1, 2, 3, 4, 5, 7]), (20, [0, 1], [60, 0, 2, 509, 2, 7]), (20, [0, 2], [60, 2, 4, 530, 0, 1, 2, 3, 4, 5]), (20, [1, 0], [50, 1, 0, 1000, 2, 6, 0, 2, 0, 0, 1, 0, 0, 6, 4, 2, 1, 0, 0, 1, 2, 1, 0])], [(20, [0, 2], [60, 2, 4, 531, 0, 1, 2, 3, 4, 5])], [(0, 0, 9999, [])]))
abbrev b_St_sendRound_at_gr : ByteArray := prog_12_method_10_code
def y_St_sendRound_at_gr : MethodName := ⟨"DrawingHouse$Stretch", "sendRound", "(I)V"⟩
abbrev z_St_sendRound_at_gr : List Cond := Cond.code y_St_sendRound_at_gr b_St_sendRound_at_gr 5 none :: lw_g
def e_St_sendRound_at_gr : en_T := ([(2, 0, 0, [10]), (0, 0, 71, [])], none, false, 6, 0, 0, [], [], (1329227995784915872903807060280344576, [], [(20, [0, 1], [60, 0, 2, 509, 2, 7])], [], []))
abbrev b_Sy_init : ByteArray := prog_13_method_1_code
def y_Sy_init : MethodName := ⟨"DrawingHouse$Styler", "<init>", "()V"⟩
abbrev z_Sy_init : List Cond := Cond.code y_Sy_init b_Sy_init 1 none :: lw_g
def e_Sy_init : en_T := ([(2, 0, 0, [304])], none, false, 6, 5, 2427, [([(2, 0, 0, [304]), (3, 0, 0, [5004, 5007]), (3, 0, 0, [126]), (3, 0, 0, [127]), (3, 0, 0, [128]), (3, 0, 0, [129]), (3, 0, 0, [130]), (2, 0, 0, [5004]), (2, 0, 0, [126]), (2, 0, 0, [127]), (2, 0, 0, [128]), (2, 0, 0, [129]), (2, 0, 0, [130])], [], [], [((0, 9), 7), ((0, 10), 8), ((0, 12), 9), ((0, 13), 10), ((0, 14), 11), ((0, 16), 12)], [], [])], [((0, 9), (3, 0, 0, [5004, 5007])), ((0, 10), (3, 0, 0, [126])), ((0, 12), (3, 0, 0, [127])), ((0, 13), (3, 0, 0, [128])), ((0, 14), (3, 0, 0, [129])), ((0, 16), (3, 0, 0, [130]))], (0, [(304, 0), (304, 1), (304, 2), (304, 3), (304, 4), (304, 5), (304, 6), (304, 7), (304, 8), (304, 9), (304, 10), (304, 11), (304, 12), (304, 13), (304, 14), (304, 15), (304, 16)], [], [], []))
abbrev b_Sy_join : ByteArray := prog_13_method_25_code
def y_Sy_join : MethodName := ⟨"DrawingHouse$Styler", "join", "(IJJ)J"⟩
abbrev z_Sy_join : List Cond := Cond.code y_Sy_join b_Sy_join 5 (some .long) :: lw_g
def e_Sy_join : en_T := ([(0, 2, 12, []), (1, -9223372036854775808, 9223372036854775807, []), (1, -9223372036854775808, 9223372036854775807, [])], some (1, -9223372036854775808, 9223372036854775807, []), true, 6, 0, 0, [], [], (0, [], [], [], []))
abbrev b_Mo_apartNode : ByteArray := prog_15_method_144_code
def y_Mo_apartNode : MethodName := ⟨"DrawingHouseModel", "apartNode", "()I"⟩
abbrev z_Mo_apartNode : List Cond := Cond.code y_Mo_apartNode b_Mo_apartNode 2 (some .int) :: lw_g
def e_Mo_apartNode : en_T := ([(2, 0, 0, [165])], some (0, -1, 24, []), false, 7, 0, 0, [], [], (49039857307708443467467104868809893875799651909875269632, [], [(20, [0], [60, 2, 2, 75, 31, 32, 33, 34]), (20, [0], [50, 1, 0, 31, 0, 2, 0, 1, 2, 0, 31])], [(20, [0, 1], [60, 2, 3, 265, 31, 32, 33, 34, 35])], []))
abbrev b_Mo_augment : ByteArray := prog_15_method_115_code
def y_Mo_augment : MethodName := ⟨"DrawingHouseModel", "augment", "(III)Z"⟩
abbrev z_Mo_augment : List Cond := Cond.code y_Mo_augment b_Mo_augment 8 (some .boolean) :: lw_g
def e_Mo_augment : en_T := ([(2, 0, 0, [165]), (0, 2, 78, []), (0, 0, 76, []), (0, 1, 77, [])], some (0, 0, 1, []), false, 7, 0, 0, [], [], (1509757013360435828501352844873099317723680087662272058941802173956096, [], [(20, [2, 1], [50, 0, 0, 0, 6, 4, 2, 1, 0, 0, 1, 1, 1]), (20, [3, 1], [50, 0, 0, 0, 6, 4, 2, 1, 0, 0, 1, 1, 1]), (20, [1], [50, 0, 0, 0, 2, 1, 0, 0, 78]), (20, [1, 0], [50, 1, 0, 1079, 1, 2, 1, 0, 4, 3, 2, 1, 79, 0, 2]), (20, [2, 0], [50, 1, 0, 1079, 1, 2, 1, 0, 2, 1, 79]), (20, [3, 0], [50, 1, 0, 1079, 1, 2, 1, 0, 4, 3, 2, 1, 79, 0, 1]), (20, [0], [60, 3, 9, 397, 79, 80, 81, 90, 82, 83, 84, 85, 86, 87, 88, 89]), (20, [0, 4], [60, 1, 1, 398, 79, 90])], [(20, [0], [60, 3, 9, 397, 79, 80, 81, 90, 82, 83, 84, 85, 86, 87, 88, 89]), (20, [0, 5, 4], [60, 1, 1, 400, 79, 90]), (20, [0, 1, 2, 3, 5], [60, 0, 2, 405, 90, 91])], [(0, -2, 180000001, [])]))
abbrev b_Mo_blocksOf : ByteArray := prog_15_method_96_code
def y_Mo_blocksOf : MethodName := ⟨"DrawingHouseModel", "blocksOf", "(I)I"⟩
abbrev z_Mo_blocksOf : List Cond := Cond.code y_Mo_blocksOf b_Mo_blocksOf 6 (some .int) :: lw_g
def e_Mo_blocksOf : en_T := ([(2, 0, 0, [165]), (0, 0, 23, [])], some (0, -2147483648, 2147483647, []), true, 7, 0, 0, [], [], (0, [], [], [], []))
abbrev b_Mo_byMeans : ByteArray := prog_15_method_136_code
def y_Mo_byMeans : MethodName := ⟨"DrawingHouseModel", "byMeans", "(IZ)V"⟩
abbrev z_Mo_byMeans : List Cond := Cond.code y_Mo_byMeans b_Mo_byMeans 11 none :: lw_g
def e_Mo_byMeans : en_T := ([(2, 0, 0, [165]), (0, 0, 75, []), (0, 0, 1, [])], none, false, 7, 0, 0, [], [], (11761017486697315289871219813695237100605646559552557594736471678904323538944, [], [(20, [0], [60, 4, 6, 445, 5, 100, 101, 107, 2, 95, 102, 104, 108, 109]), (20, [0], [60, 2, 3, 448, 100, 101, 102, 105, 106]), (20, [1, 0], [50, 1, 0, 1101, 2, 6, 0, 2, 0, 0, 1, 0, 0, 6, 4, 2, 1, 0, 0, 1, 2, 1, 101])], [(20, [0], [60, 2, 3, 448, 100, 101, 102, 105, 106])], []))
abbrev b_Mo_choose : ByteArray := prog_15_method_81_code
def y_Mo_choose : MethodName := ⟨"DrawingHouseModel", "choose", "()I"⟩
abbrev z_Mo_choose : List Cond := Cond.code y_Mo_choose b_Mo_choose 6 (some .int) :: lw_g
def e_Mo_choose : en_T := ([(2, 0, 0, [165])], some (0, -1, 79, []), true, 7, 0, 0, [], [], (0, [], [], [(20, [0, 1], [60, 2, 3, 118, 32, 39, 44, 50, 51])], []))
abbrev b_Mo_comma : ByteArray := prog_15_method_220_code
def y_Mo_comma : MethodName := ⟨"DrawingHouseModel", "comma", "()Z"⟩
abbrev z_Mo_comma : List Cond := Cond.code y_Mo_comma b_Mo_comma 1 (some .boolean) :: lw_g
def e_Mo_comma : en_T := ([(2, 0, 0, [165])], some (0, 0, 1, []), false, 7, 0, 0, [], [], (0, [(165, 158)], [(20, [0], [50, 2, 1, 158, 157, 160, 2, 12, 0, 7, 4, 3, 2, 0, 158, 0, 1, 2, 0, 157, 2, 7, 0, 3, 2, 0, 157, 0, 2010, 3, 14, 1, 10, 3, 0, 160, 5, 3, 2, 0, 157, 0, 1, 0, 0, 1, 10, 3, 0, 160, 5, 3, 2, 0, 157, 0, 1, 0, 4]), (20, [0, 1], [30, 0, 1, 1, 158, -1, 0, 0]), (20, [0, 1], [30, 0, -1, 1, 158, 1, 0, 0]), (20, [0, 2], [50, 1, 0, 8, 1, 3, 2, 0, 8, 1, 1])], [(20, [0], [50, 2, 1, 158, 157, 160, 2, 12, 0, 7, 4, 3, 2, 0, 158, 0, 1, 2, 0, 157, 2, 7, 0, 3, 2, 0, 157, 0, 2010, 3, 14, 1, 10, 3, 0, 160, 5, 3, 2, 0, 157, 0, 1, 0, 0, 1, 10, 3, 0, 160, 5, 3, 2, 0, 157, 0, 1, 0, 4]), (20, [1, 3, 0], [30, 0, 1, 0, 0, 1, 0, 0, -1, 1, 158]), (20, [0, 3, 1, 2], [60, 1, 2, 69, 158, 160, 161])], [(0, 0, 2009, []), (0, 0, 5, [])]))
abbrev b_Mo_crossings : ByteArray := prog_15_method_129_code
def y_Mo_crossings : MethodName := ⟨"DrawingHouseModel", "crossings", "()I"⟩
abbrev z_Mo_crossings : List Cond := Cond.code y_Mo_crossings b_Mo_crossings 6 (some .int) :: lw_g
def e_Mo_crossings : en_T := ([(2, 0, 0, [165])], some (0, -2147483648, 2147483647, []), true, 7, 0, 0, [], [], (0, [], [(20, [0], [60, 4, 6, 445, 5, 100, 101, 107, 2, 95, 102, 104, 108, 109]), (20, [0], [60, 2, 3, 448, 100, 101, 102, 105, 106])], [], []))
abbrev b_Mo_dart : ByteArray := prog_15_method_153_code
def y_Mo_dart : MethodName := ⟨"DrawingHouseModel", "dart", "(I)I"⟩
abbrev z_Mo_dart : List Cond := Cond.code y_Mo_dart b_Mo_dart 2 (some .int) :: lw_g
def e_Mo_dart : en_T := ([(2, 0, 0, [165]), (0, 0, 79, [])], some (0, 0, 159, []), true, 7, 0, 0, [([(2, 0, 0, [165]), (0, 0, 79, []), (0, 1, 159, [])], [], [2], [], [], []), ([(2, 0, 0, [165]), (0, 0, 79, []), (0, 0, 158, [])], [], [2], [], [], [(2, 2)])], [], (0, [], [], [(23, [2, 1], [1, 1, -2]), (23, [2, 1], [0, -1, 2])], []))
abbrev b_Mo_dot : ByteArray := prog_15_method_246_code
def y_Mo_dot : MethodName := ⟨"DrawingHouseModel", "dot", "(II)I"⟩
abbrev z_Mo_dot : List Cond := Cond.code y_Mo_dot b_Mo_dot 3 (some .int) :: lw_g
def e_Mo_dot : en_T := ([(2, 0, 0, [165]), (0, -2147483648, 2147483647, []), (0, -2147483648, 2147483647, [])], some (0, -1, 256, []), true, 7, 0, 0, [([(2, 0, 0, [165]), (0, -2147483648, -1, []), (0, -2147483648, 2147483647, []), (0, -1, -1, [])], [], [3], [], [], []), ([(2, 0, 0, [165]), (0, 0, 2147483647, []), (0, -2147483648, 2147483647, []), (0, -1, -1, [])], [], [3], [], [], []), ([(2, 0, 0, [165]), (0, 0, 63, []), (0, -2147483648, -1, []), (0, -1, -1, [])], [], [3], [], [], []), ([(2, 0, 0, [165]), (0, 0, 63, []), (0, 0, 2147483647, []), (0, -1, -1, [])], [], [3], [], [], []), ([(2, 0, 0, [165]), (0, 0, 63, []), (0, 0, 63, []), (0, 0, 256, [])], [], [3], [], [], [])], [], (0, [], [], [], []))
abbrev b_Mo_dotX : ByteArray := prog_15_method_243_code
def y_Mo_dotX : MethodName := ⟨"DrawingHouseModel", "dotX", "(I)I"⟩
abbrev z_Mo_dotX : List Cond := Cond.code y_Mo_dotX b_Mo_dotX 2 (some .int) :: lw_g
def e_Mo_dotX : en_T := ([(2, 0, 0, [165]), (0, -300000011, 300000000, [])], some (0, 0, 63, []), true, 6, 0, 0, [([(2, 0, 0, [165]), (0, -300000011, 300000000, []), (0, 0, 63, [])], [], [2], [], [], [])], [], (0, [], [(20, [0, 1], [30, 0, 1, 1, 153, -1, 0, 0]), (20, [1, 0], [30, 0, 1, 0, 0, -1, 1, 154]), (20, [0], [30, -1, -1, 1, 173]), (20, [0], [30, 64, 1, 1, 173])], [], []))
abbrev b_Mo_dotY : ByteArray := prog_15_method_244_code
def y_Mo_dotY : MethodName := ⟨"DrawingHouseModel", "dotY", "(I)I"⟩
abbrev z_Mo_dotY : List Cond := Cond.code y_Mo_dotY b_Mo_dotY 2 (some .int) :: lw_g
def e_Mo_dotY : en_T := ([(2, 0, 0, [165]), (0, -900000000, 900000000, [])], some (0, 0, 63, []), true, 6, 0, 0, [([(2, 0, 0, [165]), (0, -900000000, 900000000, []), (0, 0, 63, [])], [], [2], [], [], [])], [], (0, [], [(20, [0, 1], [30, 0, 1, 1, 155, -1, 0, 0]), (20, [1, 0], [30, 0, 1, 0, 0, -1, 1, 156]), (20, [0], [30, -1, -1, 1, 174]), (20, [0], [30, 64, 1, 1, 174])], [], []))
abbrev b_Mo_dropEdge_at_g0 : ByteArray := prog_15_method_47_code
def y_Mo_dropEdge_at_g0 : MethodName := ⟨"DrawingHouseModel", "dropEdge", "(I)V"⟩
abbrev z_Mo_dropEdge_at_g0 : List Cond := Cond.code y_Mo_dropEdge_at_g0 b_Mo_dropEdge_at_g0 3 none :: lw_g
def e_Mo_dropEdge_at_g0 : en_T := ([(2, 0, 0, [165]), (0, 0, 47, [])], none, false, 7, 0, 0, [], [], (187072209578355573530071658587684226515959365500928, [], [(20, [1, 0], [30, -1, 1, 0, 0, -1, 3, 2005001]), (20, [0], [60, 1, 3, 199, 5, 2, 3, 4]), (20, [0, 1], [60, 1, 1, 209, 5, 2]), (20, [2, 0], [30, -1, 1, 0, 0, -1, 3, 2005000]), (20, [0, 1, 2], [60, 1, 1, 210, 5, 2]), (20, [0, 2], [60, 1, 1, 208, 5, 2])], [(20, [1, 0], [30, 0, 1, 0, 0, -1, 3, 2005001]), (20, [0], [60, 1, 3, 199, 5, 2, 3, 4]), (20, [2, 0], [30, -1, 1, 0, 0, -1, 3, 2005000]), (20, [0, 1, 2], [60, 1, 1, 211, 5, 2]), (20, [0, 2], [60, 1, 1, 208, 5, 2])], [(0, 0, 23, [])]))
abbrev b_Mo_dropEdge_at_gx : ByteArray := prog_15_method_47_code
def y_Mo_dropEdge_at_gx : MethodName := ⟨"DrawingHouseModel", "dropEdge", "(I)V"⟩
abbrev z_Mo_dropEdge_at_gx : List Cond := Cond.code y_Mo_dropEdge_at_gx b_Mo_dropEdge_at_gx 3 none :: lw_g
def e_Mo_dropEdge_at_gx : en_T := ([(2, 0, 0, [165]), (0, 0, 47, [])], none, false, 7, 0, 0, [], [], (187072209578355573530071658587684226515959365500928, [], [(20, [1, 0], [30, -1, 1, 0, 0, -1, 3, 2005001]), (20, [0], [60, 1, 3, 199, 5, 2, 3, 4]), (20, [0, 1], [60, 1, 1, 209, 5, 2])], [(20, [1, 0], [30, 0, 1, 0, 0, -1, 3, 2005001]), (20, [0], [60, 1, 3, 199, 5, 2, 3, 4])], []))
abbrev b_Mo_edgeOf : ByteArray := prog_15_method_70_code
def y_Mo_edgeOf : MethodName := ⟨"DrawingHouseModel", "edgeOf", "(II)I"⟩
abbrev z_Mo_edgeOf : List Cond := Cond.code y_Mo_edgeOf b_Mo_edgeOf 4 (some .int) :: lw_g
def e_Mo_edgeOf : en_T := ([(2, 0, 0, [165]), (0, -1, 25, []), (0, -1, 24, [])], some (0, -1, 79, []), true, 7, 0, 0, [], [], (0, [], [(20, [0], [60, 2, 2, 75, 31, 32, 33, 34])], [(20, [0, 1, 2, 3], [60, 1, 3, 85, 32, 33, 34, 35])], []))
abbrev b_Mo_fault : ByteArray := prog_15_method_24_code
def y_Mo_fault : MethodName := ⟨"DrawingHouseModel", "fault", "(I)I"⟩
abbrev z_Mo_fault : List Cond := Cond.code y_Mo_fault b_Mo_fault 2 (some .int) :: lw_g
def e_Mo_fault : en_T := ([(2, 0, 0, [165]), (0, -2147483648, 2147483647, [])], some (0, -1, 2000, []), true, 7, 0, 0, [([(2, 0, 0, [165]), (0, -2147483648, 2147483647, []), (0, -1, -1, [])], [], [2], [], [], []), ([(2, 0, 0, [165]), (0, -2147483648, -1, []), (0, -1, -1, [])], [], [2], [], [], []), ([(2, 0, 0, [165]), (0, 2, 2147483647, []), (0, -1, -1, [])], [], [2], [], [], []), ([(2, 0, 0, [165]), (0, 1, 1, []), (0, 0, 2000, [])], [], [2], [], [], []), ([(2, 0, 0, [165]), (0, 1, 1, []), (0, -1, -1, [])], [], [2], [], [], []), ([(2, 0, 0, [165]), (0, 0, 0, []), (0, 0, 5, [])], [], [2], [], [], [])], [], (0, [], [], [], []))
abbrev b_Mo_firstFit : ByteArray := prog_15_method_80_code
def y_Mo_firstFit : MethodName := ⟨"DrawingHouseModel", "firstFit", "(I)I"⟩
abbrev z_Mo_firstFit : List Cond := Cond.code y_Mo_firstFit b_Mo_firstFit 3 (some .int) :: lw_g
def e_Mo_firstFit : en_T := ([(2, 0, 0, [165]), (0, 0, 79, [])], some (0, -1, 119, []), true, 7, 0, 0, [], [], (0, [], [], [(20, [0, 1, 2], [60, 1, 2, 117, 39, 50, 51])], []))
abbrev b_Mo_insert : ByteArray := prog_15_method_158_code
def y_Mo_insert : MethodName := ⟨"DrawingHouseModel", "insert", "(I)V"⟩
abbrev z_Mo_insert : List Cond := Cond.code y_Mo_insert b_Mo_insert 7 none :: lw_g
def e_Mo_insert : en_T := ([(2, 0, 0, [165]), (0, 0, 31, [])], none, false, 7, 0, 0, [], [], (904625697166532776746648320380374280103671755200316906558262375061821325312, [(165, 125)], [(20, [0, 1], [60, 2, 5, 311, 31, 125, 33, 34, 42, 117, 52]), (20, [0, 2], [50, 1, 0, 125, 1, 3, 2, 0, 125, 1, 1])], [(20, [0], [60, 2, 3, 298, 31, 125, 33, 34, 117]), (20, [2, 0], [50, 1, 0, 1125, 0, 6, 4, 2, 1, 0, 0, 1, 2, 1, 125])], [(0, 0, 100, [])]))
abbrev b_Mo_isDigit : ByteArray := prog_15_method_27_code
def y_Mo_isDigit : MethodName := ⟨"DrawingHouseModel", "isDigit", "(I)Z"⟩
abbrev z_Mo_isDigit : List Cond := Cond.code y_Mo_isDigit b_Mo_isDigit 1 (some .boolean) :: lw_g
def e_Mo_isDigit : en_T := ([(0, -1, 255, [])], some (0, 0, 1, []), true, 7, 0, 0, [([(0, -1, 47, []), (0, 0, 0, [])], [], [1], [], [], []), ([(0, 58, 255, []), (0, 0, 0, [])], [], [1], [], [], []), ([(0, 48, 57, []), (0, 1, 1, [])], [], [1], [], [], [])], [], (0, [], [], [], []))
abbrev b_Mo_isLetter : ByteArray := prog_15_method_26_code
def y_Mo_isLetter : MethodName := ⟨"DrawingHouseModel", "isLetter", "(I)Z"⟩
abbrev z_Mo_isLetter : List Cond := Cond.code y_Mo_isLetter b_Mo_isLetter 1 (some .boolean) :: lw_g
def e_Mo_isLetter : en_T := ([(0, -1, 255, [])], some (0, 0, 1, []), true, 7, 0, 0, [([(0, -1, 64, []), (0, 0, 0, [])], [], [1], [], [], []), ([(0, 91, 96, []), (0, 0, 0, [])], [], [1], [], [], []), ([(0, 65, 90, []), (0, 1, 1, [])], [], [1], [], [], []), ([(0, 123, 255, []), (0, 0, 0, [])], [], [1], [], [], []), ([(0, 97, 122, []), (0, 1, 1, [])], [], [1], [], [], [])], [], (0, [], [], [], []))
abbrev b_Mo_isPlace : ByteArray := prog_15_method_9_code
def y_Mo_isPlace : MethodName := ⟨"DrawingHouseModel", "isPlace", "(I)Z"⟩
abbrev z_Mo_isPlace : List Cond := Cond.code y_Mo_isPlace b_Mo_isPlace 1 (some .boolean) :: lw_g
def e_Mo_isPlace : en_T := ([(0, -2147483648, 2147483647, [])], some (0, 0, 1, []), true, 7, 0, 0, [([(0, -2147483648, -1, []), (0, 0, 0, [])], [], [1], [], [], []), ([(0, 4, 2147483647, []), (0, 0, 0, [])], [], [1], [], [], []), ([(0, 0, 3, []), (0, 1, 1, [])], [], [1], [], [], [])], [], (0, [], [], [], []))
abbrev b_Mo_join : ByteArray := prog_15_method_67_code
def y_Mo_join : MethodName := ⟨"DrawingHouseModel", "join", "(II)V"⟩
abbrev z_Mo_join : List Cond := Cond.code y_Mo_join b_Mo_join 4 none :: lw_g
def e_Mo_join : en_T := ([(2, 0, 0, [165]), (0, -1, 79, []), (0, -1, 79, [])], none, false, 7, 0, 0, [], [], (5986310706507378352962293074805895248510699696029696, [], [(20, [0, 3, 4, 5], [60, 1, 4, 87, 32, 33, 34, 35, 17]), (20, [0, 3, 4, 5, 1, 2], [60, 1, 4, 91, 32, 33, 34, 35, 17])], [(20, [0, 3, 4, 5], [60, 1, 4, 88, 32, 33, 34, 35, 17])], [(0, 0, 24, []), (0, 0, 79, []), (0, 0, 79, [])]))
abbrev b_Mo_map : ByteArray := prog_15_method_61_code
def y_Mo_map : MethodName := ⟨"DrawingHouseModel", "map", "(I)I"⟩
abbrev z_Mo_map : List Cond := Cond.code y_Mo_map b_Mo_map 2 (some .int) :: lw_g
def e_Mo_map : en_T := ([(2, 0, 0, [165]), (0, -2147483648, 2147483647, [])], some (0, -1, 20000, []), true, 7, 0, 0, [([(2, 0, 0, [165]), (0, -2147483648, 2147483647, []), (0, -1, -1, [])], [], [2], [], [], []), ([(2, 0, 0, [165]), (0, -2147483648, -1, []), (0, -1, -1, [])], [], [2], [], [], []), ([(2, 0, 0, [165]), (0, 0, 2147483647, []), (0, -1, -1, [])], [], [2], [], [], []), ([(2, 0, 0, [165]), (0, 0, 23, []), (0, -1, 23, [])], [], [2], [], [], []), ([(2, 0, 0, [165]), (0, -1, -1, []), (0, -1, -1, [])], [], [2], [], [], []), ([(2, 0, 0, [165]), (0, -1, -1, []), (0, 0, 20000, [])], [], [2], [], [], [])], [], (0, [], [], [], []))
abbrev b_Mo_newEdge_at_g0 : ByteArray := prog_15_method_40_code
def y_Mo_newEdge_at_g0 : MethodName := ⟨"DrawingHouseModel", "newEdge", "(III)V"⟩
abbrev z_Mo_newEdge_at_g0 : List Cond := Cond.code y_Mo_newEdge_at_g0 b_Mo_newEdge_at_g0 5 none :: lw_g
def e_Mo_newEdge_at_g0 : en_T := ([(2, 0, 0, [165]), (0, 0, 23, []), (0, 0, 23, []), (0, 0, 1, [])], none, false, 7, 0, 0, [], [], (187072209578355573530071658587684226515959365500928, [], [(20, [0], [30, 47, 1, 3, 2005001]), (20, [0], [60, 1, 3, 199, 5, 2, 3, 4]), (20, [0, 1, 2], [60, 1, 1, 203, 5, 2]), (20, [4, 0], [50, 1, 1, 1005, 1002, 0, 6, 4, 2, 1, 0, 0, 1, 3, 1, 2, 4, 3, 2, 1, 5, 0, 2]), (20, [0, 2, 6, 1, 3, 4, 5], [60, 8, 2, 994, 10, 11, 12, 13, 14, 15, 8, 5, 1, 2])], [(20, [0], [60, 1, 3, 199, 5, 2, 3, 4]), (20, [0, 2], [60, 1, 1, 208, 5, 2]), (20, [4, 0], [50, 1, 1, 1005, 1002, 0, 6, 4, 2, 1, 0, 0, 1, 3, 1, 2, 4, 3, 2, 1, 5, 0, 2]), (20, [0, 2, 6, 4, 5], [60, 8, 2, 968, 10, 11, 12, 13, 14, 15, 8, 5, 1, 2])], [(0, 0, 7, []), (0, 0, 4, []), (0, 0, 48, [])]))
abbrev b_Mo_newEdge_at_gx : ByteArray := prog_15_method_40_code
def y_Mo_newEdge_at_gx : MethodName := ⟨"DrawingHouseModel", "newEdge", "(III)V"⟩
abbrev z_Mo_newEdge_at_gx : List Cond := Cond.code y_Mo_newEdge_at_gx b_Mo_newEdge_at_gx 5 none :: lw_g
def e_Mo_newEdge_at_gx : en_T := ([(2, 0, 0, [165]), (0, 0, 23, []), (0, 0, 23, []), (0, 0, 0, [])], none, false, 7, 0, 0, [], [], (187072209578355573530071658587684226515959365500928, [], [(20, [0], [30, 47, 1, 3, 2005001]), (20, [0], [60, 1, 3, 199, 5, 2, 3, 4]), (20, [0, 1, 2], [60, 1, 1, 203, 5, 2])], [(20, [0], [60, 1, 3, 199, 5, 2, 3, 4]), (20, [0, 2], [60, 1, 1, 208, 5, 2])], []))
abbrev b_Mo_nextDart : ByteArray := prog_15_method_89_code
def y_Mo_nextDart : MethodName := ⟨"DrawingHouseModel", "nextDart", "(I)I"⟩
abbrev z_Mo_nextDart : List Cond := Cond.code y_Mo_nextDart b_Mo_nextDart 6 (some .int) :: lw_g
def e_Mo_nextDart : en_T := ([(2, 0, 0, [165]), (0, 0, 159, [])], some (0, 0, 159, []), true, 7, 0, 0, [], [], (0, [], [(20, [0], [60, 2, 2, 75, 31, 32, 33, 34]), (20, [0], [60, 2, 5, 187, 31, 32, 33, 34, 35, 36, 37]), (20, [0, 1], [60, 1, 1, 190, 32, 35])], [(20, [0, 1, 2], [60, 1, 4, 188, 32, 33, 34, 36, 37])], []))
abbrev b_Mo_octet : ByteArray := prog_15_method_241_code
def y_Mo_octet : MethodName := ⟨"DrawingHouseModel", "octet", "(I)I"⟩
abbrev z_Mo_octet : List Cond := Cond.code y_Mo_octet b_Mo_octet 2 (some .int) :: lw_g
def e_Mo_octet : en_T := ([(2, 0, 0, [165]), (0, -2147483648, 2147483647, [])], some (0, -128, 127, []), true, 7, 0, 0, [([(2, 0, 0, [165]), (0, -2147483648, -1, []), (0, -1, -1, [])], [], [2], [], [], []), ([(2, 0, 0, [165]), (0, 0, 2147483647, []), (0, -1, -1, [])], [], [2], [], [], []), ([(2, 0, 0, [165]), (0, 0, 3999, []), (0, -128, 127, [])], [], [2], [], [], [])], [], (0, [], [], [], []))
abbrev b_Mo_putAhead : ByteArray := prog_15_method_139_code
def y_Mo_putAhead : MethodName := ⟨"DrawingHouseModel", "putAhead", "(III)V"⟩
abbrev z_Mo_putAhead : List Cond := Cond.code y_Mo_putAhead b_Mo_putAhead 5 none :: lw_g
def e_Mo_putAhead : en_T := ([(2, 0, 0, [165]), (0, 0, 24, []), (0, 0, 79, []), (0, 0, 79, [])], none, false, 7, 0, 0, [], [], (36779892980781332600600328651607420406849738932406452224, [], [(20, [0, 1, 2, 3, 4, 5, 6], [60, 2, 5, 259, 31, 32, 33, 34, 35, 36, 37])], [(20, [0, 1, 4, 5, 6, 2], [60, 2, 5, 250, 31, 32, 33, 34, 35, 36, 37])], [(0, 0, 24, []), (0, 0, 159, []), (0, 0, 159, [])]))
abbrev b_Mo_putBehind : ByteArray := prog_15_method_140_code
def y_Mo_putBehind : MethodName := ⟨"DrawingHouseModel", "putBehind", "(III)V"⟩
abbrev z_Mo_putBehind : List Cond := Cond.code y_Mo_putBehind b_Mo_putBehind 5 none :: lw_g
def e_Mo_putBehind : en_T := ([(2, 0, 0, [165]), (0, 0, 24, []), (0, 0, 79, []), (0, 0, 79, [])], none, false, 7, 0, 0, [], [], (36779892980781332600600328651607420406849738932406452224, [], [(20, [0, 1, 2, 3, 4, 5, 6], [60, 2, 5, 260, 31, 32, 33, 34, 35, 36, 37])], [(20, [0], [60, 2, 5, 261, 31, 32, 33, 34, 35, 36, 37])], [(0, 0, 24, []), (0, 0, 159, []), (0, 0, 159, [])]))
abbrev b_Mo_reveal : ByteArray := prog_15_method_148_code
def y_Mo_reveal : MethodName := ⟨"DrawingHouseModel", "reveal", "(II)V"⟩
abbrev z_Mo_reveal : List Cond := Cond.code y_Mo_reveal b_Mo_reveal 10 none :: lw_g
def e_Mo_reveal : en_T := ([(2, 0, 0, [165]), (0, 1, 28, []), (0, 0, 24, [])], none, false, 7, 0, 0, [], [], (15378636851831057204693021446466362761762419838405387411490460376050962530304, [(165, 121)], [(20, [0, 1, 2, 3], [60, 3, 8, 279, 31, 32, 121, 33, 34, 35, 36, 37, 22, 122, 96])], [(20, [0, 3], [60, 3, 8, 277, 31, 32, 121, 33, 34, 35, 36, 37, 22, 122, 96])], [(0, 2, 24, [])]))
abbrev b_Mo_styleOpen_at_f0 : ByteArray := prog_15_method_216_code
def y_Mo_styleOpen_at_f0 : MethodName := ⟨"DrawingHouseModel", "styleOpen", "()V"⟩
abbrev z_Mo_styleOpen_at_f0 : List Cond := Cond.code y_Mo_styleOpen_at_f0 b_Mo_styleOpen_at_f0 1 none :: lw_g
def e_Mo_styleOpen_at_f0 : en_T := ([(2, 0, 0, [165])], none, false, 6, 0, 0, [([(2, 0, 0, [165]), (0, 0, 0, []), (0, 0, 2009, []), (0, 0, 5, []), (0, 0, 13, []), (0, 1, 1, [])], [], [], [((0, 159), 5)], [], [])], [((0, 159), (0, 0, 13, []))], (0, [(165, 158), (165, 159)], [(20, [0], [50, 2, 1, 158, 157, 160, 2, 12, 0, 7, 4, 3, 2, 0, 158, 0, 1, 2, 0, 157, 2, 7, 0, 3, 2, 0, 157, 0, 2010, 3, 14, 1, 10, 3, 0, 160, 5, 3, 2, 0, 157, 0, 1, 0, 0, 1, 10, 3, 0, 160, 5, 3, 2, 0, 157, 0, 1, 0, 4]), (20, [0, 2], [30, 0, 1, 1, 158, -1, 0, 0]), (20, [0, 2], [30, 0, -1, 1, 158, 1, 0, 0]), (20, [0], [50, 1, 1, 158, 160, 7, 6, 3, 0, 160, 2, 0, 158, 0, 0]), (20, [0], [50, 1, 1, 158, 160, 7, 6, 3, 0, 160, 2, 0, 158, 0, 4]), (20, [0], [30, 0, 1, 1, 159]), (20, [0], [30, 0, -1, 1, 159]), (20, [0, 3], [50, 1, 0, 8, 1, 3, 2, 0, 8, 1, 1]), (20, [0, 4], [50, 1, 0, 159, 1, 3, 2, 0, 159, 1, 1])], [(20, [0], [50, 2, 1, 158, 157, 160, 2, 12, 0, 7, 4, 3, 2, 0, 158, 0, 1, 2, 0, 157, 2, 7, 0, 3, 2, 0, 157, 0, 2010, 3, 14, 1, 10, 3, 0, 160, 5, 3, 2, 0, 157, 0, 1, 0, 0, 1, 10, 3, 0, 160, 5, 3, 2, 0, 157, 0, 1, 0, 4]), (20, [2, 0], [30, -1, 1, 0, 0, -1, 1, 158]), (20, [0], [30, 1, 1, 1, 159]), (20, [0], [30, -1, -1, 1, 159]), (20, [0, 2], [50, 1, 0, 158, 1, 3, 2, 0, 158, 4, 2, 1, 1, 0, 1]), (20, [0, 3], [50, 1, 0, 8, 1, 3, 2, 0, 8, 1, 1])], [(0, 0, 2009, []), (0, 0, 5, []), (0, 0, 13, [])]))
abbrev b_Mo_styleOpen_at_f1 : ByteArray := prog_15_method_216_code
def y_Mo_styleOpen_at_f1 : MethodName := ⟨"DrawingHouseModel", "styleOpen", "()V"⟩
abbrev z_Mo_styleOpen_at_f1 : List Cond := Cond.code y_Mo_styleOpen_at_f1 b_Mo_styleOpen_at_f1 1 none :: lw_g
def e_Mo_styleOpen_at_f1 : en_T := ([(2, 0, 0, [165])], none, false, 6, 0, 0, [([(2, 0, 0, [165]), (0, 1, 1, []), (0, 0, 2009, []), (0, 0, 5, []), (0, 0, 13, []), (0, 2, 2, [])], [], [], [((0, 159), 5)], [], [])], [((0, 159), (0, 0, 13, []))], (0, [(165, 158), (165, 159)], [(20, [0], [50, 2, 1, 158, 157, 160, 2, 12, 0, 7, 4, 3, 2, 0, 158, 0, 1, 2, 0, 157, 2, 7, 0, 3, 2, 0, 157, 0, 2010, 3, 14, 1, 10, 3, 0, 160, 5, 3, 2, 0, 157, 0, 1, 0, 0, 1, 10, 3, 0, 160, 5, 3, 2, 0, 157, 0, 1, 0, 4]), (20, [0, 2], [30, 0, 1, 1, 158, -1, 0, 0]), (20, [0, 2], [30, 0, -1, 1, 158, 1, 0, 0]), (20, [0], [50, 1, 1, 158, 160, 7, 6, 3, 0, 160, 2, 0, 158, 0, 0]), (20, [0], [50, 1, 1, 158, 160, 7, 6, 3, 0, 160, 2, 0, 158, 0, 4]), (20, [0], [30, 1, 1, 1, 159]), (20, [0], [30, -1, -1, 1, 159]), (20, [0, 3], [50, 1, 0, 8, 1, 3, 2, 0, 8, 1, 1]), (20, [0, 4], [50, 1, 0, 159, 1, 3, 2, 0, 159, 1, 1])], [(20, [0], [50, 2, 1, 158, 157, 160, 2, 12, 0, 7, 4, 3, 2, 0, 158, 0, 1, 2, 0, 157, 2, 7, 0, 3, 2, 0, 157, 0, 2010, 3, 14, 1, 10, 3, 0, 160, 5, 3, 2, 0, 157, 0, 1, 0, 0, 1, 10, 3, 0, 160, 5, 3, 2, 0, 157, 0, 1, 0, 4]), (20, [2, 0], [30, -1, 1, 0, 0, -1, 1, 158]), (20, [0], [30, 2, 1, 1, 159]), (20, [0], [30, -2, -1, 1, 159]), (20, [0, 2], [50, 1, 0, 158, 1, 3, 2, 0, 158, 4, 2, 1, 1, 0, 1]), (20, [0, 3], [50, 1, 0, 8, 1, 3, 2, 0, 8, 1, 1])], [(0, 0, 2009, []), (0, 0, 5, []), (0, 0, 13, [])]))
abbrev b_Mo_styleOpen_at_f10 : ByteArray := prog_15_method_216_code
def y_Mo_styleOpen_at_f10 : MethodName := ⟨"DrawingHouseModel", "styleOpen", "()V"⟩
abbrev z_Mo_styleOpen_at_f10 : List Cond := Cond.code y_Mo_styleOpen_at_f10 b_Mo_styleOpen_at_f10 1 none :: lw_g
def e_Mo_styleOpen_at_f10 : en_T := ([(2, 0, 0, [165])], none, false, 6, 0, 0, [([(2, 0, 0, [165]), (0, 10, 10, []), (0, 0, 2009, []), (0, 0, 5, []), (0, 0, 13, []), (0, 11, 11, [])], [], [], [((0, 159), 5)], [], [])], [((0, 159), (0, 0, 13, []))], (0, [(165, 158), (165, 159)], [(20, [0], [50, 2, 1, 158, 157, 160, 2, 12, 0, 7, 4, 3, 2, 0, 158, 0, 1, 2, 0, 157, 2, 7, 0, 3, 2, 0, 157, 0, 2010, 3, 14, 1, 10, 3, 0, 160, 5, 3, 2, 0, 157, 0, 1, 0, 0, 1, 10, 3, 0, 160, 5, 3, 2, 0, 157, 0, 1, 0, 4]), (20, [0, 2], [30, 0, 1, 1, 158, -1, 0, 0]), (20, [0, 2], [30, 0, -1, 1, 158, 1, 0, 0]), (20, [0], [50, 1, 1, 158, 160, 7, 6, 3, 0, 160, 2, 0, 158, 0, 0]), (20, [0], [50, 1, 1, 158, 160, 7, 6, 3, 0, 160, 2, 0, 158, 0, 4]), (20, [0], [30, 10, 1, 1, 159]), (20, [0], [30, -10, -1, 1, 159]), (20, [0, 3], [50, 1, 0, 8, 1, 3, 2, 0, 8, 1, 1]), (20, [0, 4], [50, 1, 0, 159, 1, 3, 2, 0, 159, 1, 1])], [(20, [0], [50, 2, 1, 158, 157, 160, 2, 12, 0, 7, 4, 3, 2, 0, 158, 0, 1, 2, 0, 157, 2, 7, 0, 3, 2, 0, 157, 0, 2010, 3, 14, 1, 10, 3, 0, 160, 5, 3, 2, 0, 157, 0, 1, 0, 0, 1, 10, 3, 0, 160, 5, 3, 2, 0, 157, 0, 1, 0, 4]), (20, [2, 0], [30, -1, 1, 0, 0, -1, 1, 158]), (20, [0], [30, 11, 1, 1, 159]), (20, [0], [30, -11, -1, 1, 159]), (20, [0, 2], [50, 1, 0, 158, 1, 3, 2, 0, 158, 4, 2, 1, 1, 0, 1]), (20, [0, 3], [50, 1, 0, 8, 1, 3, 2, 0, 8, 1, 1])], [(0, 0, 2009, []), (0, 0, 5, []), (0, 0, 13, [])]))
abbrev b_Mo_styleOpen_at_f11 : ByteArray := prog_15_method_216_code
def y_Mo_styleOpen_at_f11 : MethodName := ⟨"DrawingHouseModel", "styleOpen", "()V"⟩
abbrev z_Mo_styleOpen_at_f11 : List Cond := Cond.code y_Mo_styleOpen_at_f11 b_Mo_styleOpen_at_f11 1 none :: lw_g
def e_Mo_styleOpen_at_f11 : en_T := ([(2, 0, 0, [165])], none, false, 6, 0, 0, [([(2, 0, 0, [165]), (0, 11, 11, []), (0, 0, 2009, []), (0, 0, 5, []), (0, 0, 13, []), (0, 12, 12, [])], [], [], [((0, 159), 5)], [], [])], [((0, 159), (0, 0, 13, []))], (0, [(165, 158), (165, 159)], [(20, [0], [50, 2, 1, 158, 157, 160, 2, 12, 0, 7, 4, 3, 2, 0, 158, 0, 1, 2, 0, 157, 2, 7, 0, 3, 2, 0, 157, 0, 2010, 3, 14, 1, 10, 3, 0, 160, 5, 3, 2, 0, 157, 0, 1, 0, 0, 1, 10, 3, 0, 160, 5, 3, 2, 0, 157, 0, 1, 0, 4]), (20, [0, 2], [30, 0, 1, 1, 158, -1, 0, 0]), (20, [0, 2], [30, 0, -1, 1, 158, 1, 0, 0]), (20, [0], [50, 1, 1, 158, 160, 7, 6, 3, 0, 160, 2, 0, 158, 0, 0]), (20, [0], [50, 1, 1, 158, 160, 7, 6, 3, 0, 160, 2, 0, 158, 0, 4]), (20, [0], [30, 11, 1, 1, 159]), (20, [0], [30, -11, -1, 1, 159]), (20, [0, 3], [50, 1, 0, 8, 1, 3, 2, 0, 8, 1, 1]), (20, [0, 4], [50, 1, 0, 159, 1, 3, 2, 0, 159, 1, 1])], [(20, [0], [50, 2, 1, 158, 157, 160, 2, 12, 0, 7, 4, 3, 2, 0, 158, 0, 1, 2, 0, 157, 2, 7, 0, 3, 2, 0, 157, 0, 2010, 3, 14, 1, 10, 3, 0, 160, 5, 3, 2, 0, 157, 0, 1, 0, 0, 1, 10, 3, 0, 160, 5, 3, 2, 0, 157, 0, 1, 0, 4]), (20, [2, 0], [30, -1, 1, 0, 0, -1, 1, 158]), (20, [0], [30, 12, 1, 1, 159]), (20, [0], [30, -12, -1, 1, 159]), (20, [0, 2], [50, 1, 0, 158, 1, 3, 2, 0, 158, 4, 2, 1, 1, 0, 1]), (20, [0, 3], [50, 1, 0, 8, 1, 3, 2, 0, 8, 1, 1])], [(0, 0, 2009, []), (0, 0, 5, []), (0, 0, 13, [])]))
abbrev b_Mo_styleOpen_at_f12 : ByteArray := prog_15_method_216_code
def y_Mo_styleOpen_at_f12 : MethodName := ⟨"DrawingHouseModel", "styleOpen", "()V"⟩
abbrev z_Mo_styleOpen_at_f12 : List Cond := Cond.code y_Mo_styleOpen_at_f12 b_Mo_styleOpen_at_f12 1 none :: lw_g
def e_Mo_styleOpen_at_f12 : en_T := ([(2, 0, 0, [165])], none, false, 7, 0, 0, [([(2, 0, 0, [165]), (0, 12, 12, []), (0, 0, 2009, []), (0, 0, 5, []), (0, 0, 13, []), (0, 13, 13, [])], [], [], [((0, 159), 5)], [], [])], [((0, 159), (0, 0, 13, []))], (0, [(165, 8), (165, 9), (165, 158), (165, 159)], [(20, [0], [50, 2, 1, 158, 157, 160, 2, 12, 0, 7, 4, 3, 2, 0, 158, 0, 1, 2, 0, 157, 2, 7, 0, 3, 2, 0, 157, 0, 2010, 3, 14, 1, 10, 3, 0, 160, 5, 3, 2, 0, 157, 0, 1, 0, 0, 1, 10, 3, 0, 160, 5, 3, 2, 0, 157, 0, 1, 0, 4]), (20, [0, 2], [30, 0, 1, 1, 158, -1, 0, 0]), (20, [0, 2], [30, 0, -1, 1, 158, 1, 0, 0]), (20, [0], [50, 1, 1, 158, 160, 7, 6, 3, 0, 160, 2, 0, 158, 0, 0]), (20, [0], [50, 1, 1, 158, 160, 7, 6, 3, 0, 160, 2, 0, 158, 0, 4]), (20, [0], [30, 12, 1, 1, 159]), (20, [0], [30, -12, -1, 1, 159]), (20, [0, 3], [50, 1, 0, 8, 1, 3, 2, 0, 8, 1, 1]), (20, [0, 4], [50, 1, 0, 159, 1, 3, 2, 0, 159, 1, 1])], [(20, [0], [50, 2, 1, 158, 157, 160, 2, 12, 0, 7, 4, 3, 2, 0, 158, 0, 1, 2, 0, 157, 2, 7, 0, 3, 2, 0, 157, 0, 2010, 3, 14, 1, 10, 3, 0, 160, 5, 3, 2, 0, 157, 0, 1, 0, 0, 1, 10, 3, 0, 160, 5, 3, 2, 0, 157, 0, 1, 0, 4]), (20, [2, 0], [30, -1, 1, 0, 0, -1, 1, 158]), (20, [0], [30, 13, 1, 1, 159]), (20, [0], [30, -13, -1, 1, 159]), (20, [0], [30, -1, -1, 1, 8]), (20, [0, 2], [50, 1, 0, 158, 1, 3, 2, 0, 158, 4, 2, 1, 1, 0, 1])], [(0, 0, 2009, []), (0, 0, 5, []), (0, 0, 13, [])]))
abbrev b_Mo_styleOpen_at_f2 : ByteArray := prog_15_method_216_code
def y_Mo_styleOpen_at_f2 : MethodName := ⟨"DrawingHouseModel", "styleOpen", "()V"⟩
abbrev z_Mo_styleOpen_at_f2 : List Cond := Cond.code y_Mo_styleOpen_at_f2 b_Mo_styleOpen_at_f2 1 none :: lw_g
def e_Mo_styleOpen_at_f2 : en_T := ([(2, 0, 0, [165])], none, false, 6, 0, 0, [([(2, 0, 0, [165]), (0, 2, 2, []), (0, 0, 2009, []), (0, 0, 5, []), (0, 0, 13, []), (0, 3, 3, [])], [], [], [((0, 159), 5)], [], [])], [((0, 159), (0, 0, 13, []))], (0, [(165, 158), (165, 159)], [(20, [0], [50, 2, 1, 158, 157, 160, 2, 12, 0, 7, 4, 3, 2, 0, 158, 0, 1, 2, 0, 157, 2, 7, 0, 3, 2, 0, 157, 0, 2010, 3, 14, 1, 10, 3, 0, 160, 5, 3, 2, 0, 157, 0, 1, 0, 0, 1, 10, 3, 0, 160, 5, 3, 2, 0, 157, 0, 1, 0, 4]), (20, [0, 2], [30, 0, 1, 1, 158, -1, 0, 0]), (20, [0, 2], [30, 0, -1, 1, 158, 1, 0, 0]), (20, [0], [50, 1, 1, 158, 160, 7, 6, 3, 0, 160, 2, 0, 158, 0, 0]), (20, [0], [50, 1, 1, 158, 160, 7, 6, 3, 0, 160, 2, 0, 158, 0, 4]), (20, [0], [30, 2, 1, 1, 159]), (20, [0], [30, -2, -1, 1, 159]), (20, [0, 3], [50, 1, 0, 8, 1, 3, 2, 0, 8, 1, 1]), (20, [0, 4], [50, 1, 0, 159, 1, 3, 2, 0, 159, 1, 1])], [(20, [0], [50, 2, 1, 158, 157, 160, 2, 12, 0, 7, 4, 3, 2, 0, 158, 0, 1, 2, 0, 157, 2, 7, 0, 3, 2, 0, 157, 0, 2010, 3, 14, 1, 10, 3, 0, 160, 5, 3, 2, 0, 157, 0, 1, 0, 0, 1, 10, 3, 0, 160, 5, 3, 2, 0, 157, 0, 1, 0, 4]), (20, [2, 0], [30, -1, 1, 0, 0, -1, 1, 158]), (20, [0], [30, 3, 1, 1, 159]), (20, [0], [30, -3, -1, 1, 159]), (20, [0, 2], [50, 1, 0, 158, 1, 3, 2, 0, 158, 4, 2, 1, 1, 0, 1]), (20, [0, 3], [50, 1, 0, 8, 1, 3, 2, 0, 8, 1, 1])], [(0, 0, 2009, []), (0, 0, 5, []), (0, 0, 13, [])]))
abbrev b_Mo_styleOpen_at_f3 : ByteArray := prog_15_method_216_code
def y_Mo_styleOpen_at_f3 : MethodName := ⟨"DrawingHouseModel", "styleOpen", "()V"⟩
abbrev z_Mo_styleOpen_at_f3 : List Cond := Cond.code y_Mo_styleOpen_at_f3 b_Mo_styleOpen_at_f3 1 none :: lw_g
def e_Mo_styleOpen_at_f3 : en_T := ([(2, 0, 0, [165])], none, false, 6, 0, 0, [([(2, 0, 0, [165]), (0, 3, 3, []), (0, 0, 2009, []), (0, 0, 5, []), (0, 0, 13, []), (0, 4, 4, [])], [], [], [((0, 159), 5)], [], [])], [((0, 159), (0, 0, 13, []))], (0, [(165, 158), (165, 159)], [(20, [0], [50, 2, 1, 158, 157, 160, 2, 12, 0, 7, 4, 3, 2, 0, 158, 0, 1, 2, 0, 157, 2, 7, 0, 3, 2, 0, 157, 0, 2010, 3, 14, 1, 10, 3, 0, 160, 5, 3, 2, 0, 157, 0, 1, 0, 0, 1, 10, 3, 0, 160, 5, 3, 2, 0, 157, 0, 1, 0, 4]), (20, [0, 2], [30, 0, 1, 1, 158, -1, 0, 0]), (20, [0, 2], [30, 0, -1, 1, 158, 1, 0, 0]), (20, [0], [50, 1, 1, 158, 160, 7, 6, 3, 0, 160, 2, 0, 158, 0, 0]), (20, [0], [50, 1, 1, 158, 160, 7, 6, 3, 0, 160, 2, 0, 158, 0, 4]), (20, [0], [30, 3, 1, 1, 159]), (20, [0], [30, -3, -1, 1, 159]), (20, [0, 3], [50, 1, 0, 8, 1, 3, 2, 0, 8, 1, 1]), (20, [0, 4], [50, 1, 0, 159, 1, 3, 2, 0, 159, 1, 1])], [(20, [0], [50, 2, 1, 158, 157, 160, 2, 12, 0, 7, 4, 3, 2, 0, 158, 0, 1, 2, 0, 157, 2, 7, 0, 3, 2, 0, 157, 0, 2010, 3, 14, 1, 10, 3, 0, 160, 5, 3, 2, 0, 157, 0, 1, 0, 0, 1, 10, 3, 0, 160, 5, 3, 2, 0, 157, 0, 1, 0, 4]), (20, [2, 0], [30, -1, 1, 0, 0, -1, 1, 158]), (20, [0], [30, 4, 1, 1, 159]), (20, [0], [30, -4, -1, 1, 159]), (20, [0, 2], [50, 1, 0, 158, 1, 3, 2, 0, 158, 4, 2, 1, 1, 0, 1]), (20, [0, 3], [50, 1, 0, 8, 1, 3, 2, 0, 8, 1, 1])], [(0, 0, 2009, []), (0, 0, 5, []), (0, 0, 13, [])]))
abbrev b_Mo_styleOpen_at_f4 : ByteArray := prog_15_method_216_code
def y_Mo_styleOpen_at_f4 : MethodName := ⟨"DrawingHouseModel", "styleOpen", "()V"⟩
abbrev z_Mo_styleOpen_at_f4 : List Cond := Cond.code y_Mo_styleOpen_at_f4 b_Mo_styleOpen_at_f4 1 none :: lw_g
def e_Mo_styleOpen_at_f4 : en_T := ([(2, 0, 0, [165])], none, false, 6, 0, 0, [([(2, 0, 0, [165]), (0, 4, 4, []), (0, 0, 2009, []), (0, 0, 5, []), (0, 0, 13, []), (0, 5, 5, [])], [], [], [((0, 159), 5)], [], [])], [((0, 159), (0, 0, 13, []))], (0, [(165, 158), (165, 159)], [(20, [0], [50, 2, 1, 158, 157, 160, 2, 12, 0, 7, 4, 3, 2, 0, 158, 0, 1, 2, 0, 157, 2, 7, 0, 3, 2, 0, 157, 0, 2010, 3, 14, 1, 10, 3, 0, 160, 5, 3, 2, 0, 157, 0, 1, 0, 0, 1, 10, 3, 0, 160, 5, 3, 2, 0, 157, 0, 1, 0, 4]), (20, [0, 2], [30, 0, 1, 1, 158, -1, 0, 0]), (20, [0, 2], [30, 0, -1, 1, 158, 1, 0, 0]), (20, [0], [50, 1, 1, 158, 160, 7, 6, 3, 0, 160, 2, 0, 158, 0, 0]), (20, [0], [50, 1, 1, 158, 160, 7, 6, 3, 0, 160, 2, 0, 158, 0, 4]), (20, [0], [30, 4, 1, 1, 159]), (20, [0], [30, -4, -1, 1, 159]), (20, [0, 3], [50, 1, 0, 8, 1, 3, 2, 0, 8, 1, 1]), (20, [0, 4], [50, 1, 0, 159, 1, 3, 2, 0, 159, 1, 1])], [(20, [0], [50, 2, 1, 158, 157, 160, 2, 12, 0, 7, 4, 3, 2, 0, 158, 0, 1, 2, 0, 157, 2, 7, 0, 3, 2, 0, 157, 0, 2010, 3, 14, 1, 10, 3, 0, 160, 5, 3, 2, 0, 157, 0, 1, 0, 0, 1, 10, 3, 0, 160, 5, 3, 2, 0, 157, 0, 1, 0, 4]), (20, [2, 0], [30, -1, 1, 0, 0, -1, 1, 158]), (20, [0], [30, 5, 1, 1, 159]), (20, [0], [30, -5, -1, 1, 159]), (20, [0, 2], [50, 1, 0, 158, 1, 3, 2, 0, 158, 4, 2, 1, 1, 0, 1]), (20, [0, 3], [50, 1, 0, 8, 1, 3, 2, 0, 8, 1, 1])], [(0, 0, 2009, []), (0, 0, 5, []), (0, 0, 13, [])]))
abbrev b_Mo_styleOpen_at_f5 : ByteArray := prog_15_method_216_code
def y_Mo_styleOpen_at_f5 : MethodName := ⟨"DrawingHouseModel", "styleOpen", "()V"⟩
abbrev z_Mo_styleOpen_at_f5 : List Cond := Cond.code y_Mo_styleOpen_at_f5 b_Mo_styleOpen_at_f5 1 none :: lw_g
def e_Mo_styleOpen_at_f5 : en_T := ([(2, 0, 0, [165])], none, false, 6, 0, 0, [([(2, 0, 0, [165]), (0, 5, 5, []), (0, 0, 2009, []), (0, 0, 5, []), (0, 0, 13, []), (0, 6, 6, [])], [], [], [((0, 159), 5)], [], [])], [((0, 159), (0, 0, 13, []))], (0, [(165, 158), (165, 159)], [(20, [0], [50, 2, 1, 158, 157, 160, 2, 12, 0, 7, 4, 3, 2, 0, 158, 0, 1, 2, 0, 157, 2, 7, 0, 3, 2, 0, 157, 0, 2010, 3, 14, 1, 10, 3, 0, 160, 5, 3, 2, 0, 157, 0, 1, 0, 0, 1, 10, 3, 0, 160, 5, 3, 2, 0, 157, 0, 1, 0, 4]), (20, [0, 2], [30, 0, 1, 1, 158, -1, 0, 0]), (20, [0, 2], [30, 0, -1, 1, 158, 1, 0, 0]), (20, [0], [50, 1, 1, 158, 160, 7, 6, 3, 0, 160, 2, 0, 158, 0, 0]), (20, [0], [50, 1, 1, 158, 160, 7, 6, 3, 0, 160, 2, 0, 158, 0, 4]), (20, [0], [30, 5, 1, 1, 159]), (20, [0], [30, -5, -1, 1, 159]), (20, [0, 3], [50, 1, 0, 8, 1, 3, 2, 0, 8, 1, 1]), (20, [0, 4], [50, 1, 0, 159, 1, 3, 2, 0, 159, 1, 1])], [(20, [0], [50, 2, 1, 158, 157, 160, 2, 12, 0, 7, 4, 3, 2, 0, 158, 0, 1, 2, 0, 157, 2, 7, 0, 3, 2, 0, 157, 0, 2010, 3, 14, 1, 10, 3, 0, 160, 5, 3, 2, 0, 157, 0, 1, 0, 0, 1, 10, 3, 0, 160, 5, 3, 2, 0, 157, 0, 1, 0, 4]), (20, [2, 0], [30, -1, 1, 0, 0, -1, 1, 158]), (20, [0], [30, 6, 1, 1, 159]), (20, [0], [30, -6, -1, 1, 159]), (20, [0, 2], [50, 1, 0, 158, 1, 3, 2, 0, 158, 4, 2, 1, 1, 0, 1]), (20, [0, 3], [50, 1, 0, 8, 1, 3, 2, 0, 8, 1, 1])], [(0, 0, 2009, []), (0, 0, 5, []), (0, 0, 13, [])]))
abbrev b_Mo_styleOpen_at_f6 : ByteArray := prog_15_method_216_code
def y_Mo_styleOpen_at_f6 : MethodName := ⟨"DrawingHouseModel", "styleOpen", "()V"⟩
abbrev z_Mo_styleOpen_at_f6 : List Cond := Cond.code y_Mo_styleOpen_at_f6 b_Mo_styleOpen_at_f6 1 none :: lw_g
def e_Mo_styleOpen_at_f6 : en_T := ([(2, 0, 0, [165])], none, false, 6, 0, 0, [([(2, 0, 0, [165]), (0, 6, 6, []), (0, 0, 2009, []), (0, 0, 5, []), (0, 0, 13, []), (0, 7, 7, [])], [], [], [((0, 159), 5)], [], [])], [((0, 159), (0, 0, 13, []))], (0, [(165, 158), (165, 159)], [(20, [0], [50, 2, 1, 158, 157, 160, 2, 12, 0, 7, 4, 3, 2, 0, 158, 0, 1, 2, 0, 157, 2, 7, 0, 3, 2, 0, 157, 0, 2010, 3, 14, 1, 10, 3, 0, 160, 5, 3, 2, 0, 157, 0, 1, 0, 0, 1, 10, 3, 0, 160, 5, 3, 2, 0, 157, 0, 1, 0, 4]), (20, [0, 2], [30, 0, 1, 1, 158, -1, 0, 0]), (20, [0, 2], [30, 0, -1, 1, 158, 1, 0, 0]), (20, [0], [50, 1, 1, 158, 160, 7, 6, 3, 0, 160, 2, 0, 158, 0, 0]), (20, [0], [50, 1, 1, 158, 160, 7, 6, 3, 0, 160, 2, 0, 158, 0, 4]), (20, [0], [30, 6, 1, 1, 159]), (20, [0], [30, -6, -1, 1, 159]), (20, [0, 3], [50, 1, 0, 8, 1, 3, 2, 0, 8, 1, 1]), (20, [0, 4], [50, 1, 0, 159, 1, 3, 2, 0, 159, 1, 1])], [(20, [0], [50, 2, 1, 158, 157, 160, 2, 12, 0, 7, 4, 3, 2, 0, 158, 0, 1, 2, 0, 157, 2, 7, 0, 3, 2, 0, 157, 0, 2010, 3, 14, 1, 10, 3, 0, 160, 5, 3, 2, 0, 157, 0, 1, 0, 0, 1, 10, 3, 0, 160, 5, 3, 2, 0, 157, 0, 1, 0, 4]), (20, [2, 0], [30, -1, 1, 0, 0, -1, 1, 158]), (20, [0], [30, 7, 1, 1, 159]), (20, [0], [30, -7, -1, 1, 159]), (20, [0, 2], [50, 1, 0, 158, 1, 3, 2, 0, 158, 4, 2, 1, 1, 0, 1]), (20, [0, 3], [50, 1, 0, 8, 1, 3, 2, 0, 8, 1, 1])], [(0, 0, 2009, []), (0, 0, 5, []), (0, 0, 13, [])]))
abbrev b_Mo_styleOpen_at_f7 : ByteArray := prog_15_method_216_code
def y_Mo_styleOpen_at_f7 : MethodName := ⟨"DrawingHouseModel", "styleOpen", "()V"⟩
abbrev z_Mo_styleOpen_at_f7 : List Cond := Cond.code y_Mo_styleOpen_at_f7 b_Mo_styleOpen_at_f7 1 none :: lw_g
def e_Mo_styleOpen_at_f7 : en_T := ([(2, 0, 0, [165])], none, false, 6, 0, 0, [([(2, 0, 0, [165]), (0, 7, 7, []), (0, 0, 2009, []), (0, 0, 5, []), (0, 0, 13, []), (0, 8, 8, [])], [], [], [((0, 159), 5)], [], [])], [((0, 159), (0, 0, 13, []))], (0, [(165, 158), (165, 159)], [(20, [0], [50, 2, 1, 158, 157, 160, 2, 12, 0, 7, 4, 3, 2, 0, 158, 0, 1, 2, 0, 157, 2, 7, 0, 3, 2, 0, 157, 0, 2010, 3, 14, 1, 10, 3, 0, 160, 5, 3, 2, 0, 157, 0, 1, 0, 0, 1, 10, 3, 0, 160, 5, 3, 2, 0, 157, 0, 1, 0, 4]), (20, [0, 2], [30, 0, 1, 1, 158, -1, 0, 0]), (20, [0, 2], [30, 0, -1, 1, 158, 1, 0, 0]), (20, [0], [50, 1, 1, 158, 160, 7, 6, 3, 0, 160, 2, 0, 158, 0, 0]), (20, [0], [50, 1, 1, 158, 160, 7, 6, 3, 0, 160, 2, 0, 158, 0, 4]), (20, [0], [30, 7, 1, 1, 159]), (20, [0], [30, -7, -1, 1, 159]), (20, [0, 3], [50, 1, 0, 8, 1, 3, 2, 0, 8, 1, 1]), (20, [0, 4], [50, 1, 0, 159, 1, 3, 2, 0, 159, 1, 1])], [(20, [0], [50, 2, 1, 158, 157, 160, 2, 12, 0, 7, 4, 3, 2, 0, 158, 0, 1, 2, 0, 157, 2, 7, 0, 3, 2, 0, 157, 0, 2010, 3, 14, 1, 10, 3, 0, 160, 5, 3, 2, 0, 157, 0, 1, 0, 0, 1, 10, 3, 0, 160, 5, 3, 2, 0, 157, 0, 1, 0, 4]), (20, [2, 0], [30, -1, 1, 0, 0, -1, 1, 158]), (20, [0], [30, 8, 1, 1, 159]), (20, [0], [30, -8, -1, 1, 159]), (20, [0, 2], [50, 1, 0, 158, 1, 3, 2, 0, 158, 4, 2, 1, 1, 0, 1]), (20, [0, 3], [50, 1, 0, 8, 1, 3, 2, 0, 8, 1, 1])], [(0, 0, 2009, []), (0, 0, 5, []), (0, 0, 13, [])]))
abbrev b_Mo_styleOpen_at_f8 : ByteArray := prog_15_method_216_code
def y_Mo_styleOpen_at_f8 : MethodName := ⟨"DrawingHouseModel", "styleOpen", "()V"⟩
abbrev z_Mo_styleOpen_at_f8 : List Cond := Cond.code y_Mo_styleOpen_at_f8 b_Mo_styleOpen_at_f8 1 none :: lw_g
def e_Mo_styleOpen_at_f8 : en_T := ([(2, 0, 0, [165])], none, false, 6, 0, 0, [([(2, 0, 0, [165]), (0, 8, 8, []), (0, 0, 2009, []), (0, 0, 5, []), (0, 0, 13, []), (0, 9, 9, [])], [], [], [((0, 159), 5)], [], [])], [((0, 159), (0, 0, 13, []))], (0, [(165, 158), (165, 159)], [(20, [0], [50, 2, 1, 158, 157, 160, 2, 12, 0, 7, 4, 3, 2, 0, 158, 0, 1, 2, 0, 157, 2, 7, 0, 3, 2, 0, 157, 0, 2010, 3, 14, 1, 10, 3, 0, 160, 5, 3, 2, 0, 157, 0, 1, 0, 0, 1, 10, 3, 0, 160, 5, 3, 2, 0, 157, 0, 1, 0, 4]), (20, [0, 2], [30, 0, 1, 1, 158, -1, 0, 0]), (20, [0, 2], [30, 0, -1, 1, 158, 1, 0, 0]), (20, [0], [50, 1, 1, 158, 160, 7, 6, 3, 0, 160, 2, 0, 158, 0, 0]), (20, [0], [50, 1, 1, 158, 160, 7, 6, 3, 0, 160, 2, 0, 158, 0, 4]), (20, [0], [30, 8, 1, 1, 159]), (20, [0], [30, -8, -1, 1, 159]), (20, [0, 3], [50, 1, 0, 8, 1, 3, 2, 0, 8, 1, 1]), (20, [0, 4], [50, 1, 0, 159, 1, 3, 2, 0, 159, 1, 1])], [(20, [0], [50, 2, 1, 158, 157, 160, 2, 12, 0, 7, 4, 3, 2, 0, 158, 0, 1, 2, 0, 157, 2, 7, 0, 3, 2, 0, 157, 0, 2010, 3, 14, 1, 10, 3, 0, 160, 5, 3, 2, 0, 157, 0, 1, 0, 0, 1, 10, 3, 0, 160, 5, 3, 2, 0, 157, 0, 1, 0, 4]), (20, [2, 0], [30, -1, 1, 0, 0, -1, 1, 158]), (20, [0], [30, 9, 1, 1, 159]), (20, [0], [30, -9, -1, 1, 159]), (20, [0, 2], [50, 1, 0, 158, 1, 3, 2, 0, 158, 4, 2, 1, 1, 0, 1]), (20, [0, 3], [50, 1, 0, 8, 1, 3, 2, 0, 8, 1, 1])], [(0, 0, 2009, []), (0, 0, 5, []), (0, 0, 13, [])]))
abbrev b_Mo_styleOpen_at_f9 : ByteArray := prog_15_method_216_code
def y_Mo_styleOpen_at_f9 : MethodName := ⟨"DrawingHouseModel", "styleOpen", "()V"⟩
abbrev z_Mo_styleOpen_at_f9 : List Cond := Cond.code y_Mo_styleOpen_at_f9 b_Mo_styleOpen_at_f9 1 none :: lw_g
def e_Mo_styleOpen_at_f9 : en_T := ([(2, 0, 0, [165])], none, false, 6, 0, 0, [([(2, 0, 0, [165]), (0, 9, 9, []), (0, 0, 2009, []), (0, 0, 5, []), (0, 0, 13, []), (0, 10, 10, [])], [], [], [((0, 159), 5)], [], [])], [((0, 159), (0, 0, 13, []))], (0, [(165, 158), (165, 159)], [(20, [0], [50, 2, 1, 158, 157, 160, 2, 12, 0, 7, 4, 3, 2, 0, 158, 0, 1, 2, 0, 157, 2, 7, 0, 3, 2, 0, 157, 0, 2010, 3, 14, 1, 10, 3, 0, 160, 5, 3, 2, 0, 157, 0, 1, 0, 0, 1, 10, 3, 0, 160, 5, 3, 2, 0, 157, 0, 1, 0, 4]), (20, [0, 2], [30, 0, 1, 1, 158, -1, 0, 0]), (20, [0, 2], [30, 0, -1, 1, 158, 1, 0, 0]), (20, [0], [50, 1, 1, 158, 160, 7, 6, 3, 0, 160, 2, 0, 158, 0, 0]), (20, [0], [50, 1, 1, 158, 160, 7, 6, 3, 0, 160, 2, 0, 158, 0, 4]), (20, [0], [30, 9, 1, 1, 159]), (20, [0], [30, -9, -1, 1, 159]), (20, [0, 3], [50, 1, 0, 8, 1, 3, 2, 0, 8, 1, 1]), (20, [0, 4], [50, 1, 0, 159, 1, 3, 2, 0, 159, 1, 1])], [(20, [0], [50, 2, 1, 158, 157, 160, 2, 12, 0, 7, 4, 3, 2, 0, 158, 0, 1, 2, 0, 157, 2, 7, 0, 3, 2, 0, 157, 0, 2010, 3, 14, 1, 10, 3, 0, 160, 5, 3, 2, 0, 157, 0, 1, 0, 0, 1, 10, 3, 0, 160, 5, 3, 2, 0, 157, 0, 1, 0, 4]), (20, [2, 0], [30, -1, 1, 0, 0, -1, 1, 158]), (20, [0], [30, 10, 1, 1, 159]), (20, [0], [30, -10, -1, 1, 159]), (20, [0, 2], [50, 1, 0, 158, 1, 3, 2, 0, 158, 4, 2, 1, 1, 0, 1]), (20, [0, 3], [50, 1, 0, 8, 1, 3, 2, 0, 8, 1, 1])], [(0, 0, 2009, []), (0, 0, 5, []), (0, 0, 13, [])]))
abbrev b_Mo_take : ByteArray := prog_15_method_10_code
def y_Mo_take : MethodName := ⟨"DrawingHouseModel", "take", "(I)V"⟩
abbrev z_Mo_take : List Cond := Cond.code y_Mo_take b_Mo_take 2 none :: lw_g
def e_Mo_take : en_T := ([(2, 0, 0, [165]), (0, 0, 3, [])], none, false, 7, 0, 0, [], [], (0, [(165, 5)], [], [(20, [0, 1], [50, 1, 1, 5, 3, 1, 3, 2, 0, 5, 4, 6, 6, 2, 0, 16709, 1, 1, 6, 2, 0, 539, 3, 0, 3, 1, 1])], []))
abbrev b_Mo_worst : ByteArray := prog_15_method_169_code
def y_Mo_worst : MethodName := ⟨"DrawingHouseModel", "worst", "(IIIIII)V"⟩
abbrev z_Mo_worst : List Cond := Cond.code y_Mo_worst b_Mo_worst 20 none :: lw_g
def e_Mo_worst : en_T := ([(2, 0, 0, [165]), (0, 0, 39, []), (0, 1, 40, []), (0, 0, 135166, []), (0, -2147483648, 131071, []), (0, -512, 512, []), (0, -512, 512, [])], none, false, 7, 0, 0, [], [], (0, [(165, 133), (165, 134)], [], [], []))
abbrev b_Mo_writeName : ByteArray := prog_15_method_235_code
def y_Mo_writeName : MethodName := ⟨"DrawingHouseModel", "writeName", "(II)V"⟩
abbrev z_Mo_writeName : List Cond := Cond.code y_Mo_writeName b_Mo_writeName 4 none :: lw_g
def e_Mo_writeName : en_T := ([(2, 0, 0, [165]), (0, 3, 66812, []), (0, 0, 8, [])], none, false, 7, 0, 0, [], [], (7770675568902916283677847627294075626569627356208558085007249638955617140820833992704, [(165, 170)], [(20, [0, 3], [30, 0, 1, 1, 170, -1, 0, 0])], [(20, [0, 3], [30, 8, 1, 1, 170, -1, 0, 0])], [(0, 0, 99999992, [])]))
abbrev b_Mo_writeNumber : ByteArray := prog_15_method_234_code
def y_Mo_writeNumber : MethodName := ⟨"DrawingHouseModel", "writeNumber", "(I)V"⟩
abbrev z_Mo_writeNumber : List Cond := Cond.code y_Mo_writeNumber b_Mo_writeNumber 6 none :: lw_g
def e_Mo_writeNumber : en_T := ([(2, 0, 0, [165]), (0, -900000000, 900000000, [])], none, false, 7, 0, 0, [], [], (7770675568902916283677847627294075626569627356208558085007249638955617140820833992704, [(165, 170)], [(20, [0, 2], [30, 0, 1, 1, 170, -1, 0, 0])], [(20, [0, 2], [30, 13, 1, 1, 170, -1, 0, 0])], [(0, 0, 99999987, [])]))
abbrev b_Dr_coordinate : ByteArray := prog_2_method_5_code
def y_Dr_coordinate : MethodName := ⟨"DrawingHouse$Drawing", "coordinate", "(III)I"⟩
abbrev z_Dr_coordinate : List Cond := Cond.code y_Dr_coordinate b_Dr_coordinate 4 (some .int) :: lw_g
def e_Dr_coordinate : en_T := ([(2, 0, 0, [0]), (0, -2147483648, 2147483647, []), (0, -2147483648, 2147483647, []), (0, -2147483648, 2147483647, [])], some (0, -2147483648, 1001000000, []), true, 7, 0, 0, [], [], (0, [], [], [], []))
abbrev b_Dr_countNodePairs : ByteArray := prog_2_method_27_code
def y_Dr_countNodePairs : MethodName := ⟨"DrawingHouse$Drawing", "countNodePairs", "(Z)J"⟩
abbrev z_Dr_countNodePairs : List Cond := Cond.code y_Dr_countNodePairs b_Dr_countNodePairs 8 (some .long) :: lw_g
def e_Dr_countNodePairs : en_T := ([(2, 0, 0, [0]), (0, 0, 1, [])], some (1, -9223372036854775808, 9223372036854775807, []), true, 7, 0, 0, [], [], (0, [], [], [], []))
abbrev b_Dr_countSlanted : ByteArray := prog_2_method_32_code
def y_Dr_countSlanted : MethodName := ⟨"DrawingHouse$Drawing", "countSlanted", "()J"⟩
abbrev z_Dr_countSlanted : List Cond := Cond.code y_Dr_countSlanted b_Dr_countSlanted 5 (some .long) :: lw_g
def e_Dr_countSlanted : en_T := ([(2, 0, 0, [0])], some (1, -9223372036854775808, 9223372036854775807, []), true, 7, 0, 0, [], [], (0, [], [], [], []))
abbrev b_Dr_isInBox : ByteArray := prog_2_method_12_code
def y_Dr_isInBox : MethodName := ⟨"DrawingHouse$Drawing", "isInBox", "(III)Z"⟩
abbrev z_Dr_isInBox : List Cond := Cond.code y_Dr_isInBox b_Dr_isInBox 4 (some .boolean) :: lw_g
def e_Dr_isInBox : en_T := ([(2, 0, 0, [0]), (0, 0, 23, []), (0, -82000001, 2002000000, []), (0, -82000001, 2002000000, [])], some (0, 0, 1, []), true, 7, 0, 0, [([(2, 0, 0, [0]), (0, 0, 23, []), (0, -82000001, 2002000000, []), (0, -82000001, 2002000000, []), (0, 0, 0, [])], [], [4], [], [], []), ([(2, 0, 0, [0]), (0, 0, 23, []), (0, -82000001, 2002000000, []), (0, -82000001, 2002000000, []), (0, 1, 1, [])], [], [4], [], [], [])], [], (0, [], [], [], []))
abbrev b_Dr_leastTriangle : ByteArray := prog_2_method_35_code
def y_Dr_leastTriangle : MethodName := ⟨"DrawingHouse$Drawing", "leastTriangle", "()J"⟩
abbrev z_Dr_leastTriangle : List Cond := Cond.code y_Dr_leastTriangle b_Dr_leastTriangle 11 (some .long) :: lw_g
def e_Dr_leastTriangle : en_T := ([(2, 0, 0, [0])], some (1, -1, 1065800000000000000, []), true, 6, 0, 0, [], [], (0, [], [], [], []))
abbrev b_Dr_move : ByteArray := prog_2_method_9_code
def y_Dr_move : MethodName := ⟨"DrawingHouse$Drawing", "move", "(IIII)Z"⟩
abbrev z_Dr_move : List Cond := Cond.code y_Dr_move b_Dr_move 5 (some .boolean) :: lw_g
def e_Dr_move : en_T := ([(2, 0, 0, [0]), (0, -2147483648, 2147483647, []), (0, -2147483648, 2147483647, []), (0, -2147483648, 2147483647, []), (0, -2147483648, 2147483647, [])], some (0, 0, 1, []), false, 7, 0, 0, [], [], (442368, [], [(20, [5, 6], [62, 2000000])], [(20, [5, 6], [62, 2000000])], [(2, 0, 0, [12]), (0, 0, 3072, [])]))
abbrev b_Dr_overlap : ByteArray := prog_2_method_26_code
def y_Dr_overlap : MethodName := ⟨"DrawingHouse$Drawing", "overlap", "(IIII)I"⟩
abbrev z_Dr_overlap : List Cond := Cond.code y_Dr_overlap b_Dr_overlap 4 (some .int) :: lw_g
def e_Dr_overlap : en_T := ([(0, -41000000, 1001000000, []), (0, -41000000, 1001000000, []), (0, -41000000, 1001000000, []), (0, -41000000, 1001000000, [])], some (0, -1042000000, 1042000000, []), true, 6, 0, 0, [([(0, -41000000, 1001000000, []), (0, -41000000, 1001000000, []), (0, -41000000, 1001000000, []), (0, -41000000, 1001000000, []), (0, -1042000000, 1042000000, [])], [], [4], [], [], [])], [], (0, [], [], [], []))
abbrev b_Dr_reportArea : ByteArray := prog_2_method_8_code
def y_Dr_reportArea : MethodName := ⟨"DrawingHouse$Drawing", "reportArea", "(II)I"⟩
abbrev z_Dr_reportArea : List Cond := Cond.code y_Dr_reportArea b_Dr_reportArea 3 (some .int) :: lw_g
def e_Dr_reportArea : en_T := ([(2, 0, 0, [0]), (0, -2147483648, 2147483647, []), (0, -2147483648, 2147483647, [])], some (0, -512, 512, []), true, 7, 0, 0, [], [], (0, [], [], [], []))
abbrev b_Dr_reportLayers : ByteArray := prog_2_method_7_code
def y_Dr_reportLayers : MethodName := ⟨"DrawingHouse$Drawing", "reportLayers", "(II)I"⟩
abbrev z_Dr_reportLayers : List Cond := Cond.code y_Dr_reportLayers b_Dr_reportLayers 3 (some .int) :: lw_g
def e_Dr_reportLayers : en_T := ([(2, 0, 0, [0]), (0, -2147483648, 2147483647, []), (0, -2147483648, 2147483647, [])], some (0, -2147483648, 2147483647, []), true, 7, 0, 0, [], [], (0, [], [], [], []))
abbrev b_Dr_sideOf : ByteArray := prog_2_method_23_code
def y_Dr_sideOf : MethodName := ⟨"DrawingHouse$Drawing", "sideOf", "(IIII)J"⟩
abbrev z_Dr_sideOf : List Cond := Cond.code y_Dr_sideOf b_Dr_sideOf 13 (some .long) :: lw_g
def e_Dr_sideOf : en_T := ([(2, 0, 0, [0]), (0, 0, 47, []), (0, 0, 24, []), (0, -41000000, 1001000000, []), (0, -41000000, 1001000000, [])], some (1, -2171528000000000000, 2171528000000000000, []), true, 7, 0, 0, [], [((0, 0), (2, 0, 0, [3]))], (0, [], [], [], []))
abbrev b_Dr_take : ByteArray := prog_2_method_17_code
def y_Dr_take : MethodName := ⟨"DrawingHouse$Drawing", "take", "(II)V"⟩
abbrev z_Dr_take : List Cond := Cond.code y_Dr_take b_Dr_take 3 none :: lw_g
def e_Dr_take : en_T := ([(2, 0, 0, [0]), (0, -41000000, 1001000000, []), (0, -41000000, 1001000000, [])], none, false, 6, 0, 0, [], [], (0, [(0, 17), (0, 18), (0, 19), (0, 20)], [(20, [0, 3], [50, 1, 0, 17, 1, 3, 2, 0, 17, 1, 1]), (20, [0, 4], [50, 1, 0, 19, 1, 3, 2, 0, 19, 1, 1]), (20, [0, 5], [50, 1, 0, 18, 1, 3, 2, 0, 18, 1, 1]), (20, [0, 6], [50, 1, 0, 20, 1, 3, 2, 0, 20, 1, 1])], [(20, [0, 3, 1], [50, 1, 0, 17, 2, 7, 0, 3, 2, 0, 17, 1, 1, 0, 3, 2, 0, 17, 1, 2]), (20, [4, 0, 1], [50, 1, 0, 1019, 2, 7, 0, 2, 1, 0, 2, 1, 19, 0, 2, 1, 2, 2, 1, 19]), (20, [0, 5, 2], [50, 1, 0, 18, 2, 7, 0, 3, 2, 0, 18, 1, 1, 0, 3, 2, 0, 18, 1, 2]), (20, [6, 0, 2], [50, 1, 0, 1020, 2, 7, 0, 2, 1, 0, 2, 1, 20, 0, 2, 1, 2, 2, 1, 20])], [(0, -2147483648, 2147483647, []), (0, -2147483648, 2147483647, []), (0, -2147483648, 2147483647, []), (0, -2147483648, 2147483647, [])]))
abbrev b_Em_joinBlocksAt_at_gn : ByteArray := prog_3_method_19_code
def y_Em_joinBlocksAt_at_gn : MethodName := ⟨"DrawingHouse$Embedder", "joinBlocksAt", "(II)V"⟩
abbrev z_Em_joinBlocksAt_at_gn : List Cond := Cond.code y_Em_joinBlocksAt_at_gn b_Em_joinBlocksAt_at_gn 8 none :: lw_g
def e_Em_joinBlocksAt_at_gn : en_T := ([(2, 0, 0, [1]), (0, 0, 23, []), (0, 0, 72, [])], none, false, 7, 0, 0, [], [((0, 0), (2, 0, 0, [5]))], (58028439341502269105373184, [], [(20, [3], [60, 2, 3, 595, 5, 6, 7, 8, 9]), (20, [0, 3, 2], [60, 1, 3, 598, 1006, 2, 1007, 1008]), (20, [3, 1], [60, 1, 2, 629, 5, 9, 12]), (20, [1, 3], [50, 1, 0, 1005, 2, 6, 0, 2, 0, 0, 1, 0, 0, 6, 4, 2, 1, 0, 0, 1, 2, 1, 5])], [(20, [3, 1], [60, 1, 2, 630, 5, 9, 12]), (20, [3], [60, 2, 3, 595, 5, 6, 7, 8, 9]), (20, [0, 3, 2], [60, 1, 3, 598, 1006, 2, 1007, 1008])], []))
abbrev b_Em_joinBlocksAt_at_gp : ByteArray := prog_3_method_19_code
def y_Em_joinBlocksAt_at_gp : MethodName := ⟨"DrawingHouse$Embedder", "joinBlocksAt", "(II)V"⟩
abbrev z_Em_joinBlocksAt_at_gp : List Cond := Cond.code y_Em_joinBlocksAt_at_gp b_Em_joinBlocksAt_at_gp 8 none :: lw_g
def e_Em_joinBlocksAt_at_gp : en_T := ([(2, 0, 0, [1]), (0, 0, 24, []), (0, 0, 72, [])], none, false, 7, 0, 0, [], [((0, 0), (2, 0, 0, [149]))], (66902235595591869424607154817945153237417984, [], [(20, [3], [60, 2, 3, 595, 5, 6, 7, 8, 9]), (20, [0, 3, 2], [60, 1, 3, 598, 1006, 2, 1007, 1008]), (20, [3, 1], [60, 1, 2, 629, 5, 9, 12]), (20, [1, 3], [50, 1, 0, 1005, 2, 6, 0, 2, 0, 0, 1, 0, 0, 6, 4, 2, 1, 0, 0, 1, 2, 1, 5])], [(20, [3, 1], [60, 1, 2, 630, 5, 9, 12]), (20, [3], [60, 2, 3, 595, 5, 6, 7, 8, 9]), (20, [0, 3, 2], [60, 1, 3, 598, 1006, 2, 1007, 1008])], []))
abbrev b_Em_turnByCycles_at_gn : ByteArray := prog_3_method_18_code
def y_Em_turnByCycles_at_gn : MethodName := ⟨"DrawingHouse$Embedder", "turnByCycles", "()V"⟩
abbrev z_Em_turnByCycles_at_gn : List Cond := Cond.code y_Em_turnByCycles_at_gn b_Em_turnByCycles_at_gn 9 none :: lw_g
def e_Em_turnByCycles_at_gn : en_T := ([(2, 0, 0, [1])], none, false, 7, 0, 0, [], [((0, 0), (2, 0, 0, [5]))], (8589934592, [], [], [], []))
abbrev b_Em_turnByCycles_at_gp : ByteArray := prog_3_method_18_code
def y_Em_turnByCycles_at_gp : MethodName := ⟨"DrawingHouse$Embedder", "turnByCycles", "()V"⟩
abbrev z_Em_turnByCycles_at_gp : List Cond := Cond.code y_Em_turnByCycles_at_gp b_Em_turnByCycles_at_gp 9 none :: lw_g
def e_Em_turnByCycles_at_gp : en_T := ([(2, 0, 0, [1])], none, false, 7, 0, 0, [], [((0, 0), (2, 0, 0, [149]))], (8589934592, [], [], [], []))
abbrev b_Fa_costAhead : ByteArray := prog_4_method_22_code
def y_Fa_costAhead : MethodName := ⟨"DrawingHouse$Facts", "costAhead", "(LDrawingHouse$Graph;III)I"⟩
abbrev z_Fa_costAhead : List Cond := Cond.code y_Fa_costAhead b_Fa_costAhead 7 (some .int) :: lw_g
def e_Fa_costAhead : en_T := ([(2, 0, 0, [2]), (2, 0, 0, [3]), (0, 0, 127, []), (0, 0, 6, []), (0, 2, 7, [])], some (0, 0, 1048575, []), true, 8, 0, 0, [], [], (0, [], [(20, [2, 3], [61, 0, 705]), (20, [2, 3, 4], [50, 0, 0, 2, 6, 0, 2, 1, 0, 0, 127, 2, 10, 0, 6, 4, 2, 1, 1, 0, 1, 1, 2, 0, 2, 1, 2, 0, 7])], [(20, [0, 1, 2, 3, 4, 5], [60, 0, 5, 711, 14, 13, 1007, 1009, 1015])], []))
abbrev b_Fa_learnCore : ByteArray := prog_4_method_16_code
def y_Fa_learnCore : MethodName := ⟨"DrawingHouse$Facts", "learnCore", "(LDrawingHouse$Graph;)V"⟩
abbrev z_Fa_learnCore : List Cond := Cond.code y_Fa_learnCore b_Fa_learnCore 6 none :: lw_g
def e_Fa_learnCore : en_T := ([(2, 0, 0, [2]), (2, 0, 0, [3])], none, false, 7, 0, 0, [], [], (1099511627776, [], [], [], []))
abbrev b_Fa_learnStrong : ByteArray := prog_4_method_14_code
def y_Fa_learnStrong : MethodName := ⟨"DrawingHouse$Facts", "learnStrong", "(LDrawingHouse$Graph;)V"⟩
abbrev z_Fa_learnStrong : List Cond := Cond.code y_Fa_learnStrong b_Fa_learnStrong 3 none :: lw_g
def e_Fa_learnStrong : en_T := ([(2, 0, 0, [2]), (2, 0, 0, [3])], none, false, 7, 0, 0, [], [], (9345848836096, [(2, 3)], [], [], []))
abbrev b_Gr_relink : ByteArray := prog_5_method_17_code
def y_Gr_relink : MethodName := ⟨"DrawingHouse$Graph", "relink", "()V"⟩
abbrev z_Gr_relink : List Cond := Cond.code y_Gr_relink b_Gr_relink 2 none :: lw_g
def e_Gr_relink : en_T := ([(2, 0, 0, [3])], none, false, 7, 0, 0, [], [], (1729382256910270464, [], [(20, [0], [60, 2, 2, 596, 0, 1, 7, 8])], [(20, [0], [60, 2, 3, 670, 0, 1, 14, 7, 8]), (20, [0], [60, 2, 2, 596, 0, 1, 7, 8])], []))
abbrev b_La_makeItems : ByteArray := prog_6_method_9_code
def y_La_makeItems : MethodName := ⟨"DrawingHouse$Layers", "makeItems", "(LDrawingHouse$Facts;)Z"⟩
abbrev z_La_makeItems : List Cond := Cond.code y_La_makeItems b_La_makeItems 6 (some .boolean) :: lw_g
def e_La_makeItems : en_T := ([(2, 0, 0, [4]), (2, 0, 0, [2])], some (0, 0, 1, []), false, 7, 0, 0, [], [((0, 1), (2, 0, 0, [3]))], (13835058055282163712, [(4, 3)], [(20, [0, 2, 1], [60, 3, 4, 660, 2, 1000, 1001, 4, 1007, 1008, 2009])], [(20, [0, 2, 1, 3], [60, 4, 5, 665, 3, 2, 1000, 1001, 4, 5, 1007, 1008, 2009])], []))
abbrev b_La_makePieces : ByteArray := prog_6_method_10_code
def y_La_makePieces : MethodName := ⟨"DrawingHouse$Layers", "makePieces", "(LDrawingHouse$Facts;)V"⟩
abbrev z_La_makePieces : List Cond := Cond.code y_La_makePieces b_La_makePieces 7 none :: lw_g
def e_La_makePieces : en_T := ([(2, 0, 0, [4]), (2, 0, 0, [2])], none, false, 7, 0, 0, [], [((0, 1), (2, 0, 0, [3]))], (276701161105643274240, [], [(20, [0, 2, 1], [60, 4, 5, 664, 3, 2, 1000, 1001, 4, 5, 1007, 1008, 2009]), (20, [0], [50, 1, 0, 2, 0, 2, 0, 1, 2, 0, 2])], [(20, [0], [60, 2, 2, 668, 3, 2, 7, 9])], []))
abbrev b_La_setOrder : ByteArray := prog_6_method_17_code
def y_La_setOrder : MethodName := ⟨"DrawingHouse$Layers", "setOrder", "(II)V"⟩
abbrev z_La_setOrder : List Cond := Cond.code y_La_setOrder b_La_setOrder 7 none :: lw_g
def e_La_setOrder : en_T := ([(2, 0, 0, [4]), (0, 0, 23, []), (0, 0, 719, [])], none, false, 7, 0, 0, [], [], (7083549724304467820544, [], [(20, [0], [60, 1, 1, 636, 2, 10]), (20, [1, 0], [50, 1, 0, 1002, 2, 6, 0, 2, 0, 0, 1, 0, 0, 6, 4, 2, 1, 0, 0, 1, 2, 1, 2]), (20, [0], [60, 0, 1, 648, 17]), (20, [0, 1, 2], [60, 0, 1, 686, 10])], [], []))
abbrev b_Ne_edgeAround : ByteArray := prog_7_method_12_code
def y_Ne_edgeAround : MethodName := ⟨"DrawingHouse$Net", "edgeAround", "(II)I"⟩
abbrev z_Ne_edgeAround : List Cond := Cond.code y_Ne_edgeAround b_Ne_edgeAround 5 (some .int) :: lw_g
def e_Ne_edgeAround : en_T := ([(2, 0, 0, [5]), (0, 0, 2147483647, []), (0, 0, 2147483647, [])], some (0, -1, 71, []), true, 7, 0, 0, [], [], (0, [], [(20, [0], [60, 1, 2, 631, 5, 9, 12])], [], []))
abbrev b_Ne_insertAhead : ByteArray := prog_7_method_9_code
def y_Ne_insertAhead : MethodName := ⟨"DrawingHouse$Net", "insertAhead", "(III)V"⟩
abbrev z_Ne_insertAhead : List Cond := Cond.code y_Ne_insertAhead b_Ne_insertAhead 6 none :: lw_g
def e_Ne_insertAhead : en_T := ([(2, 0, 0, [294]), (0, 0, 71, []), (0, 0, 23, []), (0, 0, 71, [])], none, false, 8, 0, 0, [], [], (994646472819573284310764496293641680200912301594695434880927953786318994025066751066112, [], [], [], []))
abbrev b_Ne_traceFaces_at_Ne : ByteArray := prog_7_method_11_code
def y_Ne_traceFaces_at_Ne : MethodName := ⟨"DrawingHouse$Net", "traceFaces", "()V"⟩
abbrev z_Ne_traceFaces_at_Ne : List Cond := Cond.code y_Ne_traceFaces_at_Ne b_Ne_traceFaces_at_Ne 6 none :: lw_g
def e_Ne_traceFaces_at_Ne : en_T := ([(2, 0, 0, [5])], none, false, 7, 0, 0, [], [], (541598767187353870268366848, [(5, 13)], [], [(20, [0], [60, 1, 1, 553, 6, 16])], []))
abbrev b_Ne_traceFaces_at_Np : ByteArray := prog_7_method_11_code
def y_Ne_traceFaces_at_Np : MethodName := ⟨"DrawingHouse$Net", "traceFaces", "()V"⟩
abbrev z_Ne_traceFaces_at_Np : List Cond := Cond.code y_Ne_traceFaces_at_Np b_Ne_traceFaces_at_Np 6 none :: lw_g
def e_Ne_traceFaces_at_Np : en_T := ([(2, 0, 0, [149])], none, false, 7, 0, 0, [], [], (624420865558857447963000111634154122167451648, [(149, 13)], [], [(20, [0], [60, 1, 1, 553, 6, 16])], []))
abbrev b_Ne_traceFaces_at_Nq : ByteArray := prog_7_method_11_code
def y_Ne_traceFaces_at_Nq : MethodName := ⟨"DrawingHouse$Net", "traceFaces", "()V"⟩
abbrev z_Ne_traceFaces_at_Nq : List Cond := Cond.code y_Ne_traceFaces_at_Nq b_Ne_traceFaces_at_Nq 6 none :: lw_g
def e_Ne_traceFaces_at_Nq : en_T := ([(2, 0, 0, [294])], none, false, 7, 0, 0, [], [], (27850101238948051960701405896221967045625544444651472176665982706016931832701869029851136, [(294, 13)], [], [(20, [0], [60, 1, 1, 553, 6, 16])], []))
abbrev b_Pl_gatherItems : ByteArray := prog_8_method_11_code
def y_Pl_gatherItems : MethodName := ⟨"DrawingHouse$PlainWays", "gatherItems", "(I)V"⟩
abbrev z_Pl_gatherItems : List Cond := Cond.code y_Pl_gatherItems b_Pl_gatherItems 3 none :: lw_g
def e_Pl_gatherItems : en_T := ([(2, 0, 0, [6]), (0, 0, 7, [])], none, false, 7, 0, 0, [], [((0, 0), (2, 0, 0, [3]))], (118842243771396506390315925504, [(6, 11)], [], [], []))
abbrev b_Pl_placeSideBySide : ByteArray := prog_8_method_7_code
def y_Pl_placeSideBySide : MethodName := ⟨"DrawingHouse$PlainWays", "placeSideBySide", "(I)I"⟩
abbrev z_Pl_placeSideBySide : List Cond := Cond.code y_Pl_placeSideBySide b_Pl_placeSideBySide 9 (some .int) :: lw_g
def e_Pl_placeSideBySide : en_T := ([(2, 0, 0, [6]), (0, 0, 24, [])], some (0, 0, 16777215, []), false, 7, 0, 0, [], [((0, 0), (2, 0, 0, [3])), ((0, 1), (2, 0, 0, [0]))], (16384, [], [(20, [0, 2, 3, 4, 5], [60, 1, 3, 865, 1000, 2, 5, 2002]), (20, [0, 2, 4, 5], [60, 1, 2, 860, 1000, 2, 6]), (20, [0, 1, 4, 5], [60, 0, 3, 861, 2, 4, 7]), (20, [0, 2, 1, 4, 5], [60, 1, 2, 862, 1000, 2, 5]), (20, [0, 2, 4], [60, 1, 3, 859, 1000, 2, 5, 4])], [(20, [0, 2, 3, 1, 4, 5], [60, 1, 3, 866, 1000, 2, 5, 2002]), (20, [0, 2, 6, 1, 4, 5], [60, 1, 2, 863, 1000, 2, 7])], [(0, 0, 24, []), (0, 0, 24, [])]))
abbrev b_Pl_ringCrossings : ByteArray := prog_8_method_20_code
def y_Pl_ringCrossings : MethodName := ⟨"DrawingHouse$PlainWays", "ringCrossings", "()I"⟩
abbrev z_Pl_ringCrossings : List Cond := Cond.code y_Pl_ringCrossings b_Pl_ringCrossings 4 (some .int) :: lw_g
def e_Pl_ringCrossings : en_T := ([(2, 0, 0, [6])], some (0, -2147483648, 2147483647, []), true, 7, 0, 0, [], [((0, 0), (2, 0, 0, [3]))], (0, [], [], [], []))
abbrev b_Pn_init : ByteArray := prog_9_method_1_code
def y_Pn_init : MethodName := ⟨"DrawingHouse$PlanarWays", "<init>", "()V"⟩
abbrev z_Pn_init : List Cond := Cond.code y_Pn_init b_Pn_init 1 none :: lw_g
def e_Pn_init : en_T := ([(2, 0, 0, [301])], none, false, 7, 18, 1778, [([(2, 0, 0, [301]), (3, 0, 0, [294]), (3, 0, 0, [102]), (3, 0, 0, [103]), (3, 0, 0, [104]), (3, 0, 0, [105]), (3, 0, 0, [106]), (3, 0, 0, [107]), (3, 0, 0, [108]), (2, 0, 0, [294]), (2, 0, 0, [102]), (2, 0, 0, [103]), (2, 0, 0, [104]), (2, 0, 0, [105]), (2, 0, 0, [106]), (2, 0, 0, [107]), (2, 0, 0, [108])], [], [], [((0, 0), 9), ((0, 1), 10), ((0, 2), 11), ((0, 4), 12), ((0, 5), 13), ((0, 6), 14), ((0, 7), 15), ((0, 8), 16)], [], [])], [((0, 0), (3, 0, 0, [294])), ((0, 1), (3, 0, 0, [102])), ((0, 2), (3, 0, 0, [103])), ((0, 4), (3, 0, 0, [104])), ((0, 5), (3, 0, 0, [105])), ((0, 6), (3, 0, 0, [106])), ((0, 7), (3, 0, 0, [107])), ((0, 8), (3, 0, 0, [108]))], (0, [(301, 0), (301, 1), (301, 2), (301, 3), (301, 4), (301, 5), (301, 6), (301, 7), (301, 8), (305, 0), (305, 1), (305, 2), (305, 3), (305, 4), (305, 5), (305, 6), (305, 7), (305, 8), (305, 9), (305, 10), (305, 11), (305, 12), (305, 13), (305, 14), (305, 15), (305, 16)], [], [], []))
abbrev b_Re_isNameByte : ByteArray := prog_10_method_8_code
def y_Re_isNameByte : MethodName := ⟨"DrawingHouse$Reader", "isNameByte", "(I)Z"⟩
abbrev z_Re_isNameByte : List Cond := Cond.code y_Re_isNameByte b_Re_isNameByte 1 (some .boolean) :: lw_g
def e_Re_isNameByte : en_T := ([(0, -128, 127, [])], some (0, 0, 1, []), true, 7, 0, 0, [([(0, -128, 47, []), (0, 0, 0, [])], [], [1], [], [], []), ([(0, 58, 64, []), (0, 0, 0, [])], [], [1], [], [], []), ([(0, 48, 57, []), (0, 1, 1, [])], [], [1], [], [], []), ([(0, 91, 96, []), (0, 0, 0, [])], [], [1], [], [], []), ([(0, 95, 95, []), (0, 1, 1, [])], [], [1], [], [], []), ([(0, 65, 90, []), (0, 1, 1, [])], [], [1], [], [], []), ([(0, 97, 122, []), (0, 1, 1, [])], [], [1], [], [], []), ([(0, 123, 127, []), (0, 0, 0, [])], [], [1], [], [], [])], [], (0, [], [], [(20, [0, 1], [61, 0, 1099])], []))
abbrev b_Ro_bar : ByteArray := prog_11_method_5_code
def y_Ro_bar : MethodName := ⟨"DrawingHouse$Router", "bar", "(II)V"⟩
abbrev z_Ro_bar : List Cond := Cond.code y_Ro_bar b_Ro_bar 8 none :: lw_g
def e_Ro_bar : en_T := ([(2, 0, 0, [9]), (0, 0, 23, []), (0, 0, 23, [])], none, false, 7, 0, 0, [], [((0, 0), (2, 0, 0, [3])), ((0, 1), (2, 0, 0, [0]))], (2596148429267413814265248164610048, [], [(20, [0, 3, 4], [60, 5, 3, 839, 2, 3, 4, 5, 1000, 1004, 2002, 2003])], [], []))
abbrev b_Ro_readWay : ByteArray := prog_11_method_10_code
def y_Ro_readWay : MethodName := ⟨"DrawingHouse$Router", "readWay", "()V"⟩
abbrev z_Ro_readWay : List Cond := Cond.code y_Ro_readWay b_Ro_readWay 6 none :: lw_g
def e_Ro_readWay : en_T := ([(2, 0, 0, [9])], none, false, 8, 0, 0, [], [], (249230249209671726169463823802564608, [(9, 17)], [(20, [0], [50, 2, 0, 4, 5, 2, 7, 0, 2, 0, 1, 2, 0, 4, 2, 7, 0, 2, 0, 1, 2, 0, 5, 0, 8, 6, 3, 2, 0, 4, 2, 0, 5, 0, 6000]), (20, [0], [50, 3, 0, 6, 4, 5, 0, 7, 4, 3, 2, 0, 6, 0, 1, 6, 3, 2, 0, 4, 2, 0, 5]), (20, [0], [30, 0, 1, 1, 17])], [], []))
abbrev b_Sy_lookAtEdge : ByteArray := prog_13_method_20_code
def y_Sy_lookAtEdge : MethodName := ⟨"DrawingHouse$Styler", "lookAtEdge", "(LDrawingHouse$Graph;LDrawingHouse$Facts;LDrawingHouse$Drawing;I)V"⟩
abbrev z_Sy_lookAtEdge : List Cond := Cond.code y_Sy_lookAtEdge b_Sy_lookAtEdge 8 none :: lw_g
def e_Sy_lookAtEdge : en_T := ([(2, 0, 0, [11]), (2, 0, 0, [3]), (2, 0, 0, [2]), (2, 0, 0, [0]), (0, 0, 47, [])], none, false, 7, 0, 0, [], [], (1361129467683753853853498429727072845824, [], [], [], []))
abbrev b_Mo_barX : ByteArray := prog_15_method_154_code
def y_Mo_barX : MethodName := ⟨"DrawingHouseModel", "barX", "(I)I"⟩
abbrev z_Mo_barX : List Cond := Cond.code y_Mo_barX b_Mo_barX 2 (some .int) :: lw_g
def e_Mo_barX : en_T := ([(2, 0, 0, [165]), (0, 0, 79, [])], some (0, -1000000, 1000000, []), true, 8, 0, 0, [([(2, 0, 0, [165]), (0, 1, 79, []), (0, -1000000, 1000000, [])], [], [2], [], [], []), ([(2, 0, 0, [165]), (0, 0, 0, []), (0, -1, -1, [])], [], [2], [], [], [])], [], (0, [], [(20, [0], [60, 3, 8, 316, 31, 32, 53, 33, 34, 35, 36, 37, 54, 56, 57]), (20, [1, 0], [30, -1, 1, 0, 0, -1, 1, 32])], [], []))
abbrev b_Mo_bound : ByteArray := prog_15_method_209_code
def y_Mo_bound : MethodName := ⟨"DrawingHouseModel", "bound", "(II)V"⟩
abbrev z_Mo_bound : List Cond := Cond.code y_Mo_bound b_Mo_bound 3 none :: lw_g
def e_Mo_bound : en_T := ([(2, 0, 0, [165]), (0, -300000011, 300000000, []), (0, -900000000, 900000000, [])], none, false, 7, 0, 0, [], [], (0, [(165, 153), (165, 154), (165, 155), (165, 156)], [(20, [0, 3], [30, 0, 1, 1, 153, -1, 0, 0]), (20, [0, 3], [30, 0, -1, 1, 153, 1, 0, 0]), (20, [0, 4], [30, 0, 1, 1, 154, -1, 0, 0]), (20, [0, 4], [30, 0, -1, 1, 154, 1, 0, 0]), (20, [0, 5], [30, 0, 1, 1, 155, -1, 0, 0]), (20, [0, 5], [30, 0, -1, 1, 155, 1, 0, 0]), (20, [0, 6], [30, 0, 1, 1, 156, -1, 0, 0]), (20, [0, 6], [30, 0, -1, 1, 156, 1, 0, 0])], [(20, [0, 3], [30, 0, 1, 1, 153, -1, 0, 0]), (20, [0, 4], [30, 0, -1, 1, 154, 1, 0, 0]), (20, [0, 5], [30, 0, 1, 1, 155, -1, 0, 0]), (20, [0, 6], [30, 0, -1, 1, 156, 1, 0, 0]), (20, [0, 1], [30, 0, 1, 1, 153, -1, 0, 0]), (20, [0, 1], [30, 0, -1, 1, 154, 1, 0, 0]), (20, [0, 2], [30, 0, 1, 1, 155, -1, 0, 0]), (20, [0, 2], [30, 0, -1, 1, 156, 1, 0, 0])], [(0, -2147483648, 2147483647, []), (0, -2147483648, 2147483647, []), (0, -2147483648, 2147483647, []), (0, -2147483648, 2147483647, [])]))
abbrev b_Mo_dotLine : ByteArray := prog_15_method_245_code
def y_Mo_dotLine : MethodName := ⟨"DrawingHouseModel", "dotLine", "(IIIII)V"⟩
abbrev z_Mo_dotLine : List Cond := Cond.code y_Mo_dotLine b_Mo_dotLine 10 none :: lw_g
def e_Mo_dotLine : en_T := ([(2, 0, 0, [165]), (0, 0, 63, []), (0, 0, 63, []), (0, 0, 63, []), (0, 0, 63, []), (0, 1, 256, [])], none, false, 7, 0, 0, [], [], (15541351137805832567355695254588151253139254712417116170014499277911234281641667985408, [], [], [], []))
abbrev b_Mo_drawWay : ByteArray := prog_15_method_71_code
def y_Mo_drawWay : MethodName := ⟨"DrawingHouseModel", "drawWay", "()V"⟩
abbrev z_Mo_drawWay : List Cond := Cond.code y_Mo_drawWay b_Mo_drawWay 2 none :: lw_g
def e_Mo_drawWay : en_T := ([(2, 0, 0, [165])], none, false, 8, 0, 0, [], [], (1176956575385002643219210516851437453019191645837006471168, [], [(20, [0], [60, 2, 2, 75, 31, 32, 33, 34]), (20, [0, 1], [60, 4, 9, 152, 31, 32, 39, 45, 33, 34, 35, 17, 43, 42, 40, 41, 46])], [(20, [0, 1], [60, 2, 8, 154, 32, 39, 33, 34, 35, 17, 43, 42, 40, 41])], [(0, 0, 79, [])]))
abbrev b_Mo_fits : ByteArray := prog_15_method_60_code
def y_Mo_fits : MethodName := ⟨"DrawingHouseModel", "fits", "(II)Z"⟩
abbrev z_Mo_fits : List Cond := Cond.code y_Mo_fits b_Mo_fits 5 (some .boolean) :: lw_g
def e_Mo_fits : en_T := ([(2, 0, 0, [165]), (0, 0, 23, []), (0, 0, 23, [])], some (0, 0, 1, []), true, 7, 0, 0, [], [], (0, [], [], [], []))
abbrev b_Mo_from : ByteArray := prog_15_method_122_code
def y_Mo_from : MethodName := ⟨"DrawingHouseModel", "from", "(I)I"⟩
abbrev z_Mo_from : List Cond := Cond.code y_Mo_from b_Mo_from 2 (some .int) :: lw_g
def e_Mo_from : en_T := ([(2, 0, 0, [165]), (0, 0, 47, [])], some (0, 0, 23, []), true, 7, 0, 0, [([(2, 0, 0, [165]), (0, 0, 47, []), (0, 0, 23, [])], [], [2], [], [], [])], [], (0, [], [], [(20, [0, 1, 2], [60, 1, 2, 432, 5, 2, 95])], []))
abbrev b_Mo_goRound : ByteArray := prog_15_method_90_code
def y_Mo_goRound : MethodName := ⟨"DrawingHouseModel", "goRound", "()V"⟩
abbrev z_Mo_goRound : List Cond := Cond.code y_Mo_goRound b_Mo_goRound 4 none :: lw_g
def e_Mo_goRound : en_T := ([(2, 0, 0, [165])], none, false, 8, 0, 0, [], [], (1305637160960429598877844200027194614549289932448519178682368, [(165, 53)], [(20, [0], [60, 2, 2, 75, 31, 32, 33, 34]), (20, [0], [60, 2, 5, 187, 31, 32, 33, 34, 35, 36, 37])], [(20, [0], [60, 2, 8, 193, 32, 53, 33, 34, 35, 36, 37, 54, 56, 57])], []))
abbrev b_Mo_halfOf : ByteArray := prog_15_method_137_code
def y_Mo_halfOf : MethodName := ⟨"DrawingHouseModel", "halfOf", "(I)I"⟩
abbrev z_Mo_halfOf : List Cond := Cond.code y_Mo_halfOf b_Mo_halfOf 2 (some .int) :: lw_g
def e_Mo_halfOf : en_T := ([(2, 0, 0, [165]), (0, 0, 75, [])], some (0, 0, 9, []), true, 7, 0, 0, [([(2, 0, 0, [165]), (0, 0, 75, []), (0, 0, 0, [])], [], [2], [], [], []), ([(2, 0, 0, [165]), (0, 0, 23, []), (0, 1, 9, [])], [], [2], [], [], [])], [], (0, [], [], [(20, [2], [50, 0, 0, 2, 6, 0, 2, 0, 0, 1, 0, 0, 2, 1, 0, 0, 100])], []))
abbrev b_Mo_has : ByteArray := prog_15_method_22_code
def y_Mo_has : MethodName := ⟨"DrawingHouseModel", "has", "(II)Z"⟩
abbrev z_Mo_has : List Cond := Cond.code y_Mo_has b_Mo_has 3 (some .boolean) :: lw_g
def e_Mo_has : en_T := ([(2, 0, 0, [165]), (0, 0, 47, []), (0, 0, 75, [])], some (0, 0, 1, []), true, 7, 0, 0, [([(2, 0, 0, [165]), (0, 0, 47, []), (0, 0, 23, []), (0, 1, 1, [])], [], [3], [], [], []), ([(2, 0, 0, [165]), (0, 0, 47, []), (0, 0, 75, []), (0, 0, 0, [])], [], [3], [], [], [])], [], (0, [], [], [(20, [0, 1, 2, 3], [60, 1, 1, 204, 5, 2])], []))
abbrev b_Mo_keep : ByteArray := prog_15_method_106_code
def y_Mo_keep : MethodName := ⟨"DrawingHouseModel", "keep", "(II)V"⟩
abbrev z_Mo_keep : List Cond := Cond.code y_Mo_keep b_Mo_keep 5 none :: lw_g
def e_Mo_keep : en_T := ([(2, 0, 0, [165]), (0, 0, 3, []), (0, 0, 7, [])], none, false, 7, 0, 0, [], [], (202474193576632774718287223634986487917797577216631897247973376, [], [], [], []))
abbrev b_Mo_mayLeave : ByteArray := prog_15_method_147_code
def y_Mo_mayLeave : MethodName := ⟨"DrawingHouseModel", "mayLeave", "(I)Z"⟩
abbrev z_Mo_mayLeave : List Cond := Cond.code y_Mo_mayLeave b_Mo_mayLeave 4 (some .boolean) :: lw_g
def e_Mo_mayLeave : en_T := ([(2, 0, 0, [165]), (0, 1, 28, [])], some (0, 0, 1, []), true, 8, 0, 0, [], [], (0, [], [(20, [0], [60, 2, 2, 75, 31, 32, 33, 34]), (20, [1, 0], [30, -1, 1, 0, 0, -1, 1, 121])], [(20, [0, 1, 2], [60, 2, 4, 287, 32, 121, 33, 34, 35, 122])], []))
abbrev b_Mo_other : ByteArray := prog_15_method_21_code
def y_Mo_other : MethodName := ⟨"DrawingHouseModel", "other", "(II)I"⟩
abbrev z_Mo_other : List Cond := Cond.code y_Mo_other b_Mo_other 3 (some .int) :: lw_g
def e_Mo_other : en_T := ([(2, 0, 0, [165]), (0, 0, 47, []), (0, 0, 23, [])], some (0, 0, 23, []), true, 7, 0, 0, [([(2, 0, 0, [165]), (0, 0, 47, []), (0, 0, 23, []), (0, 0, 23, [])], [], [3], [], [], [])], [], (0, [], [], [], []))
abbrev b_Mo_pieces : ByteArray := prog_15_method_75_code
def y_Mo_pieces : MethodName := ⟨"DrawingHouseModel", "pieces", "()V"⟩
abbrev z_Mo_pieces : List Cond := Cond.code y_Mo_pieces b_Mo_pieces 5 none :: lw_g
def e_Mo_pieces : en_T := ([(2, 0, 0, [165])], none, false, 7, 0, 0, [], [], (1569275433846670190958947355801916604025588861116008628224, [], [], [(20, [0], [60, 1, 5, 106, 32, 33, 34, 43, 42, 44])], []))
abbrev b_Mo_styleNeed : ByteArray := prog_15_method_215_code
def y_Mo_styleNeed : MethodName := ⟨"DrawingHouseModel", "styleNeed", "(I)V"⟩
abbrev z_Mo_styleNeed : List Cond := Cond.code y_Mo_styleNeed b_Mo_styleNeed 2 none :: lw_g
def e_Mo_styleNeed : en_T := ([(2, 0, 0, [165]), (0, 41, 125, [])], none, false, 7, 0, 0, [], [], (0, [(165, 8), (165, 9), (165, 158)], [(20, [0], [50, 2, 1, 158, 157, 160, 2, 12, 0, 7, 4, 3, 2, 0, 158, 0, 1, 2, 0, 157, 2, 7, 0, 3, 2, 0, 157, 0, 2010, 3, 14, 1, 10, 3, 0, 160, 5, 3, 2, 0, 157, 0, 1, 0, 0, 1, 10, 3, 0, 160, 5, 3, 2, 0, 157, 0, 1, 0, 4]), (20, [0, 2], [30, 0, 1, 1, 158, -1, 0, 0]), (20, [0, 2], [30, 0, -1, 1, 158, 1, 0, 0]), (20, [0, 3], [50, 1, 0, 8, 1, 3, 2, 0, 8, 1, 1])], [(20, [0], [50, 2, 1, 158, 157, 160, 2, 12, 0, 7, 4, 3, 2, 0, 158, 0, 1, 2, 0, 157, 2, 7, 0, 3, 2, 0, 157, 0, 2010, 3, 14, 1, 10, 3, 0, 160, 5, 3, 2, 0, 157, 0, 1, 0, 0, 1, 10, 3, 0, 160, 5, 3, 2, 0, 157, 0, 1, 0, 4]), (20, [2, 0], [30, 0, 1, 0, 0, -1, 1, 158]), (20, [0, 1, 2, 3], [60, 2, 2, 15, 8, 158, 160, 161])], [(0, 0, 2009, []), (0, 0, 5, [])]))
abbrev b_Mo_to : ByteArray := prog_15_method_123_code
def y_Mo_to : MethodName := ⟨"DrawingHouseModel", "to", "(I)I"⟩
abbrev z_Mo_to : List Cond := Cond.code y_Mo_to b_Mo_to 2 (some .int) :: lw_g
def e_Mo_to : en_T := ([(2, 0, 0, [165]), (0, 0, 47, [])], some (0, 0, 23, []), true, 7, 0, 0, [([(2, 0, 0, [165]), (0, 0, 47, []), (0, 0, 23, [])], [], [2], [], [], [])], [], (0, [], [], [(20, [0, 1, 2], [60, 1, 2, 433, 5, 2, 95])], []))
abbrev b_Mo_up : ByteArray := prog_15_method_114_code
def y_Mo_up : MethodName := ⟨"DrawingHouseModel", "up", "()I"⟩
abbrev z_Mo_up : List Cond := Cond.code y_Mo_up b_Mo_up 8 (some .int) :: lw_g
def e_Mo_up : en_T := ([(2, 0, 0, [165])], some (0, 0, 79, []), false, 8, 0, 0, [], [], (3235193600058076775360041810442355680836457330704868697732433229905920, [(165, 94)], [(20, [0], [60, 3, 7, 395, 79, 80, 81, 83, 84, 85, 86, 87, 88, 89])], [(20, [0, 1], [60, 3, 9, 417, 79, 80, 81, 93, 82, 83, 84, 85, 86, 87, 88, 89])], []))
abbrev b_Ho_forget : ByteArray := prog_1_method_32_code
def y_Ho_forget : MethodName := ⟨"DrawingHouse", "forget", "(I)V"⟩
abbrev z_Ho_forget : List Cond := Cond.code y_Ho_forget b_Ho_forget 2 none :: lw_g
def e_Ho_forget : en_T := ([(2, 0, 0, [12]), (0, 0, 3, [])], none, false, 7, 0, 0, [], [], (8388608, [(0, 1), (2, 0), (5, 0), (5, 1), (5, 2), (5, 3)], [(20, [0, 1], [62, 1]), (20, [1], [50, 0, 0, 2, 6, 0, 2, 0, 0, 1, 0, 0, 2, 1, 0, 0, 3])], [(20, [0], [62, 0])], []))
abbrev b_Ho_group : ByteArray := prog_1_method_8_code
def y_Ho_group : MethodName := ⟨"DrawingHouse", "group", "(III)I"⟩
abbrev z_Ho_group : List Cond := Cond.code y_Ho_group b_Ho_group 4 (some .int) :: lw_g
def e_Ho_group : en_T := ([(2, 0, 0, [12]), (0, -2147483648, 2147483647, []), (0, -2147483648, 2147483647, []), (0, -2147483648, 2147483647, [])], some (0, -1, 2376, []), true, 7, 0, 0, [([(2, 0, 0, [12]), (0, -2147483648, -1, []), (0, -2147483648, 2147483647, []), (0, -2147483648, 2147483647, []), (0, -1, -1, [])], [], [4], [], [], []), ([(2, 0, 0, [12]), (0, 4, 2147483647, []), (0, -2147483648, 2147483647, []), (0, -2147483648, 2147483647, []), (0, -1, -1, [])], [], [4], [], [], []), ([(2, 0, 0, [12]), (0, 0, 3, []), (0, -2147483648, -1, []), (0, -2147483648, 2147483647, []), (0, -1, -1, [])], [], [4], [], [], []), ([(2, 0, 0, [12]), (0, 0, 3, []), (0, 0, 2147483647, []), (0, -2147483648, 2147483647, []), (0, -1, -1, [])], [], [4], [], [], []), ([(2, 0, 0, [12]), (0, 0, 3, []), (0, 0, 7, []), (0, -2147483648, 2147483647, []), (0, -1, -1, [])], [], [4], [], [], []), ([(2, 0, 0, [12]), (0, 0, 3, []), (0, 0, 7, []), (0, 0, 0, []), (0, -1, 7, [])], [], [4], [], [], []), ([(2, 0, 0, [12]), (0, 0, 3, []), (0, 0, 7, []), (0, 1, 1, []), (0, 0, 8, [])], [], [4], [], [], []), ([(2, 0, 0, [12]), (0, 0, 3, []), (0, 0, 7, []), (0, 2, 2, []), (0, 0, 2376, [])], [], [4], [], [], [])], [], (0, [], [], [], []))
abbrev b_Ho_letter : ByteArray := prog_1_method_9_code
def y_Ho_letter : MethodName := ⟨"DrawingHouse", "letter", "(IIII)I"⟩
abbrev z_Ho_letter : List Cond := Cond.code y_Ho_letter b_Ho_letter 6 (some .int) :: lw_g
def e_Ho_letter : en_T := ([(2, 0, 0, [12]), (0, -2147483648, 2147483647, []), (0, -2147483648, 2147483647, []), (0, -2147483648, 2147483647, []), (0, -2147483648, 2147483647, [])], some (0, -128, 127, []), true, 7, 0, 0, [], [], (0, [], [], [], []))
abbrev b_Ho_mayBecome : ByteArray := prog_1_method_36_code
def y_Ho_mayBecome : MethodName := ⟨"DrawingHouse", "mayBecome", "(LDrawingHouse$Graph;LDrawingHouse$Graph;[II)Z"⟩
abbrev z_Ho_mayBecome : List Cond := Cond.code y_Ho_mayBecome b_Ho_mayBecome 6 (some .boolean) :: lw_g
def e_Ho_mayBecome : en_T := ([(2, 0, 0, [3]), (2, 0, 0, [3]), (2, 0, 0, [295]), (0, 0, 23, [])], some (0, 0, 1, []), true, 8, 0, 0, [], [], (0, [], [(20, [2, 3], [8, 0, 23, 1])], [], []))
abbrev b_Ho_shade : ByteArray := prog_1_method_25_code
def y_Ho_shade : MethodName := ⟨"DrawingHouse", "shade", "(IIII)I"⟩
abbrev z_Ho_shade : List Cond := Cond.code y_Ho_shade b_Ho_shade 5 (some .int) :: lw_g
def e_Ho_shade : en_T := ([(2, 0, 0, [12]), (0, -2147483648, 2147483647, []), (0, -2147483648, 2147483647, []), (0, -2147483648, 2147483647, []), (0, -2147483648, 2147483647, [])], some (0, -1, 255, []), true, 7, 0, 0, [], [], (0, [], [], [], []))
abbrev b_Ho_writeNumber : ByteArray := prog_1_method_39_code
def y_Ho_writeNumber : MethodName := ⟨"DrawingHouse", "writeNumber", "(I)V"⟩
abbrev z_Ho_writeNumber : List Cond := Cond.code y_Ho_writeNumber b_Ho_writeNumber 7 none :: lw_g
def e_Ho_writeNumber : en_T := ([(2, 0, 0, [12]), (0, -41000000, 1001000000, [])], none, false, 7, 0, 0, [], [], (261336857795280739939871698507597986398208, [(12, 12)], [(20, [0, 2], [30, 0, 1, 1, 12, -1, 0, 0])], [(20, [0, 2], [30, 8, 1, 1, 12, -1, 0, 0])], [(0, 0, 99999992, [])]))
abbrev b_Dr_isFree : ByteArray := prog_2_method_15_code
def y_Dr_isFree : MethodName := ⟨"DrawingHouse$Drawing", "isFree", "(III)Z"⟩
abbrev z_Dr_isFree : List Cond := Cond.code y_Dr_isFree b_Dr_isFree 5 (some .boolean) :: lw_g
def e_Dr_isFree : en_T := ([(2, 0, 0, [0]), (0, 0, 47, []), (0, -82000001, 2002000000, []), (0, -82000001, 2002000000, [])], some (0, 0, 1, []), true, 8, 0, 0, [], [], (0, [], [], [], []))
abbrev b_Dr_wholeLength : ByteArray := prog_2_method_34_code
def y_Dr_wholeLength : MethodName := ⟨"DrawingHouse$Drawing", "wholeLength", "()J"⟩
abbrev z_Dr_wholeLength : List Cond := Cond.code y_Dr_wholeLength b_Dr_wholeLength 5 (some .long) :: lw_g
def e_Dr_wholeLength : en_T := ([(2, 0, 0, [0])], some (1, -9223372036854775808, 9223372036854775807, []), true, 7, 0, 0, [], [], (0, [], [], [], []))
abbrev b_Em_loadKept : ByteArray := prog_3_method_4_code
def y_Em_loadKept : MethodName := ⟨"DrawingHouse$Embedder", "loadKept", "(LDrawingHouse$Graph;)V"⟩
abbrev z_Em_loadKept : List Cond := Cond.code y_Em_loadKept b_Em_loadKept 3 none :: lw_g
def e_Em_loadKept : en_T := ([(2, 0, 0, [1]), (2, 0, 0, [3])], none, false, 7, 0, 0, [], [((0, 1), (2, 0, 0, [149]))], (65508439020683705478261172425904561923817472, [(149, 5), (149, 6), (149, 13)], [(20, [1], [60, 2, 2, 596, 0, 1, 7, 8])], [(20, [2], [60, 2, 3, 595, 5, 6, 7, 8, 9])], []))
abbrev b_Fa_learnParts : ByteArray := prog_4_method_11_code
def y_Fa_learnParts : MethodName := ⟨"DrawingHouse$Facts", "learnParts", "(LDrawingHouse$Graph;)V"⟩
abbrev z_Fa_learnParts : List Cond := Cond.code y_Fa_learnParts b_Fa_learnParts 5 none :: lw_g
def e_Fa_learnParts : en_T := ([(2, 0, 0, [2]), (2, 0, 0, [3])], none, false, 8, 0, 0, [], [], (137438953472, [(2, 1)], [(20, [1], [60, 2, 3, 670, 0, 1, 14, 7, 8])], [(20, [1, 0], [60, 1, 2, 671, 0, 14, 1004]), (20, [1, 0], [60, 2, 1, 672, 0, 1001, 1004])], []))
abbrev b_Fa_pickFirst : ByteArray := prog_4_method_26_code
def y_Fa_pickFirst : MethodName := ⟨"DrawingHouse$Facts", "pickFirst", "(LDrawingHouse$Graph;II)I"⟩
abbrev z_Fa_pickFirst : List Cond := Cond.code y_Fa_pickFirst b_Fa_pickFirst 10 (some .int) :: lw_g
def e_Fa_pickFirst : en_T := ([(2, 0, 0, [2]), (2, 0, 0, [3]), (0, 0, 16777215, []), (0, 8, 24, [])], some (0, 0, 63, []), true, 7, 0, 0, [], [], (0, [], [], [(20, [2, 4], [61, 0, 555])], []))
abbrev b_Fa_shortestWay_at_Grnear_Pnlevel_Pnway : ByteArray := prog_4_method_6_code
def y_Fa_shortestWay_at_Grnear_Pnlevel_Pnway : MethodName := ⟨"DrawingHouse$Facts", "shortestWay", "([IIIII[I[I)I"⟩
abbrev z_Fa_shortestWay_at_Grnear_Pnlevel_Pnway : List Cond := Cond.code y_Fa_shortestWay_at_Grnear_Pnlevel_Pnway b_Fa_shortestWay_at_Grnear_Pnlevel_Pnway 10 (some .int) :: lw_g
def e_Fa_shortestWay_at_Grnear_Pnlevel_Pnway : en_T := ([(2, 0, 0, [59]), (0, 1, 24, []), (0, 0, 23, []), (0, 0, 16777215, []), (0, 0, 16777215, []), (2, 0, 0, [105]), (2, 0, 0, [106])], some (0, 0, 25, []), false, 7, 0, 0, [], [], (121694457621910022543683507716096, [], [(20, [0, 1], [61, 1, 560]), (20, [1, 4], [61, 0, 561])], [(20, [6, 2, 3, 4, 7], [61, 1, 564]), (20, [0, 1, 2, 3, 4, 7], [61, 1, 899])], []))
abbrev b_Fa_shortestWay_at_Nenear_Emlevel_Emway : ByteArray := prog_4_method_6_code
def y_Fa_shortestWay_at_Nenear_Emlevel_Emway : MethodName := ⟨"DrawingHouse$Facts", "shortestWay", "([IIIII[I[I)I"⟩
abbrev z_Fa_shortestWay_at_Nenear_Emlevel_Emway : List Cond := Cond.code y_Fa_shortestWay_at_Nenear_Emlevel_Emway b_Fa_shortestWay_at_Nenear_Emlevel_Emway 10 (some .int) :: lw_g
def e_Fa_shortestWay_at_Nenear_Emlevel_Emway : en_T := ([(2, 0, 0, [82]), (0, 0, 24, []), (0, 0, 24, []), (0, 0, 33554431, []), (0, 0, 33554431, []), (2, 0, 0, [34]), (2, 0, 0, [35])], some (0, 0, 25, []), false, 7, 0, 0, [], [], (51539607552, [], [(20, [0, 1], [61, 1, 560]), (20, [1, 4], [61, 0, 561])], [(20, [6, 2, 3, 4, 7], [61, 1, 564]), (20, [0, 1, 2, 3, 4, 7], [61, 1, 899])], []))
abbrev b_Fa_shortestWay_at_Npnear_Emlevel_Emway : ByteArray := prog_4_method_6_code
def y_Fa_shortestWay_at_Npnear_Emlevel_Emway : MethodName := ⟨"DrawingHouse$Facts", "shortestWay", "([IIIII[I[I)I"⟩
abbrev z_Fa_shortestWay_at_Npnear_Emlevel_Emway : List Cond := Cond.code y_Fa_shortestWay_at_Npnear_Emlevel_Emway b_Fa_shortestWay_at_Npnear_Emlevel_Emway 10 (some .int) :: lw_g
def e_Fa_shortestWay_at_Npnear_Emlevel_Emway : en_T := ([(2, 0, 0, [142]), (0, 0, 25, []), (0, 0, 24, []), (0, 0, 33554431, []), (0, 0, 33554431, []), (2, 0, 0, [34]), (2, 0, 0, [35])], some (0, 0, 26, []), false, 7, 0, 0, [], [], (51539607552, [], [(20, [0, 1], [61, 1, 560]), (20, [1, 4], [61, 0, 561])], [(20, [6, 2, 3, 4, 7], [61, 1, 564]), (20, [0, 1, 2, 3, 4, 7], [61, 1, 899])], []))
abbrev b_Fa_uniteAt_at_Grtail_Grhead_Fablock : ByteArray := prog_4_method_8_code
def y_Fa_uniteAt_at_Grtail_Grhead_Fablock : MethodName := ⟨"DrawingHouse$Facts", "uniteAt", "(III[I[I[I)V"⟩
abbrev z_Fa_uniteAt_at_Grtail_Grhead_Fablock : List Cond := Cond.code y_Fa_uniteAt_at_Grtail_Grhead_Fablock b_Fa_uniteAt_at_Grtail_Grhead_Fablock 11 none :: lw_g
def e_Fa_uniteAt_at_Grtail_Grhead_Fablock : en_T := ([(0, 0, 23, []), (0, 0, 16777215, []), (0, 0, 48, []), (2, 0, 0, [52]), (2, 0, 0, [53]), (2, 0, 0, [38])], none, false, 7, 0, 0, [], [], (274877906944, [], [(20, [5, 2], [61, 1, 566]), (20, [5, 3, 4, 2], [61, 3, 580]), (20, [5, 3, 4, 6, 7, 2], [61, 4, 587]), (20, [3, 4, 6, 7, 2, 0, 1], [61, 3, 588])], [(20, [5, 2], [61, 1, 566]), (20, [5, 3, 4, 2], [61, 3, 580]), (20, [5, 3, 4, 6, 7, 2], [61, 4, 587])], [(2, 0, 0, [59]), (0, 0, 25, [])]))
abbrev b_Fa_uniteAt_at_Netail_Nehead_Emblock : ByteArray := prog_4_method_8_code
def y_Fa_uniteAt_at_Netail_Nehead_Emblock : MethodName := ⟨"DrawingHouse$Facts", "uniteAt", "(III[I[I[I)V"⟩
abbrev z_Fa_uniteAt_at_Netail_Nehead_Emblock : List Cond := Cond.code y_Fa_uniteAt_at_Netail_Nehead_Emblock b_Fa_uniteAt_at_Netail_Nehead_Emblock 11 none :: lw_g
def e_Fa_uniteAt_at_Netail_Nehead_Emblock : en_T := ([(0, 0, 23, []), (0, 0, 16777215, []), (0, 0, 72, []), (2, 0, 0, [80]), (2, 0, 0, [81]), (2, 0, 0, [26])], none, false, 7, 0, 0, [], [], (67108864, [], [(20, [5, 2], [61, 1, 566]), (20, [5, 3, 4, 2], [61, 3, 580]), (20, [5, 3, 4, 6, 7, 2], [61, 4, 587]), (20, [3, 4, 6, 7, 2, 0, 1], [61, 3, 588])], [(20, [5, 2], [61, 1, 566]), (20, [5, 3, 4, 2], [61, 3, 580]), (20, [5, 3, 4, 6, 7, 2], [61, 4, 587])], [(2, 0, 0, [82]), (0, 0, 25, [])]))
abbrev b_Fa_uniteAt_at_Nptail_Nphead_Emblock : ByteArray := prog_4_method_8_code
def y_Fa_uniteAt_at_Nptail_Nphead_Emblock : MethodName := ⟨"DrawingHouse$Facts", "uniteAt", "(III[I[I[I)V"⟩
abbrev z_Fa_uniteAt_at_Nptail_Nphead_Emblock : List Cond := Cond.code y_Fa_uniteAt_at_Nptail_Nphead_Emblock b_Fa_uniteAt_at_Nptail_Nphead_Emblock 11 none :: lw_g
def e_Fa_uniteAt_at_Nptail_Nphead_Emblock : en_T := ([(0, 0, 24, []), (0, 0, 33554431, []), (0, 0, 72, []), (2, 0, 0, [140]), (2, 0, 0, [141]), (2, 0, 0, [26])], none, false, 7, 0, 0, [], [], (67108864, [], [(20, [5, 2], [61, 1, 566]), (20, [5, 3, 4, 2], [61, 3, 580]), (20, [5, 3, 4, 6, 7, 2], [61, 4, 587]), (20, [3, 4, 6, 7, 2, 0, 1], [61, 3, 588])], [(20, [5, 2], [61, 1, 566]), (20, [5, 3, 4, 2], [61, 3, 580]), (20, [5, 3, 4, 6, 7, 2], [61, 4, 587])], [(2, 0, 0, [142]), (0, 0, 25, [])]))
abbrev b_Gr_hasNextName : ByteArray := prog_5_method_20_code
def y_Gr_hasNextName : MethodName := ⟨"DrawingHouse$Graph", "hasNextName", "()Z"⟩
abbrev z_Gr_hasNextName : List Cond := Cond.code y_Gr_hasNextName b_Gr_hasNextName 3 (some .boolean) :: lw_g
def e_Gr_hasNextName : en_T := ([(2, 0, 0, [3])], some (0, 0, 1, []), false, 8, 1, 3, [], [], (381944245562716141175333566576758405197150323812363046994276334253946493705625632409387008, [], [], [], []))
abbrev b_La_leastOf : ByteArray := prog_6_method_16_code
def y_La_leastOf : MethodName := ⟨"DrawingHouse$Layers", "leastOf", "(I)I"⟩
abbrev z_La_leastOf : List Cond := Cond.code y_La_leastOf b_La_leastOf 5 (some .int) :: lw_g
def e_La_leastOf : en_T := ([(2, 0, 0, [4]), (0, 0, 0, [])], some (0, -2147483648, 1000000, []), true, 7, 0, 0, [], [], (0, [], [(20, [0], [60, 1, 1, 636, 2, 10]), (20, [1, 0], [50, 1, 0, 1002, 2, 6, 0, 2, 0, 0, 1, 0, 0, 6, 4, 2, 1, 0, 0, 1, 2, 1, 2])], [], []))
abbrev b_La_listOrders : ByteArray := prog_6_method_2_code
def y_La_listOrders : MethodName := ⟨"DrawingHouse$Layers", "listOrders", "(II)I"⟩
abbrev z_La_listOrders : List Cond := Cond.code y_La_listOrders b_La_listOrders 7 (some .int) :: lw_g
def e_La_listOrders : en_T := ([(2, 0, 0, [299]), (0, 1, 6, []), (0, 0, 873, [])], some (0, 1, 873, []), false, 8, 1, 6, [], [((0, 17), (2, 0, 0, [75]))], (509258994083621521567111422102344540262867098416484062659035112338633103872697133707558912, [], [(20, [3, 1, 2], [61, 1, 731])], [(20, [3, 1, 4], [61, 1, 732])], []))
abbrev b_Ne_insertLast : ByteArray := prog_7_method_10_code
def y_Ne_insertLast : MethodName := ⟨"DrawingHouse$Net", "insertLast", "(II)V"⟩
abbrev z_Ne_insertLast : List Cond := Cond.code y_Ne_insertLast b_Ne_insertLast 3 none :: lw_g
def e_Ne_insertLast : en_T := ([(2, 0, 0, [294]), (0, 0, 71, []), (0, 0, 23, [])], none, false, 9, 0, 0, [], [], (2983939418458719852932293488880925040602736904784086304642783861358956982075200253198336, [], [], [], []))
abbrev b_Ne_load_at_Ne : ByteArray := prog_7_method_4_code
def y_Ne_load_at_Ne : MethodName := ⟨"DrawingHouse$Net", "load", "(LDrawingHouse$Graph;)V"⟩
abbrev z_Ne_load_at_Ne : List Cond := Cond.code y_Ne_load_at_Ne b_Ne_load_at_Ne 3 none :: lw_g
def e_Ne_load_at_Ne : en_T := ([(2, 0, 0, [5]), (2, 0, 0, [3])], none, false, 7, 0, 0, [], [], (56819513521887571211190272, [(5, 5), (5, 6), (5, 13)], [(20, [1], [60, 2, 2, 596, 0, 1, 7, 8])], [(20, [0], [60, 2, 3, 595, 5, 6, 7, 8, 9]), (20, [0, 1], [50, 2, 0, 5, 1000, 1, 3, 2, 0, 5, 2, 1, 0]), (20, [0, 1], [50, 2, 0, 6, 1001, 1, 3, 2, 0, 6, 2, 1, 1])], []))
abbrev b_Ne_load_at_Np : ByteArray := prog_7_method_4_code
def y_Ne_load_at_Np : MethodName := ⟨"DrawingHouse$Net", "load", "(LDrawingHouse$Graph;)V"⟩
abbrev z_Ne_load_at_Np : List Cond := Cond.code y_Ne_load_at_Np b_Ne_load_at_Np 3 none :: lw_g
def e_Ne_load_at_Np : en_T := ([(2, 0, 0, [149]), (2, 0, 0, [3])], none, false, 7, 0, 0, [], [], (65508439020683705478261172425904561923817472, [(149, 5), (149, 6), (149, 13)], [(20, [1], [60, 2, 2, 596, 0, 1, 7, 8])], [(20, [0], [60, 2, 3, 595, 5, 6, 7, 8, 9]), (20, [0, 1], [50, 2, 0, 5, 1000, 1, 3, 2, 0, 5, 2, 1, 0]), (20, [0, 1], [50, 2, 0, 6, 1001, 1, 3, 2, 0, 6, 2, 1, 1])], []))
abbrev b_Pl_moveOnRing : ByteArray := prog_8_method_21_code
def y_Pl_moveOnRing : MethodName := ⟨"DrawingHouse$PlainWays", "moveOnRing", "(I)V"⟩
abbrev z_Pl_moveOnRing : List Cond := Cond.code y_Pl_moveOnRing b_Pl_moveOnRing 7 none :: lw_g
def e_Pl_moveOnRing : en_T := ([(2, 0, 0, [6]), (0, 1, 23, [])], none, false, 8, 0, 0, [], [((0, 0), (2, 0, 0, [3]))], (618970019642690137449562112, [], [], [], []))
abbrev b_Pl_sumPulls : ByteArray := prog_8_method_23_code
def y_Pl_sumPulls : MethodName := ⟨"DrawingHouse$PlainWays", "sumPulls", "()V"⟩
abbrev z_Pl_sumPulls : List Cond := Cond.code y_Pl_sumPulls b_Pl_sumPulls 16 none :: lw_g
def e_Pl_sumPulls : en_T := ([(2, 0, 0, [6])], none, false, 7, 0, 0, [], [((0, 0), (2, 0, 0, [3]))], (3802951800684688204490109616128, [], [], [], []))
abbrev b_Pn_insertWay : ByteArray := prog_9_method_17_code
def y_Pn_insertWay : MethodName := ⟨"DrawingHouse$PlanarWays", "insertWay", "(I)V"⟩
abbrev z_Pn_insertWay : List Cond := Cond.code y_Pn_insertWay b_Pn_insertWay 6 none :: lw_g
def e_Pn_insertWay : en_T := ([(2, 0, 0, [7]), (0, 0, 25, [])], none, false, 7, 0, 0, [], [], (131835662423735857755657133359104, [(7, 3)], [(20, [0, 2, 3], [60, 1, 1, 900, 3, 2]), (20, [0, 2, 3, 1], [60, 0, 1, 908, 6]), (20, [1], [50, 0, 0, 0, 2, 0, 3, 1, 0]), (20, [4, 0], [50, 1, 0, 1003, 0, 6, 4, 2, 1, 0, 0, 2, 2, 1, 3])], [(20, [0, 2, 3], [60, 1, 1, 901, 3, 2]), (20, [4, 0], [50, 1, 0, 1003, 0, 6, 4, 2, 1, 0, 0, 3, 2, 1, 3])], [(0, -2147483648, 2147483647, []), (0, -2147483648, 2147483647, []), (0, 0, 24, [])]))
abbrev b_Pn_middleOfEdges : ByteArray := prog_9_method_22_code
def y_Pn_middleOfEdges : MethodName := ⟨"DrawingHouse$PlanarWays", "middleOfEdges", "(LDrawingHouse$Graph;I)I"⟩
abbrev z_Pn_middleOfEdges : List Cond := Cond.code y_Pn_middleOfEdges b_Pn_middleOfEdges 6 (some .int) :: lw_g
def e_Pn_middleOfEdges : en_T := ([(2, 0, 0, [7]), (2, 0, 0, [3]), (0, 0, 23, [])], some (0, -1000002, 1008000, []), true, 6, 0, 0, [], [], (0, [], [], [], []))
abbrev b_Pn_moveFaces : ByteArray := prog_9_method_21_code
def y_Pn_moveFaces : MethodName := ⟨"DrawingHouse$PlanarWays", "moveFaces", "(LDrawingHouse$Graph;LDrawingHouse$Net;[I)V"⟩
abbrev z_Pn_moveFaces : List Cond := Cond.code y_Pn_moveFaces b_Pn_moveFaces 9 none :: lw_g
def e_Pn_moveFaces : en_T := ([(2, 0, 0, [7]), (2, 0, 0, [3]), (2, 0, 0, [5]), (2, 0, 0, [21])], none, false, 7, 0, 0, [], [], (162259276829213363391578010288128, [], [(20, [2, 1], [60, 1, 1, 639, 1001, 16])], [(20, [2, 1], [60, 1, 1, 639, 1001, 16])], []))
abbrev b_Ro_frame : ByteArray := prog_11_method_3_code
def y_Ro_frame : MethodName := ⟨"DrawingHouse$Router", "frame", "()Z"⟩
abbrev z_Ro_frame : List Cond := Cond.code y_Ro_frame b_Ro_frame 4 (some .boolean) :: lw_g
def e_Ro_frame : en_T := ([(2, 0, 0, [9])], some (0, 0, 1, []), false, 7, 0, 0, [], [((0, 0), (2, 0, 0, [3])), ((0, 1), (2, 0, 0, [0]))], (0, [(9, 2), (9, 3), (9, 4), (9, 5)], [(20, [1], [50, 1, 0, 0, 0, 2, 0, 1, 2, 0, 0])], [(20, [0, 1, 2, 3], [60, 5, 3, 840, 2, 3, 4, 5, 1000, 1004, 2002, 2003])], []))
abbrev b_Ro_goBack : ByteArray := prog_11_method_9_code
def y_Ro_goBack : MethodName := ⟨"DrawingHouse$Router", "goBack", "(II)V"⟩
abbrev z_Ro_goBack : List Cond := Cond.code y_Ro_goBack b_Ro_goBack 6 none :: lw_g
def e_Ro_goBack : en_T := ([(2, 0, 0, [9]), (0, 0, 23999, []), (0, -2147483647, 1000000000, [])], none, false, 7, 0, 0, [], [], (77884452878022414427957444938301440, [(9, 8), (9, 14)], [(20, [0], [50, 2, 0, 4, 5, 2, 7, 0, 2, 0, 1, 2, 0, 4, 2, 7, 0, 2, 0, 1, 2, 0, 5, 0, 8, 6, 3, 2, 0, 4, 2, 0, 5, 0, 6000]), (20, [1, 0], [50, 2, 0, 1004, 1005, 0, 6, 4, 2, 1, 0, 0, 1, 6, 2, 0, 4, 6, 3, 2, 1, 4, 2, 1, 5]), (20, [0], [50, 1, 1, 14, 11, 5, 2, 0, 4, 0, 9, 4, 5, 3, 0, 11, 7, 0, 0, 1, 2, 0, 14]), (20, [0], [50, 3, 1, 14, 4, 5, 12, 5, 3, 2, 0, 14, 0, 9, 4, 5, 3, 0, 12, 7, 0, 0, 1, 6, 2, 0, 4, 6, 3, 2, 0, 4, 2, 0, 5]), (20, [0], [50, 1, 1, 14, 13, 5, 3, 2, 0, 14, 0, 9, 4, 5, 3, 0, 13, 7, 0, 0, 1, 2, 0, 14]), (20, [0, 3], [30, 0, 1, 1, 14, -1, 0, 0]), (20, [0, 3], [30, 0, -1, 1, 14, 1, 0, 0])], [(20, [0], [50, 1, 1, 14, 11, 5, 2, 0, 4, 0, 9, 4, 5, 3, 0, 11, 7, 0, 0, 1, 2, 0, 14]), (20, [0], [50, 3, 1, 14, 4, 5, 12, 5, 3, 2, 0, 14, 0, 9, 4, 5, 3, 0, 12, 7, 0, 0, 1, 6, 2, 0, 4, 6, 3, 2, 0, 4, 2, 0, 5]), (20, [0], [50, 1, 1, 14, 13, 5, 3, 2, 0, 14, 0, 9, 4, 5, 3, 0, 13, 7, 0, 0, 1, 2, 0, 14]), (20, [3, 0], [30, 0, 1, 0, 0, -1, 1, 14])], [(0, 0, 48004, [])]))
abbrev b_St_findRing_at_gl : ByteArray := prog_12_method_7_code
def y_St_findRing_at_gl : MethodName := ⟨"DrawingHouse$Stretch", "findRing", "()I"⟩
abbrev z_St_findRing_at_gl : List Cond := Cond.code y_St_findRing_at_gl b_St_findRing_at_gl 3 (some .int) :: lw_g
def e_St_findRing_at_gl : en_T := ([(2, 0, 0, [10])], some (0, -1, 71, []), false, 7, 0, 0, [], [], (37218383881977644441306597687849648128, [], [(20, [0], [60, 2, 3, 515, 0, 1, 2, 3, 5]), (20, [0, 1], [60, 1, 1, 522, 0, 6])], [(20, [0, 2], [60, 2, 6, 525, 0, 1, 2, 3, 4, 5, 6, 7]), (20, [0, 1], [60, 1, 1, 523, 0, 6])], [(0, 0, 9999, [])]))
abbrev b_St_findRing_at_gr : ByteArray := prog_12_method_7_code
def y_St_findRing_at_gr : MethodName := ⟨"DrawingHouse$Stretch", "findRing", "()I"⟩
abbrev z_St_findRing_at_gr : List Cond := Cond.code y_St_findRing_at_gr b_St_findRing_at_gr 3 (some .int) :: lw_g
def e_St_findRing_at_gr : en_T := ([(2, 0, 0, [10])], some (0, -1, 71, []), false, 7, 0, 0, [], [], (37218383881977644441306597687849648128, [], [], [(20, [1], [50, 0, 0, 3, 6, 1, 2, 1, 0, 0, -1, 0, 2, 0, 0, 1, 0]), (20, [0, 1], [60, 0, 2, 542, 2, 7])], []))
abbrev b_Sy_lookAtNode : ByteArray := prog_13_method_19_code
def y_Sy_lookAtNode : MethodName := ⟨"DrawingHouse$Styler", "lookAtNode", "(LDrawingHouse$Graph;LDrawingHouse$Facts;LDrawingHouse$Drawing;I)V"⟩
abbrev z_Sy_lookAtNode : List Cond := Cond.code y_Sy_lookAtNode b_Sy_lookAtNode 8 none :: lw_g
def e_Sy_lookAtNode : en_T := ([(2, 0, 0, [11]), (2, 0, 0, [3]), (2, 0, 0, [2]), (2, 0, 0, [0]), (0, 0, 23, [])], none, false, 8, 0, 0, [], [], (1361129467683753853853498429727072845824, [], [], [], []))
abbrev b_Mo_back : ByteArray := prog_15_method_49_code
def y_Mo_back : MethodName := ⟨"DrawingHouseModel", "back", "(II)Z"⟩
abbrev z_Mo_back : List Cond := Cond.code y_Mo_back b_Mo_back 3 (some .boolean) :: lw_g
def e_Mo_back : en_T := ([(2, 0, 0, [165]), (0, -2147483648, 2147483647, []), (0, -2147483648, 2147483647, [])], some (0, 0, 1, []), false, 8, 0, 0, [], [], (13167250334658540462209994095790546508384106699509236411190476800, [], [(20, [0], [60, 0, 3, 198, 2, 3, 4])], [(20, [0], [60, 0, 3, 198, 2, 3, 4])], []))
abbrev b_Mo_isLonger : ByteArray := prog_15_method_203_code
def y_Mo_isLonger : MethodName := ⟨"DrawingHouseModel", "isLonger", "(JJJJJJJJ)Z"⟩
abbrev z_Mo_isLonger : List Cond := Cond.code y_Mo_isLonger b_Mo_isLonger 20 (some .boolean) :: lw_g
def e_Mo_isLonger : en_T := ([(1, -300000011, 300000000, []), (1, -900000000, 900000000, []), (1, -300000011, 300000000, []), (1, -900000000, 900000000, []), (1, -300000011, 300000000, []), (1, -900000000, 900000000, []), (1, -300000011, 300000000, []), (1, -900000000, 900000000, [])], some (0, 0, 1, []), true, 7, 0, 0, [], [], (0, [], [], [], []))
abbrev b_Mo_isOn : ByteArray := prog_15_method_200_code
def y_Mo_isOn : MethodName := ⟨"DrawingHouseModel", "isOn", "(JJJJJJ)Z"⟩
abbrev z_Mo_isOn : List Cond := Cond.code y_Mo_isOn b_Mo_isOn 12 (some .boolean) :: lw_g
def e_Mo_isOn : en_T := ([(1, -300000011, 300000000, []), (1, -900000000, 900000000, []), (1, -300000011, 300000000, []), (1, -900000000, 900000000, []), (1, -300000011, 300000000, []), (1, -900000000, 900000000, [])], some (0, 0, 1, []), true, 7, 0, 0, [([(1, -300000011, 300000000, []), (1, -900000000, 900000000, []), (1, -300000011, 300000000, []), (1, -900000000, 900000000, []), (1, -300000011, 300000000, []), (1, -900000000, 900000000, []), (0, 0, 0, [])], [], [6], [], [], []), ([(1, -300000011, 299999999, []), (1, -900000000, 900000000, []), (1, -300000011, 300000000, []), (1, -900000000, 900000000, []), (1, -300000011, 300000000, []), (1, -900000000, 900000000, []), (0, 0, 0, [])], [], [6], [], [], []), ([(1, -300000010, 300000000, []), (1, -900000000, 900000000, []), (1, -300000011, 300000000, []), (1, -900000000, 900000000, []), (1, -300000011, 300000000, []), (1, -900000000, 900000000, []), (0, 0, 0, [])], [], [6], [], [], []), ([(1, -300000011, 300000000, []), (1, -900000000, 899999999, []), (1, -300000011, 300000000, []), (1, -900000000, 900000000, []), (1, -300000011, 300000000, []), (1, -900000000, 900000000, []), (0, 0, 0, [])], [], [6], [], [], []), ([(1, -300000011, 300000000, []), (1, -899999999, 900000000, []), (1, -300000011, 300000000, []), (1, -900000000, 900000000, []), (1, -300000011, 300000000, []), (1, -900000000, 900000000, []), (0, 0, 0, [])], [], [6], [], [], []), ([(1, -300000011, 300000000, []), (1, -900000000, 900000000, []), (1, -300000011, 300000000, []), (1, -900000000, 900000000, []), (1, -300000011, 300000000, []), (1, -900000000, 900000000, []), (0, 1, 1, [])], [], [6], [], [], [])], [], (0, [], [], [], []))
abbrev b_Mo_known : ByteArray := prog_15_method_34_code
def y_Mo_known : MethodName := ⟨"DrawingHouseModel", "known", "()I"⟩
abbrev z_Mo_known : List Cond := Cond.code y_Mo_known b_Mo_known 4 (some .int) :: lw_g
def e_Mo_known : en_T := ([(2, 0, 0, [165])], some (0, -1, 23, []), true, 7, 0, 0, [], [], (0, [], [], [(20, [0, 1], [60, 1, 1, 207, 5, 2]), (20, [0, 1], [60, 4, 2, 1031, 11, 10, 15, 5, 2, 1])], []))
abbrev b_Mo_rise : ByteArray := prog_15_method_113_code
def y_Mo_rise : MethodName := ⟨"DrawingHouseModel", "rise", "()V"⟩
abbrev z_Mo_rise : List Cond := Cond.code y_Mo_rise b_Mo_rise 7 none :: lw_g
def e_Mo_rise : en_T := ([(2, 0, 0, [165])], none, false, 9, 0, 0, [], [], (3236036098391425232853625154663825044295008491468073090622467717726208, [(165, 94)], [(20, [0], [60, 3, 7, 396, 79, 80, 81, 83, 84, 85, 86, 87, 88, 89])], [(20, [0], [60, 3, 8, 424, 79, 80, 81, 82, 83, 84, 85, 86, 87, 88, 89])], []))
abbrev b_Mo_shift : ByteArray := prog_15_method_149_code
def y_Mo_shift : MethodName := ⟨"DrawingHouseModel", "shift", "()V"⟩
abbrev z_Mo_shift : List Cond := Cond.code y_Mo_shift b_Mo_shift 12 none :: lw_g
def e_Mo_shift : en_T := ([(2, 0, 0, [165])], none, false, 8, 0, 0, [], [], (43422033464072557502590537268281403965738997073854382836347005836408156848128, [(165, 121)], [(20, [0], [60, 2, 2, 75, 31, 32, 33, 34]), (20, [0], [60, 2, 4, 286, 31, 32, 33, 34, 35, 96]), (20, [0], [60, 1, 1, 823, 31, 96])], [(20, [0], [60, 1, 1, 837, 31, 75])], []))
abbrev b_Mo_squares : ByteArray := prog_15_method_170_code
def y_Mo_squares : MethodName := ⟨"DrawingHouseModel", "squares", "(IIIII)V"⟩
abbrev z_Mo_squares : List Cond := Cond.code y_Mo_squares b_Mo_squares 23 none :: lw_g
def e_Mo_squares : en_T := ([(2, 0, 0, [165]), (0, 0, 3, []), (0, -512, 512, []), (0, -512, 512, []), (0, -512, 512, []), (0, -512, 512, [])], none, false, 8, 0, 0, [], [], (9873027343927236252929815095344103029896415193801479180091654144, [(165, 133), (165, 134)], [(20, [0], [60, 1, 2, 773, 132, 130, 131]), (20, [2, 4], [61, 0, 791]), (20, [3, 5], [61, 0, 791]), (20, [0, 1], [60, 0, 1, 789, 72])], [(20, [0, 1], [60, 0, 1, 789, 72])], []))
abbrev b_Mo_stepTo : ByteArray := prog_15_method_189_code
def y_Mo_stepTo : MethodName := ⟨"DrawingHouseModel", "stepTo", "(II)I"⟩
abbrev z_Mo_stepTo : List Cond := Cond.code y_Mo_stepTo b_Mo_stepTo 6 (some .int) :: lw_g
def e_Mo_stepTo : en_T := ([(2, 0, 0, [165]), (0, 0, 5999, []), (0, 0, 3, [])], some (0, -1, 5999, []), true, 7, 0, 0, [], [], (0, [], [(20, [0], [60, 2, 0, 494, 146, 147]), (20, [1, 0], [50, 2, 0, 1146, 1147, 2, 6, 0, 2, 0, 0, 1, 0, 0, 6, 4, 2, 1, 0, 0, 1, 6, 3, 2, 1, 146, 2, 1, 147])], [(20, [0, 1, 2, 3], [60, 2, 1, 505, 146, 147, 143]), (20, [3, 0], [50, 2, 0, 1146, 1147, 2, 6, 0, 2, 0, -1, 1, 0, 0, 6, 4, 2, 1, 0, 0, 1, 6, 3, 2, 1, 146, 2, 1, 147])], []))
abbrev b_Mo_step_at_gd : ByteArray := prog_15_method_43_code
def y_Mo_step_at_gd : MethodName := ⟨"DrawingHouseModel", "step", "(I)V"⟩
abbrev z_Mo_step_at_gd : List Cond := Cond.code y_Mo_step_at_gd b_Mo_step_at_gd 4 none :: lw_g
def e_Mo_step_at_gd : en_T := ([(2, 0, 0, [165]), (0, 0, 3, [])], none, false, 8, 0, 0, [], [], (13167250334659475823257885873658196866677045120641816208017981440, [(165, 5)], [(20, [0], [60, 1, 3, 199, 5, 2, 3, 4]), (20, [0, 1], [50, 1, 1, 5, 3, 1, 3, 2, 0, 5, 4, 6, 6, 2, 0, 16709, 1, 1, 6, 2, 0, 539, 3, 0, 3, 1, 1]), (20, [0, 2, 3], [60, 1, 1, 224, 5, 2])], [(20, [0], [60, 1, 3, 199, 5, 2, 3, 4]), (20, [0, 1], [50, 1, 1, 5, 3, 1, 3, 2, 0, 5, 4, 6, 6, 2, 0, 16709, 1, 1, 6, 2, 0, 539, 3, 0, 3, 1, 1]), (20, [0, 2, 3], [60, 1, 1, 224, 5, 2])], [(0, 0, 48, []), (0, 0, 48, [])]))
abbrev b_Mo_step_at_ge : ByteArray := prog_15_method_43_code
def y_Mo_step_at_ge : MethodName := ⟨"DrawingHouseModel", "step", "(I)V"⟩
abbrev z_Mo_step_at_ge : List Cond := Cond.code y_Mo_step_at_ge b_Mo_step_at_ge 4 none :: lw_g
def e_Mo_step_at_ge : en_T := ([(2, 0, 0, [165]), (0, 0, 3, [])], none, false, 8, 0, 0, [], [], (13167250334659475823257885873658196866677045120641816208017981440, [(165, 5)], [(20, [0], [60, 1, 3, 199, 5, 2, 3, 4]), (20, [0, 1], [50, 1, 1, 5, 3, 1, 3, 2, 0, 5, 4, 6, 6, 2, 0, 16709, 1, 1, 6, 2, 0, 539, 3, 0, 3, 1, 1]), (20, [0, 2, 3], [60, 1, 1, 220, 5, 2])], [(20, [0], [60, 1, 3, 199, 5, 2, 3, 4]), (20, [0, 1], [50, 1, 1, 5, 3, 1, 3, 2, 0, 5, 4, 6, 6, 2, 0, 16709, 1, 1, 6, 2, 0, 539, 3, 0, 3, 1, 1]), (20, [0, 2, 3], [60, 1, 1, 220, 5, 2])], [(0, 0, 48, []), (0, 0, 48, [])]))
abbrev b_Mo_step_at_gn : ByteArray := prog_15_method_43_code
def y_Mo_step_at_gn : MethodName := ⟨"DrawingHouseModel", "step", "(I)V"⟩
abbrev z_Mo_step_at_gn : List Cond := Cond.code y_Mo_step_at_gn b_Mo_step_at_gn 4 none :: lw_g
def e_Mo_step_at_gn : en_T := ([(2, 0, 0, [165]), (0, 0, 3, [])], none, false, 8, 0, 0, [], [], (13167250334659475823257885873658196866677045120641816208017981440, [(165, 5)], [(20, [0], [60, 1, 3, 199, 5, 2, 3, 4]), (20, [0, 1], [50, 1, 1, 5, 3, 1, 3, 2, 0, 5, 4, 6, 6, 2, 0, 16709, 1, 1, 6, 2, 0, 539, 3, 0, 3, 1, 1]), (20, [0, 2, 3], [60, 1, 1, 216, 5, 2])], [(20, [0], [60, 1, 3, 199, 5, 2, 3, 4]), (20, [0, 1], [50, 1, 1, 5, 3, 1, 3, 2, 0, 5, 4, 6, 6, 2, 0, 16709, 1, 1, 6, 2, 0, 539, 3, 0, 3, 1, 1]), (20, [0, 2, 3], [60, 1, 1, 216, 5, 2])], [(0, 0, 48, []), (0, 0, 48, [])]))
abbrev b_Mo_step_at_gv : ByteArray := prog_15_method_43_code
def y_Mo_step_at_gv : MethodName := ⟨"DrawingHouseModel", "step", "(I)V"⟩
abbrev z_Mo_step_at_gv : List Cond := Cond.code y_Mo_step_at_gv b_Mo_step_at_gv 4 none :: lw_g
def e_Mo_step_at_gv : en_T := ([(2, 0, 0, [165]), (0, 0, 3, [])], none, false, 8, 0, 0, [], [], (13167250334659475823257885873658196866677045120641816208017981440, [(165, 5)], [(20, [0], [60, 1, 3, 199, 5, 2, 3, 4]), (20, [0, 1], [50, 1, 1, 5, 3, 1, 3, 2, 0, 5, 4, 6, 6, 2, 0, 16709, 1, 1, 6, 2, 0, 539, 3, 0, 3, 1, 1]), (20, [0, 2, 3], [60, 1, 1, 228, 5, 2])], [(20, [0], [60, 1, 3, 199, 5, 2, 3, 4]), (20, [0, 1], [50, 1, 1, 5, 3, 1, 3, 2, 0, 5, 4, 6, 6, 2, 0, 16709, 1, 1, 6, 2, 0, 539, 3, 0, 3, 1, 1]), (20, [0, 2, 3], [60, 1, 1, 228, 5, 2])], [(0, 0, 48, []), (0, 0, 48, [])]))
abbrev b_Mo_step_at_gx : ByteArray := prog_15_method_43_code
def y_Mo_step_at_gx : MethodName := ⟨"DrawingHouseModel", "step", "(I)V"⟩
abbrev z_Mo_step_at_gx : List Cond := Cond.code y_Mo_step_at_gx b_Mo_step_at_gx 4 none :: lw_g
def e_Mo_step_at_gx : en_T := ([(2, 0, 0, [165]), (0, 0, 3, [])], none, false, 8, 0, 0, [], [], (13167250334659475823257885873658196866677045120641816208017981440, [(165, 5)], [(20, [0], [60, 1, 3, 199, 5, 2, 3, 4]), (20, [0, 1], [50, 1, 1, 5, 3, 1, 3, 2, 0, 5, 4, 6, 6, 2, 0, 16709, 1, 1, 6, 2, 0, 539, 3, 0, 3, 1, 1])], [(20, [0], [60, 1, 3, 199, 5, 2, 3, 4]), (20, [0, 1], [50, 1, 1, 5, 3, 1, 3, 2, 0, 5, 4, 6, 6, 2, 0, 16709, 1, 1, 6, 2, 0, 539, 3, 0, 3, 1, 1])], []))
abbrev b_Mo_styleTokens : ByteArray := prog_15_method_212_code
def y_Mo_styleTokens : MethodName := ⟨"DrawingHouseModel", "styleTokens", "(I)V"⟩
abbrev z_Mo_styleTokens : List Cond := Cond.code y_Mo_styleTokens b_Mo_styleTokens 9 none :: lw_g
def e_Mo_styleTokens : en_T := ([(2, 0, 0, [165]), (0, 0, 2000, [])], none, false, 8, 0, 0, [], [], (455313021615405250996748884411762243744314102902845200293393533532555691844970741760, [(165, 10), (165, 11), (165, 157)], [], [(20, [0], [50, 1, 1, 157, 160, 2, 7, 0, 2, 0, 1, 2, 0, 157, 3, 14, 1, 10, 3, 0, 160, 5, 3, 2, 0, 157, 0, 1, 0, 0, 1, 10, 3, 0, 160, 5, 3, 2, 0, 157, 0, 1, 0, 4]), (20, [0], [30, 2001, 1, 1, 157])], []))
abbrev b_Mo_sweeps : ByteArray := prog_15_method_135_code
def y_Mo_sweeps : MethodName := ⟨"DrawingHouseModel", "sweeps", "()I"⟩
abbrev z_Mo_sweeps : List Cond := Cond.code y_Mo_sweeps b_Mo_sweeps 6 (some .int) :: lw_g
def e_Mo_sweeps : en_T := ([(2, 0, 0, [165])], some (0, -2147483648, 2147483647, []), false, 8, 0, 0, [], [], (13570268881030380843364516454455985660812990069953191407852996429027966189568, [], [(20, [0], [60, 4, 6, 445, 5, 100, 101, 107, 2, 95, 102, 104, 108, 109]), (20, [0], [60, 2, 3, 448, 100, 101, 102, 105, 106])], [(20, [0], [60, 2, 3, 448, 100, 101, 102, 105, 106])], []))
abbrev b_Mo_writeNode : ByteArray := prog_15_method_236_code
def y_Mo_writeNode : MethodName := ⟨"DrawingHouseModel", "writeNode", "(I)V"⟩
abbrev z_Mo_writeNode : List Cond := Cond.code y_Mo_writeNode b_Mo_writeNode 2 none :: lw_g
def e_Mo_writeNode : en_T := ([(2, 0, 0, [165]), (0, 0, 23, [])], none, false, 8, 0, 0, [], [], (7770675568902916283677847627294075626569627356208558085007249638955617140820833992704, [(165, 170)], [(20, [0, 2], [30, 0, 1, 1, 170, -1, 0, 0])], [(20, [0, 2], [30, 8, 1, 1, 170, -1, 0, 0])], [(0, 0, 99999992, [])]))
abbrev b_Ho_at : ByteArray := prog_1_method_18_code
def y_Ho_at : MethodName := ⟨"DrawingHouse", "at", "(IIII)I"⟩
abbrev z_Ho_at : List Cond := Cond.code y_Ho_at b_Ho_at 5 (some .int) :: lw_g
def e_Ho_at : en_T := ([(2, 0, 0, [12]), (0, -2147483648, 2147483647, []), (0, -2147483648, 2147483647, []), (0, -2147483648, 2147483647, []), (0, -2147483648, 2147483647, [])], some (0, -2147483648, 1001000000, []), true, 8, 0, 0, [([(2, 0, 0, [12]), (0, -2147483648, -1, []), (0, -2147483648, 2147483647, []), (0, -2147483648, 2147483647, []), (0, -2147483648, 2147483647, []), (0, -2147483648, -2147483648, [])], [], [5], [], [], []), ([(2, 0, 0, [12]), (0, 4, 2147483647, []), (0, -2147483648, 2147483647, []), (0, -2147483648, 2147483647, []), (0, -2147483648, 2147483647, []), (0, -2147483648, -2147483648, [])], [], [5], [], [], []), ([(2, 0, 0, [12]), (0, 0, 3, []), (0, -2147483648, 2147483647, []), (0, -2147483648, 2147483647, []), (0, -2147483648, 2147483647, []), (0, -2147483648, 1001000000, [])], [], [5], [], [], [])], [], (0, [], [], [], []))
abbrev b_Ho_far : ByteArray := prog_1_method_12_code
def y_Ho_far : MethodName := ⟨"DrawingHouse", "far", "(III)I"⟩
abbrev z_Ho_far : List Cond := Cond.code y_Ho_far b_Ho_far 4 (some .int) :: lw_g
def e_Ho_far : en_T := ([(2, 0, 0, [12]), (0, -2147483648, 2147483647, []), (0, -2147483648, 2147483647, []), (0, -2147483648, 2147483647, [])], some (0, -1, 23, []), true, 8, 0, 0, [([(2, 0, 0, [12]), (0, -2147483648, -1, []), (0, -2147483648, 2147483647, []), (0, -2147483648, 2147483647, []), (0, -1, -1, [])], [], [4], [], [], []), ([(2, 0, 0, [12]), (0, 4, 2147483647, []), (0, -2147483648, 2147483647, []), (0, -2147483648, 2147483647, []), (0, -1, -1, [])], [], [4], [], [], []), ([(2, 0, 0, [12]), (0, 0, 3, []), (0, -2147483648, -1, []), (0, -2147483648, 2147483647, []), (0, -1, -1, [])], [], [4], [], [], []), ([(2, 0, 0, [12]), (0, 0, 3, []), (0, 0, 2147483647, []), (0, -2147483648, 2147483647, []), (0, -1, -1, [])], [], [4], [], [], []), ([(2, 0, 0, [12]), (0, 0, 3, []), (0, 0, 23, []), (0, -2147483648, -1, []), (0, -1, -1, [])], [], [4], [], [], []), ([(2, 0, 0, [12]), (0, 0, 3, []), (0, 0, 23, []), (0, 0, 2147483647, []), (0, -1, -1, [])], [], [4], [], [], []), ([(2, 0, 0, [12]), (0, 0, 3, []), (0, 0, 23, []), (0, 0, 23, []), (0, -1, 23, [])], [], [4], [], [], [])], [], (0, [], [], [], []))
abbrev b_Ho_put : ByteArray := prog_1_method_20_code
def y_Ho_put : MethodName := ⟨"DrawingHouse", "put", "(IIIII)Z"⟩
abbrev z_Ho_put : List Cond := Cond.code y_Ho_put b_Ho_put 6 (some .boolean) :: lw_g
def e_Ho_put : en_T := ([(2, 0, 0, [12]), (0, -2147483648, 2147483647, []), (0, -2147483648, 2147483647, []), (0, -2147483648, 2147483647, []), (0, -2147483648, 2147483647, []), (0, -2147483648, 2147483647, [])], some (0, 0, 1, []), false, 8, 0, 0, [], [], (442368, [], [(20, [0, 6], [62, 2000000])], [(20, [0, 6], [62, 2000000])], [(0, 0, 3066, [])]))
abbrev b_Ho_writePoint : ByteArray := prog_1_method_44_code
def y_Ho_writePoint : MethodName := ⟨"DrawingHouse", "writePoint", "(II)V"⟩
abbrev z_Ho_writePoint : List Cond := Cond.code y_Ho_writePoint b_Ho_writePoint 3 none :: lw_g
def e_Ho_writePoint : en_T := ([(2, 0, 0, [12]), (0, -41000000, 1001000000, []), (0, -41000000, 1001000000, [])], none, false, 8, 0, 0, [], [], (261336857795280739939871698507597986398208, [(12, 12)], [(20, [0, 3], [30, 0, 1, 1, 12, -1, 0, 0])], [(20, [0, 3], [30, 18, 1, 1, 12, -1, 0, 0])], [(0, 0, 99999982, [])]))
abbrev b_Em_pickPiece_at_gn : ByteArray := prog_3_method_9_code
def y_Em_pickPiece_at_gn : MethodName := ⟨"DrawingHouse$Embedder", "pickPiece", "(I)Z"⟩
abbrev z_Em_pickPiece_at_gn : List Cond := Cond.code y_Em_pickPiece_at_gn b_Em_pickPiece_at_gn 10 (some .boolean) :: lw_g
def e_Em_pickPiece_at_gn : en_T := ([(2, 0, 0, [1]), (0, 0, 71, [])], some (0, 0, 1, []), false, 8, 0, 0, [], [((0, 0), (2, 0, 0, [5]))], (0, [(1, 16), (1, 17), (1, 18)], [(20, [0, 2, 1], [60, 3, 3, 600, 5, 1005, 1006, 2, 1007, 1008]), (20, [2], [60, 2, 3, 595, 5, 6, 7, 8, 9]), (20, [0, 2], [60, 1, 3, 599, 1006, 2, 1007, 1008]), (20, [0], [60, 2, 0, 602, 6, 5]), (20, [0], [50, 1, 0, 7, 0, 2, 0, 1, 2, 0, 7])], [(20, [0, 2, 3], [60, 4, 0, 612, 16, 17, 6, 1005]), (20, [3, 0], [50, 2, 0, 1018, 1007, 3, 6, 1, 2, 1, 0, 0, 0, 0, 7, 4, 3, 2, 1, 18, 0, 1, 2, 1, 7])], []))
abbrev b_Em_pickPiece_at_gp : ByteArray := prog_3_method_9_code
def y_Em_pickPiece_at_gp : MethodName := ⟨"DrawingHouse$Embedder", "pickPiece", "(I)Z"⟩
abbrev z_Em_pickPiece_at_gp : List Cond := Cond.code y_Em_pickPiece_at_gp b_Em_pickPiece_at_gp 10 (some .boolean) :: lw_g
def e_Em_pickPiece_at_gp : en_T := ([(2, 0, 0, [1]), (0, 0, 71, [])], some (0, 0, 1, []), false, 8, 0, 0, [], [((0, 0), (2, 0, 0, [149]))], (0, [(1, 16), (1, 17), (1, 18)], [(20, [0, 2, 1], [60, 3, 3, 600, 5, 1005, 1006, 2, 1007, 1008]), (20, [2], [60, 2, 3, 595, 5, 6, 7, 8, 9]), (20, [0, 2], [60, 1, 3, 599, 1006, 2, 1007, 1008]), (20, [0], [60, 2, 0, 602, 6, 5]), (20, [0], [50, 1, 0, 7, 0, 2, 0, 1, 2, 0, 7])], [(20, [0, 2, 3], [60, 4, 0, 612, 16, 17, 6, 1005]), (20, [3, 0], [50, 2, 0, 1018, 1007, 3, 6, 1, 2, 1, 0, 0, 0, 0, 7, 4, 3, 2, 1, 18, 0, 1, 2, 1, 7])], []))
abbrev b_Fa_orderSmall : ByteArray := prog_4_method_21_code
def y_Fa_orderSmall : MethodName := ⟨"DrawingHouse$Facts", "orderSmall", "(LDrawingHouse$Graph;I)V"⟩
abbrev z_Fa_orderSmall : List Cond := Cond.code y_Fa_orderSmall b_Fa_orderSmall 7 none :: lw_g
def e_Fa_orderSmall : en_T := ([(2, 0, 0, [2]), (2, 0, 0, [3]), (0, 2, 7, [])], none, false, 9, 0, 0, [], [], (175921860444160, [], [(20, [0, 2], [60, 0, 1, 570, 13]), (20, [0, 3, 4, 2], [60, 0, 3, 716, 12, 11, 13]), (20, [2], [50, 0, 0, 2, 6, 0, 2, 0, 2, 1, 0, 0, 2, 1, 0, 0, 7])], [(20, [0, 2], [60, 0, 2, 573, 12, 13]), (20, [0, 3, 4, 2], [60, 0, 3, 716, 12, 11, 13])], [(0, 0, 24, []), (0, 0, 24, [])]))
abbrev b_Gr_copyFrom : ByteArray := prog_5_method_3_code
def y_Gr_copyFrom : MethodName := ⟨"DrawingHouse$Graph", "copyFrom", "(LDrawingHouse$Graph;)V"⟩
abbrev z_Gr_copyFrom : List Cond := Cond.code y_Gr_copyFrom b_Gr_copyFrom 2 none :: lw_g
def e_Gr_copyFrom : en_T := ([(2, 0, 0, [3]), (2, 0, 0, [164])], none, false, 8, 0, 0, [([(2, 0, 0, [3]), (2, 0, 0, [164]), (2, 0, 0, [154]), (2, 0, 0, [155]), (0, 0, 24, []), (0, 0, 48, [])], [], [], [((1, 7), 2), ((1, 8), 3)], [], [])], [((1, 7), (2, 0, 0, [154])), ((1, 8), (2, 0, 0, [155])), ((1, 0), (0, 0, 24, [])), ((1, 1), (0, 0, 48, []))], (2305561534236983296, [(3, 0), (3, 1), (3, 2), (3, 17), (3, 18)], [(20, [1], [60, 2, 2, 596, 0, 1, 7, 8])], [(20, [0], [60, 2, 3, 670, 0, 1, 14, 7, 8]), (20, [0], [60, 2, 2, 596, 0, 1, 7, 8]), (20, [0], [60, 2, 1, 739, 17, 18, 16]), (20, [0], [50, 1, 0, 17, 1, 3, 2, 0, 17, 0, 0]), (20, [0], [50, 1, 0, 18, 1, 3, 2, 0, 18, 0, 0]), (20, [0, 4], [50, 1, 0, 0, 1, 3, 2, 0, 0, 1, 1])], []))
abbrev b_Gr_unpack : ByteArray := prog_5_method_27_code
def y_Gr_unpack : MethodName := ⟨"DrawingHouse$Graph", "unpack", "(I)V"⟩
abbrev z_Gr_unpack : List Cond := Cond.code y_Gr_unpack b_Gr_unpack 4 none :: lw_g
def e_Gr_unpack : en_T := ([(2, 0, 0, [3]), (0, 0, 30, [])], none, false, 8, 0, 0, [], [((0, 16), (2, 0, 0, [61]))], (1801158375971487744, [(3, 0), (3, 1)], [(20, [0], [60, 2, 1, 739, 17, 18, 16]), (20, [0, 3, 4], [50, 2, 0, 17, 18, 2, 7, 1, 3, 2, 0, 17, 1, 1, 1, 3, 2, 0, 18, 1, 2]), (20, [0, 1], [50, 2, 0, 17, 18, 2, 12, 0, 2, 0, 1, 4, 3, 2, 0, 17, 2, 0, 18, 0, 2, 1, 1, 4, 3, 2, 0, 17, 2, 0, 18])], [(20, [0], [60, 2, 1, 739, 17, 18, 16]), (20, [0], [60, 2, 2, 596, 0, 1, 7, 8]), (20, [0], [60, 2, 3, 670, 0, 1, 14, 7, 8]), (20, [0, 3, 4], [50, 2, 0, 17, 18, 2, 7, 1, 3, 2, 0, 17, 1, 1, 1, 3, 2, 0, 18, 1, 2])], [(0, 0, 30, []), (0, 0, 30, [])]))
abbrev b_La_fillLow : ByteArray := prog_6_method_21_code
def y_La_fillLow : MethodName := ⟨"DrawingHouse$Layers", "fillLow", "(I)V"⟩
abbrev z_La_fillLow : List Cond := Cond.code y_La_fillLow b_La_fillLow 8 none :: lw_g
def e_La_fillLow : en_T := ([(2, 0, 0, [4]), (0, 1, 23, [])], none, false, 7, 0, 0, [], [], (151115727451828646838272, [], [(20, [0], [60, 1, 1, 636, 2, 10]), (20, [1, 0], [50, 1, 0, 1002, 2, 6, 0, 2, 0, 0, 1, 0, 0, 6, 4, 2, 1, 0, 0, 1, 2, 1, 2])], [], []))
abbrev b_La_firstBelow : ByteArray := prog_6_method_23_code
def y_La_firstBelow : MethodName := ⟨"DrawingHouse$Layers", "firstBelow", "(II)I"⟩
abbrev z_La_firstBelow : List Cond := Cond.code y_La_firstBelow b_La_firstBelow 8 (some .int) :: lw_g
def e_La_firstBelow : en_T := ([(2, 0, 0, [4]), (0, 1, 23, []), (0, -2147483648, 1000000, [])], some (0, 0, 719, []), true, 7, 0, 0, [], [], (0, [], [(20, [0], [60, 1, 1, 636, 2, 10]), (20, [1, 0], [50, 1, 0, 1002, 2, 6, 0, 2, 0, 0, 1, 0, 0, 6, 4, 2, 1, 0, 0, 1, 2, 1, 2]), (20, [0], [60, 0, 1, 648, 17])], [(20, [0, 1, 3], [60, 0, 1, 686, 10])], []))
abbrev b_La_seek_at_g1 : ByteArray := prog_6_method_22_code
def y_La_seek_at_g1 : MethodName := ⟨"DrawingHouse$Layers", "seek", "(IIII)I"⟩
abbrev z_La_seek_at_g1 : List Cond := Cond.code y_La_seek_at_g1 b_La_seek_at_g1 12 (some .int) :: lw_g
def e_La_seek_at_g1 : en_T := ([(2, 0, 0, [4]), (0, 0, 719, []), (0, 0, 63, []), (0, -2147483648, 2147483647, []), (0, -2147483647, 1000000, [])], some (0, -2147483648, 1000000, []), true, 6, 0, 0, [], [], (0, [], [(20, [2], [61, 0, 692])], [], []))
abbrev b_La_seek_at_g2 : ByteArray := prog_6_method_22_code
def y_La_seek_at_g2 : MethodName := ⟨"DrawingHouse$Layers", "seek", "(IIII)I"⟩
abbrev z_La_seek_at_g2 : List Cond := Cond.code y_La_seek_at_g2 b_La_seek_at_g2 12 (some .int) :: lw_g
def e_La_seek_at_g2 : en_T := ([(2, 0, 0, [4]), (0, 0, 718, []), (0, 0, 63, []), (0, -2147483648, 2147483647, []), (0, -2147483647, 1000000, [])], some (0, -2147483648, 1000000, []), true, 7, 0, 0, [], [], (0, [], [(20, [2], [61, 0, 694])], [], []))
abbrev b_La_seek_at_g3 : ByteArray := prog_6_method_22_code
def y_La_seek_at_g3 : MethodName := ⟨"DrawingHouse$Layers", "seek", "(IIII)I"⟩
abbrev z_La_seek_at_g3 : List Cond := Cond.code y_La_seek_at_g3 b_La_seek_at_g3 12 (some .int) :: lw_g
def e_La_seek_at_g3 : en_T := ([(2, 0, 0, [4]), (0, 0, 714, []), (0, 0, 63, []), (0, -2147483648, 2147483647, []), (0, -2147483647, 1000000, [])], some (0, -2147483648, 1000000, []), true, 8, 0, 0, [], [], (0, [], [(20, [2], [61, 0, 696])], [], []))
abbrev b_La_seek_at_g4 : ByteArray := prog_6_method_22_code
def y_La_seek_at_g4 : MethodName := ⟨"DrawingHouse$Layers", "seek", "(IIII)I"⟩
abbrev z_La_seek_at_g4 : List Cond := Cond.code y_La_seek_at_g4 b_La_seek_at_g4 12 (some .int) :: lw_g
def e_La_seek_at_g4 : en_T := ([(2, 0, 0, [4]), (0, 0, 696, []), (0, 0, 63, []), (0, -2147483648, 2147483647, []), (0, -2147483647, 1000000, [])], some (0, -2147483648, 1000000, []), true, 9, 0, 0, [], [], (0, [], [(20, [2], [61, 0, 698])], [], []))
abbrev b_La_seek_at_g5 : ByteArray := prog_6_method_22_code
def y_La_seek_at_g5 : MethodName := ⟨"DrawingHouse$Layers", "seek", "(IIII)I"⟩
abbrev z_La_seek_at_g5 : List Cond := Cond.code y_La_seek_at_g5 b_La_seek_at_g5 12 (some .int) :: lw_g
def e_La_seek_at_g5 : en_T := ([(2, 0, 0, [4]), (0, 0, 600, []), (0, 0, 63, []), (0, -2147483648, 2147483647, []), (0, -2147483647, 1000000, [])], some (0, -2147483648, 1000000, []), true, 10, 0, 0, [], [], (0, [], [(20, [2], [61, 0, 700])], [], []))
abbrev b_La_seek_at_g6 : ByteArray := prog_6_method_22_code
def y_La_seek_at_g6 : MethodName := ⟨"DrawingHouse$Layers", "seek", "(IIII)I"⟩
abbrev z_La_seek_at_g6 : List Cond := Cond.code y_La_seek_at_g6 b_La_seek_at_g6 12 (some .int) :: lw_g
def e_La_seek_at_g6 : en_T := ([(2, 0, 0, [4]), (0, 0, 0, []), (0, 0, 63, []), (0, -2147483648, 2147483647, []), (0, 1000000, 1000000, [])], some (0, -2147483648, 1000000, []), true, 11, 0, 0, [], [], (0, [], [(20, [2], [61, 0, 702])], [], []))
abbrev b_La_sweep : ByteArray := prog_6_method_24_code
def y_La_sweep : MethodName := ⟨"DrawingHouse$Layers", "sweep", "()V"⟩
abbrev z_La_sweep : List Cond := Cond.code y_La_sweep b_La_sweep 4 none :: lw_g
def e_La_sweep : en_T := ([(2, 0, 0, [4])], none, false, 8, 0, 0, [], [], (36008044431881044754432, [], [], [], []))
abbrev b_Ne_copyFrom : ByteArray := prog_7_method_14_code
def y_Ne_copyFrom : MethodName := ⟨"DrawingHouse$Net", "copyFrom", "(LDrawingHouse$Net;)V"⟩
abbrev z_Ne_copyFrom : List Cond := Cond.code y_Ne_copyFrom b_Ne_copyFrom 3 none :: lw_g
def e_Ne_copyFrom : en_T := ([(2, 0, 0, [294]), (2, 0, 0, [5])], none, false, 7, 0, 0, [], [], (3916420486727069806973635204156214115791092187529113274843653818033631038973700332322816, [(294, 5), (294, 6), (294, 13)], [], [], []))
abbrev b_Pl_findWorst : ByteArray := prog_8_method_15_code
def y_Pl_findWorst : MethodName := ⟨"DrawingHouse$PlainWays", "findWorst", "(IIII)V"⟩
abbrev z_Pl_findWorst : List Cond := Cond.code y_Pl_findWorst b_Pl_findWorst 18 none :: lw_g
def e_Pl_findWorst : en_T := ([(2, 0, 0, [6]), (0, 0, 31, []), (0, 1, 32, []), (0, -2147483648, 2147483647, []), (0, -2147483648, 131071, [])], none, false, 6, 0, 0, [], [], (0, [(6, 13), (6, 14)], [], [], []))
abbrev b_Pl_layMatrix : ByteArray := prog_8_method_25_code
def y_Pl_layMatrix : MethodName := ⟨"DrawingHouse$PlainWays", "layMatrix", "()V"⟩
abbrev z_Pl_layMatrix : List Cond := Cond.code y_Pl_layMatrix b_Pl_layMatrix 7 none :: lw_g
def e_Pl_layMatrix : en_T := ([(2, 0, 0, [6])], none, false, 7, 0, 0, [], [((0, 0), (2, 0, 0, [3])), ((0, 1), (2, 0, 0, [0]))], (618970019642690137449611264, [(0, 9)], [(20, [3, 4], [62, 2000000])], [(20, [3, 4], [62, 2000000])], [(2, 0, 0, [12]), (0, 0, 3072, [])]))
abbrev b_Pl_placeOver : ByteArray := prog_8_method_6_code
def y_Pl_placeOver : MethodName := ⟨"DrawingHouse$PlainWays", "placeOver", "(I)V"⟩
abbrev z_Pl_placeOver : List Cond := Cond.code y_Pl_placeOver b_Pl_placeOver 4 none :: lw_g
def e_Pl_placeOver : en_T := ([(2, 0, 0, [6]), (0, 0, 23, [])], none, false, 8, 0, 0, [], [((0, 0), (2, 0, 0, [3])), ((0, 1), (2, 0, 0, [0]))], (29710560942849126597578997760, [], [(20, [0, 2, 3, 4, 5], [60, 1, 3, 865, 1000, 2, 5, 2002]), (20, [0, 2, 4, 5], [60, 1, 2, 860, 1000, 2, 6]), (20, [0, 2, 4], [60, 1, 3, 859, 1000, 2, 5, 4]), (20, [1, 0, 5], [50, 0, 1, 1002, 1, 2, 1, 0, 3, 1, 2, 1, 2]), (20, [5, 4], [50, 0, 0, 0, 6, 4, 2, 1, 0, 0, 1, 1, 1])], [(20, [0, 2, 3, 4, 5], [60, 1, 3, 872, 1000, 2, 5, 2002]), (20, [0, 2, 4, 5], [60, 1, 2, 873, 1000, 2, 6])], [(0, 0, 24, []), (0, 0, 24, [])]))
abbrev b_Pl_tryRing_at_k1 : ByteArray := prog_8_method_18_code
def y_Pl_tryRing_at_k1 : MethodName := ⟨"DrawingHouse$PlainWays", "tryRing", "(III)V"⟩
abbrev z_Pl_tryRing_at_k1 : List Cond := Cond.code y_Pl_tryRing_at_k1 b_Pl_tryRing_at_k1 6 none :: lw_g
def e_Pl_tryRing_at_k1 : en_T := ([(2, 0, 0, [6]), (0, 1, 1, []), (0, 1, 1, []), (0, 0, 0, [])], none, false, 14, 0, 0, [], [((0, 0), (2, 0, 0, [3]))], (1856910058928070412348686336, [(6, 8)], [], [], []))
abbrev b_Pl_tryRing_at_k2 : ByteArray := prog_8_method_18_code
def y_Pl_tryRing_at_k2 : MethodName := ⟨"DrawingHouse$PlainWays", "tryRing", "(III)V"⟩
abbrev z_Pl_tryRing_at_k2 : List Cond := Cond.code y_Pl_tryRing_at_k2 b_Pl_tryRing_at_k2 6 none :: lw_g
def e_Pl_tryRing_at_k2 : en_T := ([(2, 0, 0, [6]), (0, 2, 2, []), (0, 0, 16777215, []), (0, -2147483648, 2147483647, [])], none, false, 13, 0, 0, [], [((0, 0), (2, 0, 0, [3]))], (1856910058928070412348686336, [(6, 8)], [], [], []))
abbrev b_Pl_tryRing_at_k3 : ByteArray := prog_8_method_18_code
def y_Pl_tryRing_at_k3 : MethodName := ⟨"DrawingHouse$PlainWays", "tryRing", "(III)V"⟩
abbrev z_Pl_tryRing_at_k3 : List Cond := Cond.code y_Pl_tryRing_at_k3 b_Pl_tryRing_at_k3 6 none :: lw_g
def e_Pl_tryRing_at_k3 : en_T := ([(2, 0, 0, [6]), (0, 3, 3, []), (0, 0, 16777215, []), (0, -2147483648, 2147483647, [])], none, false, 12, 0, 0, [], [((0, 0), (2, 0, 0, [3]))], (1856910058928070412348686336, [(6, 8)], [], [], []))
abbrev b_Pl_tryRing_at_k4 : ByteArray := prog_8_method_18_code
def y_Pl_tryRing_at_k4 : MethodName := ⟨"DrawingHouse$PlainWays", "tryRing", "(III)V"⟩
abbrev z_Pl_tryRing_at_k4 : List Cond := Cond.code y_Pl_tryRing_at_k4 b_Pl_tryRing_at_k4 6 none :: lw_g
def e_Pl_tryRing_at_k4 : en_T := ([(2, 0, 0, [6]), (0, 4, 4, []), (0, 0, 16777215, []), (0, -2147483648, 2147483647, [])], none, false, 11, 0, 0, [], [((0, 0), (2, 0, 0, [3]))], (1856910058928070412348686336, [(6, 8)], [], [], []))
abbrev b_Pl_tryRing_at_k5 : ByteArray := prog_8_method_18_code
def y_Pl_tryRing_at_k5 : MethodName := ⟨"DrawingHouse$PlainWays", "tryRing", "(III)V"⟩
abbrev z_Pl_tryRing_at_k5 : List Cond := Cond.code y_Pl_tryRing_at_k5 b_Pl_tryRing_at_k5 6 none :: lw_g
def e_Pl_tryRing_at_k5 : en_T := ([(2, 0, 0, [6]), (0, 5, 5, []), (0, 0, 16777215, []), (0, -2147483648, 2147483647, [])], none, false, 10, 0, 0, [], [((0, 0), (2, 0, 0, [3]))], (1856910058928070412348686336, [(6, 8)], [], [], []))
abbrev b_Pl_tryRing_at_k6 : ByteArray := prog_8_method_18_code
def y_Pl_tryRing_at_k6 : MethodName := ⟨"DrawingHouse$PlainWays", "tryRing", "(III)V"⟩
abbrev z_Pl_tryRing_at_k6 : List Cond := Cond.code y_Pl_tryRing_at_k6 b_Pl_tryRing_at_k6 6 none :: lw_g
def e_Pl_tryRing_at_k6 : en_T := ([(2, 0, 0, [6]), (0, 6, 6, []), (0, 0, 16777215, []), (0, -2147483648, 2147483647, [])], none, false, 9, 0, 0, [], [((0, 0), (2, 0, 0, [3]))], (1856910058928070412348686336, [(6, 8)], [], [], []))
abbrev b_Pl_tryRing_at_k7 : ByteArray := prog_8_method_18_code
def y_Pl_tryRing_at_k7 : MethodName := ⟨"DrawingHouse$PlainWays", "tryRing", "(III)V"⟩
abbrev z_Pl_tryRing_at_k7 : List Cond := Cond.code y_Pl_tryRing_at_k7 b_Pl_tryRing_at_k7 6 none :: lw_g
def e_Pl_tryRing_at_k7 : en_T := ([(2, 0, 0, [6]), (0, 7, 7, []), (0, 0, 16777215, []), (0, -2147483648, 2147483647, [])], none, false, 8, 0, 0, [], [((0, 0), (2, 0, 0, [3]))], (1856910058928070412348686336, [(6, 8)], [], [], []))
abbrev b_Pl_tryRing_at_k8 : ByteArray := prog_8_method_18_code
def y_Pl_tryRing_at_k8 : MethodName := ⟨"DrawingHouse$PlainWays", "tryRing", "(III)V"⟩
abbrev z_Pl_tryRing_at_k8 : List Cond := Cond.code y_Pl_tryRing_at_k8 b_Pl_tryRing_at_k8 6 none :: lw_g
def e_Pl_tryRing_at_k8 : en_T := ([(2, 0, 0, [6]), (0, 8, 8, []), (0, 0, 16777215, []), (0, -2147483648, 2147483647, [])], none, false, 7, 0, 0, [], [((0, 0), (2, 0, 0, [3]))], (1856910058928070412348686336, [(6, 8)], [], [], []))
abbrev b_Pl_tryRing_at_k9 : ByteArray := prog_8_method_18_code
def y_Pl_tryRing_at_k9 : MethodName := ⟨"DrawingHouse$PlainWays", "tryRing", "(III)V"⟩
abbrev z_Pl_tryRing_at_k9 : List Cond := Cond.code y_Pl_tryRing_at_k9 b_Pl_tryRing_at_k9 6 none :: lw_g
def e_Pl_tryRing_at_k9 : en_T := ([(2, 0, 0, [6]), (0, 9, 9, []), (0, 0, 16777215, []), (0, -2147483648, 2147483647, [])], none, false, 6, 0, 0, [], [((0, 0), (2, 0, 0, [3]))], (0, [], [], [], []))
abbrev b_Pn_openLine : ByteArray := prog_9_method_10_code
def y_Pn_openLine : MethodName := ⟨"DrawingHouse$PlanarWays", "openLine", "(II)V"⟩
abbrev z_Pn_openLine : List Cond := Cond.code y_Pn_openLine b_Pn_openLine 10 none :: lw_g
def e_Pn_openLine : en_T := ([(2, 0, 0, [7]), (0, 1, 22, []), (0, 0, 16777215, [])], none, false, 7, 0, 0, [], [], (91270843216432516907762630787072, [(7, 3)], [], [], []))
abbrev b_Pn_placeNext : ByteArray := prog_9_method_13_code
def y_Pn_placeNext : MethodName := ⟨"DrawingHouse$PlanarWays", "placeNext", "(LDrawingHouse$Drawing;I)V"⟩
abbrev z_Pn_placeNext : List Cond := Cond.code y_Pn_placeNext b_Pn_placeNext 7 none :: lw_g
def e_Pn_placeNext : en_T := ([(2, 0, 0, [7]), (2, 0, 0, [0]), (0, 0, 23, [])], none, false, 7, 0, 0, [], [((0, 1), (2, 0, 0, [102]))], (111553252820084187331709882122240, [(7, 3)], [(20, [4, 5, 1], [62, 2000000]), (20, [0, 6], [60, 1, 2, 889, 3, 2, 1]), (20, [0, 1, 6], [60, 0, 4, 883, 1, 4, 1002, 1003]), (20, [2, 0, 6], [50, 0, 1, 1001, 1, 2, 1, 0, 3, 1, 1, 1, 2])], [(20, [4, 5, 1], [62, 2000000]), (20, [0, 6], [60, 1, 2, 890, 3, 2, 1]), (20, [0, 1, 6], [60, 0, 4, 884, 1, 4, 1002, 1003])], [(2, 0, 0, [12]), (0, 0, 3072, []), (0, 3, 23, [])]))
abbrev b_Re_meetNode_at_ga : ByteArray := prog_10_method_13_code
def y_Re_meetNode_at_ga : MethodName := ⟨"DrawingHouse$Reader", "meetNode", "()I"⟩
abbrev z_Re_meetNode_at_ga : List Cond := Cond.code y_Re_meetNode_at_ga b_Re_meetNode_at_ga 2 (some .int) :: lw_g
def e_Re_meetNode_at_ga : en_T := ([(2, 0, 0, [8])], some (0, -1, 23, []), false, 8, 0, 0, [([(2, 0, 0, [8]), (2, 0, 0, [164]), (0, 0, 23, []), (0, 0, 2000, []), (0, 0, 23, [])], [], [4], [((0, 4), 1)], [], []), ([(2, 0, 0, [8]), (2, 0, 0, [164]), (0, 0, 23, []), (0, 0, 2000, []), (0, -1, -1, [])], [], [4], [((0, 4), 1)], [], [])], [((0, 4), (2, 0, 0, [164]))], (2944411990052395234623243954974308466357606285312, [(164, 0)], [(20, [0, 0], [30, 8, 1, 1, 6, -1, 1, 8]), (20, [0, 0], [30, 0, -1, 1, 6, 1, 1, 8]), (20, [1], [60, 2, 3, 670, 0, 1, 14, 7, 8]), (20, [1], [60, 2, 2, 596, 0, 1, 7, 8]), (20, [2, 1], [50, 1, 0, 1000, 2, 6, 0, 2, 0, 0, 1, 0, 0, 6, 4, 2, 1, 0, 0, 1, 2, 1, 0]), (20, [0, 3], [30, 0, 1, 1, 5, -1, 0, 0]), (20, [0, 3], [30, 0, -1, 1, 5, 1, 0, 0]), (20, [0, 1], [60, 6, 5, 1065, 5, 6, 8, 1000, 1001, 1002, 0, 1004, 1003, 1007, 1008])], [(20, [1], [60, 2, 3, 670, 0, 1, 14, 7, 8]), (20, [1], [60, 2, 2, 596, 0, 1, 7, 8]), (20, [4, 1], [50, 1, 0, 1000, 3, 6, 1, 2, 1, 0, 0, -1, 2, 6, 0, 2, 0, 0, 1, 0, 0, 6, 4, 2, 1, 0, 0, 1, 2, 1, 0]), (20, [2, 1], [50, 1, 0, 1000, 2, 6, 0, 2, 0, 0, 1, 0, 0, 6, 4, 2, 1, 0, 0, 1, 2, 1, 0]), (20, [0, 1, 4], [60, 6, 5, 1066, 5, 6, 8, 1000, 1001, 1002, 0, 1004, 1003, 1007, 1008])], [(0, 0, 23, []), (0, 0, 2000, [])]))
abbrev b_Re_meetNode_at_gx : ByteArray := prog_10_method_13_code
def y_Re_meetNode_at_gx : MethodName := ⟨"DrawingHouse$Reader", "meetNode", "()I"⟩
abbrev z_Re_meetNode_at_gx : List Cond := Cond.code y_Re_meetNode_at_gx b_Re_meetNode_at_gx 2 (some .int) :: lw_g
def e_Re_meetNode_at_gx : en_T := ([(2, 0, 0, [8])], some (0, -1, 23, []), false, 8, 0, 0, [([(2, 0, 0, [8]), (2, 0, 0, [164]), (0, 0, 2000, []), (0, 0, 23, [])], [], [3], [((0, 4), 1)], [], []), ([(2, 0, 0, [8]), (2, 0, 0, [164]), (0, 0, 2000, []), (0, -1, -1, [])], [], [3], [((0, 4), 1)], [], [])], [((0, 4), (2, 0, 0, [164]))], (2944411990052395234623243954974308466357606285312, [(164, 0)], [(20, [0, 0], [30, 8, 1, 1, 6, -1, 1, 8]), (20, [0, 0], [30, 0, -1, 1, 6, 1, 1, 8]), (20, [1], [60, 2, 3, 670, 0, 1, 14, 7, 8]), (20, [1], [60, 2, 2, 596, 0, 1, 7, 8]), (20, [0, 2], [30, 0, 1, 1, 5, -1, 0, 0]), (20, [0, 2], [30, 0, -1, 1, 5, 1, 0, 0]), (20, [0, 1], [60, 6, 5, 1065, 5, 6, 8, 1000, 1001, 1002, 0, 1004, 1003, 1007, 1008])], [(20, [1], [60, 2, 3, 670, 0, 1, 14, 7, 8]), (20, [1], [60, 2, 2, 596, 0, 1, 7, 8]), (20, [3, 1], [50, 1, 0, 1000, 3, 6, 1, 2, 1, 0, 0, -1, 2, 6, 0, 2, 0, 0, 1, 0, 0, 6, 4, 2, 1, 0, 0, 1, 2, 1, 0]), (20, [0, 1, 3], [60, 6, 5, 1066, 5, 6, 8, 1000, 1001, 1002, 0, 1004, 1003, 1007, 1008])], [(0, 0, 2000, [])]))
abbrev b_Sy_run : ByteArray := prog_13_method_24_code
def y_Sy_run : MethodName := ⟨"DrawingHouse$Styler", "run", "(II)V"⟩
abbrev z_Sy_run : List Cond := Cond.code y_Sy_run b_Sy_run 7 none :: lw_g
def e_Sy_run : en_T := ([(2, 0, 0, [11]), (0, 0, 12, []), (0, 0, 65535, [])], none, false, 7, 0, 0, [], [], (680564733841876926926749214863536422912, [(11, 15)], [], [], []))
abbrev b_Mo_backFrom : ByteArray := prog_15_method_194_code
def y_Mo_backFrom : MethodName := ⟨"DrawingHouseModel", "backFrom", "(II)V"⟩
abbrev z_Mo_backFrom : List Cond := Cond.code y_Mo_backFrom b_Mo_backFrom 9 none :: lw_g
def e_Mo_backFrom : en_T := ([(2, 0, 0, [165]), (0, 0, 23999, []), (0, 0, 1000000, [])], none, false, 7, 0, 0, [], [], (829997695653082488796156820542274923492239250083311563034831962168721313259061248, [], [(20, [0, 3, 2], [60, 2, 4, 495, 146, 147, 143, 140, 141, 142]), (20, [0, 1, 2], [60, 0, 1, 497, 140]), (20, [1, 0], [50, 2, 0, 1146, 1147, 2, 6, 0, 2, 0, 0, 1, 0, 0, 6, 4, 2, 1, 0, 0, 1, 6, 2, 0, 4, 6, 3, 2, 1, 146, 2, 1, 147]), (20, [2], [50, 0, 0, 2, 6, 0, 2, 0, 0, 1, 0, 0, 2, 1, 0, 0, 999999])], [(20, [0, 3, 2], [60, 2, 4, 495, 146, 147, 143, 140, 141, 142])], [(0, 0, 5999, [])]))
abbrev b_Mo_becomes_at_k219_k0 : ByteArray := prog_15_method_45_code
def y_Mo_becomes_at_k219_k0 : MethodName := ⟨"DrawingHouseModel", "becomes", "(IIZII)I"⟩
abbrev z_Mo_becomes_at_k219_k0 : List Cond := Cond.code y_Mo_becomes_at_k219_k0 b_Mo_becomes_at_k219_k0 6 (some .int) :: lw_g
def e_Mo_becomes_at_k219_k0 : en_T := ([(2, 0, 0, [165]), (0, 0, 3, []), (0, 219, 219, []), (0, 0, 0, []), (0, -2147483648, 2147483647, []), (0, -2147483648, 2147483647, [])], some (0, -1, -1, []), false, 6, 0, 0, [], [], (0, [], [(20, [0], [60, 1, 3, 199, 5, 2, 3, 4]), (20, [0, 1], [50, 1, 1, 5, 3, 1, 3, 2, 0, 5, 4, 6, 6, 2, 0, 16709, 1, 1, 6, 2, 0, 539, 3, 0, 3, 1, 1])], [(20, [0], [60, 0, 3, 198, 2, 3, 4])], []))
abbrev b_Mo_becomes_at_k219_k1 : ByteArray := prog_15_method_45_code
def y_Mo_becomes_at_k219_k1 : MethodName := ⟨"DrawingHouseModel", "becomes", "(IIZII)I"⟩
abbrev z_Mo_becomes_at_k219_k1 : List Cond := Cond.code y_Mo_becomes_at_k219_k1 b_Mo_becomes_at_k219_k1 6 (some .int) :: lw_g
def e_Mo_becomes_at_k219_k1 : en_T := ([(2, 0, 0, [165]), (0, 0, 3, []), (0, 219, 219, []), (0, 1, 1, []), (0, 0, 23, []), (0, 1, 99, [])], some (0, 0, 0, []), false, 9, 0, 0, [], [], (13167250334659475823257885873658196866677045120641816208017981440, [(165, 5)], [(20, [0], [60, 1, 3, 199, 5, 2, 3, 4]), (20, [0, 1], [50, 1, 1, 5, 3, 1, 3, 2, 0, 5, 4, 6, 6, 2, 0, 16709, 1, 1, 6, 2, 0, 539, 3, 0, 3, 1, 1])], [(20, [0], [60, 0, 3, 198, 2, 3, 4])], []))
abbrev b_Mo_becomes_at_k243_k0 : ByteArray := prog_15_method_45_code
def y_Mo_becomes_at_k243_k0 : MethodName := ⟨"DrawingHouseModel", "becomes", "(IIZII)I"⟩
abbrev z_Mo_becomes_at_k243_k0 : List Cond := Cond.code y_Mo_becomes_at_k243_k0 b_Mo_becomes_at_k243_k0 6 (some .int) :: lw_g
def e_Mo_becomes_at_k243_k0 : en_T := ([(2, 0, 0, [165]), (0, 0, 3, []), (0, 243, 243, []), (0, 0, 0, []), (0, -2147483648, 2147483647, []), (0, -2147483648, 2147483647, [])], some (0, -1, -1, []), false, 6, 0, 0, [], [], (0, [], [(20, [0], [60, 1, 3, 199, 5, 2, 3, 4]), (20, [0, 1], [50, 1, 1, 5, 3, 1, 3, 2, 0, 5, 4, 6, 6, 2, 0, 16709, 1, 1, 6, 2, 0, 539, 3, 0, 3, 1, 1])], [(20, [0], [60, 0, 3, 198, 2, 3, 4])], []))
abbrev b_Mo_becomes_at_k243_k1 : ByteArray := prog_15_method_45_code
def y_Mo_becomes_at_k243_k1 : MethodName := ⟨"DrawingHouseModel", "becomes", "(IIZII)I"⟩
abbrev z_Mo_becomes_at_k243_k1 : List Cond := Cond.code y_Mo_becomes_at_k243_k1 b_Mo_becomes_at_k243_k1 6 (some .int) :: lw_g
def e_Mo_becomes_at_k243_k1 : en_T := ([(2, 0, 0, [165]), (0, 0, 3, []), (0, 243, 243, []), (0, 1, 1, []), (0, 0, 23, []), (0, 0, 7, [])], some (0, 0, 0, []), false, 9, 0, 0, [], [], (13167250334659475823257885873658196866677045120641816208017981440, [(165, 5)], [(20, [0], [60, 1, 3, 199, 5, 2, 3, 4]), (20, [0, 1], [50, 1, 1, 5, 3, 1, 3, 2, 0, 5, 4, 6, 6, 2, 0, 16709, 1, 1, 6, 2, 0, 539, 3, 0, 3, 1, 1])], [(20, [0], [60, 0, 3, 198, 2, 3, 4])], []))
abbrev b_Mo_becomes_at_k363_k0 : ByteArray := prog_15_method_45_code
def y_Mo_becomes_at_k363_k0 : MethodName := ⟨"DrawingHouseModel", "becomes", "(IIZII)I"⟩
abbrev z_Mo_becomes_at_k363_k0 : List Cond := Cond.code y_Mo_becomes_at_k363_k0 b_Mo_becomes_at_k363_k0 6 (some .int) :: lw_g
def e_Mo_becomes_at_k363_k0 : en_T := ([(2, 0, 0, [165]), (0, 0, 3, []), (0, 363, 363, []), (0, 0, 0, []), (0, -2147483648, 2147483647, []), (0, -2147483648, 2147483647, [])], some (0, -1, -1, []), false, 6, 0, 0, [], [], (0, [], [(20, [0], [60, 1, 3, 199, 5, 2, 3, 4]), (20, [0, 1], [50, 1, 1, 5, 3, 1, 3, 2, 0, 5, 4, 6, 6, 2, 0, 16709, 1, 1, 6, 2, 0, 539, 3, 0, 3, 1, 1])], [(20, [0], [60, 0, 3, 198, 2, 3, 4])], []))
abbrev b_Mo_becomes_at_k363_k1 : ByteArray := prog_15_method_45_code
def y_Mo_becomes_at_k363_k1 : MethodName := ⟨"DrawingHouseModel", "becomes", "(IIZII)I"⟩
abbrev z_Mo_becomes_at_k363_k1 : List Cond := Cond.code y_Mo_becomes_at_k363_k1 b_Mo_becomes_at_k363_k1 6 (some .int) :: lw_g
def e_Mo_becomes_at_k363_k1 : en_T := ([(2, 0, 0, [165]), (0, 0, 3, []), (0, 363, 363, []), (0, 1, 1, []), (0, 0, 47, []), (0, 1, 9, [])], some (0, 0, 0, []), false, 9, 0, 0, [], [], (13167250334659475823257885873658196866677045120641816208017981440, [(165, 5)], [(20, [0], [60, 1, 3, 199, 5, 2, 3, 4]), (20, [0, 1], [50, 1, 1, 5, 3, 1, 3, 2, 0, 5, 4, 6, 6, 2, 0, 16709, 1, 1, 6, 2, 0, 539, 3, 0, 3, 1, 1])], [(20, [0], [60, 0, 3, 198, 2, 3, 4])], []))
abbrev b_Mo_becomes_at_k411_k0 : ByteArray := prog_15_method_45_code
def y_Mo_becomes_at_k411_k0 : MethodName := ⟨"DrawingHouseModel", "becomes", "(IIZII)I"⟩
abbrev z_Mo_becomes_at_k411_k0 : List Cond := Cond.code y_Mo_becomes_at_k411_k0 b_Mo_becomes_at_k411_k0 6 (some .int) :: lw_g
def e_Mo_becomes_at_k411_k0 : en_T := ([(2, 0, 0, [165]), (0, 0, 3, []), (0, 411, 411, []), (0, 0, 0, []), (0, -2147483648, 2147483647, []), (0, -2147483648, 2147483647, [])], some (0, -1, -1, []), false, 6, 0, 0, [], [], (0, [], [(20, [0], [60, 1, 3, 199, 5, 2, 3, 4]), (20, [0, 1], [50, 1, 1, 5, 3, 1, 3, 2, 0, 5, 4, 6, 6, 2, 0, 16709, 1, 1, 6, 2, 0, 539, 3, 0, 3, 1, 1])], [(20, [0], [60, 0, 3, 198, 2, 3, 4])], []))
abbrev b_Mo_becomes_at_k411_k1 : ByteArray := prog_15_method_45_code
def y_Mo_becomes_at_k411_k1 : MethodName := ⟨"DrawingHouseModel", "becomes", "(IIZII)I"⟩
abbrev z_Mo_becomes_at_k411_k1 : List Cond := Cond.code y_Mo_becomes_at_k411_k1 b_Mo_becomes_at_k411_k1 6 (some .int) :: lw_g
def e_Mo_becomes_at_k411_k1 : en_T := ([(2, 0, 0, [165]), (0, 0, 3, []), (0, 411, 411, []), (0, 1, 1, []), (0, 0, 47, []), (0, 0, 1, [])], some (0, 0, 0, []), false, 9, 0, 0, [], [], (13167250334659475823257885873658196866677045120641816208017981440, [(165, 5)], [(20, [0], [60, 1, 3, 199, 5, 2, 3, 4]), (20, [0, 1], [50, 1, 1, 5, 3, 1, 3, 2, 0, 5, 4, 6, 6, 2, 0, 16709, 1, 1, 6, 2, 0, 539, 3, 0, 3, 1, 1])], [(20, [0], [60, 0, 3, 198, 2, 3, 4])], []))
abbrev b_Mo_bendsBecome : ByteArray := prog_15_method_195_code
def y_Mo_bendsBecome : MethodName := ⟨"DrawingHouseModel", "bendsBecome", "(IIII)I"⟩
abbrev z_Mo_bendsBecome : List Cond := Cond.code y_Mo_bendsBecome b_Mo_bendsBecome 15 (some .int) :: lw_g
def e_Mo_bendsBecome : en_T := ([(2, 0, 0, [165]), (0, 0, 47, []), (0, 0, 5999, []), (0, 0, 5999, []), (0, 0, 1, [])], some (0, -4, 0, []), false, 8, 0, 0, [], [], (5691412770192565637639338116104034957664626040627775215149905904460618945615888384, [], [(20, [0], [60, 2, 0, 494, 146, 147]), (20, [0, 3], [60, 2, 2, 504, 146, 147, 143, 140]), (20, [2, 0], [50, 2, 0, 1146, 1147, 2, 6, 0, 2, 0, 0, 1, 0, 0, 6, 4, 2, 1, 0, 0, 1, 6, 3, 2, 1, 146, 2, 1, 147]), (20, [3, 0], [50, 2, 0, 1146, 1147, 2, 6, 0, 2, 0, 0, 1, 0, 0, 6, 4, 2, 1, 0, 0, 1, 6, 3, 2, 1, 146, 2, 1, 147])], [], []))
abbrev b_Mo_between : ByteArray := prog_15_method_23_code
def y_Mo_between : MethodName := ⟨"DrawingHouseModel", "between", "(II)I"⟩
abbrev z_Mo_between : List Cond := Cond.code y_Mo_between b_Mo_between 4 (some .int) :: lw_g
def e_Mo_between : en_T := ([(2, 0, 0, [165]), (0, 0, 75, []), (0, 0, 75, [])], some (0, -1, 47, []), true, 8, 0, 0, [], [], (0, [], [], [(20, [0, 1, 2, 3], [60, 1, 1, 206, 5, 2]), (20, [0, 1, 2, 3], [60, 1, 1, 1034, 5, 2])], []))
abbrev b_Mo_ex : ByteArray := prog_15_method_184_code
def y_Mo_ex : MethodName := ⟨"DrawingHouseModel", "ex", "(II)I"⟩
abbrev z_Mo_ex : List Cond := Cond.code y_Mo_ex b_Mo_ex 3 (some .int) :: lw_g
def e_Mo_ex : en_T := ([(2, 0, 0, [165]), (0, 0, 47, []), (0, 0, 25, [])], some (0, -300000011, 300000000, []), true, 7, 0, 0, [([(2, 0, 0, [165]), (0, 0, 47, []), (0, 1, 25, []), (0, -300000011, 221100000, [])], [], [3], [], [], []), ([(2, 0, 0, [165]), (0, 0, 47, []), (0, 1, 25, []), (0, -300000000, 300000000, [])], [], [3], [], [], []), ([(2, 0, 0, [165]), (0, 0, 47, []), (0, 0, 0, []), (0, -300000000, 300000000, [])], [], [3], [], [], [])], [], (0, [], [(20, [2, 0, 1], [50, 1, 1, 1139, 1064, 0, 2, 1, 0, 4, 14, 3, 1, 64, 4, 7, 6, 2, 0, 48, 2, 1, 139, 1, 2, 0, 1])], [(20, [2, 3, 0, 1], [50, 2, 2, 2139, 2005, 2062, 2002, 4, 6, 1, 2, 1, 0, 0, 0, 1, 2, 1, 1, 3, 2, 62, 4, 7, 6, 2, 0, 24, 2, 2, 139, 3, 2, 2, 4, 7, 4, 3, 2, 2, 5, 0, 267, 1, 3]), (20, [2, 0, 1, 3], [50, 2, 3, 1139, 1005, 1064, 1062, 1002, 4, 22, 1, 2, 1, 0, 4, 14, 3, 1, 64, 4, 7, 6, 2, 0, 48, 2, 1, 139, 1, 2, 0, 1, 1, 2, 1, 3, 3, 1, 62, 4, 7, 6, 2, 0, 24, 2, 1, 139, 3, 1, 2, 4, 7, 4, 3, 2, 1, 5, 0, 315, 1, 2]), (20, [2, 0, 1, 3], [50, 1, 2, 1139, 1064, 1065, 3, 6, 1, 2, 1, 0, 0, 0, 3, 22, 1, 2, 1, 0, 4, 14, 3, 1, 64, 4, 7, 6, 2, 0, 48, 2, 1, 139, 1, 2, 0, 1, 1, 2, 1, 3, 3, 1, 65, 4, 15, 6, 2, 0, 24, 4, 7, 6, 2, 0, 48, 2, 1, 139, 1, 2, 5, 2, 1, 0, 0, 1])], []))
abbrev b_Mo_ey : ByteArray := prog_15_method_185_code
def y_Mo_ey : MethodName := ⟨"DrawingHouseModel", "ey", "(II)I"⟩
abbrev z_Mo_ey : List Cond := Cond.code y_Mo_ey b_Mo_ey 3 (some .int) :: lw_g
def e_Mo_ey : en_T := ([(2, 0, 0, [165]), (0, 0, 47, []), (0, 0, 25, [])], some (0, -900000000, 900000000, []), true, 7, 0, 0, [([(2, 0, 0, [165]), (0, 0, 47, []), (0, 1, 25, []), (0, -900000000, 900000000, [])], [], [3], [], [], []), ([(2, 0, 0, [165]), (0, 0, 47, []), (0, 1, 25, []), (0, -300000000, 300000000, [])], [], [3], [], [], []), ([(2, 0, 0, [165]), (0, 0, 47, []), (0, 0, 0, []), (0, -300000000, 300000000, [])], [], [3], [], [], [])], [], (0, [], [(20, [2, 0, 1], [50, 1, 1, 1139, 1064, 0, 2, 1, 0, 4, 14, 3, 1, 64, 4, 7, 6, 2, 0, 48, 2, 1, 139, 1, 2, 0, 1])], [(20, [2, 3, 0, 1], [50, 2, 2, 2139, 2005, 2063, 2002, 4, 6, 1, 2, 1, 0, 0, 0, 1, 2, 1, 1, 3, 2, 63, 4, 7, 6, 2, 0, 24, 2, 2, 139, 3, 2, 2, 4, 7, 4, 3, 2, 2, 5, 0, 267, 1, 3]), (20, [2, 0, 1, 3], [50, 2, 3, 1139, 1005, 1064, 1063, 1002, 4, 22, 1, 2, 1, 0, 4, 14, 3, 1, 64, 4, 7, 6, 2, 0, 48, 2, 1, 139, 1, 2, 0, 1, 1, 2, 1, 3, 3, 1, 63, 4, 7, 6, 2, 0, 24, 2, 1, 139, 3, 1, 2, 4, 7, 4, 3, 2, 1, 5, 0, 315, 1, 2]), (20, [2, 0, 1, 3], [50, 1, 2, 1139, 1064, 1066, 3, 6, 1, 2, 1, 0, 0, 0, 3, 22, 1, 2, 1, 0, 4, 14, 3, 1, 64, 4, 7, 6, 2, 0, 48, 2, 1, 139, 1, 2, 0, 1, 1, 2, 1, 3, 3, 1, 66, 4, 15, 6, 2, 0, 24, 4, 7, 6, 2, 0, 48, 2, 1, 139, 1, 2, 5, 2, 1, 0, 0, 1])], []))
abbrev b_Mo_isDrawn : ByteArray := prog_15_method_180_code
def y_Mo_isDrawn : MethodName := ⟨"DrawingHouseModel", "isDrawn", "(I)Z"⟩
abbrev z_Mo_isDrawn : List Cond := Cond.code y_Mo_isDrawn b_Mo_isDrawn 2 (some .boolean) :: lw_g
def e_Mo_isDrawn : en_T := ([(2, 0, 0, [165]), (0, -2147483648, 2147483647, [])], some (0, 0, 1, []), false, 8, 0, 0, [], [], (0, [(165, 5), (165, 139)], [], [(20, [2, 1, 0], [50, 1, 1, 2005, 2003, 4, 6, 1, 2, 1, 0, 0, 1, 2, 6, 0, 2, 0, 0, 1, 1, 2, 6, 0, 2, 1, 1, 0, 3, 1, 3, 2, 2, 5, 4, 6, 6, 2, 0, 16709, 1, 1, 6, 2, 0, 539, 3, 2, 3, 1, 1])], []))
abbrev b_Mo_isInBox : ByteArray := prog_15_method_186_code
def y_Mo_isInBox : MethodName := ⟨"DrawingHouseModel", "isInBox", "(III)Z"⟩
abbrev z_Mo_isInBox : List Cond := Cond.code y_Mo_isInBox b_Mo_isInBox 5 (some .boolean) :: lw_g
def e_Mo_isInBox : en_T := ([(2, 0, 0, [165]), (0, 0, 23, []), (0, -600000023, 600000000, []), (0, -1800000001, 1800000000, [])], some (0, 0, 1, []), true, 7, 0, 0, [([(2, 0, 0, [165]), (0, 0, 23, []), (0, -600000023, 299999998, []), (0, -1800000001, 1800000000, []), (0, 0, 0, [])], [], [4], [], [], []), ([(2, 0, 0, [165]), (0, 0, 23, []), (0, -299999998, 600000000, []), (0, -1800000001, 1800000000, []), (0, 0, 0, [])], [], [4], [], [], []), ([(2, 0, 0, [165]), (0, 0, 23, []), (0, -300000009, 300000009, []), (0, -1800000001, 299999998, []), (0, 0, 0, [])], [], [4], [], [], []), ([(2, 0, 0, [165]), (0, 0, 23, []), (0, -300000009, 300000009, []), (0, -299999998, 1800000000, []), (0, 0, 0, [])], [], [4], [], [], []), ([(2, 0, 0, [165]), (0, 0, 23, []), (0, -300000009, 300000009, []), (0, -300000001, 300000001, []), (0, 1, 1, [])], [], [4], [], [], [])], [], (0, [], [], [], []))
abbrev b_Mo_neighbours : ByteArray := prog_15_method_54_code
def y_Mo_neighbours : MethodName := ⟨"DrawingHouseModel", "neighbours", "(I)I"⟩
abbrev z_Mo_neighbours : List Cond := Cond.code y_Mo_neighbours b_Mo_neighbours 4 (some .int) :: lw_g
def e_Mo_neighbours : en_T := ([(2, 0, 0, [165]), (0, 0, 23, [])], some (0, -2147483648, 2147483647, []), true, 8, 0, 0, [], [], (0, [], [], [], []))
abbrev b_Mo_next : ByteArray := prog_15_method_28_code
def y_Mo_next : MethodName := ⟨"DrawingHouseModel", "next", "()V"⟩
abbrev z_Mo_next : List Cond := Cond.code y_Mo_next b_Mo_next 3 none :: lw_g
def e_Mo_next : en_T := ([(2, 0, 0, [165])], none, false, 8, 0, 0, [], [], (0, [(165, 11), (165, 12), (165, 13), (165, 14), (165, 15)], [(20, [1, 0], [30, 0, 1, 0, 0, -1, 1, 11]), (20, [1, 0], [50, 1, 0, 1011, 1, 2, 1, 0, 2, 1, 11]), (20, [0], [60, 2, 0, 947, 10, 11])], [(20, [0, 0], [30, 0, 1, 1, 15, -1, 1, 11]), (20, [0], [50, 3, 0, 12, 11, 15, 2, 21, 4, 7, 1, 3, 2, 0, 12, 0, 1, 0, 3, 2, 0, 11, 4, 3, 2, 0, 15, 0, 8, 3, 7, 1, 3, 2, 0, 12, 0, 0, 0, 7, 4, 3, 2, 0, 15, 0, 1, 2, 0, 11]), (20, [1, 0], [30, 0, 1, 0, 0, -1, 1, 15]), (20, [0, 1], [60, 6, 1, 948, 10, 11, 12, 13, 14, 15, 1])], [(0, 0, 2000, [])]))
abbrev b_Mo_plane : ByteArray := prog_15_method_62_code
def y_Mo_plane : MethodName := ⟨"DrawingHouseModel", "plane", "()V"⟩
abbrev z_Mo_plane : List Cond := Cond.code y_Mo_plane b_Mo_plane 2 none :: lw_g
def e_Mo_plane : en_T := ([(2, 0, 0, [165])], none, false, 7, 0, 0, [], [], (10727468786061222008508429190052164285331173855285215232, [(165, 31), (165, 32)], [(20, [0], [60, 1, 1, 197, 5, 2])], [(20, [0], [60, 2, 2, 75, 31, 32, 33, 34]), (20, [0], [60, 3, 4, 201, 5, 31, 32, 2, 33, 34, 35])], []))
abbrev b_Mo_shortest : ByteArray := prog_15_method_73_code
def y_Mo_shortest : MethodName := ⟨"DrawingHouseModel", "shortest", "(IIZ)V"⟩
abbrev z_Mo_shortest : List Cond := Cond.code y_Mo_shortest b_Mo_shortest 9 none :: lw_g
def e_Mo_shortest : en_T := ([(2, 0, 0, [165]), (0, 0, 24, []), (0, 0, 24, []), (0, 0, 1, [])], none, false, 8, 0, 0, [], [], (9415652603080021145753684134811499624153533166696051769344, [(165, 45)], [(20, [0], [60, 2, 2, 75, 31, 32, 33, 34]), (20, [0], [60, 1, 2, 122, 32, 35, 43]), (20, [1, 0], [30, -1, 1, 0, 0, -1, 1, 31]), (20, [2, 0], [30, -1, 1, 0, 0, -1, 1, 31])], [(20, [0, 1, 2, 3], [60, 4, 7, 130, 31, 32, 49, 45, 33, 34, 35, 43, 44, 42, 46])], []))
abbrev b_Mo_sizeOfGroup : ByteArray := prog_15_method_102_code
def y_Mo_sizeOfGroup : MethodName := ⟨"DrawingHouseModel", "sizeOfGroup", "(I)I"⟩
abbrev z_Mo_sizeOfGroup : List Cond := Cond.code y_Mo_sizeOfGroup b_Mo_sizeOfGroup 4 (some .int) :: lw_g
def e_Mo_sizeOfGroup : en_T := ([(2, 0, 0, [165]), (0, -1, 7, [])], some (0, 0, 4095, []), true, 7, 0, 0, [], [], (0, [], [], [(20, [0, 1, 2], [60, 1, 1, 781, 5, 2]), (20, [2], [50, 0, 0, 2, 6, 0, 2, 0, 0, 1, 0, 0, 2, 1, 0, 0, 2376])], []))
abbrev b_Mo_touch : ByteArray := prog_15_method_206_code
def y_Mo_touch : MethodName := ⟨"DrawingHouseModel", "touch", "(II)Z"⟩
abbrev z_Mo_touch : List Cond := Cond.code y_Mo_touch b_Mo_touch 7 (some .boolean) :: lw_g
def e_Mo_touch : en_T := ([(2, 0, 0, [165]), (0, 0, 23, []), (0, 0, 23, [])], some (0, 0, 1, []), true, 7, 0, 0, [], [], (0, [], [], [], []))
abbrev b_Mo_turnRound : ByteArray := prog_15_method_85_code
def y_Mo_turnRound : MethodName := ⟨"DrawingHouseModel", "turnRound", "(II)V"⟩
abbrev z_Mo_turnRound : List Cond := Cond.code y_Mo_turnRound b_Mo_turnRound 5 none :: lw_g
def e_Mo_turnRound : en_T := ([(2, 0, 0, [165]), (0, 0, 24, []), (0, 0, 79, [])], none, false, 8, 0, 0, [], [], (36779892980781332600600328651607420406849738932406452224, [], [(20, [0], [60, 2, 2, 75, 31, 32, 33, 34]), (20, [0, 2], [60, 2, 6, 175, 32, 39, 33, 34, 35, 17, 40, 41]), (20, [0], [60, 1, 1, 170, 39, 40]), (20, [1, 0], [30, -1, 1, 0, 0, -1, 1, 31]), (20, [0, 2, 1], [60, 3, 8, 176, 31, 32, 39, 33, 34, 35, 17, 40, 41, 36, 37])], [(20, [0, 2, 1], [60, 3, 8, 177, 31, 32, 39, 33, 34, 35, 17, 40, 41, 36, 37])], []))
abbrev b_Ho_searchMap : ByteArray := prog_1_method_35_code
def y_Ho_searchMap : MethodName := ⟨"DrawingHouse", "searchMap", "(LDrawingHouse$Graph;LDrawingHouse$Graph;[I)I"⟩
abbrev z_Ho_searchMap : List Cond := Cond.code y_Ho_searchMap b_Ho_searchMap 9 (some .int) :: lw_g
def e_Ho_searchMap : en_T := ([(2, 0, 0, [12]), (2, 0, 0, [3]), (2, 0, 0, [3]), (2, 0, 0, [295])], some (0, -2, 1, []), false, 9, 0, 0, [], [], (63657374260452690195888927762793067532858387302060507832379389042324415617604272068231168, [(12, 8)], [], [], []))
abbrev b_Dr_isOnPiece : ByteArray := prog_2_method_24_code
def y_Dr_isOnPiece : MethodName := ⟨"DrawingHouse$Drawing", "isOnPiece", "(IIII)Z"⟩
abbrev z_Dr_isOnPiece : List Cond := Cond.code y_Dr_isOnPiece b_Dr_isOnPiece 9 (some .boolean) :: lw_g
def e_Dr_isOnPiece : en_T := ([(2, 0, 0, [0]), (0, 0, 47, []), (0, 0, 24, []), (0, -40000000, 690000000, []), (0, -40000000, 690000000, [])], some (0, 0, 1, []), true, 8, 0, 0, [], [((0, 0), (2, 0, 0, [3]))], (0, [], [], [], []))
abbrev b_Dr_measure : ByteArray := prog_2_method_16_code
def y_Dr_measure : MethodName := ⟨"DrawingHouse$Drawing", "measure", "()V"⟩
abbrev z_Dr_measure : List Cond := Cond.code y_Dr_measure b_Dr_measure 3 none :: lw_g
def e_Dr_measure : en_T := ([(2, 0, 0, [0])], none, false, 7, 0, 0, [], [((0, 0), (2, 0, 0, [3]))], (0, [(0, 17), (0, 18), (0, 19), (0, 20)], [], [(20, [0, 1], [60, 4, 3, 932, 17, 19, 1000, 1001, 2, 4, 5]), (20, [0, 1], [60, 4, 3, 939, 18, 20, 1000, 1001, 3, 4, 6])], []))
abbrev b_Dr_report : ByteArray := prog_2_method_6_code
def y_Dr_report : MethodName := ⟨"DrawingHouse$Drawing", "report", "(II)I"⟩
abbrev z_Dr_report : List Cond := Cond.code y_Dr_report b_Dr_report 3 (some .int) :: lw_g
def e_Dr_report : en_T := ([(2, 0, 0, [0]), (0, -2147483648, 2147483647, []), (0, -2147483648, 2147483647, [])], some (0, -2147483648, 2147483647, []), true, 8, 0, 0, [], [], (0, [], [], [], []))
abbrev b_Em_splitCycle : ByteArray := prog_3_method_13_code
def y_Em_splitCycle : MethodName := ⟨"DrawingHouse$Embedder", "splitCycle", "()V"⟩
abbrev z_Em_splitCycle : List Cond := Cond.code y_Em_splitCycle b_Em_splitCycle 7 none :: lw_g
def e_Em_splitCycle : en_T := ([(2, 0, 0, [1])], none, false, 8, 0, 0, [], [((0, 9), (2, 0, 0, [30])), ((0, 14), (2, 0, 0, [35]))], (8053063680, [(1, 6), (1, 7)], [(20, [0], [60, 2, 2, 603, 7, 6, 8, 9]), (20, [0], [60, 2, 1, 613, 6, 15, 14]), (20, [0], [50, 1, 0, 15, 0, 2, 0, 2, 2, 0, 15]), (20, [0], [50, 1, 0, 7, 0, 7, 4, 3, 2, 0, 7, 0, 1, 0, 50]), (20, [0], [50, 2, 0, 18, 7, 0, 7, 4, 3, 2, 0, 18, 0, 1, 2, 0, 7]), (20, [0], [60, 2, 0, 602, 6, 5])], [(20, [0], [60, 2, 2, 603, 7, 6, 8, 9]), (20, [0], [50, 1, 0, 7, 0, 2, 0, 1, 2, 0, 7]), (20, [0], [60, 2, 0, 602, 6, 5])], []))
abbrev b_Fa_orderLarge : ByteArray := prog_4_method_23_code
def y_Fa_orderLarge : MethodName := ⟨"DrawingHouse$Facts", "orderLarge", "(LDrawingHouse$Graph;I)V"⟩
abbrev z_Fa_orderLarge : List Cond := Cond.code y_Fa_orderLarge b_Fa_orderLarge 9 none :: lw_g
def e_Fa_orderLarge : en_T := ([(2, 0, 0, [2]), (2, 0, 0, [3]), (0, 8, 24, [])], none, false, 8, 0, 0, [], [], (35184372088832, [], [(20, [0, 2], [60, 0, 1, 570, 13]), (20, [0, 3, 4, 2], [60, 0, 3, 716, 12, 11, 13])], [(20, [0, 2], [60, 0, 2, 573, 12, 13]), (20, [0, 3, 4, 2], [60, 0, 3, 716, 12, 11, 13])], [(0, 0, 24, []), (0, 0, 24, [])]))
abbrev b_Gr_removeNode : ByteArray := prog_5_method_24_code
def y_Gr_removeNode : MethodName := ⟨"DrawingHouse$Graph", "removeNode", "(I)V"⟩
abbrev z_Gr_removeNode : List Cond := Cond.code y_Gr_removeNode b_Gr_removeNode 3 none :: lw_g
def e_Gr_removeNode : en_T := ([(2, 0, 0, [3]), (0, 0, 23, [])], none, false, 8, 0, 0, [], [], (1801158375971487744, [(3, 0), (3, 1)], [(20, [1, 0], [50, 1, 0, 1000, 2, 6, 0, 2, 0, 0, 1, 0, 0, 6, 4, 2, 1, 0, 0, 1, 2, 1, 0]), (20, [0], [60, 2, 2, 596, 0, 1, 7, 8])], [(20, [0], [60, 2, 3, 670, 0, 1, 14, 7, 8]), (20, [0], [60, 2, 2, 596, 0, 1, 7, 8])], []))
abbrev b_Gr_step : ByteArray := prog_5_method_25_code
def y_Gr_step : MethodName := ⟨"DrawingHouse$Graph", "step", "(I)Z"⟩
abbrev z_Gr_step : List Cond := Cond.code y_Gr_step b_Gr_step 2 (some .boolean) :: lw_g
def e_Gr_step : en_T := ([(2, 0, 0, [3]), (0, -2147483648, 2147483647, [])], some (0, 0, 1, []), false, 9, 0, 0, [([(2, 0, 0, [3]), (0, -2147483648, 2147483647, []), (3, 0, 0, [61]), (2, 0, 0, [2]), (2, 0, 0, [5]), (0, 0, 60, []), (0, 0, 0, [])], [], [6], [((0, 16), 2)], [], []), ([(2, 0, 0, [3]), (0, -2147483648, 2147483647, []), (2, 0, 0, [61]), (2, 0, 0, [2]), (2, 0, 0, [5]), (0, 0, 60, []), (0, 0, 0, [])], [], [6], [((0, 16), 2)], [], []), ([(2, 0, 0, [3]), (0, 1, 1, []), (2, 0, 0, [61]), (2, 0, 0, [2]), (2, 0, 0, [5]), (0, 0, 60, []), (0, 0, 0, [])], [], [6], [((0, 16), 2)], [], []), ([(2, 0, 0, [3]), (0, 1, 1, []), (2, 0, 0, [61]), (2, 0, 0, [2]), (2, 0, 0, [5]), (0, 0, 60, []), (0, 1, 1, [])], [], [6], [((0, 16), 2)], [], []), ([(2, 0, 0, [3]), (0, 0, 0, []), (2, 0, 0, [61]), (2, 0, 0, [2]), (2, 0, 0, [5]), (0, 0, 60, []), (0, 0, 0, [])], [], [6], [((0, 16), 2)], [], []), ([(2, 0, 0, [3]), (0, 0, 0, []), (2, 0, 0, [61]), (2, 0, 0, [2]), (2, 0, 0, [5]), (0, 0, 60, []), (0, 1, 1, [])], [], [6], [((0, 16), 2)], [], [])], [((0, 16), (3, 0, 0, [61]))], (1801158375971487744, [(3, 0), (3, 1), (3, 17), (3, 18)], [(20, [0], [50, 2, 0, 17, 18, 0, 8, 4, 3, 2, 0, 17, 2, 0, 18, 0, 30]), (20, [0], [60, 2, 1, 739, 17, 18, 16]), (20, [0], [60, 2, 2, 596, 0, 1, 7, 8]), (20, [0], [60, 2, 3, 670, 0, 1, 14, 7, 8]), (20, [0, 5], [50, 2, 0, 17, 18, 1, 8, 4, 3, 2, 0, 17, 2, 0, 18, 1, 1]), (20, [0, 3, 4], [60, 9, 8, 745, 0, 1, 1000, 1001, 1002, 2000, 2003, 2005, 2006, 14, 7, 8, 1004, 1009, 2009, 2012, 2016])], [(20, [0], [50, 2, 0, 17, 18, 0, 8, 4, 3, 2, 0, 17, 2, 0, 18, 0, 30]), (20, [0], [60, 2, 1, 739, 17, 18, 16]), (20, [0], [60, 2, 2, 596, 0, 1, 7, 8]), (20, [0], [60, 2, 3, 670, 0, 1, 14, 7, 8]), (20, [0, 5], [50, 2, 0, 17, 18, 1, 8, 4, 3, 2, 0, 17, 2, 0, 18, 1, 1]), (20, [0, 3, 4, 6], [60, 9, 8, 746, 0, 1, 1000, 1001, 1002, 2000, 2003, 2005, 2006, 14, 7, 8, 1004, 1009, 2009, 2012, 2016])], [(2, 0, 0, [2]), (2, 0, 0, [5]), (0, 0, 60, [])]))
abbrev b_Pl_endOfRow : ByteArray := prog_8_method_14_code
def y_Pl_endOfRow : MethodName := ⟨"DrawingHouse$PlainWays", "endOfRow", "(II)I"⟩
abbrev z_Pl_endOfRow : List Cond := Cond.code y_Pl_endOfRow b_Pl_endOfRow 9 (some .int) :: lw_g
def e_Pl_endOfRow : en_T := ([(2, 0, 0, [6]), (0, 0, 31, []), (0, -2147483648, 131071, [])], some (0, 1, 32, []), false, 7, 0, 0, [], [], (0, [(6, 13), (6, 14)], [(20, [1, 0], [50, 1, 0, 1011, 2, 6, 0, 2, 0, 0, 1, 0, 0, 6, 4, 2, 1, 0, 0, 1, 2, 1, 11])], [(20, [1, 3, 0], [50, 1, 0, 2011, 2, 10, 0, 6, 4, 2, 1, 0, 0, 1, 1, 1, 0, 2, 1, 1, 2, 2, 11])], []))
abbrev b_Pn_cutFace : ByteArray := prog_9_method_7_code
def y_Pn_cutFace : MethodName := ⟨"DrawingHouse$PlanarWays", "cutFace", "(I)Z"⟩
abbrev z_Pn_cutFace : List Cond := Cond.code y_Pn_cutFace b_Pn_cutFace 11 (some .boolean) :: lw_g
def e_Pn_cutFace : en_T := ([(2, 0, 0, [7]), (0, 0, 143, [])], some (0, 0, 1, []), false, 9, 0, 0, [], [], (1927127541087923238352106211568930755389267584339722405081797910460993050923566830190592, [(294, 6)], [], [], []))
abbrev b_Pn_placeByOrder : ByteArray := prog_9_method_12_code
def y_Pn_placeByOrder : MethodName := ⟨"DrawingHouse$PlanarWays", "placeByOrder", "(LDrawingHouse$Drawing;)V"⟩
abbrev z_Pn_placeByOrder : List Cond := Cond.code y_Pn_placeByOrder b_Pn_placeByOrder 4 none :: lw_g
def e_Pn_placeByOrder : en_T := ([(2, 0, 0, [7]), (2, 0, 0, [0])], none, false, 8, 0, 0, [], [], (111553252820084187331709882122240, [(7, 3)], [(20, [2, 3, 1], [62, 2000000])], [(20, [2, 3, 1], [62, 2000000])], [(2, 0, 0, [12]), (0, 0, 3072, [])]))
abbrev b_Re_advance : ByteArray := prog_10_method_9_code
def y_Re_advance : MethodName := ⟨"DrawingHouse$Reader", "advance", "()V"⟩
abbrev z_Re_advance : List Cond := Cond.code y_Re_advance b_Re_advance 2 none :: lw_g
def e_Re_advance : en_T := ([(2, 0, 0, [8])], none, false, 8, 0, 0, [], [], (0, [(8, 6), (8, 7), (8, 8), (8, 9)], [(20, [0, 1], [30, 0, 1, 1, 9, -1, 0, 0]), (20, [0, 1], [30, 0, -1, 1, 9, 1, 0, 0]), (20, [0, 2], [30, 0, 1, 1, 6, -1, 0, 0]), (20, [0, 2], [30, 0, -1, 1, 6, 1, 0, 0]), (20, [0], [60, 2, 0, 1073, 5, 6])], [(20, [0, 0, 1], [31, 1, 3, 1, 1, 7, 0, 1, 1, 9, -1, 0, 0]), (20, [0, 0, 1], [31, 1, 3, 1, 1, 7, 0, -1, 1, 9, 1, 0, 0]), (20, [0, 0, 0, 0], [31, 1, -3, -1, 1, 7, 4008, 1, 1, 6, -1, 1, 8, 2000, 1, 7]), (20, [0, 0], [30, 0, 1, 1, 8, -1, 1, 6]), (20, [0, 2], [60, 5, 1, 1072, 5, 6, 7, 8, 9, 0]), (20, [2, 0], [30, 0, 1, 0, 0, -1, 1, 6])], [(0, -2147483648, 1000000, []), (0, 0, 2000, [])]))
abbrev b_Ro_findCosts : ByteArray := prog_11_method_8_code
def y_Ro_findCosts : MethodName := ⟨"DrawingHouse$Router", "findCosts", "()V"⟩
abbrev z_Ro_findCosts : List Cond := Cond.code y_Ro_findCosts b_Ro_findCosts 5 none :: lw_g
def e_Ro_findCosts : en_T := ([(2, 0, 0, [9])], none, false, 8, 0, 0, [], [], (77884452878022414427957444938301440, [(9, 8), (9, 14)], [(20, [0], [50, 2, 0, 4, 5, 2, 7, 0, 2, 0, 1, 2, 0, 4, 2, 7, 0, 2, 0, 1, 2, 0, 5, 0, 8, 6, 3, 2, 0, 4, 2, 0, 5, 0, 6000]), (20, [0], [50, 3, 0, 7, 4, 5, 0, 7, 4, 3, 2, 0, 7, 0, 1, 6, 3, 2, 0, 4, 2, 0, 5])], [], []))
abbrev b_Mo_blocks : ByteArray := prog_15_method_66_code
def y_Mo_blocks : MethodName := ⟨"DrawingHouseModel", "blocks", "()I"⟩
abbrev z_Mo_blocks : List Cond := Cond.code y_Mo_blocks b_Mo_blocks 4 (some .int) :: lw_g
def e_Mo_blocks : en_T := ([(2, 0, 0, [165])], some (0, 0, 80, []), false, 8, 0, 0, [], [], (49093734104067009872643765506483146933036248207139536896, [], [(20, [0], [60, 2, 2, 75, 31, 32, 33, 34])], [(20, [0, 1], [60, 1, 4, 97, 32, 33, 34, 35, 17])], []))
abbrev b_Mo_canonical : ByteArray := prog_15_method_146_code
def y_Mo_canonical : MethodName := ⟨"DrawingHouseModel", "canonical", "(III)V"⟩
abbrev z_Mo_canonical : List Cond := Cond.code y_Mo_canonical b_Mo_canonical 7 none :: lw_g
def e_Mo_canonical : en_T := ([(2, 0, 0, [165]), (0, 0, 24, []), (0, 0, 24, []), (0, 0, 24, [])], none, false, 9, 0, 0, [], [], (15378643753577403995257000443164833274895167082892753370524967880965459279872, [(165, 121)], [(20, [0], [60, 2, 2, 75, 31, 32, 33, 34]), (20, [0, 1, 2, 3], [60, 2, 5, 275, 31, 32, 33, 34, 35, 36, 37])], [(20, [0], [60, 2, 4, 286, 31, 32, 33, 34, 35, 96]), (20, [0], [60, 1, 1, 823, 31, 96])], []))
abbrev b_Mo_chordCrossings : ByteArray := prog_15_method_171_code
def y_Mo_chordCrossings : MethodName := ⟨"DrawingHouseModel", "chordCrossings", "(I)I"⟩
abbrev z_Mo_chordCrossings : List Cond := Cond.code y_Mo_chordCrossings b_Mo_chordCrossings 9 (some .int) :: lw_g
def e_Mo_chordCrossings : en_T := ([(2, 0, 0, [165]), (0, 0, 24, [])], some (0, -2147483648, 2147483647, []), false, 7, 0, 0, [], [], (463168356949264781694283940034751631413079938662562256157830336031652518559744, [], [], [], []))
abbrev b_Mo_exactOrders : ByteArray := prog_15_method_133_code
def y_Mo_exactOrders : MethodName := ⟨"DrawingHouseModel", "exactOrders", "()I"⟩
abbrev z_Mo_exactOrders : List Cond := Cond.code y_Mo_exactOrders b_Mo_exactOrders 7 (some .int) :: lw_g
def e_Mo_exactOrders : en_T := ([(2, 0, 0, [165])], some (0, 0, 1000000, []), false, 7, 0, 0, [], [], (1753595711792546447111422769487346626958777767649051815935694154782925127680, [], [(20, [0], [60, 4, 6, 445, 5, 100, 101, 107, 2, 95, 102, 104, 108, 109]), (20, [0], [60, 2, 3, 448, 100, 101, 102, 105, 106]), (20, [0], [60, 0, 3, 367, 110, 111, 112]), (20, [0], [60, 1, 1, 461, 101, 105]), (20, [0], [50, 1, 0, 101, 0, 2, 0, 1, 2, 0, 101])], [(20, [0], [60, 2, 3, 448, 100, 101, 102, 105, 106])], []))
abbrev b_Mo_farFrom : ByteArray := prog_15_method_50_code
def y_Mo_farFrom : MethodName := ⟨"DrawingHouseModel", "farFrom", "(I)V"⟩
abbrev z_Mo_farFrom : List Cond := Cond.code y_Mo_farFrom b_Mo_farFrom 6 none :: lw_g
def e_Mo_farFrom : en_T := ([(2, 0, 0, [165]), (0, 0, 23, [])], none, false, 7, 0, 0, [], [], (23945242826029513411849172299223580994042798784118784, [], [], [(20, [0, 1], [60, 1, 2, 371, 5, 2, 19])], []))
abbrev b_Mo_nearer : ByteArray := prog_15_method_163_code
def y_Mo_nearer : MethodName := ⟨"DrawingHouseModel", "nearer", "(III)V"⟩
abbrev z_Mo_nearer : List Cond := Cond.code y_Mo_nearer b_Mo_nearer 9 none :: lw_g
def e_Mo_nearer : en_T := ([(2, 0, 0, [165]), (0, -1, 23, []), (0, 0, 23, []), (0, 0, 24, [])], none, false, 7, 0, 0, [], [], (26328072917139296674479506920917608079723773850137277813577744384, [], [(20, [0], [50, 1, 3, 5, 2, 128, 127, 5, 2, 0, 24, 4, 14, 0, 6, 4, 2, 7, 0, 0, 1, 3, 0, 2, 2, 0, 5, 2, 9, 0, 2, 0, -1, 3, 0, 128, 7, 0, 2, 9, 0, 5, 3, 0, 128, 7, 0, 0, 24, 4, 9, 0, 2, 0, 0, 3, 0, 127, 7, 0, 2, 17, 0, 9, 4, 5, 3, 0, 127, 7, 0, 0, 1, 3, 0, 2, 2, 0, 5, 2, 12, 0, 2, 0, 0, 3, 0, 128, 3, 0, 127, 7, 0, 0, 12, 4, 8, 3, 0, 128, 3, 0, 127, 7, 0, 0, 1, 3, 0, 128, 7, 0]), (20, [0, 1, 2, 3], [60, 1, 5, 800, 5, 2, 74, 127, 128, 16]), (20, [0, 1, 2, 3], [60, 1, 4, 805, 5, 2, 127, 128, 16])], [(20, [0], [50, 1, 3, 5, 2, 128, 127, 5, 2, 0, 24, 4, 14, 0, 6, 4, 2, 7, 0, 0, 1, 3, 0, 2, 2, 0, 5, 2, 9, 0, 2, 0, -1, 3, 0, 128, 7, 0, 2, 9, 0, 5, 3, 0, 128, 7, 0, 0, 24, 4, 9, 0, 2, 0, 0, 3, 0, 127, 7, 0, 2, 17, 0, 9, 4, 5, 3, 0, 127, 7, 0, 0, 1, 3, 0, 2, 2, 0, 5, 2, 12, 0, 2, 0, 0, 3, 0, 128, 3, 0, 127, 7, 0, 0, 12, 4, 8, 3, 0, 128, 3, 0, 127, 7, 0, 0, 1, 3, 0, 128, 7, 0]), (20, [0, 1, 2, 3], [60, 1, 5, 801, 5, 2, 74, 127, 128, 16])], []))
abbrev b_Mo_reaching : ByteArray := prog_15_method_52_code
def y_Mo_reaching : MethodName := ⟨"DrawingHouseModel", "reaching", "(Z)V"⟩
abbrev z_Mo_reaching : List Cond := Cond.code y_Mo_reaching b_Mo_reaching 6 none :: lw_g
def e_Mo_reaching : en_T := ([(2, 0, 0, [165]), (0, 0, 1, [])], none, false, 7, 0, 0, [], [], (95780971304118053647396689196894323976171195136475136, [], [(20, [0], [60, 1, 1, 197, 5, 2])], [(20, [0], [60, 1, 2, 354, 5, 2, 21])], []))
abbrev b_Mo_spread : ByteArray := prog_15_method_192_code
def y_Mo_spread : MethodName := ⟨"DrawingHouseModel", "spread", "(I)V"⟩
abbrev z_Mo_spread : List Cond := Cond.code y_Mo_spread b_Mo_spread 7 none :: lw_g
def e_Mo_spread : en_T := ([(2, 0, 0, [165]), (0, 0, 5999, [])], none, false, 8, 0, 0, [], [], (829997695653082488796156820542274923492239250083311563034831962168721313259061248, [], [(20, [0], [60, 2, 0, 494, 146, 147]), (20, [1, 0], [50, 2, 0, 1146, 1147, 2, 6, 0, 2, 0, 0, 1, 0, 0, 6, 4, 2, 1, 0, 0, 1, 6, 3, 2, 1, 146, 2, 1, 147])], [(20, [0, 1], [60, 2, 2, 504, 146, 147, 143, 140])], []))
abbrev b_Dr_isStruck : ByteArray := prog_2_method_29_code
def y_Dr_isStruck : MethodName := ⟨"DrawingHouse$Drawing", "isStruck", "(II)Z"⟩
abbrev z_Dr_isStruck : List Cond := Cond.code y_Dr_isStruck b_Dr_isStruck 4 (some .boolean) :: lw_g
def e_Dr_isStruck : en_T := ([(2, 0, 0, [0]), (0, 0, 47, []), (0, 0, 23, [])], some (0, 0, 1, []), true, 9, 0, 0, [], [], (0, [], [], [], []))
abbrev b_Dr_wholeArea : ByteArray := prog_2_method_33_code
def y_Dr_wholeArea : MethodName := ⟨"DrawingHouse$Drawing", "wholeArea", "()J"⟩
abbrev z_Dr_wholeArea : List Cond := Cond.code y_Dr_wholeArea b_Dr_wholeArea 1 (some .long) :: lw_g
def e_Dr_wholeArea : en_T := ([(2, 0, 0, [0])], some (1, -760659999687999999, 1085764002084000001, []), false, 8, 0, 0, [([(2, 0, 0, [0]), (2, 0, 0, [3]), (1, -760659999687999999, 1085764002084000001, [])], [], [2], [((0, 0), 1)], [], [])], [((0, 0), (2, 0, 0, [3]))], (0, [(0, 17), (0, 18), (0, 19), (0, 20)], [], [], []))
abbrev b_Em_findWay_at_gn : ByteArray := prog_3_method_12_code
def y_Em_findWay_at_gn : MethodName := ⟨"DrawingHouse$Embedder", "findWay", "()Z"⟩
abbrev z_Em_findWay_at_gn : List Cond := Cond.code y_Em_findWay_at_gn b_Em_findWay_at_gn 3 (some .boolean) :: lw_g
def e_Em_findWay_at_gn : en_T := ([(2, 0, 0, [1])], some (0, 0, 1, []), false, 8, 0, 0, [([(2, 0, 0, [1]), (2, 0, 0, [5]), (0, 0, 0, [])], [], [2], [((0, 0), 1)], [], []), ([(2, 0, 0, [1]), (2, 0, 0, [5]), (0, 1, 1, [])], [], [2], [((0, 0), 1)], [], [])], [((0, 0), (2, 0, 0, [5]))], (51673825280, [(1, 15)], [(20, [0], [60, 2, 0, 576, 16, 17]), (20, [1], [60, 1, 1, 575, 5, 9]), (20, [0, 1], [60, 3, 0, 610, 16, 6, 1005])], [(20, [0], [60, 2, 1, 613, 6, 15, 14]), (20, [2, 0], [50, 2, 0, 1015, 1007, 3, 6, 1, 2, 1, 0, 0, 0, 2, 7, 0, 2, 0, 2, 2, 1, 15, 0, 7, 4, 3, 2, 1, 7, 0, 1, 0, 50])], []))
abbrev b_Em_findWay_at_gp : ByteArray := prog_3_method_12_code
def y_Em_findWay_at_gp : MethodName := ⟨"DrawingHouse$Embedder", "findWay", "()Z"⟩
abbrev z_Em_findWay_at_gp : List Cond := Cond.code y_Em_findWay_at_gp b_Em_findWay_at_gp 3 (some .boolean) :: lw_g
def e_Em_findWay_at_gp : en_T := ([(2, 0, 0, [1])], some (0, 0, 1, []), false, 8, 0, 0, [([(2, 0, 0, [1]), (2, 0, 0, [149]), (0, 0, 0, [])], [], [2], [((0, 0), 1)], [], []), ([(2, 0, 0, [1]), (2, 0, 0, [149]), (0, 1, 1, [])], [], [2], [((0, 0), 1)], [], [])], [((0, 0), (2, 0, 0, [149]))], (51673825280, [(1, 15)], [(20, [0], [60, 2, 0, 576, 16, 17]), (20, [1], [60, 1, 1, 575, 5, 9]), (20, [0, 1], [60, 3, 0, 610, 16, 6, 1005])], [(20, [0], [60, 2, 1, 613, 6, 15, 14]), (20, [2, 0], [50, 2, 0, 1015, 1007, 3, 6, 1, 2, 1, 0, 0, 0, 2, 7, 0, 2, 0, 2, 2, 1, 15, 0, 7, 4, 3, 2, 1, 7, 0, 1, 0, 50])], []))
abbrev b_Fa_blocksOf_at_Grtail_Grhead_Grnear_Fablock : ByteArray := prog_4_method_7_code
def y_Fa_blocksOf_at_Grtail_Grhead_Grnear_Fablock : MethodName := ⟨"DrawingHouse$Facts", "blocksOf", "(II[I[I[I[I)I"⟩
abbrev z_Fa_blocksOf_at_Grtail_Grhead_Grnear_Fablock : List Cond := Cond.code y_Fa_blocksOf_at_Grtail_Grhead_Grnear_Fablock b_Fa_blocksOf_at_Grtail_Grhead_Grnear_Fablock 11 (some .int) :: lw_g
def e_Fa_blocksOf_at_Grtail_Grhead_Grnear_Fablock : en_T := ([(0, 0, 24, []), (0, 0, 48, []), (2, 0, 0, [52]), (2, 0, 0, [53]), (2, 0, 0, [59]), (2, 0, 0, [38])], some (0, 0, 48, []), false, 8, 0, 0, [], [], (274877906944, [], [], [(20, [5, 1, 6], [61, 1, 568]), (20, [5, 2, 3, 1], [61, 3, 586]), (20, [2, 3, 4, 0, 1, 6], [61, 3, 594])], []))
abbrev b_Fa_blocksOf_at_Netail_Nehead_Nenear_Emblock : ByteArray := prog_4_method_7_code
def y_Fa_blocksOf_at_Netail_Nehead_Nenear_Emblock : MethodName := ⟨"DrawingHouse$Facts", "blocksOf", "(II[I[I[I[I)I"⟩
abbrev z_Fa_blocksOf_at_Netail_Nehead_Nenear_Emblock : List Cond := Cond.code y_Fa_blocksOf_at_Netail_Nehead_Nenear_Emblock b_Fa_blocksOf_at_Netail_Nehead_Nenear_Emblock 11 (some .int) :: lw_g
def e_Fa_blocksOf_at_Netail_Nehead_Nenear_Emblock : en_T := ([(0, 0, 24, []), (0, 0, 72, []), (2, 0, 0, [80]), (2, 0, 0, [81]), (2, 0, 0, [82]), (2, 0, 0, [26])], some (0, 0, 72, []), false, 8, 0, 0, [], [], (67108864, [], [], [(20, [5, 1, 6], [61, 1, 568]), (20, [5, 2, 3, 1], [61, 3, 586]), (20, [2, 3, 4, 0, 1, 6], [61, 3, 594])], []))
abbrev b_Fa_blocksOf_at_Nptail_Nphead_Npnear_Emblock : ByteArray := prog_4_method_7_code
def y_Fa_blocksOf_at_Nptail_Nphead_Npnear_Emblock : MethodName := ⟨"DrawingHouse$Facts", "blocksOf", "(II[I[I[I[I)I"⟩
abbrev z_Fa_blocksOf_at_Nptail_Nphead_Npnear_Emblock : List Cond := Cond.code y_Fa_blocksOf_at_Nptail_Nphead_Npnear_Emblock b_Fa_blocksOf_at_Nptail_Nphead_Npnear_Emblock 11 (some .int) :: lw_g
def e_Fa_blocksOf_at_Nptail_Nphead_Npnear_Emblock : en_T := ([(0, 0, 25, []), (0, 0, 72, []), (2, 0, 0, [140]), (2, 0, 0, [141]), (2, 0, 0, [142]), (2, 0, 0, [26])], some (0, 0, 72, []), false, 8, 0, 0, [], [], (67108864, [], [], [(20, [5, 1, 6], [61, 1, 568]), (20, [5, 2, 3, 1], [61, 3, 586]), (20, [2, 3, 4, 0, 1, 6], [61, 3, 594])], []))
abbrev b_La_init : ByteArray := prog_6_method_1_code
def y_La_init : MethodName := ⟨"DrawingHouse$Layers", "<init>", "()V"⟩
abbrev z_La_init : List Cond := Cond.code y_La_init b_La_init 3 none :: lw_g
def e_La_init : en_T := ([(2, 0, 0, [299])], none, false, 9, 31, 25990, [([(2, 0, 0, [299]), (3, 0, 0, [10]), (3, 0, 0, [62]), (3, 0, 0, [63]), (3, 0, 0, [64]), (3, 0, 0, [65]), (3, 0, 0, [66]), (3, 0, 0, [67]), (3, 0, 0, [68]), (3, 0, 0, [69]), (3, 0, 0, [70]), (3, 0, 0, [71]), (3, 0, 0, [72]), (3, 0, 0, [73]), (3, 0, 0, [74]), (3, 0, 0, [75]), (3, 0, 0, [76]), (3, 0, 0, [77]), (3, 0, 0, [78]), (2, 0, 0, [10]), (2, 0, 0, [62]), (2, 0, 0, [63]), (2, 0, 0, [64]), (2, 0, 0, [65]), (2, 0, 0, [66]), (2, 0, 0, [67]), (2, 0, 0, [68]), (2, 0, 0, [69]), (2, 0, 0, [70]), (2, 0, 0, [71]), (2, 0, 0, [72]), (2, 0, 0, [73]), (2, 0, 0, [74]), (2, 0, 0, [75]), (2, 0, 0, [76]), (2, 0, 0, [77]), (2, 0, 0, [78])], [], [], [((0, 0), 19), ((0, 4), 20), ((0, 5), 21), ((0, 6), 22), ((0, 7), 23), ((0, 8), 24), ((0, 9), 25), ((0, 10), 26), ((0, 11), 27), ((0, 12), 28), ((0, 13), 29), ((0, 14), 30), ((0, 15), 31), ((0, 16), 32), ((0, 17), 33), ((0, 18), 34), ((0, 19), 35), ((0, 20), 36)], [], [])], [((0, 0), (3, 0, 0, [10])), ((0, 4), (3, 0, 0, [62])), ((0, 5), (3, 0, 0, [63])), ((0, 6), (3, 0, 0, [64])), ((0, 7), (3, 0, 0, [65])), ((0, 8), (3, 0, 0, [66])), ((0, 9), (3, 0, 0, [67])), ((0, 10), (3, 0, 0, [68])), ((0, 11), (3, 0, 0, [69])), ((0, 12), (3, 0, 0, [70])), ((0, 13), (3, 0, 0, [71])), ((0, 14), (3, 0, 0, [72])), ((0, 15), (3, 0, 0, [73])), ((0, 16), (3, 0, 0, [74])), ((0, 17), (3, 0, 0, [75])), ((0, 18), (3, 0, 0, [76])), ((0, 19), (3, 0, 0, [77])), ((0, 20), (3, 0, 0, [78]))], (509258994083621521567111422102344540262867098416484062659035112338633103872697133707558912, [(299, 0), (299, 1), (299, 2), (299, 3), (299, 4), (299, 5), (299, 6), (299, 7), (299, 8), (299, 9), (299, 10), (299, 11), (299, 12), (299, 13), (299, 14), (299, 15), (299, 16), (299, 17), (299, 18), (299, 19), (299, 20), (300, 0), (300, 1), (300, 2), (300, 3), (300, 4), (300, 5), (300, 6), (300, 7), (300, 8)], [], [(20, [0], [60, 0, 1, 648, 17])], []))
abbrev b_La_write : ByteArray := prog_6_method_30_code
def y_La_write : MethodName := ⟨"DrawingHouse$Layers", "write", "(LDrawingHouse$Facts;LDrawingHouse$Drawing;)V"⟩
abbrev z_La_write : List Cond := Cond.code y_La_write b_La_write 7 none :: lw_g
def e_La_write : en_T := ([(2, 0, 0, [4]), (2, 0, 0, [2]), (2, 0, 0, [0])], none, false, 7, 0, 0, [], [((0, 0), (2, 0, 0, [10])), ((0, 1), (2, 0, 0, [3]))], (2080768, [(0, 7), (0, 8)], [(20, [0, 4, 1], [60, 4, 5, 664, 3, 2, 1000, 1001, 4, 5, 1007, 1008, 2009]), (20, [3], [60, 0, 1, 543, 6]), (20, [5, 6], [62, 2000000])], [(20, [5, 6], [62, 2000000])], [(2, 0, 0, [12]), (0, 0, 3072, [])]))
abbrev b_St_solve_at_gl : ByteArray := prog_12_method_6_code
def y_St_solve_at_gl : MethodName := ⟨"DrawingHouse$Stretch", "solve", "()V"⟩
abbrev z_St_solve_at_gl : List Cond := Cond.code y_St_solve_at_gl b_St_solve_at_gl 3 none :: lw_g
def e_St_solve_at_gl : en_T := ([(2, 0, 0, [10])], none, false, 8, 0, 0, [], [], (38547611877762560314210404748129992704, [], [(20, [0], [60, 2, 4, 532, 0, 1, 2, 3, 4, 5])], [(20, [0], [60, 2, 3, 538, 0, 1, 2, 3, 6])], []))
abbrev b_St_solve_at_gr : ByteArray := prog_12_method_6_code
def y_St_solve_at_gr : MethodName := ⟨"DrawingHouse$Stretch", "solve", "()V"⟩
abbrev z_St_solve_at_gr : List Cond := Cond.code y_St_solve_at_gr b_St_solve_at_gr 3 none :: lw_g
def e_St_solve_at_gr : en_T := ([(2, 0, 0, [10])], none, false, 8, 0, 0, [], [], (38547611877762560314210404748129992704, [], [], [(20, [0], [60, 0, 1, 543, 6])], []))
abbrev b_Mo_at2 : ByteArray := prog_15_method_108_code
def y_Mo_at2 : MethodName := ⟨"DrawingHouseModel", "at", "(IIII)I"⟩
abbrev z_Mo_at2 : List Cond := Cond.code y_Mo_at2 b_Mo_at2 6 (some .int) :: lw_g
def e_Mo_at2 : en_T := ([(2, 0, 0, [165]), (0, -2147483648, 2147483647, []), (0, -2147483648, 2147483647, []), (0, -2147483648, 2147483647, []), (0, -2147483648, 2147483647, [])], some (0, -2147483648, 900000000, []), false, 8, 0, 0, [], [], (0, [(165, 5)], [], [], []))
abbrev b_Mo_bestOrder : ByteArray := prog_15_method_119_code
def y_Mo_bestOrder : MethodName := ⟨"DrawingHouseModel", "bestOrder", "()V"⟩
abbrev z_Mo_bestOrder : List Cond := Cond.code y_Mo_bestOrder b_Mo_bestOrder 8 none :: lw_g
def e_Mo_bestOrder : en_T := ([(2, 0, 0, [165])], none, false, 7, 0, 0, [], [], (20705239040371691362304267586831076357353326916511159665487572671397888, [], [(20, [0], [50, 1, 0, 99, 0, 3, 2, 0, 99, 0, 7]), (20, [0], [60, 1, 1, 334, 99, 98])], [(20, [0], [60, 1, 2, 345, 99, 97, 98])], []))
abbrev b_Mo_dropNode : ByteArray := prog_15_method_48_code
def y_Mo_dropNode : MethodName := ⟨"DrawingHouseModel", "dropNode", "(I)V"⟩
abbrev z_Mo_dropNode : List Cond := Cond.code y_Mo_dropNode b_Mo_dropNode 4 none :: lw_g
def e_Mo_dropNode : en_T := ([(2, 0, 0, [165]), (0, 0, 23, [])], none, false, 8, 0, 0, [], [], (187072209578355573530071658587684226515959365500928, [], [(20, [1, 0], [30, -1, 1, 0, 0, -1, 3, 2005000]), (20, [0], [60, 1, 3, 199, 5, 2, 3, 4]), (20, [0, 1], [60, 1, 1, 208, 5, 2])], [(20, [0], [60, 1, 3, 199, 5, 2, 3, 4])], []))
abbrev b_Mo_greedyOrder : ByteArray := prog_15_method_121_code
def y_Mo_greedyOrder : MethodName := ⟨"DrawingHouseModel", "greedyOrder", "()V"⟩
abbrev z_Mo_greedyOrder : List Cond := Cond.code y_Mo_greedyOrder b_Mo_greedyOrder 13 none :: lw_g
def e_Mo_greedyOrder : en_T := ([(2, 0, 0, [165])], none, false, 7, 0, 0, [], [], (13803492693581127766431454332790158199695596338129421062667438720548864, [], [(20, [0], [60, 2, 2, 348, 99, 5, 98, 2])], [(20, [0], [60, 1, 2, 345, 99, 97, 98])], []))
abbrev b_Mo_isInCore : ByteArray := prog_15_method_56_code
def y_Mo_isInCore : MethodName := ⟨"DrawingHouseModel", "isInCore", "(II)Z"⟩
abbrev z_Mo_isInCore : List Cond := Cond.code y_Mo_isInCore b_Mo_isInCore 7 (some .boolean) :: lw_g
def e_Mo_isInCore : en_T := ([(2, 0, 0, [165]), (0, 0, 23, []), (0, 1, 49, [])], some (0, 0, 1, []), false, 8, 0, 0, [], [], (191561942608236107294793378393788647952342390272950272, [], [(20, [1, 0], [30, -1, 1, 0, 0, -1, 3, 2005000])], [(20, [3, 2], [50, 0, 0, 4, 6, 1, 2, 1, 0, 0, 1, 0, 2, 1, 1, 0, 48])], []))
abbrev b_Mo_isShared : ByteArray := prog_15_method_204_code
def y_Mo_isShared : MethodName := ⟨"DrawingHouseModel", "isShared", "(IIJJ)Z"⟩
abbrev z_Mo_isShared : List Cond := Cond.code y_Mo_isShared b_Mo_isShared 8 (some .boolean) :: lw_g
def e_Mo_isShared : en_T := ([(2, 0, 0, [165]), (0, 0, 47, []), (0, 0, 47, []), (1, -300000011, 300000000, []), (1, -900000000, 900000000, [])], some (0, 0, 1, []), true, 8, 0, 0, [], [], (0, [], [], [], []))
abbrev b_Mo_letter : ByteArray := prog_15_method_104_code
def y_Mo_letter : MethodName := ⟨"DrawingHouseModel", "letter", "(IIII)I"⟩
abbrev z_Mo_letter : List Cond := Cond.code y_Mo_letter b_Mo_letter 5 (some .int) :: lw_g
def e_Mo_letter : en_T := ([(2, 0, 0, [165]), (0, -2147483648, 2147483647, []), (0, -2147483648, 2147483647, []), (0, -2147483648, 2147483647, []), (0, -2147483648, 2147483647, [])], some (0, -1, 255, []), false, 8, 0, 0, [], [], (0, [(165, 5)], [], [], []))
abbrev b_Mo_parts : ByteArray := prog_15_method_51_code
def y_Mo_parts : MethodName := ⟨"DrawingHouseModel", "parts", "()I"⟩
abbrev z_Mo_parts : List Cond := Cond.code y_Mo_parts b_Mo_parts 4 (some .int) :: lw_g
def e_Mo_parts : en_T := ([(2, 0, 0, [165])], some (0, 0, 24, []), false, 8, 0, 0, [], [], (26938398179283202588330318836626528618298148632133632, [], [], [(20, [0, 1], [60, 1, 2, 375, 5, 2, 16])], []))
abbrev b_Mo_put : ByteArray := prog_15_method_110_code
def y_Mo_put : MethodName := ⟨"DrawingHouseModel", "put", "(IIIII)Z"⟩
abbrev z_Mo_put : List Cond := Cond.code y_Mo_put b_Mo_put 6 (some .boolean) :: lw_g
def e_Mo_put : en_T := ([(2, 0, 0, [165]), (0, -2147483648, 2147483647, []), (0, -2147483648, 2147483647, []), (0, -2147483648, 2147483647, []), (0, -2147483648, 2147483647, []), (0, -2147483648, 2147483647, [])], some (0, 0, 1, []), false, 8, 0, 0, [], [], (173549308779970949758531905972845561072397923328541626212548608, [(165, 5)], [], [], []))
abbrev b_Mo_putBest : ByteArray := prog_15_method_173_code
def y_Mo_putBest : MethodName := ⟨"DrawingHouseModel", "putBest", "(II)V"⟩
abbrev z_Mo_putBest : List Cond := Cond.code y_Mo_putBest b_Mo_putBest 9 none :: lw_g
def e_Mo_putBest : en_T := ([(2, 0, 0, [165]), (0, 1, 23, []), (0, 9, 24, [])], none, false, 8, 0, 0, [], [], (463168363851011128484847727469507493690105391113671228328216891194176742359040, [], [(20, [2], [50, 0, 0, 0, 2, 1, 0, 0, 24]), (20, [1], [50, 0, 0, 0, 2, 0, 1, 1, 0]), (20, [1, 2], [50, 0, 0, 0, 6, 4, 2, 1, 0, 0, 1, 1, 1]), (20, [0, 2], [60, 0, 1, 338, 96])], [(20, [0, 2], [60, 0, 1, 338, 96])], []))
abbrev b_Mo_same : ByteArray := prog_15_method_59_code
def y_Mo_same : MethodName := ⟨"DrawingHouseModel", "same", "(II)I"⟩
abbrev z_Mo_same : List Cond := Cond.code y_Mo_same b_Mo_same 9 (some .int) :: lw_g
def e_Mo_same : en_T := ([(2, 0, 0, [165]), (0, -2147483648, 2147483647, []), (0, -2147483648, 2147483647, [])], some (0, -2, 1, []), false, 8, 0, 0, [], [], (1149371655649416643768760270362731887714054341637701632, [(165, 25), (165, 26), (165, 27), (165, 28), (165, 29), (165, 30)], [], [], []))
abbrev b_Mo_shade : ByteArray := prog_15_method_231_code
def y_Mo_shade : MethodName := ⟨"DrawingHouseModel", "shade", "(IIII)I"⟩
abbrev z_Mo_shade : List Cond := Cond.code y_Mo_shade b_Mo_shade 5 (some .int) :: lw_g
def e_Mo_shade : en_T := ([(2, 0, 0, [165]), (0, -2147483648, 2147483647, []), (0, -2147483648, 2147483647, []), (0, -2147483648, 2147483647, []), (0, -2147483648, 2147483647, [])], some (0, -1, 255, []), false, 8, 0, 0, [], [], (0, [(165, 5)], [], [], []))
abbrev b_Mo_strong : ByteArray := prog_15_method_53_code
def y_Mo_strong : MethodName := ⟨"DrawingHouseModel", "strong", "(Z)I"⟩
abbrev z_Mo_strong : List Cond := Cond.code y_Mo_strong b_Mo_strong 5 (some .int) :: lw_g
def e_Mo_strong : en_T := ([(2, 0, 0, [165]), (0, 0, 1, [])], some (0, 0, 24, []), false, 8, 0, 0, [], [], (107753592717132810353321275346506114473192594528534528, [], [(20, [0], [60, 1, 1, 197, 5, 2])], [(20, [0, 2], [60, 1, 2, 358, 5, 2, 18])], []))
abbrev b_Mo_wayOf : ByteArray := prog_15_method_82_code
def y_Mo_wayOf : MethodName := ⟨"DrawingHouseModel", "wayOf", "(I)V"⟩
abbrev z_Mo_wayOf : List Cond := Cond.code y_Mo_wayOf b_Mo_wayOf 7 none :: lw_g
def e_Mo_wayOf : en_T := ([(2, 0, 0, [165]), (0, 0, 79, [])], none, false, 9, 0, 0, [], [], (59632466486173467256439999520472830952972376722408327872512, [(165, 45), (165, 49)], [(20, [0], [60, 2, 2, 75, 31, 32, 33, 34]), (20, [0], [60, 1, 2, 122, 32, 35, 43]), (20, [0, 1], [60, 2, 6, 135, 31, 32, 33, 34, 43, 44, 42, 50])], [(20, [0, 1], [60, 3, 8, 142, 31, 32, 45, 33, 34, 35, 43, 44, 42, 50, 46]), (20, [0], [50, 1, 0, 49, 1, 3, 2, 0, 49, 0, -1])], []))
abbrev b_Ho_told : ByteArray := prog_1_method_19_code
def y_Ho_told : MethodName := ⟨"DrawingHouse", "told", "(III)I"⟩
abbrev z_Ho_told : List Cond := Cond.code y_Ho_told b_Ho_told 4 (some .int) :: lw_g
def e_Ho_told : en_T := ([(2, 0, 0, [12]), (0, -2147483648, 2147483647, []), (0, -2147483648, 2147483647, []), (0, -2147483648, 2147483647, [])], some (0, -2147483648, 2147483647, []), true, 9, 0, 0, [([(2, 0, 0, [12]), (0, -2147483648, -1, []), (0, -2147483648, 2147483647, []), (0, -2147483648, 2147483647, []), (0, -1, -1, [])], [], [4], [], [], []), ([(2, 0, 0, [12]), (0, 4, 2147483647, []), (0, -2147483648, 2147483647, []), (0, -2147483648, 2147483647, []), (0, -1, -1, [])], [], [4], [], [], []), ([(2, 0, 0, [12]), (0, 0, 3, []), (0, -2147483648, 2147483647, []), (0, -2147483648, 2147483647, []), (0, -2147483648, 2147483647, [])], [], [4], [], [], [])], [], (0, [], [], [], []))
abbrev b_Dr_clash : ByteArray := prog_2_method_25_code
def y_Dr_clash : MethodName := ⟨"DrawingHouse$Drawing", "clash", "(IIIII)Z"⟩
abbrev z_Dr_clash : List Cond := Cond.code y_Dr_clash b_Dr_clash 17 (some .boolean) :: lw_g
def e_Dr_clash : en_T := ([(2, 0, 0, [0]), (0, 0, 47, []), (0, 0, 24, []), (0, 1, 47, []), (0, 0, 24, []), (0, -1, 23, [])], some (0, 0, 1, []), true, 9, 0, 0, [], [], (0, [], [], [], []))
abbrev b_Dr_countStruckNodes : ByteArray := prog_2_method_28_code
def y_Dr_countStruckNodes : MethodName := ⟨"DrawingHouse$Drawing", "countStruckNodes", "()J"⟩
abbrev z_Dr_countStruckNodes : List Cond := Cond.code y_Dr_countStruckNodes b_Dr_countStruckNodes 5 (some .long) :: lw_g
def e_Dr_countStruckNodes : en_T := ([(2, 0, 0, [0])], some (1, -9223372036854775808, 9223372036854775807, []), true, 10, 0, 0, [], [], (0, [], [], [], []))
abbrev b_Dr_putLabel : ByteArray := prog_2_method_14_code
def y_Dr_putLabel : MethodName := ⟨"DrawingHouse$Drawing", "putLabel", "(I)V"⟩
abbrev z_Dr_putLabel : List Cond := Cond.code y_Dr_putLabel b_Dr_putLabel 5 none :: lw_g
def e_Dr_putLabel : en_T := ([(2, 0, 0, [0]), (0, 0, 47, [])], none, false, 9, 0, 0, [], [], (50331648, [], [], [], []))
abbrev b_Em_beginBlock_at_gn : ByteArray := prog_3_method_6_code
def y_Em_beginBlock_at_gn : MethodName := ⟨"DrawingHouse$Embedder", "beginBlock", "(I)I"⟩
abbrev z_Em_beginBlock_at_gn : List Cond := Cond.code y_Em_beginBlock_at_gn b_Em_beginBlock_at_gn 7 (some .int) :: lw_g
def e_Em_beginBlock_at_gn : en_T := ([(2, 0, 0, [1]), (0, 0, 71, [])], some (0, -2147483648, 2147483647, []), false, 8, 0, 0, [], [((0, 0), (2, 0, 0, [5]))], (64021856256, [(1, 5), (1, 6), (1, 7), (1, 15)], [(20, [2], [60, 2, 3, 595, 5, 6, 7, 8, 9]), (20, [0, 2, 1], [60, 1, 1, 597, 1006, 2])], [(20, [0, 2, 1], [60, 3, 3, 600, 5, 1005, 1006, 2, 1007, 1008]), (20, [0], [60, 2, 2, 603, 7, 6, 8, 9]), (20, [3, 0], [50, 1, 0, 1007, 3, 6, 0, 2, 1, 0, 0, 0, 0, 2, 0, 1, 2, 1, 7]), (20, [0, 3], [60, 2, 0, 607, 6, 5])], []))
abbrev b_Em_beginBlock_at_gp : ByteArray := prog_3_method_6_code
def y_Em_beginBlock_at_gp : MethodName := ⟨"DrawingHouse$Embedder", "beginBlock", "(I)I"⟩
abbrev z_Em_beginBlock_at_gp : List Cond := Cond.code y_Em_beginBlock_at_gp b_Em_beginBlock_at_gp 7 (some .int) :: lw_g
def e_Em_beginBlock_at_gp : en_T := ([(2, 0, 0, [1]), (0, 0, 71, [])], some (0, -2147483648, 2147483647, []), false, 8, 0, 0, [], [((0, 0), (2, 0, 0, [149]))], (64021856256, [(1, 5), (1, 6), (1, 7), (1, 15)], [(20, [2], [60, 2, 3, 595, 5, 6, 7, 8, 9]), (20, [0, 2, 1], [60, 1, 1, 597, 1006, 2])], [(20, [0, 2, 1], [60, 3, 3, 600, 5, 1005, 1006, 2, 1007, 1008]), (20, [0], [60, 2, 2, 603, 7, 6, 8, 9]), (20, [3, 0], [50, 1, 0, 1007, 3, 6, 0, 2, 1, 0, 0, 0, 0, 2, 0, 1, 2, 1, 7]), (20, [0, 3], [60, 2, 0, 607, 6, 5])], []))
abbrev b_Pl_layForces : ByteArray := prog_8_method_22_code
def y_Pl_layForces : MethodName := ⟨"DrawingHouse$PlainWays", "layForces", "(I)V"⟩
abbrev z_Pl_layForces : List Cond := Cond.code y_Pl_layForces b_Pl_layForces 6 none :: lw_g
def e_Pl_layForces : en_T := ([(2, 0, 0, [6]), (0, 0, 200, [])], none, false, 8, 0, 0, [], [((0, 0), (2, 0, 0, [3])), ((0, 1), (2, 0, 0, [0]))], (4753689750855860255612637069312, [], [(20, [4, 5], [62, 2000000])], [(20, [4, 5], [62, 2000000])], [(2, 0, 0, [12]), (0, 0, 3072, [])]))
abbrev b_Pn_findOrder : ByteArray := prog_9_method_8_code
def y_Pn_findOrder : MethodName := ⟨"DrawingHouse$PlanarWays", "findOrder", "()V"⟩
abbrev z_Pn_findOrder : List Cond := Cond.code y_Pn_findOrder b_Pn_findOrder 6 none :: lw_g
def e_Pn_findOrder : en_T := ([(2, 0, 0, [7])], none, false, 8, 0, 0, [], [], (96341445617345434513749443608576, [(7, 3)], [], [], []))
abbrev b_Pn_joinParts : ByteArray := prog_9_method_4_code
def y_Pn_joinParts : MethodName := ⟨"DrawingHouse$PlanarWays", "joinParts", "(LDrawingHouse$Facts;)V"⟩
abbrev z_Pn_joinParts : List Cond := Cond.code y_Pn_joinParts b_Pn_joinParts 5 none :: lw_g
def e_Pn_joinParts : en_T := ([(2, 0, 0, [7]), (2, 0, 0, [2])], none, false, 10, 0, 0, [], [], (31766521725675121767675041100378181161416636632180585451509636524050562871675569362173952, [(294, 6), (294, 13)], [], [], []))
abbrev b_Sy_runRules : ByteArray := prog_13_method_21_code
def y_Sy_runRules : MethodName := ⟨"DrawingHouse$Styler", "runRules", "(I[II)V"⟩
abbrev z_Sy_runRules : List Cond := Cond.code y_Sy_runRules b_Sy_runRules 8 none :: lw_g
def e_Sy_runRules : en_T := ([(2, 0, 0, [11]), (0, 0, 1, []), (2, 0, 0, [23]), (0, 0, 213, [])], none, false, 8, 0, 0, [], [], (680564733841876926926749214863544811520, [(11, 15)], [], [], []))
abbrev b_Mo_children : ByteArray := prog_15_method_162_code
def y_Mo_children : MethodName := ⟨"DrawingHouseModel", "children", "(I)V"⟩
abbrev z_Mo_children : List Cond := Cond.code y_Mo_children b_Mo_children 5 none :: lw_g
def e_Mo_children : en_T := ([(2, 0, 0, [165]), (0, 0, 23, [])], none, false, 8, 0, 0, [], [], (26328072917139296674479506920917608079723773850137277813577744384, [], [(20, [0], [50, 1, 3, 5, 2, 128, 127, 5, 2, 0, 24, 4, 14, 0, 6, 4, 2, 7, 0, 0, 1, 3, 0, 2, 2, 0, 5, 2, 9, 0, 2, 0, -1, 3, 0, 128, 7, 0, 2, 9, 0, 5, 3, 0, 128, 7, 0, 0, 24, 4, 9, 0, 2, 0, 0, 3, 0, 127, 7, 0, 2, 17, 0, 9, 4, 5, 3, 0, 127, 7, 0, 0, 1, 3, 0, 2, 2, 0, 5, 2, 12, 0, 2, 0, 0, 3, 0, 128, 3, 0, 127, 7, 0, 0, 12, 4, 8, 3, 0, 128, 3, 0, 127, 7, 0, 0, 1, 3, 0, 128, 7, 0]), (20, [0, 1], [60, 1, 4, 806, 5, 2, 74, 127, 128])], [(20, [0], [50, 1, 3, 5, 2, 128, 127, 5, 2, 0, 24, 4, 14, 0, 6, 4, 2, 7, 0, 0, 1, 3, 0, 2, 2, 0, 5, 2, 9, 0, 2, 0, -1, 3, 0, 128, 7, 0, 2, 9, 0, 5, 3, 0, 128, 7, 0, 0, 24, 4, 9, 0, 2, 0, 0, 3, 0, 127, 7, 0, 2, 17, 0, 9, 4, 5, 3, 0, 127, 7, 0, 0, 1, 3, 0, 2, 2, 0, 5, 2, 12, 0, 2, 0, 0, 3, 0, 128, 3, 0, 127, 7, 0, 0, 12, 4, 8, 3, 0, 128, 3, 0, 127, 7, 0, 0, 1, 3, 0, 128, 7, 0]), (20, [0, 1], [60, 1, 4, 807, 5, 2, 74, 127, 128])], []))
abbrev b_Mo_core : ByteArray := prog_15_method_55_code
def y_Mo_core : MethodName := ⟨"DrawingHouseModel", "core", "(I)I"⟩
abbrev z_Mo_core : List Cond := Cond.code y_Mo_core b_Mo_core 3 (some .int) :: lw_g
def e_Mo_core : en_T := ([(2, 0, 0, [165]), (0, 0, 23, [])], some (0, 0, 48, []), false, 9, 0, 0, [], [], (191561942608236107294793378393788647952342390272950272, [], [(20, [1, 0], [30, -1, 1, 0, 0, -1, 3, 2005000])], [], []))
abbrev b_Mo_fewest : ByteArray := prog_15_method_179_code
def y_Mo_fewest : MethodName := ⟨"DrawingHouseModel", "fewest", "(I)I"⟩
abbrev z_Mo_fewest : List Cond := Cond.code y_Mo_fewest b_Mo_fewest 4 (some .int) :: lw_g
def e_Mo_fewest : en_T := ([(2, 0, 0, [165]), (0, -1, 25, [])], some (0, -1, 23, []), true, 9, 0, 0, [], [], (0, [], [], [(20, [2, 0], [50, 1, 2, 1005, 1002, 1022, 3, 6, 1, 2, 1, 0, 0, -1, 2, 6, 0, 2, 0, 0, 1, 0, 2, 18, 0, 6, 4, 2, 1, 0, 0, 1, 3, 1, 2, 4, 3, 2, 1, 5, 0, 0, 1, 5, 3, 1, 22, 1, 0, 0, 1]), (20, [1, 2, 0], [50, 1, 2, 2005, 2022, 2002, 4, 14, 2, 6, 0, 2, 1, 0, 0, -1, 1, 2, 1, 1, 0, -1, 1, 16, 15, 2, 22, 10, 3, 2, 2, 4, 3, 2, 2, 5, 0, 0, 0, 0, 3, 2, 2, 4, 3, 2, 2, 5, 0, 0])], []))
abbrev b_Mo_gather : ByteArray := prog_15_method_167_code
def y_Mo_gather : MethodName := ⟨"DrawingHouseModel", "gather", "(I)V"⟩
abbrev z_Mo_gather : List Cond := Cond.code y_Mo_gather b_Mo_gather 3 none :: lw_g
def e_Mo_gather : en_T := ([(2, 0, 0, [165]), (0, 0, 7, [])], none, false, 8, 0, 0, [], [], (5558020283391177380331407280417019576956959263950747073893964032379830222716928, [(165, 132)], [(20, [0], [60, 1, 1, 782, 5, 2])], [(20, [0], [60, 1, 2, 773, 132, 130, 131])], []))
abbrev b_Mo_list : ByteArray := prog_15_method_125_code
def y_Mo_list : MethodName := ⟨"DrawingHouseModel", "list", "(I)V"⟩
abbrev z_Mo_list : List Cond := Cond.code y_Mo_list b_Mo_list 5 none :: lw_g
def e_Mo_list : en_T := ([(2, 0, 0, [165]), (0, 0, 24, [])], none, false, 8, 0, 0, [], [], (7012174288339212808033711956073457859690326715725112740045124611380084736, [(165, 100), (165, 101), (165, 107)], [(20, [0], [60, 1, 3, 438, 5, 2, 95, 102]), (20, [1, 0], [50, 1, 1, 1005, 1002, 1, 2, 1, 0, 3, 1, 2, 2, 1, 5])], [(20, [0], [60, 4, 6, 445, 5, 100, 101, 107, 2, 95, 102, 104, 108, 109]), (20, [0], [60, 2, 3, 448, 100, 101, 102, 105, 106])], []))
abbrev b_Mo_middle : ByteArray := prog_15_method_155_code
def y_Mo_middle : MethodName := ⟨"DrawingHouseModel", "middle", "(I)V"⟩
abbrev z_Mo_middle : List Cond := Cond.code y_Mo_middle b_Mo_middle 5 none :: lw_g
def e_Mo_middle : en_T := ([(2, 0, 0, [165]), (0, 0, 23, [])], none, false, 9, 0, 0, [], [], (26328072917139296674479506920917608079723773850137277813577744384, [], [(20, [0], [60, 3, 8, 316, 31, 32, 53, 33, 34, 35, 36, 37, 54, 56, 57])], [], []))
abbrev b_Mo_need_at_gc : ByteArray := prog_15_method_32_code
def y_Mo_need_at_gc : MethodName := ⟨"DrawingHouseModel", "need", "(I)V"⟩
abbrev z_Mo_need_at_gc : List Cond := Cond.code y_Mo_need_at_gc b_Mo_need_at_gc 2 none :: lw_g
def e_Mo_need_at_gc : en_T := ([(2, 0, 0, [165]), (0, 125, 125, [])], none, false, 9, 0, 0, [], [], (0, [(165, 8), (165, 9), (165, 11), (165, 12), (165, 13), (165, 14), (165, 15)], [(20, [0, 0], [30, 0, 1, 1, 15, -1, 1, 11]), (20, [0], [50, 3, 0, 12, 11, 15, 2, 21, 4, 7, 1, 3, 2, 0, 12, 0, 1, 0, 3, 2, 0, 11, 4, 3, 2, 0, 15, 0, 8, 3, 7, 1, 3, 2, 0, 12, 0, 0, 0, 7, 4, 3, 2, 0, 15, 0, 1, 2, 0, 11]), (20, [2, 0], [30, 0, 1, 0, 0, -1, 1, 11]), (20, [0, 2], [50, 3, 0, 8, 12, 11, 3, 7, 0, 2, 0, 1, 2, 0, 8, 3, 7, 1, 3, 2, 0, 12, 0, 0, 0, 6, 4, 2, 1, 1, 0, 1, 2, 0, 11]), (20, [0, 3, 4], [60, 9, 2, 1022, 10, 11, 12, 13, 14, 15, 8, 9, 5, 1, 2])], [(20, [0, 0], [30, 0, 1, 1, 15, -1, 1, 11]), (20, [0], [50, 3, 0, 12, 11, 15, 2, 21, 4, 7, 1, 3, 2, 0, 12, 0, 1, 0, 3, 2, 0, 11, 4, 3, 2, 0, 15, 0, 8, 3, 7, 1, 3, 2, 0, 12, 0, 0, 0, 7, 4, 3, 2, 0, 15, 0, 1, 2, 0, 11]), (20, [2, 0], [30, 0, 1, 0, 0, -1, 1, 11]), (20, [0, 2], [50, 2, 0, 8, 11, 3, 7, 0, 2, 0, 1, 2, 0, 8, 0, 6, 4, 2, 1, 1, 0, 1, 2, 0, 11]), (20, [0, 3, 4], [60, 9, 2, 1007, 10, 11, 12, 13, 14, 15, 8, 9, 5, 1, 2])], [(0, 0, 2000, []), (0, 0, 7, []), (0, 0, 4, [])]))
abbrev b_Mo_need_at_go : ByteArray := prog_15_method_32_code
def y_Mo_need_at_go : MethodName := ⟨"DrawingHouseModel", "need", "(I)V"⟩
abbrev z_Mo_need_at_go : List Cond := Cond.code y_Mo_need_at_go b_Mo_need_at_go 2 none :: lw_g
def e_Mo_need_at_go : en_T := ([(2, 0, 0, [165]), (0, 123, 123, [])], none, false, 9, 0, 0, [], [], (0, [(165, 8), (165, 9), (165, 11), (165, 12), (165, 13), (165, 14), (165, 15)], [(20, [0, 0], [30, 0, 1, 1, 15, -1, 1, 11]), (20, [0], [50, 3, 0, 12, 11, 15, 2, 21, 4, 7, 1, 3, 2, 0, 12, 0, 1, 0, 3, 2, 0, 11, 4, 3, 2, 0, 15, 0, 8, 3, 7, 1, 3, 2, 0, 12, 0, 0, 0, 7, 4, 3, 2, 0, 15, 0, 1, 2, 0, 11]), (20, [2, 0], [30, 0, 1, 0, 0, -1, 1, 11]), (20, [0, 2], [50, 3, 0, 8, 12, 11, 3, 7, 0, 2, 0, 1, 2, 0, 8, 3, 7, 1, 3, 2, 0, 12, 0, 0, 0, 6, 4, 2, 1, 1, 0, 1, 2, 0, 11]), (20, [0, 3, 4], [60, 9, 2, 1021, 10, 11, 12, 13, 14, 15, 8, 9, 5, 1, 2])], [(20, [0, 0], [30, 0, 1, 1, 15, -1, 1, 11]), (20, [0], [50, 3, 0, 12, 11, 15, 2, 21, 4, 7, 1, 3, 2, 0, 12, 0, 1, 0, 3, 2, 0, 11, 4, 3, 2, 0, 15, 0, 8, 3, 7, 1, 3, 2, 0, 12, 0, 0, 0, 7, 4, 3, 2, 0, 15, 0, 1, 2, 0, 11]), (20, [2, 0], [30, 0, 1, 0, 0, -1, 1, 11]), (20, [0, 2], [50, 2, 0, 8, 11, 3, 7, 0, 2, 0, 1, 2, 0, 8, 0, 6, 4, 2, 1, 1, 0, 1, 2, 0, 11]), (20, [0, 3, 4], [60, 9, 2, 1023, 10, 11, 12, 13, 14, 15, 8, 9, 5, 1, 2])], [(0, 0, 2000, []), (0, 0, 7, []), (0, 0, 4, [])]))
abbrev b_Mo_need_at_gs : ByteArray := prog_15_method_32_code
def y_Mo_need_at_gs : MethodName := ⟨"DrawingHouseModel", "need", "(I)V"⟩
abbrev z_Mo_need_at_gs : List Cond := Cond.code y_Mo_need_at_gs b_Mo_need_at_gs 2 none :: lw_g
def e_Mo_need_at_gs : en_T := ([(2, 0, 0, [165]), (0, 59, 59, [])], none, false, 9, 0, 0, [], [], (0, [(165, 8), (165, 9), (165, 11), (165, 12), (165, 13), (165, 14), (165, 15)], [(20, [0, 0], [30, 0, 1, 1, 15, -1, 1, 11]), (20, [0], [50, 3, 0, 12, 11, 15, 2, 21, 4, 7, 1, 3, 2, 0, 12, 0, 1, 0, 3, 2, 0, 11, 4, 3, 2, 0, 15, 0, 8, 3, 7, 1, 3, 2, 0, 12, 0, 0, 0, 7, 4, 3, 2, 0, 15, 0, 1, 2, 0, 11]), (20, [2, 0], [30, 0, 1, 0, 0, -1, 1, 11]), (20, [0, 2], [50, 3, 0, 8, 12, 11, 3, 7, 0, 2, 0, 1, 2, 0, 8, 3, 7, 1, 3, 2, 0, 12, 0, 0, 0, 6, 4, 2, 1, 1, 0, 1, 2, 0, 11]), (20, [0, 3, 4], [60, 9, 2, 1018, 10, 11, 12, 13, 14, 15, 8, 9, 5, 1, 2])], [(20, [0, 0], [30, 0, 1, 1, 15, -1, 1, 11]), (20, [0], [50, 3, 0, 12, 11, 15, 2, 21, 4, 7, 1, 3, 2, 0, 12, 0, 1, 0, 3, 2, 0, 11, 4, 3, 2, 0, 15, 0, 8, 3, 7, 1, 3, 2, 0, 12, 0, 0, 0, 7, 4, 3, 2, 0, 15, 0, 1, 2, 0, 11]), (20, [2, 0], [30, 0, 1, 0, 0, -1, 1, 11]), (20, [0, 2], [50, 2, 0, 8, 11, 3, 7, 0, 2, 0, 1, 2, 0, 8, 0, 6, 4, 2, 1, 1, 0, 1, 2, 0, 11]), (20, [0, 3, 4], [60, 9, 2, 1007, 10, 11, 12, 13, 14, 15, 8, 9, 5, 1, 2])], [(0, 0, 2000, []), (0, 0, 7, []), (0, 0, 4, [])]))
abbrev b_Mo_need_at_gs5002b : ByteArray := prog_15_method_32_code
def y_Mo_need_at_gs5002b : MethodName := ⟨"DrawingHouseModel", "need", "(I)V"⟩
abbrev z_Mo_need_at_gs5002b : List Cond := Cond.code y_Mo_need_at_gs5002b b_Mo_need_at_gs5002b 2 none :: lw_g
def e_Mo_need_at_gs5002b : en_T := ([(2, 0, 0, [165]), (0, 93, 93, [])], none, false, 9, 0, 0, [], [], (0, [(165, 8), (165, 9), (165, 11), (165, 12), (165, 13), (165, 14), (165, 15)], [(20, [0, 0], [30, 0, 1, 1, 15, -1, 1, 11]), (20, [0], [50, 3, 0, 12, 11, 15, 2, 21, 4, 7, 1, 3, 2, 0, 12, 0, 1, 0, 3, 2, 0, 11, 4, 3, 2, 0, 15, 0, 8, 3, 7, 1, 3, 2, 0, 12, 0, 0, 0, 7, 4, 3, 2, 0, 15, 0, 1, 2, 0, 11]), (20, [2, 0], [30, 0, 1, 0, 0, -1, 1, 11]), (20, [0, 2], [50, 3, 0, 8, 12, 11, 3, 7, 0, 2, 0, 1, 2, 0, 8, 3, 7, 1, 3, 2, 0, 12, 0, 0, 0, 6, 4, 2, 1, 1, 0, 1, 2, 0, 11]), (20, [0, 3, 4, 5, 6], [60, 8, 2, 1001, 10, 11, 12, 13, 14, 15, 8, 5, 1, 2])], [(20, [0, 0], [30, 0, 1, 1, 15, -1, 1, 11]), (20, [0], [50, 3, 0, 12, 11, 15, 2, 21, 4, 7, 1, 3, 2, 0, 12, 0, 1, 0, 3, 2, 0, 11, 4, 3, 2, 0, 15, 0, 8, 3, 7, 1, 3, 2, 0, 12, 0, 0, 0, 7, 4, 3, 2, 0, 15, 0, 1, 2, 0, 11]), (20, [2, 0], [30, 0, 1, 0, 0, -1, 1, 11]), (20, [0, 2], [50, 2, 0, 8, 11, 3, 7, 0, 2, 0, 1, 2, 0, 8, 0, 6, 4, 2, 1, 1, 0, 1, 2, 0, 11]), (20, [0, 3, 4, 5, 6], [60, 8, 2, 995, 10, 11, 12, 13, 14, 15, 8, 5, 1, 2])], [(0, 0, 2000, []), (0, -1, 48, []), (0, -2147483648, 2147483647, []), (0, 0, 7, []), (0, 0, 4, [])]))
abbrev b_Mo_need_at_gs5002e : ByteArray := prog_15_method_32_code
def y_Mo_need_at_gs5002e : MethodName := ⟨"DrawingHouseModel", "need", "(I)V"⟩
abbrev z_Mo_need_at_gs5002e : List Cond := Cond.code y_Mo_need_at_gs5002e b_Mo_need_at_gs5002e 2 none :: lw_g
def e_Mo_need_at_gs5002e : en_T := ([(2, 0, 0, [165]), (0, 61, 61, [])], none, false, 9, 0, 0, [], [], (0, [(165, 8), (165, 9), (165, 11), (165, 12), (165, 13), (165, 14), (165, 15)], [(20, [0, 0], [30, 0, 1, 1, 15, -1, 1, 11]), (20, [0], [50, 3, 0, 12, 11, 15, 2, 21, 4, 7, 1, 3, 2, 0, 12, 0, 1, 0, 3, 2, 0, 11, 4, 3, 2, 0, 15, 0, 8, 3, 7, 1, 3, 2, 0, 12, 0, 0, 0, 7, 4, 3, 2, 0, 15, 0, 1, 2, 0, 11]), (20, [2, 0], [30, 0, 1, 0, 0, -1, 1, 11]), (20, [0, 2], [50, 3, 0, 8, 12, 11, 3, 7, 0, 2, 0, 1, 2, 0, 8, 3, 7, 1, 3, 2, 0, 12, 0, 0, 0, 6, 4, 2, 1, 1, 0, 1, 2, 0, 11]), (20, [0, 3, 4, 5], [60, 9, 2, 1019, 10, 11, 12, 13, 14, 15, 8, 9, 5, 1, 2])], [(20, [0, 0], [30, 0, 1, 1, 15, -1, 1, 11]), (20, [0], [50, 3, 0, 12, 11, 15, 2, 21, 4, 7, 1, 3, 2, 0, 12, 0, 1, 0, 3, 2, 0, 11, 4, 3, 2, 0, 15, 0, 8, 3, 7, 1, 3, 2, 0, 12, 0, 0, 0, 7, 4, 3, 2, 0, 15, 0, 1, 2, 0, 11]), (20, [2, 0], [30, 0, 1, 0, 0, -1, 1, 11]), (20, [0, 2], [50, 2, 0, 8, 11, 3, 7, 0, 2, 0, 1, 2, 0, 8, 0, 6, 4, 2, 1, 1, 0, 1, 2, 0, 11]), (20, [0, 3, 4, 5], [60, 9, 2, 1024, 10, 11, 12, 13, 14, 15, 8, 9, 5, 1, 2])], [(0, 0, 2000, []), (0, -1, 48, []), (0, 0, 7, []), (0, 0, 4, [])]))
abbrev b_Mo_need_at_gs5003b : ByteArray := prog_15_method_32_code
def y_Mo_need_at_gs5003b : MethodName := ⟨"DrawingHouseModel", "need", "(I)V"⟩
abbrev z_Mo_need_at_gs5003b : List Cond := Cond.code y_Mo_need_at_gs5003b b_Mo_need_at_gs5003b 2 none :: lw_g
def e_Mo_need_at_gs5003b : en_T := ([(2, 0, 0, [165]), (0, 93, 93, [])], none, false, 9, 0, 0, [], [], (0, [(165, 8), (165, 9), (165, 11), (165, 12), (165, 13), (165, 14), (165, 15)], [(20, [0, 0], [30, 0, 1, 1, 15, -1, 1, 11]), (20, [0], [50, 3, 0, 12, 11, 15, 2, 21, 4, 7, 1, 3, 2, 0, 12, 0, 1, 0, 3, 2, 0, 11, 4, 3, 2, 0, 15, 0, 8, 3, 7, 1, 3, 2, 0, 12, 0, 0, 0, 7, 4, 3, 2, 0, 15, 0, 1, 2, 0, 11]), (20, [2, 0], [30, 0, 1, 0, 0, -1, 1, 11]), (20, [0, 2], [50, 3, 0, 8, 12, 11, 3, 7, 0, 2, 0, 1, 2, 0, 8, 3, 7, 1, 3, 2, 0, 12, 0, 0, 0, 6, 4, 2, 1, 1, 0, 1, 2, 0, 11]), (20, [0, 3, 4, 5, 6], [60, 8, 2, 1002, 10, 11, 12, 13, 14, 15, 8, 5, 1, 2])], [(20, [0, 0], [30, 0, 1, 1, 15, -1, 1, 11]), (20, [0], [50, 3, 0, 12, 11, 15, 2, 21, 4, 7, 1, 3, 2, 0, 12, 0, 1, 0, 3, 2, 0, 11, 4, 3, 2, 0, 15, 0, 8, 3, 7, 1, 3, 2, 0, 12, 0, 0, 0, 7, 4, 3, 2, 0, 15, 0, 1, 2, 0, 11]), (20, [2, 0], [30, 0, 1, 0, 0, -1, 1, 11]), (20, [0, 2], [50, 2, 0, 8, 11, 3, 7, 0, 2, 0, 1, 2, 0, 8, 0, 6, 4, 2, 1, 1, 0, 1, 2, 0, 11]), (20, [0, 3, 4, 5, 6], [60, 8, 2, 996, 10, 11, 12, 13, 14, 15, 8, 5, 1, 2])], [(0, 0, 2000, []), (0, -1, 48, []), (0, -2147483648, 2147483647, []), (0, 0, 7, []), (0, 0, 4, [])]))
abbrev b_Mo_need_at_gs5003e : ByteArray := prog_15_method_32_code
def y_Mo_need_at_gs5003e : MethodName := ⟨"DrawingHouseModel", "need", "(I)V"⟩
abbrev z_Mo_need_at_gs5003e : List Cond := Cond.code y_Mo_need_at_gs5003e b_Mo_need_at_gs5003e 2 none :: lw_g
def e_Mo_need_at_gs5003e : en_T := ([(2, 0, 0, [165]), (0, 61, 61, [])], none, false, 9, 0, 0, [], [], (0, [(165, 8), (165, 9), (165, 11), (165, 12), (165, 13), (165, 14), (165, 15)], [(20, [0, 0], [30, 0, 1, 1, 15, -1, 1, 11]), (20, [0], [50, 3, 0, 12, 11, 15, 2, 21, 4, 7, 1, 3, 2, 0, 12, 0, 1, 0, 3, 2, 0, 11, 4, 3, 2, 0, 15, 0, 8, 3, 7, 1, 3, 2, 0, 12, 0, 0, 0, 7, 4, 3, 2, 0, 15, 0, 1, 2, 0, 11]), (20, [2, 0], [30, 0, 1, 0, 0, -1, 1, 11]), (20, [0, 2], [50, 3, 0, 8, 12, 11, 3, 7, 0, 2, 0, 1, 2, 0, 8, 3, 7, 1, 3, 2, 0, 12, 0, 0, 0, 6, 4, 2, 1, 1, 0, 1, 2, 0, 11]), (20, [0, 3, 4, 5], [60, 9, 2, 1020, 10, 11, 12, 13, 14, 15, 8, 9, 5, 1, 2])], [(20, [0, 0], [30, 0, 1, 1, 15, -1, 1, 11]), (20, [0], [50, 3, 0, 12, 11, 15, 2, 21, 4, 7, 1, 3, 2, 0, 12, 0, 1, 0, 3, 2, 0, 11, 4, 3, 2, 0, 15, 0, 8, 3, 7, 1, 3, 2, 0, 12, 0, 0, 0, 7, 4, 3, 2, 0, 15, 0, 1, 2, 0, 11]), (20, [2, 0], [30, 0, 1, 0, 0, -1, 1, 11]), (20, [0, 2], [50, 2, 0, 8, 11, 3, 7, 0, 2, 0, 1, 2, 0, 8, 0, 6, 4, 2, 1, 1, 0, 1, 2, 0, 11]), (20, [0, 3, 4, 5], [60, 9, 2, 1025, 10, 11, 12, 13, 14, 15, 8, 9, 5, 1, 2])], [(0, 0, 2000, []), (0, -1, 48, []), (0, 0, 7, []), (0, 0, 4, [])]))
abbrev b_Mo_ofNode : ByteArray := prog_15_method_229_code
def y_Mo_ofNode : MethodName := ⟨"DrawingHouseModel", "ofNode", "(I)J"⟩
abbrev z_Mo_ofNode : List Cond := Cond.code y_Mo_ofNode b_Mo_ofNode 6 (some .long) :: lw_g
def e_Mo_ofNode : en_T := ([(2, 0, 0, [165]), (0, 0, 9, [])], some (1, -300000000, 300000000, []), true, 7, 0, 0, [], [], (0, [], [(20, [0], [30, 0, -1, 1, 165]), (20, [0], [30, 23, 1, 1, 165])], [], []))
abbrev b_Mo_pull : ByteArray := prog_15_method_177_code
def y_Mo_pull : MethodName := ⟨"DrawingHouseModel", "pull", "(II)V"⟩
abbrev z_Mo_pull : List Cond := Cond.code y_Mo_pull b_Mo_pull 13 none :: lw_g
def e_Mo_pull : en_T := ([(2, 0, 0, [165]), (0, 0, 23, []), (0, 1, 24, [])], none, false, 9, 0, 0, [], [], (88928324534258838085302516486672313231311348223211953182303424518077283563470848, [], [(20, [0, 2], [60, 0, 2, 772, 135, 136]), (20, [1, 2], [50, 0, 0, 0, 6, 4, 2, 1, 0, 0, 1, 1, 1])], [], []))
abbrev b_Mo_stOrder : ByteArray := prog_15_method_156_code
def y_Mo_stOrder : MethodName := ⟨"DrawingHouseModel", "stOrder", "()V"⟩
abbrev z_Mo_stOrder : List Cond := Cond.code y_Mo_stOrder b_Mo_stOrder 6 none :: lw_g
def e_Mo_stOrder : en_T := ([(2, 0, 0, [165])], none, false, 9, 0, 0, [], [], (58800670315824630549341563886282798106397874125344867332278622747263720488960, [(165, 45), (165, 49), (165, 125)], [(20, [0], [60, 2, 3, 297, 31, 32, 33, 34, 35]), (20, [0], [60, 2, 2, 75, 31, 32, 33, 34])], [], []))
abbrev b_Mo_told : ByteArray := prog_15_method_109_code
def y_Mo_told : MethodName := ⟨"DrawingHouseModel", "told", "(III)I"⟩
abbrev z_Mo_told : List Cond := Cond.code y_Mo_told b_Mo_told 6 (some .int) :: lw_g
def e_Mo_told : en_T := ([(2, 0, 0, [165]), (0, -2147483648, 2147483647, []), (0, -2147483648, 2147483647, []), (0, -2147483648, 2147483647, [])], some (0, -2147483648, 2147483647, []), false, 8, 0, 0, [], [], (0, [(165, 5)], [], [], []))
abbrev b_Ho_drawLine : ByteArray := prog_1_method_46_code
def y_Ho_drawLine : MethodName := ⟨"DrawingHouse", "drawLine", "(LDrawingHouse$Drawing;III)V"⟩
abbrev z_Ho_drawLine : List Cond := Cond.code y_Ho_drawLine b_Ho_drawLine 13 none :: lw_g
def e_Ho_drawLine : en_T := ([(2, 0, 0, [12]), (2, 0, 0, [0]), (0, 0, 47, []), (0, 0, 24, []), (0, 1, 256, [])], none, false, 7, 0, 0, [], [((1, 0), (2, 0, 0, [3]))], (348449143727040986586495598010130648530944, [], [(20, [1, 5], [60, 4, 3, 932, 17, 19, 1000, 1001, 2, 4, 5]), (20, [1, 5], [60, 4, 3, 939, 18, 20, 1000, 1001, 3, 4, 6]), (20, [5], [60, 2, 2, 596, 0, 1, 7, 8]), (20, [2, 5], [50, 1, 0, 1001, 2, 6, 0, 2, 0, 0, 1, 0, 0, 6, 4, 2, 1, 0, 0, 1, 2, 1, 1]), (20, [3], [50, 0, 0, 0, 2, 0, 0, 1, 0])], [], []))
abbrev b_Ho_same : ByteArray := prog_1_method_13_code
def y_Ho_same : MethodName := ⟨"DrawingHouse", "same", "(II)I"⟩
abbrev z_Ho_same : List Cond := Cond.code y_Ho_same b_Ho_same 7 (some .int) :: lw_g
def e_Ho_same : en_T := ([(2, 0, 0, [12]), (0, -2147483648, 2147483647, []), (0, -2147483648, 2147483647, [])], some (0, -2, 1, []), false, 10, 1, 24, [], [], (63657374260452690195888927762793067532858387302104063975345269165647727567355538399297536, [(12, 7), (12, 8)], [], [], []))
abbrev b_Ho_writeDrawing : ByteArray := prog_1_method_43_code
def y_Ho_writeDrawing : MethodName := ⟨"DrawingHouse", "writeDrawing", "(LDrawingHouse$Graph;LDrawingHouse$Drawing;)V"⟩
abbrev z_Ho_writeDrawing : List Cond := Cond.code y_Ho_writeDrawing b_Ho_writeDrawing 5 none :: lw_g
def e_Ho_writeDrawing : en_T := ([(2, 0, 0, [12]), (2, 0, 0, [3]), (2, 0, 0, [0])], none, false, 9, 0, 0, [], [], (261336857795280739939871698507597986398208, [(12, 12)], [(20, [0, 3], [30, 0, 1, 1, 12, -1, 0, 0])], [(20, [0, 3], [30, 22248, 1, 1, 12, -1, 0, 0])], [(0, 0, 99977752, [])]))
abbrev b_Dr_labelOf : ByteArray := prog_2_method_13_code
def y_Dr_labelOf : MethodName := ⟨"DrawingHouse$Drawing", "labelOf", "(II)I"⟩
abbrev z_Dr_labelOf : List Cond := Cond.code y_Dr_labelOf b_Dr_labelOf 4 (some .int) :: lw_g
def e_Dr_labelOf : en_T := ([(2, 0, 0, [0]), (0, 0, 47, []), (0, 0, 1, [])], some (0, -2147483648, 2002000000, []), false, 10, 0, 0, [], [], (50331648, [], [], [], []))
abbrev b_Gr_mayAlter : ByteArray := prog_5_method_18_code
def y_Gr_mayAlter : MethodName := ⟨"DrawingHouse$Graph", "mayAlter", "(III)Z"⟩
abbrev z_Gr_mayAlter : List Cond := Cond.code y_Gr_mayAlter b_Gr_mayAlter 4 (some .boolean) :: lw_g
def e_Gr_mayAlter : en_T := ([(2, 0, 0, [3]), (0, -2147483648, 2147483647, []), (0, -2147483648, 2147483647, []), (0, -2147483648, 2147483647, [])], some (0, 0, 1, []), false, 9, 1, 3, [], [], (381944245562716141175333566576758405197150323812363046994276334253946493705625632409387008, [], [], [(20, [4, 1, 2, 0, 3], [50, 3, 0, 3002, 3000, 3001, 4, 6, 1, 2, 1, 0, 0, 1, 3, 36, 2, 6, 1, 2, 1, 1, 0, 0, 2, 6, 0, 2, 0, 0, 1, 2, 2, 11, 0, 6, 4, 2, 1, 2, 0, 1, 2, 3, 2, 0, 3, 2, 3, 0, 0, 23, 3, 81, 2, 6, 1, 2, 1, 1, 0, 1, 2, 6, 0, 2, 0, 0, 1, 2, 2, 11, 0, 6, 4, 2, 1, 2, 0, 1, 2, 3, 0, 2, 6, 0, 2, 0, 0, 1, 4, 2, 11, 0, 6, 4, 2, 1, 4, 0, 1, 2, 3, 0, 2, 7, 0, 3, 2, 3, 1, 0, 47, 3, 10, 0, 6, 4, 2, 1, 2, 0, 1, 1, 4, 0, 6, 4, 2, 1, 4, 0, 1, 1, 2, 3, 27, 2, 6, 1, 2, 1, 1, 0, 2, 2, 6, 0, 2, 0, 0, 1, 2, 0, 6, 4, 2, 1, 2, 0, 1, 2, 3, 1, 3, 27, 2, 6, 1, 2, 1, 1, 0, 3, 2, 6, 0, 2, 0, 0, 1, 2, 0, 6, 4, 2, 1, 2, 0, 1, 2, 3, 0, 3, 43, 2, 6, 1, 2, 1, 1, 0, 4, 2, 6, 0, 2, 0, 0, 1, 2, 2, 11, 0, 6, 4, 2, 1, 2, 0, 1, 2, 3, 0, 2, 6, 0, 2, 0, 1, 1, 4, 0, 2, 1, 4, 0, 99, 3, 43, 2, 6, 1, 2, 1, 1, 0, 5, 2, 6, 0, 2, 0, 0, 1, 2, 2, 11, 0, 6, 4, 2, 1, 2, 0, 1, 2, 3, 1, 2, 6, 0, 2, 0, 1, 1, 4, 0, 2, 1, 4, 0, 9, 3, 48, 2, 6, 1, 2, 1, 1, 0, 6, 2, 6, 0, 2, 0, 0, 1, 2, 2, 11, 0, 6, 4, 2, 1, 2, 0, 1, 2, 3, 0, 2, 6, 0, 2, 0, 0, 1, 4, 0, 6, 4, 2, 1, 4, 0, 1, 2, 3, 2, 2, 6, 1, 2, 1, 1, 0, 7, 2, 6, 0, 2, 0, 0, 1, 2, 2, 11, 0, 6, 4, 2, 1, 2, 0, 1, 2, 3, 1, 2, 6, 0, 2, 0, 0, 1, 4, 0, 2, 1, 4, 0, 1])], []))
abbrev b_Pl_layRing : ByteArray := prog_8_method_17_code
def y_Pl_layRing : MethodName := ⟨"DrawingHouse$PlainWays", "layRing", "()V"⟩
abbrev z_Pl_layRing : List Cond := Cond.code y_Pl_layRing b_Pl_layRing 5 none :: lw_g
def e_Pl_layRing : en_T := ([(2, 0, 0, [6])], none, false, 15, 0, 0, [], [((0, 0), (2, 0, 0, [3])), ((0, 1), (2, 0, 0, [0]))], (1856910058928070412348735488, [(0, 7), (6, 8)], [(20, [3, 4], [62, 2000000])], [(20, [3, 4], [62, 2000000])], [(2, 0, 0, [12]), (0, 0, 3072, [])]))
abbrev b_Pl_layRows : ByteArray := prog_8_method_13_code
def y_Pl_layRows : MethodName := ⟨"DrawingHouse$PlainWays", "layRows", "()V"⟩
abbrev z_Pl_layRows : List Cond := Cond.code y_Pl_layRows b_Pl_layRows 7 none :: lw_g
def e_Pl_layRows : en_T := ([(2, 0, 0, [6])], none, false, 8, 0, 0, [], [((0, 1), (2, 0, 0, [0]))], (158456325028528675187092094976, [(6, 13), (6, 14)], [(20, [0], [60, 0, 1, 845, 12]), (20, [1], [60, 0, 1, 844, 13])], [(20, [0], [60, 0, 1, 845, 12]), (20, [1], [60, 0, 1, 844, 13])], []))
abbrev b_Pl_layTree : ByteArray := prog_8_method_3_code
def y_Pl_layTree : MethodName := ⟨"DrawingHouse$PlainWays", "layTree", "(LDrawingHouse$Facts;I)V"⟩
abbrev z_Pl_layTree : List Cond := Cond.code y_Pl_layTree b_Pl_layTree 7 none :: lw_g
def e_Pl_layTree : en_T := ([(2, 0, 0, [6]), (2, 0, 0, [2]), (0, -1, 23, [])], none, false, 9, 0, 0, [], [((0, 0), (2, 0, 0, [3])), ((0, 1), (2, 0, 0, [0]))], (37757171198204098384423337984, [], [(20, [3, 1], [60, 1, 2, 671, 0, 14, 1004]), (20, [3, 1], [60, 2, 1, 672, 0, 1001, 1004]), (20, [2, 3], [50, 1, 0, 1000, 2, 6, 0, 2, 0, -1, 1, 0, 0, 6, 4, 2, 1, 0, 0, 1, 2, 1, 0]), (20, [5, 6], [62, 2000000])], [(20, [5, 6], [62, 2000000])], [(2, 0, 0, [12]), (0, 0, 3072, [])]))
abbrev b_Pn_orderFromTo : ByteArray := prog_9_method_16_code
def y_Pn_orderFromTo : MethodName := ⟨"DrawingHouse$PlanarWays", "orderFromTo", "(LDrawingHouse$Graph;)V"⟩
abbrev z_Pn_orderFromTo : List Cond := Cond.code y_Pn_orderFromTo b_Pn_orderFromTo 8 none :: lw_g
def e_Pn_orderFromTo : en_T := ([(2, 0, 0, [7]), (2, 0, 0, [3])], none, false, 8, 0, 0, [], [], (131835662423735857755657133359104, [(7, 3)], [(20, [1], [60, 1, 1, 637, 0, 14]), (20, [1], [60, 1, 3, 905, 0, 14, 7, 8])], [(20, [1], [60, 1, 1, 637, 0, 14]), (20, [0, 1], [60, 1, 1, 911, 1000, 2])], []))
abbrev b_Mo_newNode : ByteArray := prog_15_method_46_code
def y_Mo_newNode : MethodName := ⟨"DrawingHouseModel", "newNode", "(II)I"⟩
abbrev z_Mo_newNode : List Cond := Cond.code y_Mo_newNode b_Mo_newNode 8 (some .int) :: lw_g
def e_Mo_newNode : en_T := ([(2, 0, 0, [165]), (0, 0, 3, []), (0, -2147483648, 2147483647, [])], some (0, -1, 23, []), false, 9, 0, 0, [], [], (13167250334659475823257885873658196866677045120641816208017981440, [(165, 5)], [(20, [0], [60, 1, 3, 199, 5, 2, 3, 4]), (20, [0, 1], [50, 1, 1, 5, 3, 1, 3, 2, 0, 5, 4, 6, 6, 2, 0, 16709, 1, 1, 6, 2, 0, 539, 3, 0, 3, 1, 1])], [(20, [0], [60, 0, 3, 198, 2, 3, 4])], []))
abbrev b_Mo_ofEdgeWord : ByteArray := prog_15_method_230_code
def y_Mo_ofEdgeWord : MethodName := ⟨"DrawingHouseModel", "ofEdgeWord", "(I)J"⟩
abbrev z_Mo_ofEdgeWord : List Cond := Cond.code y_Mo_ofEdgeWord b_Mo_ofEdgeWord 3 (some .long) :: lw_g
def e_Mo_ofEdgeWord : en_T := ([(2, 0, 0, [165]), (0, 0, 7, [])], some (1, -1, 1200000000, []), true, 7, 0, 0, [], [], (0, [], [(20, [0], [30, 0, -1, 1, 165])], [], []))
abbrev b_Dr_countCrossings : ByteArray := prog_2_method_21_code
def y_Dr_countCrossings : MethodName := ⟨"DrawingHouse$Drawing", "countCrossings", "()J"⟩
abbrev z_Dr_countCrossings : List Cond := Cond.code y_Dr_countCrossings b_Dr_countCrossings 8 (some .long) :: lw_g
def e_Dr_countCrossings : en_T := ([(2, 0, 0, [0])], some (1, -9223372036854775808, 9223372036854775807, []), true, 10, 0, 0, [], [], (0, [], [], [], []))
abbrev b_Gr_perform_at_kx : ByteArray := prog_5_method_22_code
def y_Gr_perform_at_kx : MethodName := ⟨"DrawingHouse$Graph", "perform", "(III)I"⟩
abbrev z_Gr_perform_at_kx : List Cond := Cond.code y_Gr_perform_at_kx b_Gr_perform_at_kx 6 (some .int) :: lw_g
def e_Gr_perform_at_kx : en_T := ([(2, 0, 0, [3]), (0, -2147483648, 2147483647, []), (0, -2147483648, 2147483647, []), (0, -2147483648, 2147483647, [])], some (0, 0, 47, []), false, 9, 1, 3, [([(2, 0, 0, [3]), (0, 7, 7, []), (0, 0, 47, []), (0, 0, 1, []), (0, 0, 24, []), (0, 0, 48, []), (2, 0, 0, [52]), (2, 0, 0, [53]), (0, 0, 0, [])], [], [8], [((0, 0), 4), ((0, 1), 5), ((0, 7), 6), ((0, 8), 7)], [], []), ([(2, 0, 0, [3]), (0, 0, 0, []), (0, 0, 7, []), (0, -2147483648, 2147483647, []), (0, 0, 23, []), (0, 0, 48, []), (2, 0, 0, [52]), (2, 0, 0, [53]), (0, 1, 24, [])], [], [4], [((0, 0), 8), ((0, 1), 5), ((0, 7), 6), ((0, 8), 7)], [(8, 4, 1, 1)], []), ([(2, 0, 0, [3]), (0, 1, 1, []), (0, 0, 23, []), (0, 0, 23, []), (0, 0, 24, []), (0, 0, 47, []), (2, 0, 0, [52]), (2, 0, 0, [53]), (0, 1, 48, [])], [], [5], [((0, 0), 4), ((0, 1), 8), ((0, 7), 6), ((0, 8), 7)], [(8, 5, 1, 1)], []), ([(2, 0, 0, [3]), (0, 2, 2, []), (0, 0, 47, []), (0, -2147483648, 2147483647, []), (0, 0, 24, []), (0, 1, 48, []), (2, 0, 0, [52]), (2, 0, 0, [53]), (0, 0, 0, []), (0, 0, 47, [])], [], [8], [((0, 0), 4), ((0, 1), 9), ((0, 7), 6), ((0, 8), 7)], [(9, 5, -1, -1)], []), ([(2, 0, 0, [3]), (0, 3, 3, []), (0, 0, 23, []), (0, -2147483648, 2147483647, []), (0, 0, 24, []), (0, 0, 48, []), (2, 0, 0, [52]), (2, 0, 0, [53]), (0, 0, 0, [])], [], [8], [((0, 7), 6), ((0, 8), 7)], [], []), ([(2, 0, 0, [3]), (0, 4, 4, []), (0, 0, 23, []), (0, 1, 99, []), (0, 0, 24, []), (0, 0, 48, []), (2, 0, 0, [52]), (2, 0, 0, [53]), (0, 0, 0, [])], [], [8], [((0, 0), 4), ((0, 1), 5), ((0, 7), 6), ((0, 8), 7)], [], []), ([(2, 0, 0, [3]), (0, 5, 5, []), (0, 0, 47, []), (0, 1, 9, []), (0, 0, 24, []), (0, 0, 48, []), (2, 0, 0, [52]), (2, 0, 0, [53]), (0, 0, 0, [])], [], [8], [((0, 0), 4), ((0, 1), 5), ((0, 7), 6), ((0, 8), 7)], [], []), ([(2, 0, 0, [3]), (0, 6, 6, []), (0, 0, 23, []), (0, 0, 7, []), (0, 0, 24, []), (0, 0, 48, []), (2, 0, 0, [52]), (2, 0, 0, [53]), (0, 0, 0, [])], [], [8], [((0, 0), 4), ((0, 1), 5), ((0, 7), 6), ((0, 8), 7)], [], [])], [((0, 0), (0, 0, 24, [])), ((0, 1), (0, 0, 48, [])), ((0, 7), (2, 0, 0, [52])), ((0, 8), (2, 0, 0, [53]))], (381944245562716141175333566576758405197150323812363046994276334253946495506784008380874752, [(3, 0), (3, 1)], [(20, [1, 2, 0, 3], [50, 3, 0, 2002, 2000, 2001, 3, 36, 2, 6, 1, 2, 1, 0, 0, 0, 2, 6, 0, 2, 0, 0, 1, 1, 2, 11, 0, 6, 4, 2, 1, 1, 0, 1, 2, 2, 2, 0, 3, 2, 2, 0, 0, 23, 3, 81, 2, 6, 1, 2, 1, 0, 0, 1, 2, 6, 0, 2, 0, 0, 1, 1, 2, 11, 0, 6, 4, 2, 1, 1, 0, 1, 2, 2, 0, 2, 6, 0, 2, 0, 0, 1, 3, 2, 11, 0, 6, 4, 2, 1, 3, 0, 1, 2, 2, 0, 2, 7, 0, 3, 2, 2, 1, 0, 47, 3, 10, 0, 6, 4, 2, 1, 1, 0, 1, 1, 3, 0, 6, 4, 2, 1, 3, 0, 1, 1, 1, 3, 27, 2, 6, 1, 2, 1, 0, 0, 2, 2, 6, 0, 2, 0, 0, 1, 1, 0, 6, 4, 2, 1, 1, 0, 1, 2, 2, 1, 3, 27, 2, 6, 1, 2, 1, 0, 0, 3, 2, 6, 0, 2, 0, 0, 1, 1, 0, 6, 4, 2, 1, 1, 0, 1, 2, 2, 0, 3, 43, 2, 6, 1, 2, 1, 0, 0, 4, 2, 6, 0, 2, 0, 0, 1, 1, 2, 11, 0, 6, 4, 2, 1, 1, 0, 1, 2, 2, 0, 2, 6, 0, 2, 0, 1, 1, 3, 0, 2, 1, 3, 0, 99, 3, 43, 2, 6, 1, 2, 1, 0, 0, 5, 2, 6, 0, 2, 0, 0, 1, 1, 2, 11, 0, 6, 4, 2, 1, 1, 0, 1, 2, 2, 1, 2, 6, 0, 2, 0, 1, 1, 3, 0, 2, 1, 3, 0, 9, 3, 48, 2, 6, 1, 2, 1, 0, 0, 6, 2, 6, 0, 2, 0, 0, 1, 1, 2, 11, 0, 6, 4, 2, 1, 1, 0, 1, 2, 2, 0, 2, 6, 0, 2, 0, 0, 1, 3, 0, 6, 4, 2, 1, 3, 0, 1, 2, 2, 2, 2, 6, 1, 2, 1, 0, 0, 7, 2, 6, 0, 2, 0, 0, 1, 1, 2, 11, 0, 6, 4, 2, 1, 1, 0, 1, 2, 2, 1, 2, 6, 0, 2, 0, 0, 1, 3, 0, 2, 1, 3, 0, 1]), (20, [0], [60, 2, 3, 670, 0, 1, 14, 7, 8]), (20, [0], [60, 2, 2, 596, 0, 1, 7, 8])], [(20, [0], [60, 2, 3, 670, 0, 1, 14, 7, 8]), (20, [0], [60, 2, 2, 596, 0, 1, 7, 8])], []))
abbrev b_Pn_fillFaces : ByteArray := prog_9_method_5_code
def y_Pn_fillFaces : MethodName := ⟨"DrawingHouse$PlanarWays", "fillFaces", "()V"⟩
abbrev z_Pn_fillFaces : List Cond := Cond.code y_Pn_fillFaces b_Pn_fillFaces 3 none :: lw_g
def e_Pn_fillFaces : en_T := ([(2, 0, 0, [7])], none, false, 10, 0, 0, [], [], (29777228780035975199053512107790897801014812028991194581747780616477924883625435860041728, [(294, 6), (294, 13)], [], [], []))
abbrev b_Sy_isWordAt_at_s5004 : ByteArray := prog_13_method_7_code
def y_Sy_isWordAt_at_s5004 : MethodName := ⟨"DrawingHouse$Styler", "isWordAt", "(Ljava/lang/String;II)Z"⟩
abbrev z_Sy_isWordAt_at_s5004 : List Cond := Cond.code y_Sy_isWordAt_at_s5004 b_Sy_isWordAt_at_s5004 5 (some .boolean) :: lw_g
def e_Sy_isWordAt_at_s5004 : en_T := ([(2, 0, 0, [11]), (2, 0, 0, [5004]), (0, 0, 38, []), (0, 0, 38, [])], some (0, 0, 1, []), false, 6, 0, 0, [], [((0, 3), (2, 0, 0, [109]))], (0, [], [], [], []))
abbrev b_Sy_isWordAt_at_s5006 : ByteArray := prog_13_method_7_code
def y_Sy_isWordAt_at_s5006 : MethodName := ⟨"DrawingHouse$Styler", "isWordAt", "(Ljava/lang/String;II)Z"⟩
abbrev z_Sy_isWordAt_at_s5006 : List Cond := Cond.code y_Sy_isWordAt_at_s5006 b_Sy_isWordAt_at_s5006 5 (some .boolean) :: lw_g
def e_Sy_isWordAt_at_s5006 : en_T := ([(2, 0, 0, [11]), (2, 0, 0, [5006]), (0, 0, 5, []), (0, 4, 9, [])], some (0, 0, 1, []), false, 6, 0, 0, [], [((0, 3), (2, 0, 0, [109]))], (0, [], [], [], []))
abbrev b_Sy_isWordAt_at_s5007 : ByteArray := prog_13_method_7_code
def y_Sy_isWordAt_at_s5007 : MethodName := ⟨"DrawingHouse$Styler", "isWordAt", "(Ljava/lang/String;II)Z"⟩
abbrev z_Sy_isWordAt_at_s5007 : List Cond := Cond.code y_Sy_isWordAt_at_s5007 b_Sy_isWordAt_at_s5007 5 (some .boolean) :: lw_g
def e_Sy_isWordAt_at_s5007 : en_T := ([(2, 0, 0, [11]), (2, 0, 0, [5007]), (0, 0, 43, []), (0, 0, 43, [])], some (0, 0, 1, []), false, 6, 0, 0, [], [((0, 3), (2, 0, 0, [109]))], (0, [], [], [], []))
abbrev b_Sy_isWordAt_at_s5008 : ByteArray := prog_13_method_7_code
def y_Sy_isWordAt_at_s5008 : MethodName := ⟨"DrawingHouse$Styler", "isWordAt", "(Ljava/lang/String;II)Z"⟩
abbrev z_Sy_isWordAt_at_s5008 : List Cond := Cond.code y_Sy_isWordAt_at_s5008 b_Sy_isWordAt_at_s5008 5 (some .boolean) :: lw_g
def e_Sy_isWordAt_at_s5008 : en_T := ([(2, 0, 0, [11]), (2, 0, 0, [5008]), (0, 0, 0, []), (0, 2, 2, [])], some (0, 0, 1, []), false, 6, 0, 0, [], [((0, 3), (2, 0, 0, [109]))], (0, [], [], [], []))
abbrev b_Sy_isWordAt_at_s5009 : ByteArray := prog_13_method_7_code
def y_Sy_isWordAt_at_s5009 : MethodName := ⟨"DrawingHouse$Styler", "isWordAt", "(Ljava/lang/String;II)Z"⟩
abbrev z_Sy_isWordAt_at_s5009 : List Cond := Cond.code y_Sy_isWordAt_at_s5009 b_Sy_isWordAt_at_s5009 5 (some .boolean) :: lw_g
def e_Sy_isWordAt_at_s5009 : en_T := ([(2, 0, 0, [11]), (2, 0, 0, [5009]), (0, 0, 0, []), (0, 3, 3, [])], some (0, 0, 1, []), false, 6, 0, 0, [], [((0, 3), (2, 0, 0, [109]))], (0, [], [], [], []))
abbrev b_Sy_isWordAt_at_s5010 : ByteArray := prog_13_method_7_code
def y_Sy_isWordAt_at_s5010 : MethodName := ⟨"DrawingHouse$Styler", "isWordAt", "(Ljava/lang/String;II)Z"⟩
abbrev z_Sy_isWordAt_at_s5010 : List Cond := Cond.code y_Sy_isWordAt_at_s5010 b_Sy_isWordAt_at_s5010 5 (some .boolean) :: lw_g
def e_Sy_isWordAt_at_s5010 : en_T := ([(2, 0, 0, [11]), (2, 0, 0, [5010]), (0, 0, 0, []), (0, 3, 3, [])], some (0, 0, 1, []), false, 6, 0, 0, [], [((0, 3), (2, 0, 0, [109]))], (0, [], [], [], []))
abbrev b_Sy_isWordAt_at_s5011 : ByteArray := prog_13_method_7_code
def y_Sy_isWordAt_at_s5011 : MethodName := ⟨"DrawingHouse$Styler", "isWordAt", "(Ljava/lang/String;II)Z"⟩
abbrev z_Sy_isWordAt_at_s5011 : List Cond := Cond.code y_Sy_isWordAt_at_s5011 b_Sy_isWordAt_at_s5011 5 (some .boolean) :: lw_g
def e_Sy_isWordAt_at_s5011 : en_T := ([(2, 0, 0, [11]), (2, 0, 0, [5011]), (0, 0, 0, []), (0, 2, 2, [])], some (0, 0, 1, []), false, 6, 0, 0, [], [((0, 3), (2, 0, 0, [109]))], (0, [], [], [], []))
abbrev b_Sy_isWordAt_at_s5012 : ByteArray := prog_13_method_7_code
def y_Sy_isWordAt_at_s5012 : MethodName := ⟨"DrawingHouse$Styler", "isWordAt", "(Ljava/lang/String;II)Z"⟩
abbrev z_Sy_isWordAt_at_s5012 : List Cond := Cond.code y_Sy_isWordAt_at_s5012 b_Sy_isWordAt_at_s5012 5 (some .boolean) :: lw_g
def e_Sy_isWordAt_at_s5012 : en_T := ([(2, 0, 0, [11]), (2, 0, 0, [5012]), (0, 0, 12, []), (0, 5, 16, [])], some (0, 0, 1, []), false, 6, 0, 0, [], [((0, 3), (2, 0, 0, [109]))], (0, [], [], [], []))
abbrev b_Mo_isBarred : ByteArray := prog_15_method_188_code
def y_Mo_isBarred : MethodName := ⟨"DrawingHouseModel", "isBarred", "(III)Z"⟩
abbrev z_Mo_isBarred : List Cond := Cond.code y_Mo_isBarred b_Mo_isBarred 5 (some .boolean) :: lw_g
def e_Mo_isBarred : en_T := ([(2, 0, 0, [165]), (0, 0, 47, []), (0, -300000011, 2005999, []), (0, -300000003, 2005999, [])], some (0, 0, 1, []), true, 8, 0, 0, [], [], (0, [], [], [], []))
abbrev b_Mo_matrix : ByteArray := prog_15_method_178_code
def y_Mo_matrix : MethodName := ⟨"DrawingHouseModel", "matrix", "(I)I"⟩
abbrev z_Mo_matrix : List Cond := Cond.code y_Mo_matrix b_Mo_matrix 7 (some .int) :: lw_g
def e_Mo_matrix : en_T := ([(2, 0, 0, [165]), (0, 0, 3, [])], some (0, 0, 0, []), false, 10, 0, 0, [], [], (463168363851090318391669002072228809818123258400101916280398459567490667118592, [], [], [], []))
abbrev b_Mo_ring : ByteArray := prog_15_method_172_code
def y_Mo_ring : MethodName := ⟨"DrawingHouseModel", "ring", "(I)I"⟩
abbrev z_Mo_ring : List Cond := Cond.code y_Mo_ring b_Mo_ring 8 (some .int) :: lw_g
def e_Mo_ring : en_T := ([(2, 0, 0, [165]), (0, 0, 3, [])], some (0, 0, 0, []), false, 9, 0, 0, [], [], (463168377654583011972796385379797926136066868508941466832523617550148841766912, [], [], [], []))
abbrev b_Ho_back : ByteArray := prog_1_method_11_code
def y_Ho_back : MethodName := ⟨"DrawingHouse", "back", "(II)Z"⟩
abbrev z_Ho_back : List Cond := Cond.code y_Ho_back b_Ho_back 3 (some .boolean) :: lw_g
def e_Ho_back : en_T := ([(2, 0, 0, [12]), (0, -2147483648, 2147483647, []), (0, -2147483648, 2147483647, [])], some (0, 0, 1, []), false, 10, 0, 0, [], [], (1801158375979876352, [(0, 1), (2, 0), (3, 0), (3, 1), (3, 17), (3, 18), (5, 0), (5, 1), (5, 2), (5, 3)], [(20, [0], [62, 0])], [(20, [0], [62, 0])], []))
abbrev b_Mo_crossAtShared : ByteArray := prog_15_method_202_code
def y_Mo_crossAtShared : MethodName := ⟨"DrawingHouseModel", "crossAtShared", "(IIJJJJJJJJ)Z"⟩
abbrev z_Mo_crossAtShared : List Cond := Cond.code y_Mo_crossAtShared b_Mo_crossAtShared 20 (some .boolean) :: lw_g
def e_Mo_crossAtShared : en_T := ([(2, 0, 0, [165]), (0, 0, 47, []), (0, 0, 47, []), (1, -300000011, 300000000, []), (1, -900000000, 900000000, []), (1, -300000011, 300000000, []), (1, -900000000, 900000000, []), (1, -300000011, 300000000, []), (1, -900000000, 900000000, []), (1, -300000011, 300000000, []), (1, -900000000, 900000000, [])], some (0, 0, 1, []), true, 8, 0, 0, [], [], (0, [], [], [], []))
abbrev b_Mo_cut : ByteArray := prog_15_method_145_code
def y_Mo_cut : MethodName := ⟨"DrawingHouseModel", "cut", "()Z"⟩
abbrev z_Mo_cut : List Cond := Cond.code y_Mo_cut b_Mo_cut 9 (some .boolean) :: lw_g
def e_Mo_cut : en_T := ([(2, 0, 0, [165])], some (0, 0, 1, []), false, 9, 0, 0, [], [], (1305684668322196441432453308785036274133982113361306870349824, [(165, 32), (165, 53)], [(20, [0], [60, 2, 5, 261, 31, 32, 33, 34, 35, 36, 37]), (20, [0], [60, 2, 3, 264, 31, 32, 33, 34, 35]), (20, [0], [50, 1, 0, 31, 0, 2, 0, 3, 2, 0, 31]), (20, [0, 1], [50, 1, 0, 32, 1, 3, 2, 0, 32, 1, 1])], [(20, [0], [60, 2, 5, 261, 31, 32, 33, 34, 35, 36, 37]), (20, [0], [60, 2, 3, 264, 31, 32, 33, 34, 35]), (20, [0, 2], [60, 1, 5, 273, 32, 33, 34, 35, 36, 37]), (20, [2, 0, 1], [50, 1, 0, 1032, 4, 6, 7, 2, 1, 0, 0, 0, 1, 3, 2, 1, 32, 4, 2, 1, 2, 0, 1]), (20, [2, 0, 1], [50, 1, 0, 1032, 4, 6, 1, 2, 1, 0, 0, 0, 1, 3, 2, 1, 32, 1, 2])], [(0, 0, 80, [])]))
abbrev b_Mo_far : ByteArray := prog_15_method_105_code
def y_Mo_far : MethodName := ⟨"DrawingHouseModel", "far", "(III)I"⟩
abbrev z_Mo_far : List Cond := Cond.code y_Mo_far b_Mo_far 4 (some .int) :: lw_g
def e_Mo_far : en_T := ([(2, 0, 0, [165]), (0, -2147483648, 2147483647, []), (0, -2147483648, 2147483647, []), (0, -2147483648, 2147483647, [])], some (0, -1, 1000000, []), false, 8, 0, 0, [], [], (23945242826029513411849172299223580994042798784118784, [(165, 5)], [], [], []))
abbrev b_Mo_group : ByteArray := prog_15_method_103_code
def y_Mo_group : MethodName := ⟨"DrawingHouseModel", "group", "(III)I"⟩
abbrev z_Mo_group : List Cond := Cond.code y_Mo_group b_Mo_group 4 (some .int) :: lw_g
def e_Mo_group : en_T := ([(2, 0, 0, [165]), (0, -2147483648, 2147483647, []), (0, -2147483648, 2147483647, []), (0, -2147483648, 2147483647, [])], some (0, -1, 4095, []), false, 8, 0, 0, [], [], (0, [(165, 5)], [], [], []))
abbrev b_Mo_leastTriangle : ByteArray := prog_15_method_211_code
def y_Mo_leastTriangle : MethodName := ⟨"DrawingHouseModel", "leastTriangle", "()J"⟩
abbrev z_Mo_leastTriangle : List Cond := Cond.code y_Mo_leastTriangle b_Mo_leastTriangle 8 (some .long) :: lw_g
def e_Mo_leastTriangle : en_T := ([(2, 0, 0, [165])], some (1, -1, 2160000039600000000, []), true, 9, 0, 0, [], [], (0, [], [], [], []))
abbrev b_Re_isWord_at_s5000 : ByteArray := prog_10_method_10_code
def y_Re_isWord_at_s5000 : MethodName := ⟨"DrawingHouse$Reader", "isWord", "(Ljava/lang/String;)Z"⟩
abbrev z_Re_isWord_at_s5000 : List Cond := Cond.code y_Re_isWord_at_s5000 b_Re_isWord_at_s5000 3 (some .boolean) :: lw_g
def e_Re_isWord_at_s5000 : en_T := ([(2, 0, 0, [8]), (2, 0, 0, [5000])], some (0, 0, 1, []), false, 6, 0, 0, [], [], (0, [], [], [(20, [0, 2], [60, 3, 1, 1080, 7, 6, 8, 0])], []))
abbrev b_Re_isWord_at_s5001 : ByteArray := prog_10_method_10_code
def y_Re_isWord_at_s5001 : MethodName := ⟨"DrawingHouse$Reader", "isWord", "(Ljava/lang/String;)Z"⟩
abbrev z_Re_isWord_at_s5001 : List Cond := Cond.code y_Re_isWord_at_s5001 b_Re_isWord_at_s5001 3 (some .boolean) :: lw_g
def e_Re_isWord_at_s5001 : en_T := ([(2, 0, 0, [8]), (2, 0, 0, [5001])], some (0, 0, 1, []), false, 6, 0, 0, [], [], (0, [], [], [(20, [0, 2], [60, 3, 1, 1081, 7, 6, 8, 0])], []))
abbrev b_Re_isWord_at_s5002 : ByteArray := prog_10_method_10_code
def y_Re_isWord_at_s5002 : MethodName := ⟨"DrawingHouse$Reader", "isWord", "(Ljava/lang/String;)Z"⟩
abbrev z_Re_isWord_at_s5002 : List Cond := Cond.code y_Re_isWord_at_s5002 b_Re_isWord_at_s5002 3 (some .boolean) :: lw_g
def e_Re_isWord_at_s5002 : en_T := ([(2, 0, 0, [8]), (2, 0, 0, [5002])], some (0, 0, 1, []), false, 6, 0, 0, [], [], (0, [], [], [(20, [0, 2], [60, 3, 1, 1082, 7, 6, 8, 0])], []))
abbrev b_Re_isWord_at_s5003 : ByteArray := prog_10_method_10_code
def y_Re_isWord_at_s5003 : MethodName := ⟨"DrawingHouse$Reader", "isWord", "(Ljava/lang/String;)Z"⟩
abbrev z_Re_isWord_at_s5003 : List Cond := Cond.code y_Re_isWord_at_s5003 b_Re_isWord_at_s5003 3 (some .boolean) :: lw_g
def e_Re_isWord_at_s5003 : en_T := ([(2, 0, 0, [8]), (2, 0, 0, [5003])], some (0, 0, 1, []), false, 6, 0, 0, [], [], (0, [], [], [(20, [0, 2], [60, 3, 1, 1083, 7, 6, 8, 0])], []))
abbrev b_Ho_label : ByteArray := prog_1_method_22_code
def y_Ho_label : MethodName := ⟨"DrawingHouse", "label", "(III)I"⟩
abbrev z_Ho_label : List Cond := Cond.code y_Ho_label b_Ho_label 4 (some .int) :: lw_g
def e_Ho_label : en_T := ([(2, 0, 0, [12]), (0, -2147483648, 2147483647, []), (0, -2147483648, 2147483647, []), (0, -2147483648, 2147483647, [])], some (0, -2147483648, 2002000000, []), false, 11, 0, 0, [], [], (50331648, [], [], [], []))
abbrev b_Ho_writeWord_at_s5013 : ByteArray := prog_1_method_38_code
def y_Ho_writeWord_at_s5013 : MethodName := ⟨"DrawingHouse", "writeWord", "(Ljava/lang/String;)V"⟩
abbrev z_Ho_writeWord_at_s5013 : List Cond := Cond.code y_Ho_writeWord_at_s5013 b_Ho_writeWord_at_s5013 3 none :: lw_g
def e_Ho_writeWord_at_s5013 : en_T := ([(2, 0, 0, [12]), (2, 0, 0, [5013])], none, false, 7, 0, 0, [], [], (261336857795280739939871698507597986398208, [(12, 12)], [(20, [0, 2], [30, 0, 1, 1, 12, -1, 0, 0])], [(20, [0, 2], [30, 5, 1, 1, 12, -1, 0, 0])], [(0, 0, 99999995, [])]))
abbrev b_Ho_writeWord_at_s5014 : ByteArray := prog_1_method_38_code
def y_Ho_writeWord_at_s5014 : MethodName := ⟨"DrawingHouse", "writeWord", "(Ljava/lang/String;)V"⟩
abbrev z_Ho_writeWord_at_s5014 : List Cond := Cond.code y_Ho_writeWord_at_s5014 b_Ho_writeWord_at_s5014 3 none :: lw_g
def e_Ho_writeWord_at_s5014 : en_T := ([(2, 0, 0, [12]), (2, 0, 0, [5014])], none, false, 7, 0, 0, [], [], (261336857795280739939871698507597986398208, [(12, 12)], [(20, [0, 2], [30, 0, 1, 1, 12, -1, 0, 0])], [(20, [0, 2], [30, 7, 1, 1, 12, -1, 0, 0])], [(0, 0, 99999993, [])]))
abbrev b_Ho_writeWord_at_s5015 : ByteArray := prog_1_method_38_code
def y_Ho_writeWord_at_s5015 : MethodName := ⟨"DrawingHouse", "writeWord", "(Ljava/lang/String;)V"⟩
abbrev z_Ho_writeWord_at_s5015 : List Cond := Cond.code y_Ho_writeWord_at_s5015 b_Ho_writeWord_at_s5015 3 none :: lw_g
def e_Ho_writeWord_at_s5015 : en_T := ([(2, 0, 0, [12]), (2, 0, 0, [5015])], none, false, 7, 0, 0, [], [], (261336857795280739939871698507597986398208, [(12, 12)], [(20, [0, 2], [30, 0, 1, 1, 12, -1, 0, 0])], [(20, [0, 2], [30, 2, 1, 1, 12, -1, 0, 0])], [(0, 0, 99999998, [])]))
abbrev b_Ho_writeWord_at_s5016 : ByteArray := prog_1_method_38_code
def y_Ho_writeWord_at_s5016 : MethodName := ⟨"DrawingHouse", "writeWord", "(Ljava/lang/String;)V"⟩
abbrev z_Ho_writeWord_at_s5016 : List Cond := Cond.code y_Ho_writeWord_at_s5016 b_Ho_writeWord_at_s5016 3 none :: lw_g
def e_Ho_writeWord_at_s5016 : en_T := ([(2, 0, 0, [12]), (2, 0, 0, [5016])], none, false, 7, 0, 0, [], [], (261336857795280739939871698507597986398208, [(12, 12)], [(20, [0, 2], [30, 0, 1, 1, 12, -1, 0, 0])], [(20, [0, 2], [30, 6, 1, 1, 12, -1, 0, 0])], [(0, 0, 99999994, [])]))
abbrev b_Ho_writeWord_at_s5017 : ByteArray := prog_1_method_38_code
def y_Ho_writeWord_at_s5017 : MethodName := ⟨"DrawingHouse", "writeWord", "(Ljava/lang/String;)V"⟩
abbrev z_Ho_writeWord_at_s5017 : List Cond := Cond.code y_Ho_writeWord_at_s5017 b_Ho_writeWord_at_s5017 3 none :: lw_g
def e_Ho_writeWord_at_s5017 : en_T := ([(2, 0, 0, [12]), (2, 0, 0, [5017])], none, false, 7, 0, 0, [], [], (261336857795280739939871698507597986398208, [(12, 12)], [(20, [0, 2], [30, 0, 1, 1, 12, -1, 0, 0])], [(20, [0, 2], [30, 3, 1, 1, 12, -1, 0, 0])], [(0, 0, 99999997, [])]))
abbrev b_Ho_writeWord_at_s5018 : ByteArray := prog_1_method_38_code
def y_Ho_writeWord_at_s5018 : MethodName := ⟨"DrawingHouse", "writeWord", "(Ljava/lang/String;)V"⟩
abbrev z_Ho_writeWord_at_s5018 : List Cond := Cond.code y_Ho_writeWord_at_s5018 b_Ho_writeWord_at_s5018 3 none :: lw_g
def e_Ho_writeWord_at_s5018 : en_T := ([(2, 0, 0, [12]), (2, 0, 0, [5018])], none, false, 7, 0, 0, [], [], (261336857795280739939871698507597986398208, [(12, 12)], [(20, [0, 2], [30, 0, 1, 1, 12, -1, 0, 0])], [(20, [0, 2], [30, 2, 1, 1, 12, -1, 0, 0])], [(0, 0, 99999998, [])]))
abbrev b_Ho_writeWord_at_s5019 : ByteArray := prog_1_method_38_code
def y_Ho_writeWord_at_s5019 : MethodName := ⟨"DrawingHouse", "writeWord", "(Ljava/lang/String;)V"⟩
abbrev z_Ho_writeWord_at_s5019 : List Cond := Cond.code y_Ho_writeWord_at_s5019 b_Ho_writeWord_at_s5019 3 none :: lw_g
def e_Ho_writeWord_at_s5019 : en_T := ([(2, 0, 0, [12]), (2, 0, 0, [5019])], none, false, 7, 0, 0, [], [], (261336857795280739939871698507597986398208, [(12, 12)], [(20, [0, 2], [30, 0, 1, 1, 12, -1, 0, 0])], [(20, [0, 2], [30, 3, 1, 1, 12, -1, 0, 0])], [(0, 0, 99999997, [])]))
abbrev b_Ho_writeWord_at_s5020 : ByteArray := prog_1_method_38_code
def y_Ho_writeWord_at_s5020 : MethodName := ⟨"DrawingHouse", "writeWord", "(Ljava/lang/String;)V"⟩
abbrev z_Ho_writeWord_at_s5020 : List Cond := Cond.code y_Ho_writeWord_at_s5020 b_Ho_writeWord_at_s5020 3 none :: lw_g
def e_Ho_writeWord_at_s5020 : en_T := ([(2, 0, 0, [12]), (2, 0, 0, [5020])], none, false, 7, 0, 0, [], [], (261336857795280739939871698507597986398208, [(12, 12)], [(20, [0, 2], [30, 0, 1, 1, 12, -1, 0, 0])], [(20, [0, 2], [30, 3, 1, 1, 12, -1, 0, 0])], [(0, 0, 99999997, [])]))
abbrev b_Ho_writeWord_at_s5021 : ByteArray := prog_1_method_38_code
def y_Ho_writeWord_at_s5021 : MethodName := ⟨"DrawingHouse", "writeWord", "(Ljava/lang/String;)V"⟩
abbrev z_Ho_writeWord_at_s5021 : List Cond := Cond.code y_Ho_writeWord_at_s5021 b_Ho_writeWord_at_s5021 3 none :: lw_g
def e_Ho_writeWord_at_s5021 : en_T := ([(2, 0, 0, [12]), (2, 0, 0, [5021])], none, false, 7, 0, 0, [], [], (261336857795280739939871698507597986398208, [(12, 12)], [(20, [0, 2], [30, 0, 1, 1, 12, -1, 0, 0])], [(20, [0, 2], [30, 9, 1, 1, 12, -1, 0, 0])], [(0, 0, 99999991, [])]))
abbrev b_Gr_alter_at_kx : ByteArray := prog_5_method_21_code
def y_Gr_alter_at_kx : MethodName := ⟨"DrawingHouse$Graph", "alter", "(III)I"⟩
abbrev z_Gr_alter_at_kx : List Cond := Cond.code y_Gr_alter_at_kx b_Gr_alter_at_kx 5 (some .int) :: lw_g
def e_Gr_alter_at_kx : en_T := ([(2, 0, 0, [3]), (0, -2147483648, 2147483647, []), (0, -2147483648, 2147483647, []), (0, -2147483648, 2147483647, [])], some (0, 0, 47, []), false, 10, 2, 3785, [([(2, 0, 0, [3]), (0, 7, 7, []), (0, 0, 47, []), (0, 0, 1, []), (3, 0, 0, [61]), (0, 0, 24, []), (0, 0, 48, []), (2, 0, 0, [52]), (2, 0, 0, [53]), (0, 0, 0, []), (2, 0, 0, [61])], [], [9], [((0, 16), 10), ((0, 0), 5), ((0, 1), 6), ((0, 7), 7), ((0, 8), 8)], [], []), ([(2, 0, 0, [3]), (0, 0, 0, []), (0, 0, 7, []), (0, -2147483648, 2147483647, []), (3, 0, 0, [61]), (0, 0, 23, []), (0, 0, 48, []), (2, 0, 0, [52]), (2, 0, 0, [53]), (2, 0, 0, [61]), (0, 1, 24, [])], [], [5], [((0, 16), 9), ((0, 0), 10), ((0, 1), 6), ((0, 7), 7), ((0, 8), 8)], [(10, 5, 1, 1)], []), ([(2, 0, 0, [3]), (0, 1, 1, []), (0, 0, 23, []), (0, 0, 23, []), (3, 0, 0, [61]), (0, 0, 24, []), (0, 0, 47, []), (2, 0, 0, [52]), (2, 0, 0, [53]), (2, 0, 0, [61]), (0, 1, 48, [])], [], [6], [((0, 16), 9), ((0, 0), 5), ((0, 1), 10), ((0, 7), 7), ((0, 8), 8)], [(10, 6, 1, 1)], []), ([(2, 0, 0, [3]), (0, 2, 2, []), (0, 0, 47, []), (0, -2147483648, 2147483647, []), (3, 0, 0, [61]), (0, 0, 24, []), (0, 1, 48, []), (2, 0, 0, [52]), (2, 0, 0, [53]), (0, 0, 0, []), (2, 0, 0, [61]), (0, 0, 47, [])], [], [9], [((0, 16), 10), ((0, 0), 5), ((0, 1), 11), ((0, 7), 7), ((0, 8), 8)], [(11, 6, -1, -1)], []), ([(2, 0, 0, [3]), (0, 3, 3, []), (0, 0, 23, []), (0, -2147483648, 2147483647, []), (3, 0, 0, [61]), (0, 0, 24, []), (0, 0, 48, []), (2, 0, 0, [52]), (2, 0, 0, [53]), (0, 0, 0, []), (2, 0, 0, [61])], [], [9], [((0, 16), 10), ((0, 7), 7), ((0, 8), 8)], [], []), ([(2, 0, 0, [3]), (0, 4, 4, []), (0, 0, 23, []), (0, 1, 99, []), (3, 0, 0, [61]), (0, 0, 24, []), (0, 0, 48, []), (2, 0, 0, [52]), (2, 0, 0, [53]), (0, 0, 0, []), (2, 0, 0, [61])], [], [9], [((0, 16), 10), ((0, 0), 5), ((0, 1), 6), ((0, 7), 7), ((0, 8), 8)], [], []), ([(2, 0, 0, [3]), (0, 5, 5, []), (0, 0, 47, []), (0, 1, 9, []), (3, 0, 0, [61]), (0, 0, 24, []), (0, 0, 48, []), (2, 0, 0, [52]), (2, 0, 0, [53]), (0, 0, 0, []), (2, 0, 0, [61])], [], [9], [((0, 16), 10), ((0, 0), 5), ((0, 1), 6), ((0, 7), 7), ((0, 8), 8)], [], []), ([(2, 0, 0, [3]), (0, 6, 6, []), (0, 0, 23, []), (0, 0, 7, []), (3, 0, 0, [61]), (0, 0, 24, []), (0, 0, 48, []), (2, 0, 0, [52]), (2, 0, 0, [53]), (0, 0, 0, []), (2, 0, 0, [61])], [], [9], [((0, 16), 10), ((0, 0), 5), ((0, 1), 6), ((0, 7), 7), ((0, 8), 8)], [], []), ([(2, 0, 0, [3]), (0, 7, 7, []), (0, 0, 47, []), (0, 0, 1, []), (2, 0, 0, [61]), (0, 0, 24, []), (0, 0, 48, []), (2, 0, 0, [52]), (2, 0, 0, [53]), (0, 0, 0, [])], [], [9], [((0, 16), 4), ((0, 0), 5), ((0, 1), 6), ((0, 7), 7), ((0, 8), 8)], [], []), ([(2, 0, 0, [3]), (0, 0, 0, []), (0, 0, 7, []), (0, -2147483648, 2147483647, []), (2, 0, 0, [61]), (0, 0, 23, []), (0, 0, 48, []), (2, 0, 0, [52]), (2, 0, 0, [53]), (0, 1, 24, [])], [], [5], [((0, 16), 4), ((0, 0), 9), ((0, 1), 6), ((0, 7), 7), ((0, 8), 8)], [(9, 5, 1, 1)], []), ([(2, 0, 0, [3]), (0, 1, 1, []), (0, 0, 23, []), (0, 0, 23, []), (2, 0, 0, [61]), (0, 0, 24, []), (0, 0, 47, []), (2, 0, 0, [52]), (2, 0, 0, [53]), (0, 1, 48, [])], [], [6], [((0, 16), 4), ((0, 0), 5), ((0, 1), 9), ((0, 7), 7), ((0, 8), 8)], [(9, 6, 1, 1)], []), ([(2, 0, 0, [3]), (0, 2, 2, []), (0, 0, 47, []), (0, -2147483648, 2147483647, []), (2, 0, 0, [61]), (0, 0, 24, []), (0, 1, 48, []), (2, 0, 0, [52]), (2, 0, 0, [53]), (0, 0, 0, []), (0, 0, 47, [])], [], [9], [((0, 16), 4), ((0, 0), 5), ((0, 1), 10), ((0, 7), 7), ((0, 8), 8)], [(10, 6, -1, -1)], []), ([(2, 0, 0, [3]), (0, 3, 3, []), (0, 0, 23, []), (0, -2147483648, 2147483647, []), (2, 0, 0, [61]), (0, 0, 24, []), (0, 0, 48, []), (2, 0, 0, [52]), (2, 0, 0, [53]), (0, 0, 0, [])], [], [9], [((0, 16), 4), ((0, 7), 7), ((0, 8), 8)], [], []), ([(2, 0, 0, [3]), (0, 4, 4, []), (0, 0, 23, []), (0, 1, 99, []), (2, 0, 0, [61]), (0, 0, 24, []), (0, 0, 48, []), (2, 0, 0, [52]), (2, 0, 0, [53]), (0, 0, 0, [])], [], [9], [((0, 16), 4), ((0, 0), 5), ((0, 1), 6), ((0, 7), 7), ((0, 8), 8)], [], []), ([(2, 0, 0, [3]), (0, 5, 5, []), (0, 0, 47, []), (0, 1, 9, []), (2, 0, 0, [61]), (0, 0, 24, []), (0, 0, 48, []), (2, 0, 0, [52]), (2, 0, 0, [53]), (0, 0, 0, [])], [], [9], [((0, 16), 4), ((0, 0), 5), ((0, 1), 6), ((0, 7), 7), ((0, 8), 8)], [], []), ([(2, 0, 0, [3]), (0, 6, 6, []), (0, 0, 23, []), (0, 0, 7, []), (2, 0, 0, [61]), (0, 0, 24, []), (0, 0, 48, []), (2, 0, 0, [52]), (2, 0, 0, [53]), (0, 0, 0, [])], [], [9], [((0, 16), 4), ((0, 0), 5), ((0, 1), 6), ((0, 7), 7), ((0, 8), 8)], [], [])], [((0, 16), (3, 0, 0, [61])), ((0, 0), (0, 0, 24, [])), ((0, 1), (0, 0, 48, [])), ((0, 7), (2, 0, 0, [52])), ((0, 8), (2, 0, 0, [53]))], (381944245562716141175333566576758405197150323812363046994276334253946497812627017594568704, [(3, 0), (3, 1), (3, 16), (3, 17), (3, 18)], [(20, [1, 2, 0, 3], [50, 3, 0, 2002, 2000, 2001, 3, 36, 2, 6, 1, 2, 1, 0, 0, 0, 2, 6, 0, 2, 0, 0, 1, 1, 2, 11, 0, 6, 4, 2, 1, 1, 0, 1, 2, 2, 2, 0, 3, 2, 2, 0, 0, 23, 3, 81, 2, 6, 1, 2, 1, 0, 0, 1, 2, 6, 0, 2, 0, 0, 1, 1, 2, 11, 0, 6, 4, 2, 1, 1, 0, 1, 2, 2, 0, 2, 6, 0, 2, 0, 0, 1, 3, 2, 11, 0, 6, 4, 2, 1, 3, 0, 1, 2, 2, 0, 2, 7, 0, 3, 2, 2, 1, 0, 47, 3, 10, 0, 6, 4, 2, 1, 1, 0, 1, 1, 3, 0, 6, 4, 2, 1, 3, 0, 1, 1, 1, 3, 27, 2, 6, 1, 2, 1, 0, 0, 2, 2, 6, 0, 2, 0, 0, 1, 1, 0, 6, 4, 2, 1, 1, 0, 1, 2, 2, 1, 3, 27, 2, 6, 1, 2, 1, 0, 0, 3, 2, 6, 0, 2, 0, 0, 1, 1, 0, 6, 4, 2, 1, 1, 0, 1, 2, 2, 0, 3, 43, 2, 6, 1, 2, 1, 0, 0, 4, 2, 6, 0, 2, 0, 0, 1, 1, 2, 11, 0, 6, 4, 2, 1, 1, 0, 1, 2, 2, 0, 2, 6, 0, 2, 0, 1, 1, 3, 0, 2, 1, 3, 0, 99, 3, 43, 2, 6, 1, 2, 1, 0, 0, 5, 2, 6, 0, 2, 0, 0, 1, 1, 2, 11, 0, 6, 4, 2, 1, 1, 0, 1, 2, 2, 1, 2, 6, 0, 2, 0, 1, 1, 3, 0, 2, 1, 3, 0, 9, 3, 48, 2, 6, 1, 2, 1, 0, 0, 6, 2, 6, 0, 2, 0, 0, 1, 1, 2, 11, 0, 6, 4, 2, 1, 1, 0, 1, 2, 2, 0, 2, 6, 0, 2, 0, 0, 1, 3, 0, 6, 4, 2, 1, 3, 0, 1, 2, 2, 2, 2, 6, 1, 2, 1, 0, 0, 7, 2, 6, 0, 2, 0, 0, 1, 1, 2, 11, 0, 6, 4, 2, 1, 1, 0, 1, 2, 2, 1, 2, 6, 0, 2, 0, 0, 1, 3, 0, 2, 1, 3, 0, 1]), (20, [0], [50, 2, 0, 17, 18, 0, 8, 4, 3, 2, 0, 17, 2, 0, 18, 0, 30]), (20, [0], [60, 2, 1, 739, 17, 18, 16]), (20, [0], [60, 2, 3, 670, 0, 1, 14, 7, 8]), (20, [0], [60, 2, 2, 596, 0, 1, 7, 8])], [(20, [0], [50, 2, 0, 17, 18, 0, 8, 4, 3, 2, 0, 17, 2, 0, 18, 0, 30]), (20, [0], [60, 2, 1, 739, 17, 18, 16]), (20, [0], [60, 2, 3, 670, 0, 1, 14, 7, 8]), (20, [0], [60, 2, 2, 596, 0, 1, 7, 8])], []))
abbrev b_Re_isName : ByteArray := prog_10_method_11_code
def y_Re_isName : MethodName := ⟨"DrawingHouse$Reader", "isName", "()Z"⟩
abbrev z_Re_isName : List Cond := Cond.code y_Re_isName b_Re_isName 1 (some .boolean) :: lw_g
def e_Re_isName : en_T := ([(2, 0, 0, [8])], some (0, 0, 1, []), false, 7, 0, 0, [], [], (0, [], [(20, [0, 0, 0, 0], [31, 1, -3, -1, 1, 7, 4008, 1, 1, 6, -1, 1, 8, 2000, 1, 7])], [(20, [0, 0, 1], [30, 2008, 1, 1, 6, -1, 1, 8, 2000, 0, 0]), (20, [0, 1], [60, 3, 1, 1079, 7, 6, 8, 0])], []))
abbrev b_Sy_advance : ByteArray := prog_13_method_5_code
def y_Sy_advance : MethodName := ⟨"DrawingHouse$Styler", "advance", "()V"⟩
abbrev z_Sy_advance : List Cond := Cond.code y_Sy_advance b_Sy_advance 2 none :: lw_g
def e_Sy_advance : en_T := ([(2, 0, 0, [11])], none, false, 7, 0, 0, [], [((0, 3), (2, 0, 0, [109]))], (0, [(11, 5), (11, 6), (11, 7), (11, 8)], [], [(20, [0], [50, 2, 0, 6, 8, 3, 7, 7, 3, 2, 0, 6, 0, 3, 0, 3, 2, 0, 8, 0, 9999])], []))
abbrev b_Sy_wordIn_at_s5004 : ByteArray := prog_13_method_6_code
def y_Sy_wordIn_at_s5004 : MethodName := ⟨"DrawingHouse$Styler", "wordIn", "(Ljava/lang/String;)I"⟩
abbrev z_Sy_wordIn_at_s5004 : List Cond := Cond.code y_Sy_wordIn_at_s5004 b_Sy_wordIn_at_s5004 5 (some .int) :: lw_g
def e_Sy_wordIn_at_s5004 : en_T := ([(2, 0, 0, [11]), (2, 0, 0, [5004])], some (0, -1, 38, []), false, 7, 0, 0, [], [((0, 3), (2, 0, 0, [109]))], (0, [], [], [], []))
abbrev b_Sy_wordIn_at_s5006 : ByteArray := prog_13_method_6_code
def y_Sy_wordIn_at_s5006 : MethodName := ⟨"DrawingHouse$Styler", "wordIn", "(Ljava/lang/String;)I"⟩
abbrev z_Sy_wordIn_at_s5006 : List Cond := Cond.code y_Sy_wordIn_at_s5006 b_Sy_wordIn_at_s5006 5 (some .int) :: lw_g
def e_Sy_wordIn_at_s5006 : en_T := ([(2, 0, 0, [11]), (2, 0, 0, [5006])], some (0, -1, 1, []), false, 7, 0, 0, [], [((0, 3), (2, 0, 0, [109]))], (0, [], [], [], []))
abbrev b_Sy_wordIn_at_s5007 : ByteArray := prog_13_method_6_code
def y_Sy_wordIn_at_s5007 : MethodName := ⟨"DrawingHouse$Styler", "wordIn", "(Ljava/lang/String;)I"⟩
abbrev z_Sy_wordIn_at_s5007 : List Cond := Cond.code y_Sy_wordIn_at_s5007 b_Sy_wordIn_at_s5007 5 (some .int) :: lw_g
def e_Sy_wordIn_at_s5007 : en_T := ([(2, 0, 0, [11]), (2, 0, 0, [5007])], some (0, -1, 43, []), false, 7, 0, 0, [], [((0, 3), (2, 0, 0, [109]))], (0, [], [], [], []))
abbrev b_Sy_wordIn_at_s5008 : ByteArray := prog_13_method_6_code
def y_Sy_wordIn_at_s5008 : MethodName := ⟨"DrawingHouse$Styler", "wordIn", "(Ljava/lang/String;)I"⟩
abbrev z_Sy_wordIn_at_s5008 : List Cond := Cond.code y_Sy_wordIn_at_s5008 b_Sy_wordIn_at_s5008 5 (some .int) :: lw_g
def e_Sy_wordIn_at_s5008 : en_T := ([(2, 0, 0, [11]), (2, 0, 0, [5008])], some (0, -1, 0, []), false, 7, 0, 0, [], [((0, 3), (2, 0, 0, [109]))], (0, [], [], [], []))
abbrev b_Sy_wordIn_at_s5009 : ByteArray := prog_13_method_6_code
def y_Sy_wordIn_at_s5009 : MethodName := ⟨"DrawingHouse$Styler", "wordIn", "(Ljava/lang/String;)I"⟩
abbrev z_Sy_wordIn_at_s5009 : List Cond := Cond.code y_Sy_wordIn_at_s5009 b_Sy_wordIn_at_s5009 5 (some .int) :: lw_g
def e_Sy_wordIn_at_s5009 : en_T := ([(2, 0, 0, [11]), (2, 0, 0, [5009])], some (0, -1, 0, []), false, 7, 0, 0, [], [((0, 3), (2, 0, 0, [109]))], (0, [], [], [], []))
abbrev b_Sy_wordIn_at_s5010 : ByteArray := prog_13_method_6_code
def y_Sy_wordIn_at_s5010 : MethodName := ⟨"DrawingHouse$Styler", "wordIn", "(Ljava/lang/String;)I"⟩
abbrev z_Sy_wordIn_at_s5010 : List Cond := Cond.code y_Sy_wordIn_at_s5010 b_Sy_wordIn_at_s5010 5 (some .int) :: lw_g
def e_Sy_wordIn_at_s5010 : en_T := ([(2, 0, 0, [11]), (2, 0, 0, [5010])], some (0, -1, 0, []), false, 7, 0, 0, [], [((0, 3), (2, 0, 0, [109]))], (0, [], [], [], []))
abbrev b_Sy_wordIn_at_s5011 : ByteArray := prog_13_method_6_code
def y_Sy_wordIn_at_s5011 : MethodName := ⟨"DrawingHouse$Styler", "wordIn", "(Ljava/lang/String;)I"⟩
abbrev z_Sy_wordIn_at_s5011 : List Cond := Cond.code y_Sy_wordIn_at_s5011 b_Sy_wordIn_at_s5011 5 (some .int) :: lw_g
def e_Sy_wordIn_at_s5011 : en_T := ([(2, 0, 0, [11]), (2, 0, 0, [5011])], some (0, -1, 0, []), false, 7, 0, 0, [], [((0, 3), (2, 0, 0, [109]))], (0, [], [], [], []))
abbrev b_Sy_wordIn_at_s5012 : ByteArray := prog_13_method_6_code
def y_Sy_wordIn_at_s5012 : MethodName := ⟨"DrawingHouse$Styler", "wordIn", "(Ljava/lang/String;)I"⟩
abbrev z_Sy_wordIn_at_s5012 : List Cond := Cond.code y_Sy_wordIn_at_s5012 b_Sy_wordIn_at_s5012 5 (some .int) :: lw_g
def e_Sy_wordIn_at_s5012 : en_T := ([(2, 0, 0, [11]), (2, 0, 0, [5012])], some (0, -1, 2, []), false, 7, 0, 0, [], [((0, 3), (2, 0, 0, [109]))], (0, [], [], [], []))
abbrev b_Mo_bounds : ByteArray := prog_15_method_208_code
def y_Mo_bounds : MethodName := ⟨"DrawingHouseModel", "bounds", "()V"⟩
abbrev z_Mo_bounds : List Cond := Cond.code y_Mo_bounds b_Mo_bounds 3 none :: lw_g
def e_Mo_bounds : en_T := ([(2, 0, 0, [165])], none, false, 8, 0, 0, [], [], (0, [(165, 153), (165, 154), (165, 155), (165, 156)], [], [(20, [0], [60, 6, 6, 945, 153, 154, 155, 156, 139, 5, 62, 63, 2, 64, 65, 66])], []))
abbrev b_Mo_finds : ByteArray := prog_15_method_197_code
def y_Mo_finds : MethodName := ⟨"DrawingHouseModel", "finds", "(I)Z"⟩
abbrev z_Mo_finds : List Cond := Cond.code y_Mo_finds b_Mo_finds 7 (some .boolean) :: lw_g
def e_Mo_finds : en_T := ([(2, 0, 0, [165]), (0, 0, 47, [])], some (0, 0, 1, []), false, 8, 0, 0, [], [], (22765651080770262549837444220588112187215705145142260014669676676627784592248537088, [], [(20, [0], [30, 47, 1, 1, 150])], [], []))
abbrev b_Mo_forces : ByteArray := prog_15_method_175_code
def y_Mo_forces : MethodName := ⟨"DrawingHouseModel", "forces", "(I)I"⟩
abbrev z_Mo_forces : List Cond := Cond.code y_Mo_forces b_Mo_forces 7 (some .int) :: lw_g
def e_Mo_forces : en_T := ([(2, 0, 0, [165]), (0, -2147483648, 2147483647, [])], some (0, -2, 0, []), false, 10, 0, 0, [], [], (111160405667823626590846897026230414977659948031839180649200831059430045187571712, [], [], [], []))
abbrev b_Mo_isWord_at_s5000 : ByteArray := prog_15_method_29_code
def y_Mo_isWord_at_s5000 : MethodName := ⟨"DrawingHouseModel", "isWord", "(Ljava/lang/String;)Z"⟩
abbrev z_Mo_isWord_at_s5000 : List Cond := Cond.code y_Mo_isWord_at_s5000 b_Mo_isWord_at_s5000 4 (some .boolean) :: lw_g
def e_Mo_isWord_at_s5000 : en_T := ([(2, 0, 0, [165]), (2, 0, 0, [5000])], some (0, 0, 1, []), false, 7, 0, 0, [], [], (0, [], [], [(20, [2, 0], [50, 1, 0, 1012, 4, 6, 1, 2, 1, 0, 0, 1, 1, 3, 2, 1, 12, 0, 1]), (20, [0, 2], [60, 4, 1, 958, 12, 11, 10, 15, 1])], []))
abbrev b_Mo_isWord_at_s5001 : ByteArray := prog_15_method_29_code
def y_Mo_isWord_at_s5001 : MethodName := ⟨"DrawingHouseModel", "isWord", "(Ljava/lang/String;)Z"⟩
abbrev z_Mo_isWord_at_s5001 : List Cond := Cond.code y_Mo_isWord_at_s5001 b_Mo_isWord_at_s5001 4 (some .boolean) :: lw_g
def e_Mo_isWord_at_s5001 : en_T := ([(2, 0, 0, [165]), (2, 0, 0, [5001])], some (0, 0, 1, []), false, 7, 0, 0, [], [], (0, [], [], [(20, [2, 0], [50, 1, 0, 1012, 4, 6, 1, 2, 1, 0, 0, 1, 1, 3, 2, 1, 12, 0, 1]), (20, [0, 2], [60, 4, 1, 959, 12, 11, 10, 15, 1])], []))
abbrev b_Mo_isWord_at_s5002 : ByteArray := prog_15_method_29_code
def y_Mo_isWord_at_s5002 : MethodName := ⟨"DrawingHouseModel", "isWord", "(Ljava/lang/String;)Z"⟩
abbrev z_Mo_isWord_at_s5002 : List Cond := Cond.code y_Mo_isWord_at_s5002 b_Mo_isWord_at_s5002 4 (some .boolean) :: lw_g
def e_Mo_isWord_at_s5002 : en_T := ([(2, 0, 0, [165]), (2, 0, 0, [5002])], some (0, 0, 1, []), false, 7, 0, 0, [], [], (0, [], [], [(20, [2, 0], [50, 1, 0, 1012, 4, 6, 1, 2, 1, 0, 0, 1, 1, 3, 2, 1, 12, 0, 1]), (20, [0, 2], [60, 4, 1, 960, 12, 11, 10, 15, 1])], []))
abbrev b_Mo_isWord_at_s5003 : ByteArray := prog_15_method_29_code
def y_Mo_isWord_at_s5003 : MethodName := ⟨"DrawingHouseModel", "isWord", "(Ljava/lang/String;)Z"⟩
abbrev z_Mo_isWord_at_s5003 : List Cond := Cond.code y_Mo_isWord_at_s5003 b_Mo_isWord_at_s5003 4 (some .boolean) :: lw_g
def e_Mo_isWord_at_s5003 : en_T := ([(2, 0, 0, [165]), (2, 0, 0, [5003])], some (0, 0, 1, []), false, 7, 0, 0, [], [], (0, [], [], [(20, [2, 0], [50, 1, 0, 1012, 4, 6, 1, 2, 1, 0, 0, 1, 1, 3, 2, 1, 12, 0, 1]), (20, [0, 2], [60, 4, 1, 961, 12, 11, 10, 15, 1])], []))
abbrev b_Mo_word_at_s5000 : ByteArray := prog_15_method_213_code
def y_Mo_word_at_s5000 : MethodName := ⟨"DrawingHouseModel", "word", "(Ljava/lang/String;)Z"⟩
abbrev z_Mo_word_at_s5000 : List Cond := Cond.code y_Mo_word_at_s5000 b_Mo_word_at_s5000 4 (some .boolean) :: lw_g
def e_Mo_word_at_s5000 : en_T := ([(2, 0, 0, [165]), (2, 0, 0, [5000])], some (0, 0, 1, []), false, 7, 0, 0, [], [], (0, [], [], [(20, [2, 0], [50, 1, 1, 1158, 1160, 4, 6, 1, 2, 1, 0, 0, 1, 1, 6, 3, 1, 160, 2, 1, 158, 0, 1]), (20, [2, 0], [50, 3, 4, 1008, 1158, 1010, 1160, 1163, 1162, 1001, 4, 6, 1, 2, 1, 0, 0, 1, 2, 7, 1, 3, 2, 1, 8, 0, 0, 2, 10, 1, 6, 3, 1, 160, 2, 1, 158, 0, 1, 2, 18, 1, 6, 3, 1, 163, 2, 1, 158, 4, 6, 3, 1, 162, 2, 1, 158, 0, 4, 2, 15, 0, 10, 4, 6, 3, 1, 162, 2, 1, 158, 0, 4, 2, 1, 10, 2, 21, 1, 17, 9, 13, 3, 1, 1, 4, 6, 3, 1, 162, 2, 1, 158, 0, 0, 0, 256, 0, 110, 2, 21, 1, 17, 9, 13, 3, 1, 1, 4, 6, 3, 1, 162, 2, 1, 158, 0, 1, 0, 256, 0, 111, 2, 21, 1, 17, 9, 13, 3, 1, 1, 4, 6, 3, 1, 162, 2, 1, 158, 0, 2, 0, 256, 0, 100, 1, 17, 9, 13, 3, 1, 1, 4, 6, 3, 1, 162, 2, 1, 158, 0, 3, 0, 256, 0, 101]), (20, [0, 2], [50, 3, 4, 8, 158, 10, 160, 163, 162, 1, 4, 148, 2, 7, 1, 3, 2, 0, 8, 0, 0, 2, 10, 1, 6, 3, 0, 160, 2, 0, 158, 0, 1, 2, 18, 1, 6, 3, 0, 163, 2, 0, 158, 4, 6, 3, 0, 162, 2, 0, 158, 0, 4, 2, 15, 0, 10, 4, 6, 3, 0, 162, 2, 0, 158, 0, 4, 2, 0, 10, 2, 21, 1, 17, 9, 13, 3, 0, 1, 4, 6, 3, 0, 162, 2, 0, 158, 0, 0, 0, 256, 0, 110, 2, 21, 1, 17, 9, 13, 3, 0, 1, 4, 6, 3, 0, 162, 2, 0, 158, 0, 1, 0, 256, 0, 111, 2, 21, 1, 17, 9, 13, 3, 0, 1, 4, 6, 3, 0, 162, 2, 0, 158, 0, 2, 0, 256, 0, 100, 1, 17, 9, 13, 3, 0, 1, 4, 6, 3, 0, 162, 2, 0, 158, 0, 3, 0, 256, 0, 101, 1, 2, 1, 1, 0, 1]), (20, [0, 2], [60, 3, 4, 19, 8, 158, 10, 160, 162, 163, 1])], []))
abbrev b_Mo_word_at_s5001 : ByteArray := prog_15_method_213_code
def y_Mo_word_at_s5001 : MethodName := ⟨"DrawingHouseModel", "word", "(Ljava/lang/String;)Z"⟩
abbrev z_Mo_word_at_s5001 : List Cond := Cond.code y_Mo_word_at_s5001 b_Mo_word_at_s5001 4 (some .boolean) :: lw_g
def e_Mo_word_at_s5001 : en_T := ([(2, 0, 0, [165]), (2, 0, 0, [5001])], some (0, 0, 1, []), false, 7, 0, 0, [], [], (0, [], [], [(20, [2, 0], [50, 1, 1, 1158, 1160, 4, 6, 1, 2, 1, 0, 0, 1, 1, 6, 3, 1, 160, 2, 1, 158, 0, 1]), (20, [0, 2], [60, 3, 4, 32, 8, 158, 10, 160, 162, 163, 1])], []))
abbrev b_Mo_word_at_s5002 : ByteArray := prog_15_method_213_code
def y_Mo_word_at_s5002 : MethodName := ⟨"DrawingHouseModel", "word", "(Ljava/lang/String;)Z"⟩
abbrev z_Mo_word_at_s5002 : List Cond := Cond.code y_Mo_word_at_s5002 b_Mo_word_at_s5002 4 (some .boolean) :: lw_g
def e_Mo_word_at_s5002 : en_T := ([(2, 0, 0, [165]), (2, 0, 0, [5002])], some (0, 0, 1, []), false, 7, 0, 0, [], [], (0, [], [], [(20, [2, 0], [50, 1, 1, 1158, 1160, 4, 6, 1, 2, 1, 0, 0, 1, 1, 6, 3, 1, 160, 2, 1, 158, 0, 1]), (20, [0, 2], [60, 3, 4, 31, 8, 158, 10, 160, 162, 163, 1])], []))
abbrev b_Mo_word_at_s5003 : ByteArray := prog_15_method_213_code
def y_Mo_word_at_s5003 : MethodName := ⟨"DrawingHouseModel", "word", "(Ljava/lang/String;)Z"⟩
abbrev z_Mo_word_at_s5003 : List Cond := Cond.code y_Mo_word_at_s5003 b_Mo_word_at_s5003 4 (some .boolean) :: lw_g
def e_Mo_word_at_s5003 : en_T := ([(2, 0, 0, [165]), (2, 0, 0, [5003])], some (0, 0, 1, []), false, 7, 0, 0, [], [], (0, [], [], [(20, [2, 0], [50, 1, 1, 1158, 1160, 4, 6, 1, 2, 1, 0, 0, 1, 1, 6, 3, 1, 160, 2, 1, 158, 0, 1]), (20, [0, 2], [60, 3, 4, 38, 8, 158, 10, 160, 162, 163, 1])], []))
abbrev b_Mo_word_at_s5022 : ByteArray := prog_15_method_213_code
def y_Mo_word_at_s5022 : MethodName := ⟨"DrawingHouseModel", "word", "(Ljava/lang/String;)Z"⟩
abbrev z_Mo_word_at_s5022 : List Cond := Cond.code y_Mo_word_at_s5022 b_Mo_word_at_s5022 4 (some .boolean) :: lw_g
def e_Mo_word_at_s5022 : en_T := ([(2, 0, 0, [165]), (2, 0, 0, [5022])], some (0, 0, 1, []), false, 7, 0, 0, [], [], (0, [], [], [(20, [2, 0], [50, 1, 1, 1158, 1160, 4, 6, 1, 2, 1, 0, 0, 1, 1, 6, 3, 1, 160, 2, 1, 158, 0, 1]), (20, [0, 2], [60, 3, 4, 20, 8, 158, 10, 160, 162, 163, 1])], []))
abbrev b_Mo_word_at_s5023 : ByteArray := prog_15_method_213_code
def y_Mo_word_at_s5023 : MethodName := ⟨"DrawingHouseModel", "word", "(Ljava/lang/String;)Z"⟩
abbrev z_Mo_word_at_s5023 : List Cond := Cond.code y_Mo_word_at_s5023 b_Mo_word_at_s5023 4 (some .boolean) :: lw_g
def e_Mo_word_at_s5023 : en_T := ([(2, 0, 0, [165]), (2, 0, 0, [5023])], some (0, 0, 1, []), false, 7, 0, 0, [], [], (0, [], [], [(20, [2, 0], [50, 1, 1, 1158, 1160, 4, 6, 1, 2, 1, 0, 0, 1, 1, 6, 3, 1, 160, 2, 1, 158, 0, 1]), (20, [0, 2], [60, 3, 4, 21, 8, 158, 10, 160, 162, 163, 1])], []))
abbrev b_Mo_word_at_s5024 : ByteArray := prog_15_method_213_code
def y_Mo_word_at_s5024 : MethodName := ⟨"DrawingHouseModel", "word", "(Ljava/lang/String;)Z"⟩
abbrev z_Mo_word_at_s5024 : List Cond := Cond.code y_Mo_word_at_s5024 b_Mo_word_at_s5024 4 (some .boolean) :: lw_g
def e_Mo_word_at_s5024 : en_T := ([(2, 0, 0, [165]), (2, 0, 0, [5024])], some (0, 0, 1, []), false, 7, 0, 0, [], [], (0, [], [], [(20, [2, 0], [50, 1, 1, 1158, 1160, 4, 6, 1, 2, 1, 0, 0, 1, 1, 6, 3, 1, 160, 2, 1, 158, 0, 1]), (20, [0, 2], [60, 3, 4, 27, 8, 158, 10, 160, 162, 163, 1])], []))
abbrev b_Mo_word_at_s5025 : ByteArray := prog_15_method_213_code
def y_Mo_word_at_s5025 : MethodName := ⟨"DrawingHouseModel", "word", "(Ljava/lang/String;)Z"⟩
abbrev z_Mo_word_at_s5025 : List Cond := Cond.code y_Mo_word_at_s5025 b_Mo_word_at_s5025 4 (some .boolean) :: lw_g
def e_Mo_word_at_s5025 : en_T := ([(2, 0, 0, [165]), (2, 0, 0, [5025])], some (0, 0, 1, []), false, 7, 0, 0, [], [], (0, [], [], [(20, [2, 0], [50, 1, 1, 1158, 1160, 4, 6, 1, 2, 1, 0, 0, 1, 1, 6, 3, 1, 160, 2, 1, 158, 0, 1]), (20, [0, 2], [60, 3, 4, 28, 8, 158, 10, 160, 162, 163, 1])], []))
abbrev b_Mo_word_at_s5026 : ByteArray := prog_15_method_213_code
def y_Mo_word_at_s5026 : MethodName := ⟨"DrawingHouseModel", "word", "(Ljava/lang/String;)Z"⟩
abbrev z_Mo_word_at_s5026 : List Cond := Cond.code y_Mo_word_at_s5026 b_Mo_word_at_s5026 4 (some .boolean) :: lw_g
def e_Mo_word_at_s5026 : en_T := ([(2, 0, 0, [165]), (2, 0, 0, [5026])], some (0, 0, 1, []), false, 7, 0, 0, [], [], (0, [], [], [(20, [2, 0], [50, 1, 1, 1158, 1160, 4, 6, 1, 2, 1, 0, 0, 1, 1, 6, 3, 1, 160, 2, 1, 158, 0, 1]), (20, [0, 2], [60, 3, 4, 29, 8, 158, 10, 160, 162, 163, 1])], []))
abbrev b_Mo_word_at_s5027 : ByteArray := prog_15_method_213_code
def y_Mo_word_at_s5027 : MethodName := ⟨"DrawingHouseModel", "word", "(Ljava/lang/String;)Z"⟩
abbrev z_Mo_word_at_s5027 : List Cond := Cond.code y_Mo_word_at_s5027 b_Mo_word_at_s5027 4 (some .boolean) :: lw_g
def e_Mo_word_at_s5027 : en_T := ([(2, 0, 0, [165]), (2, 0, 0, [5027])], some (0, 0, 1, []), false, 7, 0, 0, [], [], (0, [], [], [(20, [2, 0], [50, 1, 1, 1158, 1160, 4, 6, 1, 2, 1, 0, 0, 1, 1, 6, 3, 1, 160, 2, 1, 158, 0, 1]), (20, [0, 2], [60, 3, 4, 30, 8, 158, 10, 160, 162, 163, 1])], []))
abbrev b_Mo_word_at_s5028 : ByteArray := prog_15_method_213_code
def y_Mo_word_at_s5028 : MethodName := ⟨"DrawingHouseModel", "word", "(Ljava/lang/String;)Z"⟩
abbrev z_Mo_word_at_s5028 : List Cond := Cond.code y_Mo_word_at_s5028 b_Mo_word_at_s5028 4 (some .boolean) :: lw_g
def e_Mo_word_at_s5028 : en_T := ([(2, 0, 0, [165]), (2, 0, 0, [5028])], some (0, 0, 1, []), false, 7, 0, 0, [], [], (0, [], [], [(20, [2, 0], [50, 1, 1, 1158, 1160, 4, 6, 1, 2, 1, 0, 0, 1, 1, 6, 3, 1, 160, 2, 1, 158, 0, 1]), (20, [0, 2], [60, 3, 4, 33, 8, 158, 10, 160, 162, 163, 1])], []))
abbrev b_Mo_word_at_s5029 : ByteArray := prog_15_method_213_code
def y_Mo_word_at_s5029 : MethodName := ⟨"DrawingHouseModel", "word", "(Ljava/lang/String;)Z"⟩
abbrev z_Mo_word_at_s5029 : List Cond := Cond.code y_Mo_word_at_s5029 b_Mo_word_at_s5029 4 (some .boolean) :: lw_g
def e_Mo_word_at_s5029 : en_T := ([(2, 0, 0, [165]), (2, 0, 0, [5029])], some (0, 0, 1, []), false, 7, 0, 0, [], [], (0, [], [], [(20, [2, 0], [50, 1, 1, 1158, 1160, 4, 6, 1, 2, 1, 0, 0, 1, 1, 6, 3, 1, 160, 2, 1, 158, 0, 1]), (20, [0, 2], [60, 3, 4, 34, 8, 158, 10, 160, 162, 163, 1])], []))
abbrev b_Mo_word_at_s5030 : ByteArray := prog_15_method_213_code
def y_Mo_word_at_s5030 : MethodName := ⟨"DrawingHouseModel", "word", "(Ljava/lang/String;)Z"⟩
abbrev z_Mo_word_at_s5030 : List Cond := Cond.code y_Mo_word_at_s5030 b_Mo_word_at_s5030 4 (some .boolean) :: lw_g
def e_Mo_word_at_s5030 : en_T := ([(2, 0, 0, [165]), (2, 0, 0, [5030])], some (0, 0, 1, []), false, 7, 0, 0, [], [], (0, [], [], [(20, [2, 0], [50, 1, 1, 1158, 1160, 4, 6, 1, 2, 1, 0, 0, 1, 1, 6, 3, 1, 160, 2, 1, 158, 0, 1]), (20, [0, 2], [60, 3, 4, 35, 8, 158, 10, 160, 162, 163, 1])], []))
abbrev b_Mo_word_at_s5031 : ByteArray := prog_15_method_213_code
def y_Mo_word_at_s5031 : MethodName := ⟨"DrawingHouseModel", "word", "(Ljava/lang/String;)Z"⟩
abbrev z_Mo_word_at_s5031 : List Cond := Cond.code y_Mo_word_at_s5031 b_Mo_word_at_s5031 4 (some .boolean) :: lw_g
def e_Mo_word_at_s5031 : en_T := ([(2, 0, 0, [165]), (2, 0, 0, [5031])], some (0, 0, 1, []), false, 7, 0, 0, [], [], (0, [], [], [(20, [2, 0], [50, 1, 1, 1158, 1160, 4, 6, 1, 2, 1, 0, 0, 1, 1, 6, 3, 1, 160, 2, 1, 158, 0, 1]), (20, [0, 2], [60, 3, 4, 36, 8, 158, 10, 160, 162, 163, 1])], []))
abbrev b_Mo_word_at_s5032 : ByteArray := prog_15_method_213_code
def y_Mo_word_at_s5032 : MethodName := ⟨"DrawingHouseModel", "word", "(Ljava/lang/String;)Z"⟩
abbrev z_Mo_word_at_s5032 : List Cond := Cond.code y_Mo_word_at_s5032 b_Mo_word_at_s5032 4 (some .boolean) :: lw_g
def e_Mo_word_at_s5032 : en_T := ([(2, 0, 0, [165]), (2, 0, 0, [5032])], some (0, 0, 1, []), false, 7, 0, 0, [], [], (0, [], [], [(20, [2, 0], [50, 1, 1, 1158, 1160, 4, 6, 1, 2, 1, 0, 0, 1, 1, 6, 3, 1, 160, 2, 1, 158, 0, 1]), (20, [0, 2], [60, 3, 4, 37, 8, 158, 10, 160, 162, 163, 1])], []))
abbrev b_Mo_word_at_s5033 : ByteArray := prog_15_method_213_code
def y_Mo_word_at_s5033 : MethodName := ⟨"DrawingHouseModel", "word", "(Ljava/lang/String;)Z"⟩
abbrev z_Mo_word_at_s5033 : List Cond := Cond.code y_Mo_word_at_s5033 b_Mo_word_at_s5033 4 (some .boolean) :: lw_g
def e_Mo_word_at_s5033 : en_T := ([(2, 0, 0, [165]), (2, 0, 0, [5033])], some (0, 0, 1, []), false, 7, 0, 0, [], [], (0, [], [], [(20, [2, 0], [50, 1, 1, 1158, 1160, 4, 6, 1, 2, 1, 0, 0, 1, 1, 6, 3, 1, 160, 2, 1, 158, 0, 1]), (20, [0, 2], [60, 3, 4, 39, 8, 158, 10, 160, 162, 163, 1])], []))
abbrev b_Mo_word_at_s5034 : ByteArray := prog_15_method_213_code
def y_Mo_word_at_s5034 : MethodName := ⟨"DrawingHouseModel", "word", "(Ljava/lang/String;)Z"⟩
abbrev z_Mo_word_at_s5034 : List Cond := Cond.code y_Mo_word_at_s5034 b_Mo_word_at_s5034 4 (some .boolean) :: lw_g
def e_Mo_word_at_s5034 : en_T := ([(2, 0, 0, [165]), (2, 0, 0, [5034])], some (0, 0, 1, []), false, 7, 0, 0, [], [], (0, [], [], [(20, [2, 0], [50, 1, 1, 1158, 1160, 4, 6, 1, 2, 1, 0, 0, 1, 1, 6, 3, 1, 160, 2, 1, 158, 0, 1]), (20, [0, 2], [60, 3, 4, 40, 8, 158, 10, 160, 162, 163, 1])], []))
abbrev b_Mo_word_at_s5035 : ByteArray := prog_15_method_213_code
def y_Mo_word_at_s5035 : MethodName := ⟨"DrawingHouseModel", "word", "(Ljava/lang/String;)Z"⟩
abbrev z_Mo_word_at_s5035 : List Cond := Cond.code y_Mo_word_at_s5035 b_Mo_word_at_s5035 4 (some .boolean) :: lw_g
def e_Mo_word_at_s5035 : en_T := ([(2, 0, 0, [165]), (2, 0, 0, [5035])], some (0, 0, 1, []), false, 7, 0, 0, [], [], (0, [], [], [(20, [2, 0], [50, 1, 1, 1158, 1160, 4, 6, 1, 2, 1, 0, 0, 1, 1, 6, 3, 1, 160, 2, 1, 158, 0, 1]), (20, [0, 2], [60, 3, 4, 41, 8, 158, 10, 160, 162, 163, 1])], []))
abbrev b_Mo_word_at_s5036 : ByteArray := prog_15_method_213_code
def y_Mo_word_at_s5036 : MethodName := ⟨"DrawingHouseModel", "word", "(Ljava/lang/String;)Z"⟩
abbrev z_Mo_word_at_s5036 : List Cond := Cond.code y_Mo_word_at_s5036 b_Mo_word_at_s5036 4 (some .boolean) :: lw_g
def e_Mo_word_at_s5036 : en_T := ([(2, 0, 0, [165]), (2, 0, 0, [5036])], some (0, 0, 1, []), false, 7, 0, 0, [], [], (0, [], [], [(20, [2, 0], [50, 1, 1, 1158, 1160, 4, 6, 1, 2, 1, 0, 0, 1, 1, 6, 3, 1, 160, 2, 1, 158, 0, 1]), (20, [0, 2], [60, 3, 4, 42, 8, 158, 10, 160, 162, 163, 1])], []))
abbrev b_Mo_word_at_s5037 : ByteArray := prog_15_method_213_code
def y_Mo_word_at_s5037 : MethodName := ⟨"DrawingHouseModel", "word", "(Ljava/lang/String;)Z"⟩
abbrev z_Mo_word_at_s5037 : List Cond := Cond.code y_Mo_word_at_s5037 b_Mo_word_at_s5037 4 (some .boolean) :: lw_g
def e_Mo_word_at_s5037 : en_T := ([(2, 0, 0, [165]), (2, 0, 0, [5037])], some (0, 0, 1, []), false, 7, 0, 0, [], [], (0, [], [], [(20, [2, 0], [50, 1, 1, 1158, 1160, 4, 6, 1, 2, 1, 0, 0, 1, 1, 6, 3, 1, 160, 2, 1, 158, 0, 1]), (20, [0, 2], [60, 3, 4, 43, 8, 158, 10, 160, 162, 163, 1])], []))
abbrev b_Mo_word_at_s5038 : ByteArray := prog_15_method_213_code
def y_Mo_word_at_s5038 : MethodName := ⟨"DrawingHouseModel", "word", "(Ljava/lang/String;)Z"⟩
abbrev z_Mo_word_at_s5038 : List Cond := Cond.code y_Mo_word_at_s5038 b_Mo_word_at_s5038 4 (some .boolean) :: lw_g
def e_Mo_word_at_s5038 : en_T := ([(2, 0, 0, [165]), (2, 0, 0, [5038])], some (0, 0, 1, []), false, 7, 0, 0, [], [], (0, [], [], [(20, [2, 0], [50, 1, 1, 1158, 1160, 4, 6, 1, 2, 1, 0, 0, 1, 1, 6, 3, 1, 160, 2, 1, 158, 0, 1]), (20, [0, 2], [60, 3, 4, 44, 8, 158, 10, 160, 162, 163, 1])], []))
abbrev b_Mo_word_at_s5039 : ByteArray := prog_15_method_213_code
def y_Mo_word_at_s5039 : MethodName := ⟨"DrawingHouseModel", "word", "(Ljava/lang/String;)Z"⟩
abbrev z_Mo_word_at_s5039 : List Cond := Cond.code y_Mo_word_at_s5039 b_Mo_word_at_s5039 4 (some .boolean) :: lw_g
def e_Mo_word_at_s5039 : en_T := ([(2, 0, 0, [165]), (2, 0, 0, [5039])], some (0, 0, 1, []), false, 7, 0, 0, [], [], (0, [], [], [(20, [2, 0], [50, 1, 1, 1158, 1160, 4, 6, 1, 2, 1, 0, 0, 1, 1, 6, 3, 1, 160, 2, 1, 158, 0, 1]), (20, [0, 2], [60, 3, 4, 45, 8, 158, 10, 160, 162, 163, 1])], []))
abbrev b_Mo_word_at_s5040 : ByteArray := prog_15_method_213_code
def y_Mo_word_at_s5040 : MethodName := ⟨"DrawingHouseModel", "word", "(Ljava/lang/String;)Z"⟩
abbrev z_Mo_word_at_s5040 : List Cond := Cond.code y_Mo_word_at_s5040 b_Mo_word_at_s5040 4 (some .boolean) :: lw_g
def e_Mo_word_at_s5040 : en_T := ([(2, 0, 0, [165]), (2, 0, 0, [5040])], some (0, 0, 1, []), false, 7, 0, 0, [], [], (0, [], [], [(20, [2, 0], [50, 1, 1, 1158, 1160, 4, 6, 1, 2, 1, 0, 0, 1, 1, 6, 3, 1, 160, 2, 1, 158, 0, 1]), (20, [0, 2], [60, 3, 4, 26, 8, 158, 10, 160, 162, 163, 1])], []))
abbrev b_Mo_word_at_s5041 : ByteArray := prog_15_method_213_code
def y_Mo_word_at_s5041 : MethodName := ⟨"DrawingHouseModel", "word", "(Ljava/lang/String;)Z"⟩
abbrev z_Mo_word_at_s5041 : List Cond := Cond.code y_Mo_word_at_s5041 b_Mo_word_at_s5041 4 (some .boolean) :: lw_g
def e_Mo_word_at_s5041 : en_T := ([(2, 0, 0, [165]), (2, 0, 0, [5041])], some (0, 0, 1, []), false, 7, 0, 0, [], [], (0, [], [], [(20, [2, 0], [50, 1, 1, 1158, 1160, 4, 6, 1, 2, 1, 0, 0, 1, 1, 6, 3, 1, 160, 2, 1, 158, 0, 1]), (20, [0, 2], [60, 3, 4, 25, 8, 158, 10, 160, 162, 163, 1])], []))
abbrev b_Mo_word_at_s5042 : ByteArray := prog_15_method_213_code
def y_Mo_word_at_s5042 : MethodName := ⟨"DrawingHouseModel", "word", "(Ljava/lang/String;)Z"⟩
abbrev z_Mo_word_at_s5042 : List Cond := Cond.code y_Mo_word_at_s5042 b_Mo_word_at_s5042 4 (some .boolean) :: lw_g
def e_Mo_word_at_s5042 : en_T := ([(2, 0, 0, [165]), (2, 0, 0, [5042])], some (0, 0, 1, []), false, 7, 0, 0, [], [], (0, [], [], [(20, [2, 0], [50, 1, 1, 1158, 1160, 4, 6, 1, 2, 1, 0, 0, 1, 1, 6, 3, 1, 160, 2, 1, 158, 0, 1]), (20, [0, 2], [60, 3, 4, 22, 8, 158, 10, 160, 162, 163, 1])], []))
abbrev b_Mo_word_at_s5043 : ByteArray := prog_15_method_213_code
def y_Mo_word_at_s5043 : MethodName := ⟨"DrawingHouseModel", "word", "(Ljava/lang/String;)Z"⟩
abbrev z_Mo_word_at_s5043 : List Cond := Cond.code y_Mo_word_at_s5043 b_Mo_word_at_s5043 4 (some .boolean) :: lw_g
def e_Mo_word_at_s5043 : en_T := ([(2, 0, 0, [165]), (2, 0, 0, [5043])], some (0, 0, 1, []), false, 7, 0, 0, [], [], (0, [], [], [(20, [2, 0], [50, 1, 1, 1158, 1160, 4, 6, 1, 2, 1, 0, 0, 1, 1, 6, 3, 1, 160, 2, 1, 158, 0, 1]), (20, [0, 2], [60, 3, 4, 23, 8, 158, 10, 160, 162, 163, 1])], []))
abbrev b_Mo_word_at_s5044 : ByteArray := prog_15_method_213_code
def y_Mo_word_at_s5044 : MethodName := ⟨"DrawingHouseModel", "word", "(Ljava/lang/String;)Z"⟩
abbrev z_Mo_word_at_s5044 : List Cond := Cond.code y_Mo_word_at_s5044 b_Mo_word_at_s5044 4 (some .boolean) :: lw_g
def e_Mo_word_at_s5044 : en_T := ([(2, 0, 0, [165]), (2, 0, 0, [5044])], some (0, 0, 1, []), false, 7, 0, 0, [], [], (0, [], [], [(20, [2, 0], [50, 1, 1, 1158, 1160, 4, 6, 1, 2, 1, 0, 0, 1, 1, 6, 3, 1, 160, 2, 1, 158, 0, 1]), (20, [0, 2], [60, 3, 4, 24, 8, 158, 10, 160, 162, 163, 1])], []))
abbrev b_Mo_write_at_s5013 : ByteArray := prog_15_method_233_code
def y_Mo_write_at_s5013 : MethodName := ⟨"DrawingHouseModel", "write", "(Ljava/lang/String;)V"⟩
abbrev z_Mo_write_at_s5013 : List Cond := Cond.code y_Mo_write_at_s5013 b_Mo_write_at_s5013 3 none :: lw_g
def e_Mo_write_at_s5013 : en_T := ([(2, 0, 0, [165]), (2, 0, 0, [5013])], none, false, 7, 0, 0, [], [], (7770675568902916283677847627294075626569627356208558085007249638955617140820833992704, [(165, 170)], [(20, [0, 2], [30, 0, 1, 1, 170, -1, 0, 0])], [(20, [0, 2], [30, 5, 1, 1, 170, -1, 0, 0])], [(0, 0, 99999995, [])]))
abbrev b_Mo_write_at_s5014 : ByteArray := prog_15_method_233_code
def y_Mo_write_at_s5014 : MethodName := ⟨"DrawingHouseModel", "write", "(Ljava/lang/String;)V"⟩
abbrev z_Mo_write_at_s5014 : List Cond := Cond.code y_Mo_write_at_s5014 b_Mo_write_at_s5014 3 none :: lw_g
def e_Mo_write_at_s5014 : en_T := ([(2, 0, 0, [165]), (2, 0, 0, [5014])], none, false, 7, 0, 0, [], [], (7770675568902916283677847627294075626569627356208558085007249638955617140820833992704, [(165, 170)], [(20, [0, 2], [30, 0, 1, 1, 170, -1, 0, 0])], [(20, [0, 2], [30, 7, 1, 1, 170, -1, 0, 0])], [(0, 0, 99999993, [])]))
abbrev b_Mo_write_at_s5015 : ByteArray := prog_15_method_233_code
def y_Mo_write_at_s5015 : MethodName := ⟨"DrawingHouseModel", "write", "(Ljava/lang/String;)V"⟩
abbrev z_Mo_write_at_s5015 : List Cond := Cond.code y_Mo_write_at_s5015 b_Mo_write_at_s5015 3 none :: lw_g
def e_Mo_write_at_s5015 : en_T := ([(2, 0, 0, [165]), (2, 0, 0, [5015])], none, false, 7, 0, 0, [], [], (7770675568902916283677847627294075626569627356208558085007249638955617140820833992704, [(165, 170)], [(20, [0, 2], [30, 0, 1, 1, 170, -1, 0, 0])], [(20, [0, 2], [30, 2, 1, 1, 170, -1, 0, 0])], [(0, 0, 99999998, [])]))
abbrev b_Mo_write_at_s5016 : ByteArray := prog_15_method_233_code
def y_Mo_write_at_s5016 : MethodName := ⟨"DrawingHouseModel", "write", "(Ljava/lang/String;)V"⟩
abbrev z_Mo_write_at_s5016 : List Cond := Cond.code y_Mo_write_at_s5016 b_Mo_write_at_s5016 3 none :: lw_g
def e_Mo_write_at_s5016 : en_T := ([(2, 0, 0, [165]), (2, 0, 0, [5016])], none, false, 7, 0, 0, [], [], (7770675568902916283677847627294075626569627356208558085007249638955617140820833992704, [(165, 170)], [(20, [0, 2], [30, 0, 1, 1, 170, -1, 0, 0])], [(20, [0, 2], [30, 6, 1, 1, 170, -1, 0, 0])], [(0, 0, 99999994, [])]))
abbrev b_Mo_write_at_s5017 : ByteArray := prog_15_method_233_code
def y_Mo_write_at_s5017 : MethodName := ⟨"DrawingHouseModel", "write", "(Ljava/lang/String;)V"⟩
abbrev z_Mo_write_at_s5017 : List Cond := Cond.code y_Mo_write_at_s5017 b_Mo_write_at_s5017 3 none :: lw_g
def e_Mo_write_at_s5017 : en_T := ([(2, 0, 0, [165]), (2, 0, 0, [5017])], none, false, 7, 0, 0, [], [], (7770675568902916283677847627294075626569627356208558085007249638955617140820833992704, [(165, 170)], [(20, [0, 2], [30, 0, 1, 1, 170, -1, 0, 0])], [(20, [0, 2], [30, 3, 1, 1, 170, -1, 0, 0])], [(0, 0, 99999997, [])]))
abbrev b_Mo_write_at_s5018 : ByteArray := prog_15_method_233_code
def y_Mo_write_at_s5018 : MethodName := ⟨"DrawingHouseModel", "write", "(Ljava/lang/String;)V"⟩
abbrev z_Mo_write_at_s5018 : List Cond := Cond.code y_Mo_write_at_s5018 b_Mo_write_at_s5018 3 none :: lw_g
def e_Mo_write_at_s5018 : en_T := ([(2, 0, 0, [165]), (2, 0, 0, [5018])], none, false, 7, 0, 0, [], [], (7770675568902916283677847627294075626569627356208558085007249638955617140820833992704, [(165, 170)], [(20, [0, 2], [30, 0, 1, 1, 170, -1, 0, 0])], [(20, [0, 2], [30, 2, 1, 1, 170, -1, 0, 0])], [(0, 0, 99999998, [])]))
abbrev b_Mo_write_at_s5019 : ByteArray := prog_15_method_233_code
def y_Mo_write_at_s5019 : MethodName := ⟨"DrawingHouseModel", "write", "(Ljava/lang/String;)V"⟩
abbrev z_Mo_write_at_s5019 : List Cond := Cond.code y_Mo_write_at_s5019 b_Mo_write_at_s5019 3 none :: lw_g
def e_Mo_write_at_s5019 : en_T := ([(2, 0, 0, [165]), (2, 0, 0, [5019])], none, false, 7, 0, 0, [], [], (7770675568902916283677847627294075626569627356208558085007249638955617140820833992704, [(165, 170)], [(20, [0, 2], [30, 0, 1, 1, 170, -1, 0, 0])], [(20, [0, 2], [30, 3, 1, 1, 170, -1, 0, 0])], [(0, 0, 99999997, [])]))
abbrev b_Mo_write_at_s5020 : ByteArray := prog_15_method_233_code
def y_Mo_write_at_s5020 : MethodName := ⟨"DrawingHouseModel", "write", "(Ljava/lang/String;)V"⟩
abbrev z_Mo_write_at_s5020 : List Cond := Cond.code y_Mo_write_at_s5020 b_Mo_write_at_s5020 3 none :: lw_g
def e_Mo_write_at_s5020 : en_T := ([(2, 0, 0, [165]), (2, 0, 0, [5020])], none, false, 7, 0, 0, [], [], (7770675568902916283677847627294075626569627356208558085007249638955617140820833992704, [(165, 170)], [(20, [0, 2], [30, 0, 1, 1, 170, -1, 0, 0])], [(20, [0, 2], [30, 3, 1, 1, 170, -1, 0, 0])], [(0, 0, 99999997, [])]))
abbrev b_Mo_write_at_s5021 : ByteArray := prog_15_method_233_code
def y_Mo_write_at_s5021 : MethodName := ⟨"DrawingHouseModel", "write", "(Ljava/lang/String;)V"⟩
abbrev z_Mo_write_at_s5021 : List Cond := Cond.code y_Mo_write_at_s5021 b_Mo_write_at_s5021 3 none :: lw_g
def e_Mo_write_at_s5021 : en_T := ([(2, 0, 0, [165]), (2, 0, 0, [5021])], none, false, 7, 0, 0, [], [], (7770675568902916283677847627294075626569627356208558085007249638955617140820833992704, [(165, 170)], [(20, [0, 2], [30, 0, 1, 1, 170, -1, 0, 0])], [(20, [0, 2], [30, 9, 1, 1, 170, -1, 0, 0])], [(0, 0, 99999991, [])]))
abbrev b_Mo_write_at_s5045 : ByteArray := prog_15_method_233_code
def y_Mo_write_at_s5045 : MethodName := ⟨"DrawingHouseModel", "write", "(Ljava/lang/String;)V"⟩
abbrev z_Mo_write_at_s5045 : List Cond := Cond.code y_Mo_write_at_s5045 b_Mo_write_at_s5045 3 none :: lw_g
def e_Mo_write_at_s5045 : en_T := ([(2, 0, 0, [165]), (2, 0, 0, [5045])], none, false, 7, 0, 0, [], [], (7770675568902916283677847627294075626569627356208558085007249638955617140820833992704, [(165, 170)], [(20, [0, 2], [30, 0, 1, 1, 170, -1, 0, 0])], [(20, [0, 2], [30, 1, 1, 1, 170, -1, 0, 0])], [(0, 0, 99999999, [])]))
abbrev b_La_stretchRows : ByteArray := prog_6_method_29_code
def y_La_stretchRows : MethodName := ⟨"DrawingHouse$Layers", "stretchRows", "()V"⟩
abbrev z_La_stretchRows : List Cond := Cond.code y_La_stretchRows b_La_stretchRows 6 none :: lw_g
def e_La_stretchRows : en_T := ([(2, 0, 0, [4])], none, false, 9, 0, 0, [], [((0, 0), (2, 0, 0, [10])), ((0, 1), (2, 0, 0, [3]))], (42202988866171078964695874163900940288, [(10, 0), (10, 1)], [(20, [0], [30, -1, -1, 1, 2])], [(20, [1], [60, 0, 1, 543, 6])], []))
abbrev b_Mo_areaOf : ByteArray := prog_15_method_210_code
def y_Mo_areaOf : MethodName := ⟨"DrawingHouseModel", "areaOf", "()J"⟩
abbrev z_Mo_areaOf : List Cond := Cond.code y_Mo_areaOf b_Mo_areaOf 1 (some .long) :: lw_g
def e_Mo_areaOf : en_T := ([(2, 0, 0, [165])], some (1, -9223372036854775808, 9223372036854775807, []), false, 9, 0, 0, [], [], (0, [(165, 153), (165, 154), (165, 155), (165, 156)], [], [], []))
abbrev b_Mo_areas : ByteArray := prog_15_method_165_code
def y_Mo_areas : MethodName := ⟨"DrawingHouseModel", "areas", "(II)I"⟩
abbrev z_Mo_areas : List Cond := Cond.code y_Mo_areas b_Mo_areas 5 (some .int) :: lw_g
def e_Mo_areas : en_T := ([(2, 0, 0, [165]), (0, 0, 3, []), (0, -2147483648, 2147483647, [])], some (0, -2, 0, []), false, 9, 0, 0, [], [], (5558020283391266237577502625543295945292817360878016141630708245692451047604224, [(165, 132), (165, 133), (165, 134)], [(20, [0], [60, 1, 1, 782, 5, 2])], [], []))
abbrev b_Mo_edgeWord : ByteArray := prog_15_method_228_code
def y_Mo_edgeWord : MethodName := ⟨"DrawingHouseModel", "edgeWord", "()I"⟩
abbrev z_Mo_edgeWord : List Cond := Cond.code y_Mo_edgeWord b_Mo_edgeWord 1 (some .int) :: lw_g
def e_Mo_edgeWord : en_T := ([(2, 0, 0, [165])], some (0, -1, 7, []), false, 8, 0, 0, [], [], (0, [], [], [(20, [0, 1], [60, 3, 4, 47, 8, 158, 10, 160, 162, 163, 1])], []))
abbrev b_Mo_isName : ByteArray := prog_15_method_33_code
def y_Mo_isName : MethodName := ⟨"DrawingHouseModel", "isName", "()Z"⟩
abbrev z_Mo_isName : List Cond := Cond.code y_Mo_isName b_Mo_isName 1 (some .boolean) :: lw_g
def e_Mo_isName : en_T := ([(2, 0, 0, [165])], some (0, 0, 1, []), false, 8, 0, 0, [], [], (0, [], [], [(20, [1, 0], [50, 1, 0, 1012, 4, 6, 1, 2, 1, 0, 0, 1, 1, 3, 2, 1, 12, 0, 1]), (20, [0, 1], [60, 4, 1, 962, 12, 11, 10, 15, 1])], []))
abbrev b_Mo_nodeWord : ByteArray := prog_15_method_227_code
def y_Mo_nodeWord : MethodName := ⟨"DrawingHouseModel", "nodeWord", "()I"⟩
abbrev z_Mo_nodeWord : List Cond := Cond.code y_Mo_nodeWord b_Mo_nodeWord 1 (some .int) :: lw_g
def e_Mo_nodeWord : en_T := ([(2, 0, 0, [165])], some (0, -1, 9, []), false, 8, 0, 0, [], [], (0, [], [], [(20, [0, 1], [60, 3, 4, 46, 8, 158, 10, 160, 162, 163, 1])], []))
abbrev b_Mo_turnEdges : ByteArray := prog_15_method_117_code
def y_Mo_turnEdges : MethodName := ⟨"DrawingHouseModel", "turnEdges", "()V"⟩
abbrev z_Mo_turnEdges : List Cond := Cond.code y_Mo_turnEdges b_Mo_turnEdges 4 none :: lw_g
def e_Mo_turnEdges : en_T := ([(2, 0, 0, [165])], none, false, 9, 0, 0, [], [], (51763097600929228705076204292446608541497971031572661589253916479979520, [(165, 99)], [(20, [0], [60, 1, 1, 197, 5, 2])], [(20, [0], [60, 1, 2, 366, 5, 2, 95])], []))
abbrev b_Fa_learnTurned : ByteArray := prog_4_method_18_code
def y_Fa_learnTurned : MethodName := ⟨"DrawingHouse$Facts", "learnTurned", "(LDrawingHouse$Graph;)V"⟩
abbrev z_Fa_learnTurned : List Cond := Cond.code y_Fa_learnTurned b_Fa_learnTurned 6 none :: lw_g
def e_Fa_learnTurned : en_T := ([(2, 0, 0, [2]), (2, 0, 0, [3])], none, false, 10, 0, 0, [], [], (277076930199552, [], [(20, [1], [60, 2, 2, 596, 0, 1, 7, 8])], [(20, [1, 0], [60, 1, 3, 658, 1, 7, 8, 1009])], []))
abbrev b_La_findLayers : ByteArray := prog_6_method_8_code
def y_La_findLayers : MethodName := ⟨"DrawingHouse$Layers", "findLayers", "(LDrawingHouse$Facts;)V"⟩
abbrev z_La_findLayers : List Cond := Cond.code y_La_findLayers b_La_findLayers 3 none :: lw_g
def e_La_findLayers : en_T := ([(2, 0, 0, [4]), (2, 0, 0, [2])], none, false, 9, 0, 0, [], [((0, 1), (2, 0, 0, [3]))], (42202988866171078969307560182328328192, [(4, 2), (10, 0), (10, 1)], [(20, [2], [60, 2, 2, 596, 0, 1, 7, 8]), (20, [2, 1], [60, 1, 3, 658, 1, 7, 8, 1009])], [(20, [0, 2, 1], [60, 3, 4, 660, 2, 1000, 1001, 4, 1007, 1008, 2009])], []))
abbrev b_Pl_layAreas : ByteArray := prog_8_method_9_code
def y_Pl_layAreas : MethodName := ⟨"DrawingHouse$PlainWays", "layAreas", "(I)V"⟩
abbrev z_Pl_layAreas : List Cond := Cond.code y_Pl_layAreas b_Pl_layAreas 3 none :: lw_g
def e_Pl_layAreas : en_T := ([(2, 0, 0, [6]), (0, 8, 512, [])], none, false, 9, 0, 0, [], [((0, 1), (2, 0, 0, [0])), ((0, 0), (2, 0, 0, [3]))], (277298568799925181577408069632, [(6, 11), (6, 13), (6, 14)], [(20, [4, 5], [62, 2000000])], [(20, [4, 5], [62, 2000000])], [(2, 0, 0, [12]), (0, 0, 3072, [])]))
abbrev b_Ro_lead : ByteArray := prog_11_method_2_code
def y_Ro_lead : MethodName := ⟨"DrawingHouse$Router", "lead", "(LDrawingHouse$Graph;LDrawingHouse$Drawing;I)I"⟩
abbrev z_Ro_lead : List Cond := Cond.code y_Ro_lead b_Ro_lead 7 (some .int) :: lw_g
def e_Ro_lead : en_T := ([(2, 0, 0, [9]), (2, 0, 0, [3]), (2, 0, 0, [0]), (0, 0, 47, [])], some (0, -4, 0, []), false, 9, 0, 0, [], [], (329710850516961554411686516905934848, [(9, 0), (9, 1), (9, 2), (9, 3), (9, 4), (9, 5), (9, 6), (9, 7), (9, 8), (9, 14), (9, 17)], [(20, [1], [60, 2, 2, 596, 0, 1, 7, 8]), (20, [3, 1], [50, 1, 0, 1001, 2, 6, 0, 2, 0, 0, 1, 0, 0, 6, 4, 2, 1, 0, 0, 1, 2, 1, 1])], [], []))
abbrev b_Sy_closes : ByteArray := prog_13_method_14_code
def y_Sy_closes : MethodName := ⟨"DrawingHouse$Styler", "closes", "(I)Z"⟩
abbrev z_Sy_closes : List Cond := Cond.code y_Sy_closes b_Sy_closes 2 (some .boolean) :: lw_g
def e_Sy_closes : en_T := ([(2, 0, 0, [11]), (0, 41, 125, [])], some (0, 0, 1, []), false, 8, 0, 0, [([(2, 0, 0, [11]), (0, 41, 125, []), (2, 0, 0, [109]), (0, 1, 1, [])], [], [3], [((0, 3), 2)], [], []), ([(2, 0, 0, [11]), (0, 41, 125, []), (2, 0, 0, [109]), (0, 0, 0, [])], [], [3], [((0, 3), 2)], [], [])], [((0, 3), (2, 0, 0, [109]))], (0, [(11, 1), (11, 2), (11, 5), (11, 6), (11, 7), (11, 8)], [(20, [0], [50, 2, 0, 6, 8, 3, 7, 7, 3, 2, 0, 6, 0, 3, 0, 3, 2, 0, 8, 0, 9999])], [(20, [0], [50, 2, 0, 6, 8, 3, 7, 7, 3, 2, 0, 6, 0, 3, 0, 3, 2, 0, 8, 0, 9999])], []))
abbrev b_Mo_ofEdge : ByteArray := prog_15_method_207_code
def y_Mo_ofEdge : MethodName := ⟨"DrawingHouseModel", "ofEdge", "(II)J"⟩
abbrev z_Mo_ofEdge : List Cond := Cond.code y_Mo_ofEdge b_Mo_ofEdge 11 (some .long) :: lw_g
def e_Mo_ofEdge : en_T := ([(2, 0, 0, [165]), (0, 0, 47, []), (0, 2, 8, [])], some (1, -9223372036854775808, 9223372036854775807, []), true, 8, 0, 0, [], [], (0, [], [], [], []))
abbrev b_Mo_writeDrawing : ByteArray := prog_15_method_239_code
def y_Mo_writeDrawing : MethodName := ⟨"DrawingHouseModel", "writeDrawing", "()V"⟩
abbrev z_Mo_writeDrawing : List Cond := Cond.code y_Mo_writeDrawing b_Mo_writeDrawing 3 none :: lw_g
def e_Mo_writeDrawing : en_T := ([(2, 0, 0, [165])], none, false, 9, 0, 0, [], [], (7770675568902916283677847627294075626569627356208558085007249638955617140820833992704, [(165, 170)], [(20, [0, 1], [30, 0, 1, 1, 170, -1, 0, 0])], [(20, [0, 1], [30, 34488, 1, 1, 170, -1, 0, 0])], [(0, 0, 99965512, [])]))
abbrev b_Ho_dots : ByteArray := prog_1_method_28_code
def y_Ho_dots : MethodName := ⟨"DrawingHouse", "dots", "(III)I"⟩
abbrev z_Ho_dots : List Cond := Cond.code y_Ho_dots b_Ho_dots 8 (some .int) :: lw_g
def e_Ho_dots : en_T := ([(2, 0, 0, [12]), (0, -2147483648, 2147483647, []), (0, -2147483648, 2147483647, []), (0, -2147483648, 2147483647, [])], some (0, -1, 2147483647, []), false, 8, 0, 0, [], [], (348449143727040986586495598010130648530944, [(0, 17), (0, 18), (0, 19), (0, 20), (12, 14), (12, 15)], [(20, [0], [62, 0]), (20, [0, 4], [62, 2000000])], [(20, [0], [62, 0]), (20, [0, 4], [62, 2000000])], [(0, 0, 3066, [])]))
abbrev b_La_bestOrders : ByteArray := prog_6_method_15_code
def y_La_bestOrders : MethodName := ⟨"DrawingHouse$Layers", "bestOrders", "()V"⟩
abbrev z_La_bestOrders : List Cond := Cond.code y_La_bestOrders b_La_bestOrders 7 none :: lw_g
def e_La_bestOrders : en_T := ([(2, 0, 0, [4])], none, false, 12, 0, 0, [], [], (535988595805704731754496, [], [(20, [0], [60, 1, 1, 636, 2, 10]), (20, [0], [50, 1, 0, 2, 0, 2, 0, 1, 2, 0, 2]), (20, [0], [60, 0, 1, 648, 17]), (20, [0], [60, 2, 2, 668, 3, 2, 7, 9]), (20, [0], [60, 1, 1, 688, 3, 12])], [], []))
abbrev b_Mo_across2 : ByteArray := prog_15_method_138_code
def y_Mo_across2 : MethodName := ⟨"DrawingHouseModel", "across", "()V"⟩
abbrev z_Mo_across2 : List Cond := Cond.code y_Mo_across2 b_Mo_across2 5 none :: lw_g
def e_Mo_across2 : en_T := ([(2, 0, 0, [165])], none, false, 10, 0, 0, [], [], (3450030675061933436223794586917043362767003325321988884691227624079360, [(165, 79), (165, 80), (165, 81), (165, 94)], [(20, [0], [60, 4, 6, 445, 5, 100, 101, 107, 2, 95, 102, 104, 108, 109]), (20, [0], [60, 2, 3, 448, 100, 101, 102, 105, 106]), (20, [0], [60, 1, 1, 197, 5, 2])], [(20, [0], [60, 3, 8, 424, 79, 80, 81, 82, 83, 84, 85, 86, 87, 88, 89]), (20, [0], [50, 2, 0, 79, 100, 1, 3, 2, 0, 79, 2, 0, 100])], []))
abbrev b_Mo_tree : ByteArray := prog_15_method_159_code
def y_Mo_tree : MethodName := ⟨"DrawingHouseModel", "tree", "(I)I"⟩
abbrev z_Mo_tree : List Cond := Cond.code y_Mo_tree b_Mo_tree 9 (some .int) :: lw_g
def e_Mo_tree : en_T := ([(2, 0, 0, [165]), (0, -2147483648, 2147483647, [])], some (0, -2, 0, []), false, 9, 0, 0, [], [], (1621089249322505720148745234950052327749745126473525904500485206242373180325888, [], [(20, [0], [60, 1, 1, 197, 5, 2])], [], []))
abbrev b_Sy_apply : ByteArray := prog_13_method_18_code
def y_Sy_apply : MethodName := ⟨"DrawingHouse$Styler", "apply", "(LDrawingHouse$Graph;LDrawingHouse$Facts;LDrawingHouse$Drawing;)V"⟩
abbrev z_Sy_apply : List Cond := Cond.code y_Sy_apply b_Sy_apply 5 none :: lw_g
def e_Sy_apply : en_T := ([(2, 0, 0, [11]), (2, 0, 0, [3]), (2, 0, 0, [2]), (2, 0, 0, [0])], none, false, 9, 0, 0, [], [], (2041694201525630780780247644590617657344, [(11, 15)], [], [], []))
abbrev b_Ho_writeEdges : ByteArray := prog_1_method_42_code
def y_Ho_writeEdges : MethodName := ⟨"DrawingHouse", "writeEdges", "(LDrawingHouse$Graph;)V"⟩
abbrev z_Ho_writeEdges : List Cond := Cond.code y_Ho_writeEdges b_Ho_writeEdges 3 none :: lw_g
def e_Ho_writeEdges : en_T := ([(2, 0, 0, [12]), (2, 0, 0, [3])], none, false, 8, 0, 0, [], [], (261336857795280739939871698507597986398208, [(12, 12)], [(20, [0, 2], [30, 0, 1, 1, 12, -1, 0, 0])], [(20, [0, 2], [30, 1872, 1, 1, 12, -1, 0, 0])], [(0, 0, 99998128, [])]))
abbrev b_Mo_draws : ByteArray := prog_15_method_68_code
def y_Mo_draws : MethodName := ⟨"DrawingHouseModel", "draws", "(I)Z"⟩
abbrev z_Mo_draws : List Cond := Cond.code y_Mo_draws b_Mo_draws 6 (some .boolean) :: lw_g
def e_Mo_draws : en_T := ([(2, 0, 0, [165]), (0, 0, 79, [])], some (0, 0, 1, []), false, 10, 0, 0, [], [], (100335595942057127393464520259929641317048075893202369904640, [(165, 39), (165, 45), (165, 49)], [(20, [0], [60, 2, 2, 75, 31, 32, 33, 34]), (20, [0, 2], [60, 1, 4, 97, 32, 33, 34, 35, 17]), (23, [1, 2], [-1, 1, -1]), (20, [0], [50, 1, 0, 49, 1, 3, 2, 0, 49, 0, -1])], [(20, [0, 1, 3], [60, 2, 6, 169, 32, 39, 33, 34, 35, 17, 40, 41]), (20, [0], [50, 1, 0, 49, 1, 3, 2, 0, 49, 0, -1])], [(0, 0, 80, [])]))
abbrev b_Mo_meets : ByteArray := prog_15_method_201_code
def y_Mo_meets : MethodName := ⟨"DrawingHouseModel", "meets", "(IIII)Z"⟩
abbrev z_Mo_meets : List Cond := Cond.code y_Mo_meets b_Mo_meets 29 (some .boolean) :: lw_g
def e_Mo_meets : en_T := ([(2, 0, 0, [165]), (0, 0, 47, []), (0, 0, 24, []), (0, 0, 47, []), (0, 0, 24, [])], some (0, 0, 1, []), true, 9, 0, 0, [], [], (0, [], [(20, [2, 0, 1], [50, 1, 1, 1139, 1064, 0, 2, 1, 0, 3, 1, 64, 4, 7, 6, 2, 0, 48, 2, 1, 139, 1, 2]), (20, [4, 0, 3], [50, 1, 1, 1139, 1064, 0, 2, 1, 0, 3, 1, 64, 4, 7, 6, 2, 0, 48, 2, 1, 139, 1, 2])], [], []))
abbrev b_Ho_writeGroup_at_k0 : ByteArray := prog_1_method_41_code
def y_Ho_writeGroup_at_k0 : MethodName := ⟨"DrawingHouse", "writeGroup", "(LDrawingHouse$Graph;II)V"⟩
abbrev z_Ho_writeGroup_at_k0 : List Cond := Cond.code y_Ho_writeGroup_at_k0 b_Ho_writeGroup_at_k0 5 none :: lw_g
def e_Ho_writeGroup_at_k0 : en_T := ([(2, 0, 0, [12]), (2, 0, 0, [3]), (0, 0, 0, []), (0, 0, 0, [])], none, false, 13, 0, 0, [], [], (261336857795280739939871698507597986398208, [(12, 12)], [(20, [0, 4], [30, 0, 1, 1, 12, -1, 0, 0])], [(20, [0, 4], [30, 28573568, 1, 1, 12, -1, 0, 0])], [(0, 0, 71426432, [])]))
abbrev b_Ho_writeGroup_at_k1 : ByteArray := prog_1_method_41_code
def y_Ho_writeGroup_at_k1 : MethodName := ⟨"DrawingHouse", "writeGroup", "(LDrawingHouse$Graph;II)V"⟩
abbrev z_Ho_writeGroup_at_k1 : List Cond := Cond.code y_Ho_writeGroup_at_k1 b_Ho_writeGroup_at_k1 5 none :: lw_g
def e_Ho_writeGroup_at_k1 : en_T := ([(2, 0, 0, [12]), (2, 0, 0, [3]), (0, 1, 7, []), (0, 1, 1, [])], none, false, 12, 0, 0, [], [], (261336857795280739939871698507597986398208, [(12, 12)], [(20, [0, 4], [30, 0, 1, 1, 12, -1, 0, 0])], [(20, [0, 4], [30, 3571584, 1, 1, 12, -1, 0, 0])], [(0, 0, 96428416, [])]))
abbrev b_Ho_writeGroup_at_k2 : ByteArray := prog_1_method_41_code
def y_Ho_writeGroup_at_k2 : MethodName := ⟨"DrawingHouse", "writeGroup", "(LDrawingHouse$Graph;II)V"⟩
abbrev z_Ho_writeGroup_at_k2 : List Cond := Cond.code y_Ho_writeGroup_at_k2 b_Ho_writeGroup_at_k2 5 none :: lw_g
def e_Ho_writeGroup_at_k2 : en_T := ([(2, 0, 0, [12]), (2, 0, 0, [3]), (0, 2, 7, []), (0, 2, 2, [])], none, false, 11, 0, 0, [], [], (261336857795280739939871698507597986398208, [(12, 12)], [(20, [0, 4], [30, 0, 1, 1, 12, -1, 0, 0])], [(20, [0, 4], [30, 446336, 1, 1, 12, -1, 0, 0])], [(0, 0, 99553664, [])]))
abbrev b_Ho_writeGroup_at_k3 : ByteArray := prog_1_method_41_code
def y_Ho_writeGroup_at_k3 : MethodName := ⟨"DrawingHouse", "writeGroup", "(LDrawingHouse$Graph;II)V"⟩
abbrev z_Ho_writeGroup_at_k3 : List Cond := Cond.code y_Ho_writeGroup_at_k3 b_Ho_writeGroup_at_k3 5 none :: lw_g
def e_Ho_writeGroup_at_k3 : en_T := ([(2, 0, 0, [12]), (2, 0, 0, [3]), (0, 3, 7, []), (0, 3, 3, [])], none, false, 10, 0, 0, [], [], (261336857795280739939871698507597986398208, [(12, 12)], [(20, [0, 4], [30, 0, 1, 1, 12, -1, 0, 0])], [(20, [0, 4], [30, 55680, 1, 1, 12, -1, 0, 0])], [(0, 0, 99944320, [])]))
abbrev b_Ho_writeGroup_at_k4 : ByteArray := prog_1_method_41_code
def y_Ho_writeGroup_at_k4 : MethodName := ⟨"DrawingHouse", "writeGroup", "(LDrawingHouse$Graph;II)V"⟩
abbrev z_Ho_writeGroup_at_k4 : List Cond := Cond.code y_Ho_writeGroup_at_k4 b_Ho_writeGroup_at_k4 5 none :: lw_g
def e_Ho_writeGroup_at_k4 : en_T := ([(2, 0, 0, [12]), (2, 0, 0, [3]), (0, 4, 7, []), (0, 4, 4, [])], none, false, 9, 0, 0, [], [], (261336857795280739939871698507597986398208, [(12, 12)], [(20, [0, 4], [30, 0, 1, 1, 12, -1, 0, 0])], [(20, [0, 4], [30, 6848, 1, 1, 12, -1, 0, 0])], [(0, 0, 99993152, [])]))
abbrev b_Ho_writeGroup_at_k5 : ByteArray := prog_1_method_41_code
def y_Ho_writeGroup_at_k5 : MethodName := ⟨"DrawingHouse", "writeGroup", "(LDrawingHouse$Graph;II)V"⟩
abbrev z_Ho_writeGroup_at_k5 : List Cond := Cond.code y_Ho_writeGroup_at_k5 b_Ho_writeGroup_at_k5 5 none :: lw_g
def e_Ho_writeGroup_at_k5 : en_T := ([(2, 0, 0, [12]), (2, 0, 0, [3]), (0, 5, 7, []), (0, 5, 5, [])], none, false, 8, 0, 0, [], [], (261336857795280739939871698507597986398208, [(12, 12)], [(20, [0, 4], [30, 0, 1, 1, 12, -1, 0, 0])], [(20, [0, 4], [30, 744, 1, 1, 12, -1, 0, 0])], [(0, 0, 99999256, [])]))
abbrev b_Mo_edge : ByteArray := prog_15_method_100_code
def y_Mo_edge : MethodName := ⟨"DrawingHouseModel", "edge", "(III)I"⟩
abbrev z_Mo_edge : List Cond := Cond.code y_Mo_edge b_Mo_edge 5 (some .int) :: lw_g
def e_Mo_edge : en_T := ([(2, 0, 0, [165]), (0, -2147483648, 2147483647, []), (0, -2147483648, 2147483647, []), (0, -2147483648, 2147483647, [])], some (0, -1, 79, []), false, 9, 0, 0, [], [], (59821202890128231881152194696535311218367422062424752128, [(165, 5), (165, 31), (165, 32)], [(20, [0], [60, 0, 3, 198, 2, 3, 4])], [], []))
abbrev b_Pn_layBars : ByteArray := prog_9_method_15_code
def y_Pn_layBars : MethodName := ⟨"DrawingHouse$PlanarWays", "layBars", "(LDrawingHouse$Graph;LDrawingHouse$Net;LDrawingHouse$Drawing;)V"⟩
abbrev z_Pn_layBars : List Cond := Cond.code y_Pn_layBars b_Pn_layBars 5 none :: lw_g
def e_Pn_layBars : en_T := ([(2, 0, 0, [7]), (2, 0, 0, [3]), (2, 0, 0, [5]), (2, 0, 0, [0])], none, false, 9, 0, 0, [], [], (618613492911375947930391166828544, [(7, 3)], [(20, [1], [60, 1, 1, 637, 0, 14]), (20, [2, 1], [60, 1, 1, 639, 1001, 16]), (20, [4, 5], [62, 2000000]), (20, [1], [60, 1, 3, 905, 0, 14, 7, 8])], [(20, [4, 5], [62, 2000000])], [(2, 0, 0, [12]), (0, 0, 3072, [])]))
abbrev b_Re_readValue_at_s5002 : ByteArray := prog_10_method_17_code
def y_Re_readValue_at_s5002 : MethodName := ⟨"DrawingHouse$Reader", "readValue", "(Ljava/lang/String;I)Z"⟩
abbrev z_Re_readValue_at_s5002 : List Cond := Cond.code y_Re_readValue_at_s5002 b_Re_readValue_at_s5002 3 (some .boolean) :: lw_g
def e_Re_readValue_at_s5002 : en_T := ([(2, 0, 0, [8]), (2, 0, 0, [5002]), (0, 99, 99, [])], some (0, 0, 1, []), false, 9, 0, 0, [([(2, 0, 0, [8]), (2, 0, 0, [5002]), (0, 99, 99, []), (2, 0, 0, [164]), (0, 0, 2000, []), (0, 0, 0, [])], [], [5], [((0, 4), 3)], [], []), ([(2, 0, 0, [8]), (2, 0, 0, [5002]), (0, 99, 99, []), (2, 0, 0, [164]), (0, 0, 2000, []), (0, 1, 1, [])], [], [5], [((0, 4), 3)], [], [])], [((0, 4), (2, 0, 0, [164]))], (0, [(8, 2), (8, 3), (8, 6), (8, 7), (8, 8), (8, 9)], [(20, [0, 4], [30, 0, 1, 1, 6, -1, 0, 0]), (20, [0, 4], [30, 0, -1, 1, 6, 1, 0, 0]), (20, [0, 3, 4], [60, 5, 6, 1048, 5, 11, 1000, 1001, 1002, 0, 10, 1004, 1003, 1007, 1008]), (20, [0], [50, 1, 0, 2, 1, 3, 2, 0, 2, 0, 0])], [(20, [5, 0, 2], [31, 1, 0, 1, 0, 0, 0, 1, 1, 9, -1, 0, 0]), (20, [5, 0], [31, 1, 0, 1, 0, 0, -1, -1, 1, 9]), (20, [0, 3, 5], [60, 8, 6, 1064, 5, 6, 11, 2, 3, 1000, 1001, 1002, 0, 10, 1004, 1003, 1007, 1008]), (20, [4, 0], [30, 0, 1, 0, 0, -1, 1, 6])], [(0, 0, 2000, [])]))
abbrev b_Re_readValue_at_s5003 : ByteArray := prog_10_method_17_code
def y_Re_readValue_at_s5003 : MethodName := ⟨"DrawingHouse$Reader", "readValue", "(Ljava/lang/String;I)Z"⟩
abbrev z_Re_readValue_at_s5003 : List Cond := Cond.code y_Re_readValue_at_s5003 b_Re_readValue_at_s5003 3 (some .boolean) :: lw_g
def e_Re_readValue_at_s5003 : en_T := ([(2, 0, 0, [8]), (2, 0, 0, [5003]), (0, 9, 9, [])], some (0, 0, 1, []), false, 9, 0, 0, [([(2, 0, 0, [8]), (2, 0, 0, [5003]), (0, 9, 9, []), (2, 0, 0, [164]), (0, 0, 2000, []), (0, 0, 0, [])], [], [5], [((0, 4), 3)], [], []), ([(2, 0, 0, [8]), (2, 0, 0, [5003]), (0, 9, 9, []), (2, 0, 0, [164]), (0, 0, 2000, []), (0, 1, 1, [])], [], [5], [((0, 4), 3)], [], [])], [((0, 4), (2, 0, 0, [164]))], (0, [(8, 2), (8, 3), (8, 6), (8, 7), (8, 8), (8, 9)], [(20, [0, 4], [30, 0, 1, 1, 6, -1, 0, 0]), (20, [0, 4], [30, 0, -1, 1, 6, 1, 0, 0]), (20, [0, 3, 4], [60, 5, 6, 1049, 5, 11, 1000, 1001, 1002, 0, 10, 1004, 1003, 1007, 1008]), (20, [0], [50, 1, 0, 2, 1, 3, 2, 0, 2, 0, 0])], [(20, [5, 0, 2], [31, 1, 0, 1, 0, 0, 0, 1, 1, 9, -1, 0, 0]), (20, [5, 0], [31, 1, 0, 1, 0, 0, -1, -1, 1, 9]), (20, [0, 3, 5], [60, 8, 6, 1064, 5, 6, 11, 2, 3, 1000, 1001, 1002, 0, 10, 1004, 1003, 1007, 1008]), (20, [4, 0], [30, 0, 1, 0, 0, -1, 1, 6])], [(0, 0, 2000, [])]))
abbrev b_Mo_change : ByteArray := prog_15_method_44_code
def y_Mo_change : MethodName := ⟨"DrawingHouseModel", "change", "(IIII)I"⟩
abbrev z_Mo_change : List Cond := Cond.code y_Mo_change b_Mo_change 5 (some .int) :: lw_g
def e_Mo_change : en_T := ([(2, 0, 0, [165]), (0, -2147483648, 2147483647, []), (0, -2147483648, 2147483647, []), (0, -2147483648, 2147483647, []), (0, -2147483648, 2147483647, [])], some (0, -1, 47, []), false, 10, 0, 0, [], [], (13167250334659475823257885873658196866677045120641816208017981440, [(165, 5)], [(20, [0], [60, 0, 3, 198, 2, 3, 4])], [(20, [0], [60, 0, 3, 198, 2, 3, 4])], []))
abbrev b_Mo_label : ByteArray := prog_15_method_196_code
def y_Mo_label : MethodName := ⟨"DrawingHouseModel", "label", "(III)I"⟩
abbrev z_Mo_label : List Cond := Cond.code y_Mo_label b_Mo_label 5 (some .int) :: lw_g
def e_Mo_label : en_T := ([(2, 0, 0, [165]), (0, -2147483648, 2147483647, []), (0, -2147483648, 2147483647, []), (0, -2147483648, 2147483647, [])], some (0, -2147483648, 1800000000, []), false, 9, 0, 0, [], [], (22765651080770262549837444220588112187215705145142260014669676676627784592248537088, [(165, 5), (165, 139), (165, 150)], [], [], []))
abbrev b_Ho_route : ByteArray := prog_1_method_21_code
def y_Ho_route : MethodName := ⟨"DrawingHouse", "route", "(II)I"⟩
abbrev z_Ho_route : List Cond := Cond.code y_Ho_route b_Ho_route 3 (some .int) :: lw_g
def e_Ho_route : en_T := ([(2, 0, 0, [12]), (0, -2147483648, 2147483647, []), (0, -2147483648, 2147483647, [])], some (0, -4, 0, []), false, 10, 8, 126078, [], [], (329710850516961554411686516905934848, [(9, 0), (9, 1), (9, 2), (9, 3), (9, 4), (9, 5), (9, 6), (9, 7), (9, 8), (9, 14), (9, 17), (12, 20), (303, 0), (303, 1), (303, 2), (303, 3), (303, 4), (303, 5), (303, 6), (303, 7), (303, 8), (303, 9), (303, 10), (303, 11), (303, 12), (303, 13), (303, 14), (303, 15), (303, 16), (303, 17)], [(20, [0], [62, 0])], [(20, [0], [62, 0])], []))
abbrev b_Ho_route_at_b : ByteArray := prog_1_method_21_code
def y_Ho_route_at_b : MethodName := ⟨"DrawingHouse", "route", "(II)I"⟩
abbrev z_Ho_route_at_b : List Cond := Cond.code y_Ho_route_at_b b_Ho_route_at_b 3 (some .int) :: lw_g
def e_Ho_route_at_b : en_T := ([(2, 0, 0, [12]), (0, -2147483648, 2147483647, []), (0, -2147483648, 2147483647, [])], some (0, -1, -1, []), false, 8, 0, 0, [], [], (0, [], [(20, [0], [62, 0]), (20, [1, 0, 2], [51, 0, 0, 2, 4001001003, 4001001000, 3, 6, 0, 2, 1, 0, 0, -1, 3, 6, 0, 2, 0, 4, 1, 0, 3, 10, 1, 6, 14, 1, 3, 4001, 1, 0, 0, -1, 3, 6, 0, 2, 1, 2, 0, -1, 0, 6, 14, 1, 0, 4001, 1, 0, 1, 2])], [(20, [0], [62, 0])], []))
abbrev b_Ho_route_at_c : ByteArray := prog_1_method_21_code
def y_Ho_route_at_c : MethodName := ⟨"DrawingHouse", "route", "(II)I"⟩
abbrev z_Ho_route_at_c : List Cond := Cond.code y_Ho_route_at_c b_Ho_route_at_c 3 (some .int) :: lw_g
def e_Ho_route_at_c : en_T := ([(2, 0, 0, [12]), (0, -2147483648, 2147483647, []), (0, -2147483648, 2147483647, [])], some (0, -4, 0, []), false, 10, 0, 0, [([(2, 0, 0, [12]), (0, -2147483648, -1, []), (0, -2147483648, 2147483647, []), (2, 0, 0, [9]), (0, -1, -1, [])], [], [4], [((0, 20), 3)], [], []), ([(2, 0, 0, [12]), (0, 4, 2147483647, []), (0, -2147483648, 2147483647, []), (2, 0, 0, [9]), (0, -1, -1, [])], [], [4], [((0, 20), 3)], [], []), ([(2, 0, 0, [12]), (0, 0, 3, []), (0, -2147483648, 2147483647, []), (2, 0, 0, [9]), (0, -1, -1, [])], [], [4], [((0, 20), 3)], [], []), ([(2, 0, 0, [12]), (0, 0, 3, []), (0, -2147483648, -1, []), (2, 0, 0, [9]), (0, -1, -1, [])], [], [4], [((0, 20), 3)], [], []), ([(2, 0, 0, [12]), (0, 0, 3, []), (0, 0, 2147483647, []), (2, 0, 0, [9]), (0, -1, -1, [])], [], [4], [((0, 20), 3)], [], []), ([(2, 0, 0, [12]), (0, 0, 3, []), (0, 0, 47, []), (2, 0, 0, [9]), (0, -4, 0, [])], [], [4], [((0, 20), 3)], [], [])], [((0, 20), (2, 0, 0, [9]))], (329710850516961554411686516905934848, [(9, 0), (9, 1), (9, 2), (9, 3), (9, 4), (9, 5), (9, 6), (9, 7), (9, 8), (9, 14), (9, 17)], [(20, [0], [62, 0])], [(20, [0], [62, 0])], []))
abbrev b_Ho_route_at_d : ByteArray := prog_1_method_21_code
def y_Ho_route_at_d : MethodName := ⟨"DrawingHouse", "route", "(II)I"⟩
abbrev z_Ho_route_at_d : List Cond := Cond.code y_Ho_route_at_d b_Ho_route_at_d 3 (some .int) :: lw_g
def e_Ho_route_at_d : en_T := ([(2, 0, 0, [12]), (0, 0, 3, []), (0, -2147483648, 2147483647, [])], some (0, -4, 0, []), false, 10, 8, 126078, [([(2, 0, 0, [12]), (0, 0, 3, []), (0, 0, 47, []), (3, 0, 0, [9]), (0, -4, 0, []), (2, 0, 0, [9])], [], [4], [((0, 20), 5)], [], []), ([(2, 0, 0, [12]), (0, 0, 3, []), (0, 0, 47, []), (2, 0, 0, [9]), (0, -4, 0, [])], [], [4], [((0, 20), 3)], [], [])], [((0, 20), (3, 0, 0, [9]))], (329710850516961554411686516905934848, [(9, 0), (9, 1), (9, 2), (9, 3), (9, 4), (9, 5), (9, 6), (9, 7), (9, 8), (9, 14), (9, 17), (12, 20), (303, 0), (303, 1), (303, 2), (303, 3), (303, 4), (303, 5), (303, 6), (303, 7), (303, 8), (303, 9), (303, 10), (303, 11), (303, 12), (303, 13), (303, 14), (303, 15), (303, 16), (303, 17)], [(20, [0], [62, 0]), (20, [0, 1, 2], [51, 0, 0, 2, 4001000003, 4001000000, 2, 10, 7, 6, 14, 0, 3, 4001, 1, 1, 0, -1, 2, 6, 0, 2, 0, 0, 1, 2, 0, 6, 4, 2, 1, 2, 0, 1, 14, 0, 0, 4001, 1, 1])], [(20, [0], [62, 0])], []))
abbrev b_Mo_of_at_s5002 : ByteArray := prog_15_method_36_code
def y_Mo_of_at_s5002 : MethodName := ⟨"DrawingHouseModel", "of", "(Ljava/lang/String;I)I"⟩
abbrev z_Mo_of_at_s5002 : List Cond := Cond.code y_Mo_of_at_s5002 b_Mo_of_at_s5002 4 (some .int) :: lw_g
def e_Mo_of_at_s5002 : en_T := ([(2, 0, 0, [165]), (2, 0, 0, [5002]), (0, 99, 99, [])], some (0, -49, 1048575, []), false, 10, 0, 0, [], [], (0, [(165, 8), (165, 9), (165, 11), (165, 12), (165, 13), (165, 14), (165, 15)], [(20, [0, 0], [30, 0, 1, 1, 15, -1, 1, 11]), (20, [0], [50, 3, 0, 12, 11, 15, 2, 21, 4, 7, 1, 3, 2, 0, 12, 0, 1, 0, 3, 2, 0, 11, 4, 3, 2, 0, 15, 0, 8, 3, 7, 1, 3, 2, 0, 12, 0, 0, 0, 7, 4, 3, 2, 0, 15, 0, 1, 2, 0, 11]), (20, [3, 0], [30, 0, 1, 0, 0, -1, 1, 11]), (20, [0, 3], [50, 3, 0, 8, 12, 11, 3, 7, 0, 2, 0, 1, 2, 0, 8, 3, 7, 1, 3, 2, 0, 12, 0, 0, 0, 6, 4, 2, 1, 1, 0, 1, 2, 0, 11]), (20, [0, 4], [50, 1, 0, 8, 3, 7, 0, 2, 0, 1, 2, 0, 8, 0, 2, 0, 0, 1, 1]), (20, [0, 4, 5, 6], [60, 9, 2, 1015, 10, 11, 12, 13, 14, 15, 8, 9, 5, 1, 2])], [(20, [0, 0], [30, 0, 1, 1, 15, -1, 1, 11]), (20, [0], [50, 3, 0, 12, 11, 15, 2, 21, 4, 7, 1, 3, 2, 0, 12, 0, 1, 0, 3, 2, 0, 11, 4, 3, 2, 0, 15, 0, 8, 3, 7, 1, 3, 2, 0, 12, 0, 0, 0, 7, 4, 3, 2, 0, 15, 0, 1, 2, 0, 11]), (20, [3, 0], [30, 0, 1, 0, 0, -1, 1, 11]), (20, [0, 3], [50, 3, 0, 8, 12, 11, 3, 7, 0, 2, 0, 1, 2, 0, 8, 3, 7, 1, 3, 2, 0, 12, 0, 0, 0, 6, 4, 2, 1, 1, 0, 1, 2, 0, 11]), (20, [0, 4], [50, 1, 0, 8, 3, 7, 0, 2, 0, 1, 2, 0, 8, 0, 2, 0, 0, 1, 1]), (20, [7, 2], [30, 0, 1, 0, 0, -1, 0, 0]), (20, [7], [30, 0, -1, 0, 0]), (20, [0, 4, 7, 5, 6], [60, 9, 2, 1013, 10, 11, 12, 13, 14, 15, 8, 9, 5, 1, 2])], [(0, 0, 2000, []), (0, -1, 48, []), (0, 0, 7, []), (0, 0, 4, [])]))
abbrev b_Mo_of_at_s5003 : ByteArray := prog_15_method_36_code
def y_Mo_of_at_s5003 : MethodName := ⟨"DrawingHouseModel", "of", "(Ljava/lang/String;I)I"⟩
abbrev z_Mo_of_at_s5003 : List Cond := Cond.code y_Mo_of_at_s5003 b_Mo_of_at_s5003 4 (some .int) :: lw_g
def e_Mo_of_at_s5003 : en_T := ([(2, 0, 0, [165]), (2, 0, 0, [5003]), (0, 9, 9, [])], some (0, -49, 1048575, []), false, 10, 0, 0, [], [], (0, [(165, 8), (165, 9), (165, 11), (165, 12), (165, 13), (165, 14), (165, 15)], [(20, [0, 0], [30, 0, 1, 1, 15, -1, 1, 11]), (20, [0], [50, 3, 0, 12, 11, 15, 2, 21, 4, 7, 1, 3, 2, 0, 12, 0, 1, 0, 3, 2, 0, 11, 4, 3, 2, 0, 15, 0, 8, 3, 7, 1, 3, 2, 0, 12, 0, 0, 0, 7, 4, 3, 2, 0, 15, 0, 1, 2, 0, 11]), (20, [3, 0], [30, 0, 1, 0, 0, -1, 1, 11]), (20, [0, 3], [50, 3, 0, 8, 12, 11, 3, 7, 0, 2, 0, 1, 2, 0, 8, 3, 7, 1, 3, 2, 0, 12, 0, 0, 0, 6, 4, 2, 1, 1, 0, 1, 2, 0, 11]), (20, [0, 4], [50, 1, 0, 8, 3, 7, 0, 2, 0, 1, 2, 0, 8, 0, 2, 0, 0, 1, 1]), (20, [0, 4, 5, 6], [60, 9, 2, 1016, 10, 11, 12, 13, 14, 15, 8, 9, 5, 1, 2])], [(20, [0, 0], [30, 0, 1, 1, 15, -1, 1, 11]), (20, [0], [50, 3, 0, 12, 11, 15, 2, 21, 4, 7, 1, 3, 2, 0, 12, 0, 1, 0, 3, 2, 0, 11, 4, 3, 2, 0, 15, 0, 8, 3, 7, 1, 3, 2, 0, 12, 0, 0, 0, 7, 4, 3, 2, 0, 15, 0, 1, 2, 0, 11]), (20, [3, 0], [30, 0, 1, 0, 0, -1, 1, 11]), (20, [0, 3], [50, 3, 0, 8, 12, 11, 3, 7, 0, 2, 0, 1, 2, 0, 8, 3, 7, 1, 3, 2, 0, 12, 0, 0, 0, 6, 4, 2, 1, 1, 0, 1, 2, 0, 11]), (20, [0, 4], [50, 1, 0, 8, 3, 7, 0, 2, 0, 1, 2, 0, 8, 0, 2, 0, 0, 1, 1]), (20, [7, 2], [30, 0, 1, 0, 0, -1, 0, 0]), (20, [7], [30, 0, -1, 0, 0]), (20, [0, 4, 7, 5, 6], [60, 9, 2, 1014, 10, 11, 12, 13, 14, 15, 8, 9, 5, 1, 2])], [(0, 0, 2000, []), (0, -1, 48, []), (0, 0, 7, []), (0, 0, 4, [])]))
abbrev b_Re_readGroup : ByteArray := prog_10_method_15_code
def y_Re_readGroup : MethodName := ⟨"DrawingHouse$Reader", "readGroup", "()Z"⟩
abbrev z_Re_readGroup : List Cond := Cond.code y_Re_readGroup b_Re_readGroup 2 (some .boolean) :: lw_g
def e_Re_readGroup : en_T := ([(2, 0, 0, [8])], some (0, 0, 1, []), false, 9, 0, 0, [([(2, 0, 0, [8]), (2, 0, 0, [164]), (0, 0, 2000, []), (0, 0, 0, [])], [], [3], [((0, 4), 1)], [], []), ([(2, 0, 0, [8]), (2, 0, 0, [164]), (0, 0, 2000, []), (0, 1, 1, [])], [], [3], [((0, 4), 1)], [], [])], [((0, 4), (2, 0, 0, [164]))], (2557627865329081404930663090960402417021964255232, [(8, 2), (8, 3), (8, 6), (8, 7), (8, 8), (8, 9), (8, 11), (164, 2)], [(20, [1], [60, 2, 3, 670, 0, 1, 14, 7, 8]), (20, [1], [60, 2, 2, 596, 0, 1, 7, 8]), (20, [0, 2], [30, 0, 1, 1, 6, -1, 0, 0]), (20, [0, 2], [30, 0, -1, 1, 6, 1, 0, 0]), (20, [0, 1], [60, 9, 6, 1059, 5, 6, 7, 8, 9, 11, 1000, 1001, 1002, 0, 10, 1004, 1003, 1007, 1008]), (20, [0], [50, 1, 0, 2, 1, 3, 2, 0, 2, 0, 0])], [(20, [1], [60, 2, 3, 670, 0, 1, 14, 7, 8]), (20, [1], [60, 2, 2, 596, 0, 1, 7, 8]), (20, [0, 1, 3], [60, 8, 6, 1063, 5, 6, 11, 2, 3, 1000, 1001, 1002, 0, 10, 1004, 1003, 1007, 1008]), (20, [2, 0], [30, 0, 1, 0, 0, -1, 1, 6])], [(0, 0, 2000, [])]))
abbrev b_Mo_count : ByteArray := prog_15_method_98_code
def y_Mo_count : MethodName := ⟨"DrawingHouseModel", "count", "(II)I"⟩
abbrev z_Mo_count : List Cond := Cond.code y_Mo_count b_Mo_count 3 (some .int) :: lw_g
def e_Mo_count : en_T := ([(2, 0, 0, [165]), (0, -2147483648, 2147483647, []), (0, -2147483648, 2147483647, [])], some (0, -30, 80, []), false, 9, 0, 0, [], [], (59955894881024647894093846290718443861458912805585420288, [(165, 5), (165, 31), (165, 32)], [(20, [0], [60, 0, 3, 198, 2, 3, 4])], [], []))
abbrev b_Mo_writeEdges : ByteArray := prog_15_method_238_code
def y_Mo_writeEdges : MethodName := ⟨"DrawingHouseModel", "writeEdges", "()V"⟩
abbrev z_Mo_writeEdges : List Cond := Cond.code y_Mo_writeEdges b_Mo_writeEdges 2 none :: lw_g
def e_Mo_writeEdges : en_T := ([(2, 0, 0, [165])], none, false, 9, 0, 0, [], [], (7770675568902916283677847627294075626569627356208558085007249638955617140820833992704, [(165, 170)], [(20, [0, 1], [30, 0, 1, 1, 170, -1, 0, 0])], [(20, [0, 1], [30, 2112, 1, 1, 170, -1, 0, 0])], [(0, 0, 99997888, [])]))
abbrev b_Mo_writeGroup_at_l0 : ByteArray := prog_15_method_237_code
def y_Mo_writeGroup_at_l0 : MethodName := ⟨"DrawingHouseModel", "writeGroup", "(I)V"⟩
abbrev z_Mo_writeGroup_at_l0 : List Cond := Cond.code y_Mo_writeGroup_at_l0 b_Mo_writeGroup_at_l0 3 none :: lw_g
def e_Mo_writeGroup_at_l0 : en_T := ([(2, 0, 0, [165]), (0, 0, 0, [])], none, false, 16, 0, 0, [], [], (7770675568902916283677847627294075626569627356208558085007249638955617140820833992704, [(165, 170)], [(20, [0, 2], [30, 0, 1, 1, 170, -1, 0, 0])], [(20, [0, 2], [30, 12097081, 1, 1, 170, -1, 0, 0])], [(0, 0, 87902919, [])]))
abbrev b_Mo_writeGroup_at_l1 : ByteArray := prog_15_method_237_code
def y_Mo_writeGroup_at_l1 : MethodName := ⟨"DrawingHouseModel", "writeGroup", "(I)V"⟩
abbrev z_Mo_writeGroup_at_l1 : List Cond := Cond.code y_Mo_writeGroup_at_l1 b_Mo_writeGroup_at_l1 3 none :: lw_g
def e_Mo_writeGroup_at_l1 : en_T := ([(2, 0, 0, [165]), (0, 1, 7, [])], none, false, 15, 0, 0, [], [], (7770675568902916283677847627294075626569627356208558085007249638955617140820833992704, [(165, 170)], [(20, [0, 2], [30, 0, 1, 1, 170, -1, 0, 0])], [(20, [0, 2], [30, 1728012, 1, 1, 170, -1, 0, 0])], [(0, 0, 98271988, [])]))
abbrev b_Mo_writeGroup_at_l2 : ByteArray := prog_15_method_237_code
def y_Mo_writeGroup_at_l2 : MethodName := ⟨"DrawingHouseModel", "writeGroup", "(I)V"⟩
abbrev z_Mo_writeGroup_at_l2 : List Cond := Cond.code y_Mo_writeGroup_at_l2 b_Mo_writeGroup_at_l2 3 none :: lw_g
def e_Mo_writeGroup_at_l2 : en_T := ([(2, 0, 0, [165]), (0, 2, 7, [])], none, false, 14, 0, 0, [], [], (7770675568902916283677847627294075626569627356208558085007249638955617140820833992704, [(165, 170)], [(20, [0, 2], [30, 0, 1, 1, 170, -1, 0, 0])], [(20, [0, 2], [30, 287839, 1, 1, 170, -1, 0, 0])], [(0, 0, 99712161, [])]))
abbrev b_Mo_writeGroup_at_l3 : ByteArray := prog_15_method_237_code
def y_Mo_writeGroup_at_l3 : MethodName := ⟨"DrawingHouseModel", "writeGroup", "(I)V"⟩
abbrev z_Mo_writeGroup_at_l3 : List Cond := Cond.code y_Mo_writeGroup_at_l3 b_Mo_writeGroup_at_l3 3 none :: lw_g
def e_Mo_writeGroup_at_l3 : en_T := ([(2, 0, 0, [165]), (0, 3, 7, [])], none, false, 13, 0, 0, [], [], (7770675568902916283677847627294075626569627356208558085007249638955617140820833992704, [(165, 170)], [(20, [0, 2], [30, 0, 1, 1, 170, -1, 0, 0])], [(20, [0, 2], [30, 57376, 1, 1, 170, -1, 0, 0])], [(0, 0, 99942624, [])]))
abbrev b_Mo_writeGroup_at_l4 : ByteArray := prog_15_method_237_code
def y_Mo_writeGroup_at_l4 : MethodName := ⟨"DrawingHouseModel", "writeGroup", "(I)V"⟩
abbrev z_Mo_writeGroup_at_l4 : List Cond := Cond.code y_Mo_writeGroup_at_l4 b_Mo_writeGroup_at_l4 3 none :: lw_g
def e_Mo_writeGroup_at_l4 : en_T := ([(2, 0, 0, [165]), (0, 4, 7, [])], none, false, 12, 0, 0, [], [], (7770675568902916283677847627294075626569627356208558085007249638955617140820833992704, [(165, 170)], [(20, [0, 2], [30, 0, 1, 1, 170, -1, 0, 0])], [(20, [0, 2], [30, 14109, 1, 1, 170, -1, 0, 0])], [(0, 0, 99985891, [])]))
abbrev b_Mo_writeGroup_at_l5 : ByteArray := prog_15_method_237_code
def y_Mo_writeGroup_at_l5 : MethodName := ⟨"DrawingHouseModel", "writeGroup", "(I)V"⟩
abbrev z_Mo_writeGroup_at_l5 : List Cond := Cond.code y_Mo_writeGroup_at_l5 b_Mo_writeGroup_at_l5 3 none :: lw_g
def e_Mo_writeGroup_at_l5 : en_T := ([(2, 0, 0, [165]), (0, 5, 7, [])], none, false, 11, 0, 0, [], [], (7770675568902916283677847627294075626569627356208558085007249638955617140820833992704, [(165, 170)], [(20, [0, 2], [30, 0, 1, 1, 170, -1, 0, 0])], [(20, [0, 2], [30, 4396, 1, 1, 170, -1, 0, 0])], [(0, 0, 99995604, [])]))
abbrev b_Mo_writeGroup_at_l6 : ByteArray := prog_15_method_237_code
def y_Mo_writeGroup_at_l6 : MethodName := ⟨"DrawingHouseModel", "writeGroup", "(I)V"⟩
abbrev z_Mo_writeGroup_at_l6 : List Cond := Cond.code y_Mo_writeGroup_at_l6 b_Mo_writeGroup_at_l6 3 none :: lw_g
def e_Mo_writeGroup_at_l6 : en_T := ([(2, 0, 0, [165]), (0, 6, 7, [])], none, false, 10, 0, 0, [], [], (7770675568902916283677847627294075626569627356208558085007249638955617140820833992704, [(165, 170)], [(20, [0, 2], [30, 0, 1, 1, 170, -1, 0, 0])], [(20, [0, 2], [30, 1747, 1, 1, 170, -1, 0, 0])], [(0, 0, 99998253, [])]))
abbrev b_Mo_writeGroup_at_l7 : ByteArray := prog_15_method_237_code
def y_Mo_writeGroup_at_l7 : MethodName := ⟨"DrawingHouseModel", "writeGroup", "(I)V"⟩
abbrev z_Mo_writeGroup_at_l7 : List Cond := Cond.code y_Mo_writeGroup_at_l7 b_Mo_writeGroup_at_l7 3 none :: lw_g
def e_Mo_writeGroup_at_l7 : en_T := ([(2, 0, 0, [165]), (0, 7, 7, [])], none, false, 9, 0, 0, [], [], (7770675568902916283677847627294075626569627356208558085007249638955617140820833992704, [(165, 170)], [(20, [0, 2], [30, 0, 1, 1, 170, -1, 0, 0])], [(20, [0, 2], [30, 864, 1, 1, 170, -1, 0, 0])], [(0, 0, 99999136, [])]))
abbrev b_Mo_dots : ByteArray := prog_15_method_242_code
def y_Mo_dots : MethodName := ⟨"DrawingHouseModel", "dots", "(III)I"⟩
abbrev z_Mo_dots : List Cond := Cond.code y_Mo_dots b_Mo_dots 6 (some .int) :: lw_g
def e_Mo_dots : en_T := ([(2, 0, 0, [165]), (0, -2147483648, 2147483647, []), (0, -2147483648, 2147483647, []), (0, -2147483648, 2147483647, [])], some (0, -1, 2147483647, []), false, 9, 0, 0, [], [], (15541351137805832567355695254588151253139254712417116170014499277911234281641667985408, [(165, 5), (165, 139), (165, 153), (165, 154), (165, 155), (165, 156), (165, 173), (165, 174)], [], [], []))
abbrev b_Mo_embed : ByteArray := prog_15_method_84_code
def y_Mo_embed : MethodName := ⟨"DrawingHouseModel", "embed", "()Z"⟩
abbrev z_Mo_embed : List Cond := Cond.code y_Mo_embed b_Mo_embed 4 (some .boolean) :: lw_g
def e_Mo_embed : en_T := ([(2, 0, 0, [165])], some (0, 0, 1, []), false, 11, 0, 0, [], [], (100421421678656323676910940655743133437225973794744347656192, [(165, 39), (165, 45), (165, 49)], [(20, [0], [60, 2, 2, 75, 31, 32, 33, 34])], [(20, [0, 1], [60, 2, 6, 184, 31, 32, 33, 34, 35, 17, 36, 37])], []))
abbrev b_Mo_route : ByteArray := prog_15_method_187_code
def y_Mo_route : MethodName := ⟨"DrawingHouseModel", "route", "(II)I"⟩
abbrev z_Mo_route : List Cond := Cond.code y_Mo_route b_Mo_route 7 (some .int) :: lw_g
def e_Mo_route : en_T := ([(2, 0, 0, [165]), (0, -2147483648, 2147483647, []), (0, -2147483648, 2147483647, [])], some (0, -4, 0, []), false, 9, 0, 0, [], [], (7469979260877742399345388445837481222290853005092014278795974394822164616885305344, [(165, 5), (165, 139), (165, 144), (165, 145), (165, 146), (165, 147)], [(20, [0], [60, 0, 3, 198, 2, 3, 4])], [], []))
abbrev b_Ho_change : ByteArray := prog_1_method_10_code
def y_Ho_change : MethodName := ⟨"DrawingHouse", "change", "(IIII)I"⟩
abbrev z_Ho_change : List Cond := Cond.code y_Ho_change b_Ho_change 6 (some .int) :: lw_g
def e_Ho_change : en_T := ([(2, 0, 0, [12]), (0, -2147483648, 2147483647, []), (0, -2147483648, 2147483647, []), (0, -2147483648, 2147483647, []), (0, -2147483648, 2147483647, [])], some (0, -1, 47, []), false, 11, 3, 3788, [], [], (381944245562716141175333566576758405197150323812363046994276334253946497812627017602957312, [(0, 1), (2, 0), (3, 0), (3, 1), (3, 16), (3, 17), (3, 18), (5, 0), (5, 1), (5, 2), (5, 3)], [(20, [0], [62, 0])], [(20, [0], [62, 0])], []))
abbrev b_Ho_text : ByteArray := prog_1_method_26_code
def y_Ho_text : MethodName := ⟨"DrawingHouse", "text", "(II)I"⟩
abbrev z_Ho_text : List Cond := Cond.code y_Ho_text b_Ho_text 4 (some .int) :: lw_g
def e_Ho_text : en_T := ([(2, 0, 0, [12]), (0, -2147483648, 2147483647, []), (0, -2147483648, 2147483647, [])], some (0, -1, 4000, []), false, 14, 0, 0, [], [], (261336857795280739939871698507597986398208, [(12, 9), (12, 10), (12, 11), (12, 12)], [], [], []))
abbrev b_Dr_verdict : ByteArray := prog_2_method_20_code
def y_Dr_verdict : MethodName := ⟨"DrawingHouse$Drawing", "verdict", "(I)J"⟩
abbrev z_Dr_verdict : List Cond := Cond.code y_Dr_verdict b_Dr_verdict 2 (some .long) :: lw_g
def e_Dr_verdict : en_T := ([(2, 0, 0, [0]), (0, -2147483648, 2147483647, [])], some (1, -9223372036854775808, 9223372036854775807, []), false, 11, 0, 0, [], [((0, 0), (2, 0, 0, [3]))], (0, [(0, 17), (0, 18), (0, 19), (0, 20)], [], [], []))
abbrev b_Pn_layGrid : ByteArray := prog_9_method_3_code
def y_Pn_layGrid : MethodName := ⟨"DrawingHouse$PlanarWays", "layGrid", "(LDrawingHouse$Facts;LDrawingHouse$Net;LDrawingHouse$Drawing;)V"⟩
abbrev z_Pn_layGrid : List Cond := Cond.code y_Pn_layGrid b_Pn_layGrid 6 none :: lw_g
def e_Pn_layGrid : en_T := ([(2, 0, 0, [7]), (2, 0, 0, [2]), (2, 0, 0, [5]), (2, 0, 0, [0])], none, false, 11, 0, 0, [], [], (31766521725675121767675041100378181161416636632180585451626260379271559976613266057183232, [(7, 3), (294, 5), (294, 6), (294, 13)], [(20, [4, 5, 3], [62, 2000000])], [(20, [4, 5], [62, 2000006])], [(2, 0, 0, [12]), (0, 0, 3066, [])]))
abbrev b_Re_readNode : ByteArray := prog_10_method_14_code
def y_Re_readNode : MethodName := ⟨"DrawingHouse$Reader", "readNode", "()Z"⟩
abbrev z_Re_readNode : List Cond := Cond.code y_Re_readNode b_Re_readNode 2 (some .boolean) :: lw_g
def e_Re_readNode : en_T := ([(2, 0, 0, [8])], some (0, 0, 1, []), false, 10, 0, 0, [([(2, 0, 0, [8]), (2, 0, 0, [164]), (0, 0, 2000, []), (0, 1, 1, [])], [], [3], [((0, 4), 1)], [], []), ([(2, 0, 0, [8]), (2, 0, 0, [164]), (0, 0, 2000, []), (0, 0, 0, [])], [], [3], [((0, 4), 1)], [], [])], [((0, 4), (2, 0, 0, [164]))], (2944411990052395234623243954974308466357606285312, [(8, 2), (8, 3), (8, 6), (8, 7), (8, 8), (8, 9), (164, 0)], [(20, [1], [60, 2, 3, 670, 0, 1, 14, 7, 8]), (20, [1], [60, 2, 2, 596, 0, 1, 7, 8]), (20, [0, 2], [30, 0, 1, 1, 6, -1, 0, 0]), (20, [0, 2], [30, 0, -1, 1, 6, 1, 0, 0]), (20, [0, 1, 2], [60, 5, 6, 1040, 5, 11, 1000, 1001, 1002, 0, 10, 1004, 1003, 1007, 1008]), (20, [0], [50, 1, 0, 2, 1, 3, 2, 0, 2, 0, 0])], [(20, [1], [60, 2, 3, 670, 0, 1, 14, 7, 8]), (20, [1], [60, 2, 2, 596, 0, 1, 7, 8]), (20, [0, 1, 3], [60, 8, 6, 1063, 5, 6, 11, 2, 3, 1000, 1001, 1002, 0, 10, 1004, 1003, 1007, 1008]), (20, [2, 0], [30, 0, 1, 0, 0, -1, 1, 6])], [(0, 0, 2000, [])]))
abbrev b_Mo_met_at_g0 : ByteArray := prog_15_method_35_code
def y_Mo_met_at_g0 : MethodName := ⟨"DrawingHouseModel", "met", "(II)I"⟩
abbrev z_Mo_met_at_g0 : List Cond := Cond.code y_Mo_met_at_g0 b_Mo_met_at_g0 6 (some .int) :: lw_g
def e_Mo_met_at_g0 : en_T := ([(2, 0, 0, [165]), (0, 0, 7, []), (0, -1, -1, [])], some (0, -1, 23, []), false, 9, 0, 0, [], [], (187072209578355573530071658587684226515959365500928, [(165, 8), (165, 9), (165, 11), (165, 12), (165, 13), (165, 14), (165, 15)], [(20, [0, 0], [30, 0, 1, 1, 15, -1, 1, 11]), (20, [0], [50, 3, 0, 12, 11, 15, 2, 21, 4, 7, 1, 3, 2, 0, 12, 0, 1, 0, 3, 2, 0, 11, 4, 3, 2, 0, 15, 0, 8, 3, 7, 1, 3, 2, 0, 12, 0, 0, 0, 7, 4, 3, 2, 0, 15, 0, 1, 2, 0, 11]), (20, [3, 0], [30, 0, 1, 0, 0, -1, 1, 11]), (20, [0, 4], [50, 2, 0, 12, 11, 3, 7, 1, 3, 2, 0, 12, 0, 0, 0, 6, 4, 2, 1, 1, 0, 1, 2, 0, 11]), (20, [1, 0], [50, 1, 1, 1005, 1002, 0, 6, 4, 2, 1, 0, 0, 1, 3, 1, 2, 4, 3, 2, 1, 5, 0, 2]), (20, [0], [60, 1, 3, 199, 5, 2, 3, 4]), (20, [0, 2], [60, 1, 1, 241, 5, 2]), (20, [0, 1, 5], [60, 8, 2, 991, 10, 11, 12, 13, 14, 15, 8, 5, 1, 2])], [(20, [0, 0], [30, 0, 1, 1, 15, -1, 1, 11]), (20, [0], [50, 3, 0, 12, 11, 15, 2, 21, 4, 7, 1, 3, 2, 0, 12, 0, 1, 0, 3, 2, 0, 11, 4, 3, 2, 0, 15, 0, 8, 3, 7, 1, 3, 2, 0, 12, 0, 0, 0, 7, 4, 3, 2, 0, 15, 0, 1, 2, 0, 11]), (20, [3, 0], [30, 0, 1, 0, 0, -1, 1, 11]), (20, [0, 3], [50, 3, 0, 8, 12, 11, 3, 7, 0, 2, 0, 1, 2, 0, 8, 3, 7, 1, 3, 2, 0, 12, 0, 0, 0, 6, 4, 2, 1, 1, 0, 1, 2, 0, 11]), (20, [0, 4], [50, 2, 0, 8, 11, 3, 7, 0, 2, 0, 1, 2, 0, 8, 0, 6, 4, 2, 1, 1, 0, 1, 2, 0, 11]), (20, [0, 6], [31, 1, -1, -1, 1, 8, 0, -1, 0, 0]), (20, [0, 2], [50, 2, 1, 8, 5, 2, 3, 7, 0, 2, 0, 1, 2, 0, 8, 3, 6, 0, 2, 1, 1, 0, -1, 0, 10, 3, 0, 2, 4, 3, 2, 0, 5, 0, 1, 0, 47]), (20, [1, 0], [50, 1, 1, 1005, 1002, 0, 6, 4, 2, 1, 0, 0, 1, 3, 1, 2, 4, 3, 2, 1, 5, 0, 2]), (20, [0], [60, 1, 3, 199, 5, 2, 3, 4]), (20, [0, 2, 6], [60, 2, 1, 240, 5, 8, 2]), (20, [0, 6, 1, 5], [60, 9, 2, 1010, 10, 11, 12, 13, 14, 15, 8, 9, 5, 1, 2])], [(0, 0, 2000, []), (0, 0, 2000, []), (0, 0, 4, [])]))
abbrev b_Mo_met_at_g1 : ByteArray := prog_15_method_35_code
def y_Mo_met_at_g1 : MethodName := ⟨"DrawingHouseModel", "met", "(II)I"⟩
abbrev z_Mo_met_at_g1 : List Cond := Cond.code y_Mo_met_at_g1 b_Mo_met_at_g1 6 (some .int) :: lw_g
def e_Mo_met_at_g1 : en_T := ([(2, 0, 0, [165]), (0, 0, 7, []), (0, -1, -1, [])], some (0, -1, 23, []), false, 9, 0, 0, [], [], (187072209578355573530071658587684226515959365500928, [(165, 8), (165, 9), (165, 11), (165, 12), (165, 13), (165, 14), (165, 15)], [(20, [0, 0], [30, 0, 1, 1, 15, -1, 1, 11]), (20, [0], [50, 3, 0, 12, 11, 15, 2, 21, 4, 7, 1, 3, 2, 0, 12, 0, 1, 0, 3, 2, 0, 11, 4, 3, 2, 0, 15, 0, 8, 3, 7, 1, 3, 2, 0, 12, 0, 0, 0, 7, 4, 3, 2, 0, 15, 0, 1, 2, 0, 11]), (20, [3, 0], [30, 0, 1, 0, 0, -1, 1, 11]), (20, [0, 4], [50, 2, 0, 12, 11, 3, 7, 1, 3, 2, 0, 12, 0, 0, 0, 6, 4, 2, 1, 1, 0, 1, 2, 0, 11]), (20, [1, 0], [50, 1, 1, 1005, 1002, 0, 6, 4, 2, 1, 0, 0, 1, 3, 1, 2, 4, 3, 2, 1, 5, 0, 2]), (20, [0], [60, 1, 3, 199, 5, 2, 3, 4]), (20, [0, 2], [60, 1, 1, 241, 5, 2]), (20, [0, 1, 5], [60, 8, 2, 965, 10, 11, 12, 13, 14, 15, 8, 5, 1, 2])], [(20, [0, 0], [30, 0, 1, 1, 15, -1, 1, 11]), (20, [0], [50, 3, 0, 12, 11, 15, 2, 21, 4, 7, 1, 3, 2, 0, 12, 0, 1, 0, 3, 2, 0, 11, 4, 3, 2, 0, 15, 0, 8, 3, 7, 1, 3, 2, 0, 12, 0, 0, 0, 7, 4, 3, 2, 0, 15, 0, 1, 2, 0, 11]), (20, [3, 0], [30, 0, 1, 0, 0, -1, 1, 11]), (20, [0, 3], [50, 3, 0, 8, 12, 11, 3, 7, 0, 2, 0, 1, 2, 0, 8, 3, 7, 1, 3, 2, 0, 12, 0, 0, 0, 6, 4, 2, 1, 1, 0, 1, 2, 0, 11]), (20, [0, 4], [50, 2, 0, 8, 11, 3, 7, 0, 2, 0, 1, 2, 0, 8, 0, 6, 4, 2, 1, 1, 0, 1, 2, 0, 11]), (20, [0, 6], [31, 1, -1, -1, 1, 8, 0, -1, 0, 0]), (20, [0, 2], [50, 2, 1, 8, 5, 2, 3, 7, 0, 2, 0, 1, 2, 0, 8, 3, 6, 0, 2, 1, 1, 0, -1, 0, 10, 3, 0, 2, 4, 3, 2, 0, 5, 0, 1, 0, 47]), (20, [1, 0], [50, 1, 1, 1005, 1002, 0, 6, 4, 2, 1, 0, 0, 1, 3, 1, 2, 4, 3, 2, 1, 5, 0, 2]), (20, [0], [60, 1, 3, 199, 5, 2, 3, 4]), (20, [0, 2, 6], [60, 2, 1, 240, 5, 8, 2]), (20, [0, 6, 1, 5], [60, 9, 2, 1009, 10, 11, 12, 13, 14, 15, 8, 9, 5, 1, 2])], [(0, 0, 2000, []), (0, 0, 2000, []), (0, 0, 4, [])]))
abbrev b_Mo_met_at_g4 : ByteArray := prog_15_method_35_code
def y_Mo_met_at_g4 : MethodName := ⟨"DrawingHouseModel", "met", "(II)I"⟩
abbrev z_Mo_met_at_g4 : List Cond := Cond.code y_Mo_met_at_g4 b_Mo_met_at_g4 6 (some .int) :: lw_g
def e_Mo_met_at_g4 : en_T := ([(2, 0, 0, [165]), (0, 0, 7, []), (0, -1, 23, [])], some (0, -1, 23, []), false, 9, 0, 0, [], [], (187072209578355573530071658587684226515959365500928, [(165, 8), (165, 9), (165, 11), (165, 12), (165, 13), (165, 14), (165, 15)], [(20, [0, 0], [30, 0, 1, 1, 15, -1, 1, 11]), (20, [0], [50, 3, 0, 12, 11, 15, 2, 21, 4, 7, 1, 3, 2, 0, 12, 0, 1, 0, 3, 2, 0, 11, 4, 3, 2, 0, 15, 0, 8, 3, 7, 1, 3, 2, 0, 12, 0, 0, 0, 7, 4, 3, 2, 0, 15, 0, 1, 2, 0, 11]), (20, [3, 0], [30, 0, 1, 0, 0, -1, 1, 11]), (20, [0, 4], [50, 2, 0, 12, 11, 3, 7, 1, 3, 2, 0, 12, 0, 0, 0, 6, 4, 2, 1, 1, 0, 1, 2, 0, 11]), (20, [1, 0], [50, 1, 1, 1005, 1002, 0, 6, 4, 2, 1, 0, 0, 1, 3, 1, 2, 4, 3, 2, 1, 5, 0, 2]), (20, [0], [60, 1, 3, 199, 5, 2, 3, 4]), (20, [0, 2], [60, 1, 1, 241, 5, 2]), (20, [0, 2, 6, 7, 1, 5], [60, 8, 2, 993, 10, 11, 12, 13, 14, 15, 8, 5, 1, 2]), (20, [2], [50, 0, 0, 0, 2, 0, 0, 1, 0])], [(20, [0, 0], [30, 0, 1, 1, 15, -1, 1, 11]), (20, [0], [50, 3, 0, 12, 11, 15, 2, 21, 4, 7, 1, 3, 2, 0, 12, 0, 1, 0, 3, 2, 0, 11, 4, 3, 2, 0, 15, 0, 8, 3, 7, 1, 3, 2, 0, 12, 0, 0, 0, 7, 4, 3, 2, 0, 15, 0, 1, 2, 0, 11]), (20, [3, 0], [30, 0, 1, 0, 0, -1, 1, 11]), (20, [0, 3], [50, 3, 0, 8, 12, 11, 3, 7, 0, 2, 0, 1, 2, 0, 8, 3, 7, 1, 3, 2, 0, 12, 0, 0, 0, 6, 4, 2, 1, 1, 0, 1, 2, 0, 11]), (20, [0, 4], [50, 2, 0, 8, 11, 3, 7, 0, 2, 0, 1, 2, 0, 8, 0, 6, 4, 2, 1, 1, 0, 1, 2, 0, 11]), (20, [0, 8], [31, 1, -1, -1, 1, 8, 0, -1, 0, 0]), (20, [0, 2], [50, 2, 1, 8, 5, 2, 3, 7, 0, 2, 0, 1, 2, 0, 8, 3, 6, 0, 2, 1, 1, 0, -1, 0, 10, 3, 0, 2, 4, 3, 2, 0, 5, 0, 1, 0, 47]), (20, [1, 0], [50, 1, 1, 1005, 1002, 0, 6, 4, 2, 1, 0, 0, 1, 3, 1, 2, 4, 3, 2, 1, 5, 0, 2]), (20, [0], [60, 1, 3, 199, 5, 2, 3, 4]), (20, [0, 2, 8], [60, 2, 1, 240, 5, 8, 2]), (20, [0, 8, 6, 2, 7, 1, 5], [60, 9, 2, 1011, 10, 11, 12, 13, 14, 15, 8, 9, 5, 1, 2])], [(0, 0, 2000, []), (0, 0, 2000, []), (0, 0, 4, []), (0, 0, 48, []), (0, 0, 1, [])]))
abbrev b_Mo_prepare : ByteArray := prog_15_method_218_code
def y_Mo_prepare : MethodName := ⟨"DrawingHouseModel", "prepare", "()V"⟩
abbrev z_Mo_prepare : List Cond := Cond.code y_Mo_prepare b_Mo_prepare 3 none :: lw_g
def e_Mo_prepare : en_T := ([(2, 0, 0, [165])], none, false, 10, 0, 0, [], [], (3399670561395077637206659266229708310961458676344349704030537824504033217886803722240, [(165, 31), (165, 32), (165, 99)], [(20, [0], [60, 1, 1, 197, 5, 2])], [], []))
abbrev b_Ho_judge : ByteArray := prog_1_method_23_code
def y_Ho_judge : MethodName := ⟨"DrawingHouse", "judge", "(II)J"⟩
abbrev z_Ho_judge : List Cond := Cond.code y_Ho_judge b_Ho_judge 3 (some .long) :: lw_g
def e_Ho_judge : en_T := ([(2, 0, 0, [12]), (0, -2147483648, 2147483647, []), (0, -2147483648, 2147483647, [])], some (1, -9223372036854775808, 9223372036854775807, []), false, 12, 0, 0, [], [], (0, [(0, 17), (0, 18), (0, 19), (0, 20)], [], [], []))
abbrev b_Fa_learn : ByteArray := prog_4_method_2_code
def y_Fa_learn : MethodName := ⟨"DrawingHouse$Facts", "learn", "(LDrawingHouse$Graph;)V"⟩
abbrev z_Fa_learn : List Cond := Cond.code y_Fa_learn b_Fa_learn 2 none :: lw_g
def e_Fa_learn : en_T := ([(2, 0, 0, [2]), (2, 0, 0, [3])], none, false, 11, 0, 0, [], [], (281337537757184, [(2, 0), (2, 1), (2, 2), (2, 3)], [(20, [1], [60, 2, 2, 596, 0, 1, 7, 8]), (20, [1], [60, 2, 3, 670, 0, 1, 14, 7, 8])], [(20, [1, 0], [60, 1, 2, 671, 0, 14, 1004]), (20, [1, 0], [60, 2, 1, 672, 0, 1001, 1004]), (20, [1, 0], [60, 1, 3, 658, 1, 7, 8, 1009]), (20, [1, 0], [60, 3, 3, 673, 0, 1, 1002, 14, 7, 8]), (20, [0], [50, 1, 0, 0, 7, 3, 2, 0, 0, 0, 0])], []))
abbrev b_Ho_learned : ByteArray := prog_1_method_33_code
def y_Ho_learned : MethodName := ⟨"DrawingHouse", "learned", "(I)LDrawingHouse$Facts;"⟩
abbrev z_Ho_learned : List Cond := Cond.code y_Ho_learned b_Ho_learned 2 (some (.object "DrawingHouse$Facts")) :: lw_g
def e_Ho_learned : en_T := ([(2, 0, 0, [12]), (0, 0, 3, [])], some (2, 0, 0, [2]), false, 12, 0, 0, [], [], (281337537757184, [(2, 0), (2, 1), (2, 2), (2, 3)], [(20, [0], [62, 0])], [(20, [0], [62, 0]), (20, [0, 1, 2], [62, 135]), (20, [2], [50, 1, 0, 0, 7, 3, 2, 0, 0, 0, 0])], []))
abbrev b_Re_readEdges : ByteArray := prog_10_method_16_code
def y_Re_readEdges : MethodName := ⟨"DrawingHouse$Reader", "readEdges", "()Z"⟩
abbrev z_Re_readEdges : List Cond := Cond.code y_Re_readEdges b_Re_readEdges 6 (some .boolean) :: lw_g
def e_Re_readEdges : en_T := ([(2, 0, 0, [8])], some (0, 0, 1, []), false, 10, 0, 0, [], [((0, 4), (2, 0, 0, [164]))], (9132957985625437278891971918507319377713195646976, [(8, 2), (8, 3), (8, 6), (8, 7), (8, 8), (8, 9), (164, 0), (164, 1)], [(20, [0, 0], [30, 8, 1, 1, 6, -1, 1, 8]), (20, [0, 0], [30, 0, -1, 1, 6, 1, 1, 8]), (20, [1], [60, 2, 3, 670, 0, 1, 14, 7, 8]), (20, [1], [60, 2, 2, 596, 0, 1, 7, 8]), (20, [0, 2], [30, 0, 1, 1, 6, -1, 0, 0]), (20, [0, 2], [30, 0, -1, 1, 6, 1, 0, 0]), (20, [0, 1], [60, 9, 6, 1060, 5, 6, 7, 8, 9, 11, 1000, 1001, 1002, 0, 10, 1004, 1003, 1007, 1008]), (20, [0], [50, 1, 0, 2, 1, 3, 2, 0, 2, 0, 0]), (20, [1], [60, 1, 3, 1085, 1, 7, 8, 15])], [(20, [1], [60, 2, 3, 670, 0, 1, 14, 7, 8]), (20, [1], [60, 2, 2, 596, 0, 1, 7, 8]), (20, [0, 1, 3], [60, 8, 6, 1063, 5, 6, 11, 2, 3, 1000, 1001, 1002, 0, 10, 1004, 1003, 1007, 1008]), (20, [2, 0], [30, 0, 1, 0, 0, -1, 1, 6]), (20, [1], [60, 1, 3, 1085, 1, 7, 8, 15])], [(0, 0, 2000, [])]))
abbrev b_Sy_compileProduct_at_k0 : ByteArray := prog_13_method_16_code
def y_Sy_compileProduct_at_k0 : MethodName := ⟨"DrawingHouse$Styler", "compileProduct", "(I)Z"⟩
abbrev z_Sy_compileProduct_at_k0 : List Cond := Cond.code y_Sy_compileProduct_at_k0 b_Sy_compileProduct_at_k0 4 (some .boolean) :: lw_g
def e_Sy_compileProduct_at_k0 : en_T := ([(2, 0, 0, [11]), (0, 0, 0, [])], some (0, 0, 1, []), false, 45, 0, 0, [], [((0, 3), (2, 0, 0, [109]))], (85070591730234615865843651857942052864, [(11, 1), (11, 2), (11, 5), (11, 6), (11, 7), (11, 8), (11, 11)], [(20, [0], [50, 2, 0, 6, 8, 3, 7, 7, 3, 2, 0, 6, 0, 3, 0, 3, 2, 0, 8, 0, 9999])], [(20, [0], [50, 2, 0, 6, 8, 3, 7, 7, 3, 2, 0, 6, 0, 3, 0, 3, 2, 0, 8, 0, 9999])], []))
abbrev b_Sy_compileProduct_at_k1 : ByteArray := prog_13_method_16_code
def y_Sy_compileProduct_at_k1 : MethodName := ⟨"DrawingHouse$Styler", "compileProduct", "(I)Z"⟩
abbrev z_Sy_compileProduct_at_k1 : List Cond := Cond.code y_Sy_compileProduct_at_k1 b_Sy_compileProduct_at_k1 4 (some .boolean) :: lw_g
def e_Sy_compileProduct_at_k1 : en_T := ([(2, 0, 0, [11]), (0, 1, 1, [])], some (0, 0, 1, []), false, 42, 0, 0, [], [((0, 3), (2, 0, 0, [109]))], (85070591730234615865843651857942052864, [(11, 1), (11, 2), (11, 5), (11, 6), (11, 7), (11, 8), (11, 11)], [(20, [0], [50, 2, 0, 6, 8, 3, 7, 7, 3, 2, 0, 6, 0, 3, 0, 3, 2, 0, 8, 0, 9999])], [(20, [0], [50, 2, 0, 6, 8, 3, 7, 7, 3, 2, 0, 6, 0, 3, 0, 3, 2, 0, 8, 0, 9999])], []))
abbrev b_Sy_compileProduct_at_k10 : ByteArray := prog_13_method_16_code
def y_Sy_compileProduct_at_k10 : MethodName := ⟨"DrawingHouse$Styler", "compileProduct", "(I)Z"⟩
abbrev z_Sy_compileProduct_at_k10 : List Cond := Cond.code y_Sy_compileProduct_at_k10 b_Sy_compileProduct_at_k10 4 (some .boolean) :: lw_g
def e_Sy_compileProduct_at_k10 : en_T := ([(2, 0, 0, [11]), (0, 10, 10, [])], some (0, 0, 1, []), false, 15, 0, 0, [], [((0, 3), (2, 0, 0, [109]))], (85070591730234615865843651857942052864, [(11, 1), (11, 2), (11, 5), (11, 6), (11, 7), (11, 8), (11, 11)], [(20, [0], [50, 2, 0, 6, 8, 3, 7, 7, 3, 2, 0, 6, 0, 3, 0, 3, 2, 0, 8, 0, 9999])], [(20, [0], [50, 2, 0, 6, 8, 3, 7, 7, 3, 2, 0, 6, 0, 3, 0, 3, 2, 0, 8, 0, 9999])], []))
abbrev b_Sy_compileProduct_at_k11 : ByteArray := prog_13_method_16_code
def y_Sy_compileProduct_at_k11 : MethodName := ⟨"DrawingHouse$Styler", "compileProduct", "(I)Z"⟩
abbrev z_Sy_compileProduct_at_k11 : List Cond := Cond.code y_Sy_compileProduct_at_k11 b_Sy_compileProduct_at_k11 4 (some .boolean) :: lw_g
def e_Sy_compileProduct_at_k11 : en_T := ([(2, 0, 0, [11]), (0, 11, 11, [])], some (0, 0, 1, []), false, 12, 0, 0, [], [((0, 3), (2, 0, 0, [109]))], (85070591730234615865843651857942052864, [(11, 1), (11, 2), (11, 5), (11, 6), (11, 7), (11, 8), (11, 11)], [(20, [0], [50, 2, 0, 6, 8, 3, 7, 7, 3, 2, 0, 6, 0, 3, 0, 3, 2, 0, 8, 0, 9999])], [(20, [0], [50, 2, 0, 6, 8, 3, 7, 7, 3, 2, 0, 6, 0, 3, 0, 3, 2, 0, 8, 0, 9999])], []))
abbrev b_Sy_compileProduct_at_k12 : ByteArray := prog_13_method_16_code
def y_Sy_compileProduct_at_k12 : MethodName := ⟨"DrawingHouse$Styler", "compileProduct", "(I)Z"⟩
abbrev z_Sy_compileProduct_at_k12 : List Cond := Cond.code y_Sy_compileProduct_at_k12 b_Sy_compileProduct_at_k12 4 (some .boolean) :: lw_g
def e_Sy_compileProduct_at_k12 : en_T := ([(2, 0, 0, [11]), (0, 12, 12, [])], some (0, 0, 1, []), false, 9, 0, 0, [], [((0, 3), (2, 0, 0, [109]))], (85070591730234615865843651857942052864, [(11, 1), (11, 2), (11, 5), (11, 6), (11, 7), (11, 8), (11, 11)], [(20, [0], [50, 2, 0, 6, 8, 3, 7, 7, 3, 2, 0, 6, 0, 3, 0, 3, 2, 0, 8, 0, 9999])], [(20, [0], [50, 2, 0, 6, 8, 3, 7, 7, 3, 2, 0, 6, 0, 3, 0, 3, 2, 0, 8, 0, 9999])], []))
abbrev b_Sy_compileProduct_at_k2 : ByteArray := prog_13_method_16_code
def y_Sy_compileProduct_at_k2 : MethodName := ⟨"DrawingHouse$Styler", "compileProduct", "(I)Z"⟩
abbrev z_Sy_compileProduct_at_k2 : List Cond := Cond.code y_Sy_compileProduct_at_k2 b_Sy_compileProduct_at_k2 4 (some .boolean) :: lw_g
def e_Sy_compileProduct_at_k2 : en_T := ([(2, 0, 0, [11]), (0, 2, 2, [])], some (0, 0, 1, []), false, 39, 0, 0, [], [((0, 3), (2, 0, 0, [109]))], (85070591730234615865843651857942052864, [(11, 1), (11, 2), (11, 5), (11, 6), (11, 7), (11, 8), (11, 11)], [(20, [0], [50, 2, 0, 6, 8, 3, 7, 7, 3, 2, 0, 6, 0, 3, 0, 3, 2, 0, 8, 0, 9999])], [(20, [0], [50, 2, 0, 6, 8, 3, 7, 7, 3, 2, 0, 6, 0, 3, 0, 3, 2, 0, 8, 0, 9999])], []))
abbrev b_Sy_compileProduct_at_k3 : ByteArray := prog_13_method_16_code
def y_Sy_compileProduct_at_k3 : MethodName := ⟨"DrawingHouse$Styler", "compileProduct", "(I)Z"⟩
abbrev z_Sy_compileProduct_at_k3 : List Cond := Cond.code y_Sy_compileProduct_at_k3 b_Sy_compileProduct_at_k3 4 (some .boolean) :: lw_g
def e_Sy_compileProduct_at_k3 : en_T := ([(2, 0, 0, [11]), (0, 3, 3, [])], some (0, 0, 1, []), false, 36, 0, 0, [], [((0, 3), (2, 0, 0, [109]))], (85070591730234615865843651857942052864, [(11, 1), (11, 2), (11, 5), (11, 6), (11, 7), (11, 8), (11, 11)], [(20, [0], [50, 2, 0, 6, 8, 3, 7, 7, 3, 2, 0, 6, 0, 3, 0, 3, 2, 0, 8, 0, 9999])], [(20, [0], [50, 2, 0, 6, 8, 3, 7, 7, 3, 2, 0, 6, 0, 3, 0, 3, 2, 0, 8, 0, 9999])], []))
abbrev b_Sy_compileProduct_at_k4 : ByteArray := prog_13_method_16_code
def y_Sy_compileProduct_at_k4 : MethodName := ⟨"DrawingHouse$Styler", "compileProduct", "(I)Z"⟩
abbrev z_Sy_compileProduct_at_k4 : List Cond := Cond.code y_Sy_compileProduct_at_k4 b_Sy_compileProduct_at_k4 4 (some .boolean) :: lw_g
def e_Sy_compileProduct_at_k4 : en_T := ([(2, 0, 0, [11]), (0, 4, 4, [])], some (0, 0, 1, []), false, 33, 0, 0, [], [((0, 3), (2, 0, 0, [109]))], (85070591730234615865843651857942052864, [(11, 1), (11, 2), (11, 5), (11, 6), (11, 7), (11, 8), (11, 11)], [(20, [0], [50, 2, 0, 6, 8, 3, 7, 7, 3, 2, 0, 6, 0, 3, 0, 3, 2, 0, 8, 0, 9999])], [(20, [0], [50, 2, 0, 6, 8, 3, 7, 7, 3, 2, 0, 6, 0, 3, 0, 3, 2, 0, 8, 0, 9999])], []))
abbrev b_Sy_compileProduct_at_k5 : ByteArray := prog_13_method_16_code
def y_Sy_compileProduct_at_k5 : MethodName := ⟨"DrawingHouse$Styler", "compileProduct", "(I)Z"⟩
abbrev z_Sy_compileProduct_at_k5 : List Cond := Cond.code y_Sy_compileProduct_at_k5 b_Sy_compileProduct_at_k5 4 (some .boolean) :: lw_g
def e_Sy_compileProduct_at_k5 : en_T := ([(2, 0, 0, [11]), (0, 5, 5, [])], some (0, 0, 1, []), false, 30, 0, 0, [], [((0, 3), (2, 0, 0, [109]))], (85070591730234615865843651857942052864, [(11, 1), (11, 2), (11, 5), (11, 6), (11, 7), (11, 8), (11, 11)], [(20, [0], [50, 2, 0, 6, 8, 3, 7, 7, 3, 2, 0, 6, 0, 3, 0, 3, 2, 0, 8, 0, 9999])], [(20, [0], [50, 2, 0, 6, 8, 3, 7, 7, 3, 2, 0, 6, 0, 3, 0, 3, 2, 0, 8, 0, 9999])], []))
abbrev b_Sy_compileProduct_at_k6 : ByteArray := prog_13_method_16_code
def y_Sy_compileProduct_at_k6 : MethodName := ⟨"DrawingHouse$Styler", "compileProduct", "(I)Z"⟩
abbrev z_Sy_compileProduct_at_k6 : List Cond := Cond.code y_Sy_compileProduct_at_k6 b_Sy_compileProduct_at_k6 4 (some .boolean) :: lw_g
def e_Sy_compileProduct_at_k6 : en_T := ([(2, 0, 0, [11]), (0, 6, 6, [])], some (0, 0, 1, []), false, 27, 0, 0, [], [((0, 3), (2, 0, 0, [109]))], (85070591730234615865843651857942052864, [(11, 1), (11, 2), (11, 5), (11, 6), (11, 7), (11, 8), (11, 11)], [(20, [0], [50, 2, 0, 6, 8, 3, 7, 7, 3, 2, 0, 6, 0, 3, 0, 3, 2, 0, 8, 0, 9999])], [(20, [0], [50, 2, 0, 6, 8, 3, 7, 7, 3, 2, 0, 6, 0, 3, 0, 3, 2, 0, 8, 0, 9999])], []))
abbrev b_Sy_compileProduct_at_k7 : ByteArray := prog_13_method_16_code
def y_Sy_compileProduct_at_k7 : MethodName := ⟨"DrawingHouse$Styler", "compileProduct", "(I)Z"⟩
abbrev z_Sy_compileProduct_at_k7 : List Cond := Cond.code y_Sy_compileProduct_at_k7 b_Sy_compileProduct_at_k7 4 (some .boolean) :: lw_g
def e_Sy_compileProduct_at_k7 : en_T := ([(2, 0, 0, [11]), (0, 7, 7, [])], some (0, 0, 1, []), false, 24, 0, 0, [], [((0, 3), (2, 0, 0, [109]))], (85070591730234615865843651857942052864, [(11, 1), (11, 2), (11, 5), (11, 6), (11, 7), (11, 8), (11, 11)], [(20, [0], [50, 2, 0, 6, 8, 3, 7, 7, 3, 2, 0, 6, 0, 3, 0, 3, 2, 0, 8, 0, 9999])], [(20, [0], [50, 2, 0, 6, 8, 3, 7, 7, 3, 2, 0, 6, 0, 3, 0, 3, 2, 0, 8, 0, 9999])], []))
abbrev b_Sy_compileProduct_at_k8 : ByteArray := prog_13_method_16_code
def y_Sy_compileProduct_at_k8 : MethodName := ⟨"DrawingHouse$Styler", "compileProduct", "(I)Z"⟩
abbrev z_Sy_compileProduct_at_k8 : List Cond := Cond.code y_Sy_compileProduct_at_k8 b_Sy_compileProduct_at_k8 4 (some .boolean) :: lw_g
def e_Sy_compileProduct_at_k8 : en_T := ([(2, 0, 0, [11]), (0, 8, 8, [])], some (0, 0, 1, []), false, 21, 0, 0, [], [((0, 3), (2, 0, 0, [109]))], (85070591730234615865843651857942052864, [(11, 1), (11, 2), (11, 5), (11, 6), (11, 7), (11, 8), (11, 11)], [(20, [0], [50, 2, 0, 6, 8, 3, 7, 7, 3, 2, 0, 6, 0, 3, 0, 3, 2, 0, 8, 0, 9999])], [(20, [0], [50, 2, 0, 6, 8, 3, 7, 7, 3, 2, 0, 6, 0, 3, 0, 3, 2, 0, 8, 0, 9999])], []))
abbrev b_Sy_compileProduct_at_k9 : ByteArray := prog_13_method_16_code
def y_Sy_compileProduct_at_k9 : MethodName := ⟨"DrawingHouse$Styler", "compileProduct", "(I)Z"⟩
abbrev z_Sy_compileProduct_at_k9 : List Cond := Cond.code y_Sy_compileProduct_at_k9 b_Sy_compileProduct_at_k9 4 (some .boolean) :: lw_g
def e_Sy_compileProduct_at_k9 : en_T := ([(2, 0, 0, [11]), (0, 9, 9, [])], some (0, 0, 1, []), false, 18, 0, 0, [], [((0, 3), (2, 0, 0, [109]))], (85070591730234615865843651857942052864, [(11, 1), (11, 2), (11, 5), (11, 6), (11, 7), (11, 8), (11, 11)], [(20, [0], [50, 2, 0, 6, 8, 3, 7, 7, 3, 2, 0, 6, 0, 3, 0, 3, 2, 0, 8, 0, 9999])], [(20, [0], [50, 2, 0, 6, 8, 3, 7, 7, 3, 2, 0, 6, 0, 3, 0, 3, 2, 0, 8, 0, 9999])], []))
abbrev b_Sy_compileSetting : ByteArray := prog_13_method_10_code
def y_Sy_compileSetting : MethodName := ⟨"DrawingHouse$Styler", "compileSetting", "()Z"⟩
abbrev z_Sy_compileSetting : List Cond := Cond.code y_Sy_compileSetting b_Sy_compileSetting 2 (some .boolean) :: lw_g
def e_Sy_compileSetting : en_T := ([(2, 0, 0, [11])], some (0, 0, 1, []), false, 47, 0, 0, [([(2, 0, 0, [11]), (2, 0, 0, [109]), (0, 1, 1, [])], [], [2], [((0, 3), 1)], [], []), ([(2, 0, 0, [11]), (2, 0, 0, [109]), (0, 0, 0, [])], [], [2], [((0, 3), 1)], [], [])], [((0, 3), (2, 0, 0, [109]))], (85070591730234615865843651857942052864, [(11, 1), (11, 2), (11, 5), (11, 6), (11, 7), (11, 8), (11, 11)], [], [(20, [0], [50, 2, 0, 6, 8, 3, 7, 7, 3, 2, 0, 6, 0, 3, 0, 3, 2, 0, 8, 0, 9999])], []))
abbrev b_Sy_compileSum_at_k0 : ByteArray := prog_13_method_15_code
def y_Sy_compileSum_at_k0 : MethodName := ⟨"DrawingHouse$Styler", "compileSum", "(I)Z"⟩
abbrev z_Sy_compileSum_at_k0 : List Cond := Cond.code y_Sy_compileSum_at_k0 b_Sy_compileSum_at_k0 4 (some .boolean) :: lw_g
def e_Sy_compileSum_at_k0 : en_T := ([(2, 0, 0, [11]), (0, 0, 0, [])], some (0, 0, 1, []), false, 46, 0, 0, [], [((0, 3), (2, 0, 0, [109]))], (85070591730234615865843651857942052864, [(11, 1), (11, 2), (11, 5), (11, 6), (11, 7), (11, 8), (11, 11)], [(20, [0], [50, 2, 0, 6, 8, 3, 7, 7, 3, 2, 0, 6, 0, 3, 0, 3, 2, 0, 8, 0, 9999])], [(20, [0], [50, 2, 0, 6, 8, 3, 7, 7, 3, 2, 0, 6, 0, 3, 0, 3, 2, 0, 8, 0, 9999])], []))
abbrev b_Sy_compileSum_at_k1 : ByteArray := prog_13_method_15_code
def y_Sy_compileSum_at_k1 : MethodName := ⟨"DrawingHouse$Styler", "compileSum", "(I)Z"⟩
abbrev z_Sy_compileSum_at_k1 : List Cond := Cond.code y_Sy_compileSum_at_k1 b_Sy_compileSum_at_k1 4 (some .boolean) :: lw_g
def e_Sy_compileSum_at_k1 : en_T := ([(2, 0, 0, [11]), (0, 1, 1, [])], some (0, 0, 1, []), false, 43, 0, 0, [], [((0, 3), (2, 0, 0, [109]))], (85070591730234615865843651857942052864, [(11, 1), (11, 2), (11, 5), (11, 6), (11, 7), (11, 8), (11, 11)], [(20, [0], [50, 2, 0, 6, 8, 3, 7, 7, 3, 2, 0, 6, 0, 3, 0, 3, 2, 0, 8, 0, 9999])], [(20, [0], [50, 2, 0, 6, 8, 3, 7, 7, 3, 2, 0, 6, 0, 3, 0, 3, 2, 0, 8, 0, 9999])], []))
abbrev b_Sy_compileSum_at_k10 : ByteArray := prog_13_method_15_code
def y_Sy_compileSum_at_k10 : MethodName := ⟨"DrawingHouse$Styler", "compileSum", "(I)Z"⟩
abbrev z_Sy_compileSum_at_k10 : List Cond := Cond.code y_Sy_compileSum_at_k10 b_Sy_compileSum_at_k10 4 (some .boolean) :: lw_g
def e_Sy_compileSum_at_k10 : en_T := ([(2, 0, 0, [11]), (0, 10, 10, [])], some (0, 0, 1, []), false, 16, 0, 0, [], [((0, 3), (2, 0, 0, [109]))], (85070591730234615865843651857942052864, [(11, 1), (11, 2), (11, 5), (11, 6), (11, 7), (11, 8), (11, 11)], [(20, [0], [50, 2, 0, 6, 8, 3, 7, 7, 3, 2, 0, 6, 0, 3, 0, 3, 2, 0, 8, 0, 9999])], [(20, [0], [50, 2, 0, 6, 8, 3, 7, 7, 3, 2, 0, 6, 0, 3, 0, 3, 2, 0, 8, 0, 9999])], []))
abbrev b_Sy_compileSum_at_k11 : ByteArray := prog_13_method_15_code
def y_Sy_compileSum_at_k11 : MethodName := ⟨"DrawingHouse$Styler", "compileSum", "(I)Z"⟩
abbrev z_Sy_compileSum_at_k11 : List Cond := Cond.code y_Sy_compileSum_at_k11 b_Sy_compileSum_at_k11 4 (some .boolean) :: lw_g
def e_Sy_compileSum_at_k11 : en_T := ([(2, 0, 0, [11]), (0, 11, 11, [])], some (0, 0, 1, []), false, 13, 0, 0, [], [((0, 3), (2, 0, 0, [109]))], (85070591730234615865843651857942052864, [(11, 1), (11, 2), (11, 5), (11, 6), (11, 7), (11, 8), (11, 11)], [(20, [0], [50, 2, 0, 6, 8, 3, 7, 7, 3, 2, 0, 6, 0, 3, 0, 3, 2, 0, 8, 0, 9999])], [(20, [0], [50, 2, 0, 6, 8, 3, 7, 7, 3, 2, 0, 6, 0, 3, 0, 3, 2, 0, 8, 0, 9999])], []))
abbrev b_Sy_compileSum_at_k12 : ByteArray := prog_13_method_15_code
def y_Sy_compileSum_at_k12 : MethodName := ⟨"DrawingHouse$Styler", "compileSum", "(I)Z"⟩
abbrev z_Sy_compileSum_at_k12 : List Cond := Cond.code y_Sy_compileSum_at_k12 b_Sy_compileSum_at_k12 4 (some .boolean) :: lw_g
def e_Sy_compileSum_at_k12 : en_T := ([(2, 0, 0, [11]), (0, 12, 12, [])], some (0, 0, 1, []), false, 10, 0, 0, [], [((0, 3), (2, 0, 0, [109]))], (85070591730234615865843651857942052864, [(11, 1), (11, 2), (11, 5), (11, 6), (11, 7), (11, 8), (11, 11)], [(20, [0], [50, 2, 0, 6, 8, 3, 7, 7, 3, 2, 0, 6, 0, 3, 0, 3, 2, 0, 8, 0, 9999])], [(20, [0], [50, 2, 0, 6, 8, 3, 7, 7, 3, 2, 0, 6, 0, 3, 0, 3, 2, 0, 8, 0, 9999])], []))
abbrev b_Sy_compileSum_at_k2 : ByteArray := prog_13_method_15_code
def y_Sy_compileSum_at_k2 : MethodName := ⟨"DrawingHouse$Styler", "compileSum", "(I)Z"⟩
abbrev z_Sy_compileSum_at_k2 : List Cond := Cond.code y_Sy_compileSum_at_k2 b_Sy_compileSum_at_k2 4 (some .boolean) :: lw_g
def e_Sy_compileSum_at_k2 : en_T := ([(2, 0, 0, [11]), (0, 2, 2, [])], some (0, 0, 1, []), false, 40, 0, 0, [], [((0, 3), (2, 0, 0, [109]))], (85070591730234615865843651857942052864, [(11, 1), (11, 2), (11, 5), (11, 6), (11, 7), (11, 8), (11, 11)], [(20, [0], [50, 2, 0, 6, 8, 3, 7, 7, 3, 2, 0, 6, 0, 3, 0, 3, 2, 0, 8, 0, 9999])], [(20, [0], [50, 2, 0, 6, 8, 3, 7, 7, 3, 2, 0, 6, 0, 3, 0, 3, 2, 0, 8, 0, 9999])], []))
abbrev b_Sy_compileSum_at_k3 : ByteArray := prog_13_method_15_code
def y_Sy_compileSum_at_k3 : MethodName := ⟨"DrawingHouse$Styler", "compileSum", "(I)Z"⟩
abbrev z_Sy_compileSum_at_k3 : List Cond := Cond.code y_Sy_compileSum_at_k3 b_Sy_compileSum_at_k3 4 (some .boolean) :: lw_g
def e_Sy_compileSum_at_k3 : en_T := ([(2, 0, 0, [11]), (0, 3, 3, [])], some (0, 0, 1, []), false, 37, 0, 0, [], [((0, 3), (2, 0, 0, [109]))], (85070591730234615865843651857942052864, [(11, 1), (11, 2), (11, 5), (11, 6), (11, 7), (11, 8), (11, 11)], [(20, [0], [50, 2, 0, 6, 8, 3, 7, 7, 3, 2, 0, 6, 0, 3, 0, 3, 2, 0, 8, 0, 9999])], [(20, [0], [50, 2, 0, 6, 8, 3, 7, 7, 3, 2, 0, 6, 0, 3, 0, 3, 2, 0, 8, 0, 9999])], []))
abbrev b_Sy_compileSum_at_k4 : ByteArray := prog_13_method_15_code
def y_Sy_compileSum_at_k4 : MethodName := ⟨"DrawingHouse$Styler", "compileSum", "(I)Z"⟩
abbrev z_Sy_compileSum_at_k4 : List Cond := Cond.code y_Sy_compileSum_at_k4 b_Sy_compileSum_at_k4 4 (some .boolean) :: lw_g
def e_Sy_compileSum_at_k4 : en_T := ([(2, 0, 0, [11]), (0, 4, 4, [])], some (0, 0, 1, []), false, 34, 0, 0, [], [((0, 3), (2, 0, 0, [109]))], (85070591730234615865843651857942052864, [(11, 1), (11, 2), (11, 5), (11, 6), (11, 7), (11, 8), (11, 11)], [(20, [0], [50, 2, 0, 6, 8, 3, 7, 7, 3, 2, 0, 6, 0, 3, 0, 3, 2, 0, 8, 0, 9999])], [(20, [0], [50, 2, 0, 6, 8, 3, 7, 7, 3, 2, 0, 6, 0, 3, 0, 3, 2, 0, 8, 0, 9999])], []))
abbrev b_Sy_compileSum_at_k5 : ByteArray := prog_13_method_15_code
def y_Sy_compileSum_at_k5 : MethodName := ⟨"DrawingHouse$Styler", "compileSum", "(I)Z"⟩
abbrev z_Sy_compileSum_at_k5 : List Cond := Cond.code y_Sy_compileSum_at_k5 b_Sy_compileSum_at_k5 4 (some .boolean) :: lw_g
def e_Sy_compileSum_at_k5 : en_T := ([(2, 0, 0, [11]), (0, 5, 5, [])], some (0, 0, 1, []), false, 31, 0, 0, [], [((0, 3), (2, 0, 0, [109]))], (85070591730234615865843651857942052864, [(11, 1), (11, 2), (11, 5), (11, 6), (11, 7), (11, 8), (11, 11)], [(20, [0], [50, 2, 0, 6, 8, 3, 7, 7, 3, 2, 0, 6, 0, 3, 0, 3, 2, 0, 8, 0, 9999])], [(20, [0], [50, 2, 0, 6, 8, 3, 7, 7, 3, 2, 0, 6, 0, 3, 0, 3, 2, 0, 8, 0, 9999])], []))
abbrev b_Sy_compileSum_at_k6 : ByteArray := prog_13_method_15_code
def y_Sy_compileSum_at_k6 : MethodName := ⟨"DrawingHouse$Styler", "compileSum", "(I)Z"⟩
abbrev z_Sy_compileSum_at_k6 : List Cond := Cond.code y_Sy_compileSum_at_k6 b_Sy_compileSum_at_k6 4 (some .boolean) :: lw_g
def e_Sy_compileSum_at_k6 : en_T := ([(2, 0, 0, [11]), (0, 6, 6, [])], some (0, 0, 1, []), false, 28, 0, 0, [], [((0, 3), (2, 0, 0, [109]))], (85070591730234615865843651857942052864, [(11, 1), (11, 2), (11, 5), (11, 6), (11, 7), (11, 8), (11, 11)], [(20, [0], [50, 2, 0, 6, 8, 3, 7, 7, 3, 2, 0, 6, 0, 3, 0, 3, 2, 0, 8, 0, 9999])], [(20, [0], [50, 2, 0, 6, 8, 3, 7, 7, 3, 2, 0, 6, 0, 3, 0, 3, 2, 0, 8, 0, 9999])], []))
abbrev b_Sy_compileSum_at_k7 : ByteArray := prog_13_method_15_code
def y_Sy_compileSum_at_k7 : MethodName := ⟨"DrawingHouse$Styler", "compileSum", "(I)Z"⟩
abbrev z_Sy_compileSum_at_k7 : List Cond := Cond.code y_Sy_compileSum_at_k7 b_Sy_compileSum_at_k7 4 (some .boolean) :: lw_g
def e_Sy_compileSum_at_k7 : en_T := ([(2, 0, 0, [11]), (0, 7, 7, [])], some (0, 0, 1, []), false, 25, 0, 0, [], [((0, 3), (2, 0, 0, [109]))], (85070591730234615865843651857942052864, [(11, 1), (11, 2), (11, 5), (11, 6), (11, 7), (11, 8), (11, 11)], [(20, [0], [50, 2, 0, 6, 8, 3, 7, 7, 3, 2, 0, 6, 0, 3, 0, 3, 2, 0, 8, 0, 9999])], [(20, [0], [50, 2, 0, 6, 8, 3, 7, 7, 3, 2, 0, 6, 0, 3, 0, 3, 2, 0, 8, 0, 9999])], []))
abbrev b_Sy_compileSum_at_k8 : ByteArray := prog_13_method_15_code
def y_Sy_compileSum_at_k8 : MethodName := ⟨"DrawingHouse$Styler", "compileSum", "(I)Z"⟩
abbrev z_Sy_compileSum_at_k8 : List Cond := Cond.code y_Sy_compileSum_at_k8 b_Sy_compileSum_at_k8 4 (some .boolean) :: lw_g
def e_Sy_compileSum_at_k8 : en_T := ([(2, 0, 0, [11]), (0, 8, 8, [])], some (0, 0, 1, []), false, 22, 0, 0, [], [((0, 3), (2, 0, 0, [109]))], (85070591730234615865843651857942052864, [(11, 1), (11, 2), (11, 5), (11, 6), (11, 7), (11, 8), (11, 11)], [(20, [0], [50, 2, 0, 6, 8, 3, 7, 7, 3, 2, 0, 6, 0, 3, 0, 3, 2, 0, 8, 0, 9999])], [(20, [0], [50, 2, 0, 6, 8, 3, 7, 7, 3, 2, 0, 6, 0, 3, 0, 3, 2, 0, 8, 0, 9999])], []))
abbrev b_Sy_compileSum_at_k9 : ByteArray := prog_13_method_15_code
def y_Sy_compileSum_at_k9 : MethodName := ⟨"DrawingHouse$Styler", "compileSum", "(I)Z"⟩
abbrev z_Sy_compileSum_at_k9 : List Cond := Cond.code y_Sy_compileSum_at_k9 b_Sy_compileSum_at_k9 4 (some .boolean) :: lw_g
def e_Sy_compileSum_at_k9 : en_T := ([(2, 0, 0, [11]), (0, 9, 9, [])], some (0, 0, 1, []), false, 19, 0, 0, [], [((0, 3), (2, 0, 0, [109]))], (85070591730234615865843651857942052864, [(11, 1), (11, 2), (11, 5), (11, 6), (11, 7), (11, 8), (11, 11)], [(20, [0], [50, 2, 0, 6, 8, 3, 7, 7, 3, 2, 0, 6, 0, 3, 0, 3, 2, 0, 8, 0, 9999])], [(20, [0], [50, 2, 0, 6, 8, 3, 7, 7, 3, 2, 0, 6, 0, 3, 0, 3, 2, 0, 8, 0, 9999])], []))
abbrev b_Sy_compileValue_at_k0 : ByteArray := prog_13_method_17_code
def y_Sy_compileValue_at_k0 : MethodName := ⟨"DrawingHouse$Styler", "compileValue", "(I)Z"⟩
abbrev z_Sy_compileValue_at_k0 : List Cond := Cond.code y_Sy_compileValue_at_k0 b_Sy_compileValue_at_k0 3 (some .boolean) :: lw_g
def e_Sy_compileValue_at_k0 : en_T := ([(2, 0, 0, [11]), (0, 0, 0, [])], some (0, 0, 1, []), false, 44, 0, 0, [([(2, 0, 0, [11]), (0, 0, 0, []), (2, 0, 0, [109]), (0, 1, 1, [])], [], [3], [((0, 3), 2)], [], []), ([(2, 0, 0, [11]), (0, 0, 0, []), (2, 0, 0, [109]), (0, 0, 0, [])], [], [3], [((0, 3), 2)], [], [])], [((0, 3), (2, 0, 0, [109]))], (85070591730234615865843651857942052864, [(11, 1), (11, 2), (11, 5), (11, 6), (11, 7), (11, 8), (11, 11)], [(20, [0], [50, 2, 0, 6, 8, 3, 7, 7, 3, 2, 0, 6, 0, 3, 0, 3, 2, 0, 8, 0, 9999])], [(20, [0], [50, 2, 0, 6, 8, 3, 7, 7, 3, 2, 0, 6, 0, 3, 0, 3, 2, 0, 8, 0, 9999])], []))
abbrev b_Sy_compileValue_at_k1 : ByteArray := prog_13_method_17_code
def y_Sy_compileValue_at_k1 : MethodName := ⟨"DrawingHouse$Styler", "compileValue", "(I)Z"⟩
abbrev z_Sy_compileValue_at_k1 : List Cond := Cond.code y_Sy_compileValue_at_k1 b_Sy_compileValue_at_k1 3 (some .boolean) :: lw_g
def e_Sy_compileValue_at_k1 : en_T := ([(2, 0, 0, [11]), (0, 1, 1, [])], some (0, 0, 1, []), false, 41, 0, 0, [([(2, 0, 0, [11]), (0, 1, 1, []), (2, 0, 0, [109]), (0, 1, 1, [])], [], [3], [((0, 3), 2)], [], []), ([(2, 0, 0, [11]), (0, 1, 1, []), (2, 0, 0, [109]), (0, 0, 0, [])], [], [3], [((0, 3), 2)], [], [])], [((0, 3), (2, 0, 0, [109]))], (85070591730234615865843651857942052864, [(11, 1), (11, 2), (11, 5), (11, 6), (11, 7), (11, 8), (11, 11)], [(20, [0], [50, 2, 0, 6, 8, 3, 7, 7, 3, 2, 0, 6, 0, 3, 0, 3, 2, 0, 8, 0, 9999])], [(20, [0], [50, 2, 0, 6, 8, 3, 7, 7, 3, 2, 0, 6, 0, 3, 0, 3, 2, 0, 8, 0, 9999])], []))
abbrev b_Sy_compileValue_at_k10 : ByteArray := prog_13_method_17_code
def y_Sy_compileValue_at_k10 : MethodName := ⟨"DrawingHouse$Styler", "compileValue", "(I)Z"⟩
abbrev z_Sy_compileValue_at_k10 : List Cond := Cond.code y_Sy_compileValue_at_k10 b_Sy_compileValue_at_k10 3 (some .boolean) :: lw_g
def e_Sy_compileValue_at_k10 : en_T := ([(2, 0, 0, [11]), (0, 10, 10, [])], some (0, 0, 1, []), false, 14, 0, 0, [([(2, 0, 0, [11]), (0, 10, 10, []), (2, 0, 0, [109]), (0, 1, 1, [])], [], [3], [((0, 3), 2)], [], []), ([(2, 0, 0, [11]), (0, 10, 10, []), (2, 0, 0, [109]), (0, 0, 0, [])], [], [3], [((0, 3), 2)], [], [])], [((0, 3), (2, 0, 0, [109]))], (85070591730234615865843651857942052864, [(11, 1), (11, 2), (11, 5), (11, 6), (11, 7), (11, 8), (11, 11)], [(20, [0], [50, 2, 0, 6, 8, 3, 7, 7, 3, 2, 0, 6, 0, 3, 0, 3, 2, 0, 8, 0, 9999])], [(20, [0], [50, 2, 0, 6, 8, 3, 7, 7, 3, 2, 0, 6, 0, 3, 0, 3, 2, 0, 8, 0, 9999])], []))
abbrev b_Sy_compileValue_at_k11 : ByteArray := prog_13_method_17_code
def y_Sy_compileValue_at_k11 : MethodName := ⟨"DrawingHouse$Styler", "compileValue", "(I)Z"⟩
abbrev z_Sy_compileValue_at_k11 : List Cond := Cond.code y_Sy_compileValue_at_k11 b_Sy_compileValue_at_k11 3 (some .boolean) :: lw_g
def e_Sy_compileValue_at_k11 : en_T := ([(2, 0, 0, [11]), (0, 11, 11, [])], some (0, 0, 1, []), false, 11, 0, 0, [([(2, 0, 0, [11]), (0, 11, 11, []), (2, 0, 0, [109]), (0, 1, 1, [])], [], [3], [((0, 3), 2)], [], []), ([(2, 0, 0, [11]), (0, 11, 11, []), (2, 0, 0, [109]), (0, 0, 0, [])], [], [3], [((0, 3), 2)], [], [])], [((0, 3), (2, 0, 0, [109]))], (85070591730234615865843651857942052864, [(11, 1), (11, 2), (11, 5), (11, 6), (11, 7), (11, 8), (11, 11)], [(20, [0], [50, 2, 0, 6, 8, 3, 7, 7, 3, 2, 0, 6, 0, 3, 0, 3, 2, 0, 8, 0, 9999])], [(20, [0], [50, 2, 0, 6, 8, 3, 7, 7, 3, 2, 0, 6, 0, 3, 0, 3, 2, 0, 8, 0, 9999])], []))
abbrev b_Sy_compileValue_at_k12 : ByteArray := prog_13_method_17_code
def y_Sy_compileValue_at_k12 : MethodName := ⟨"DrawingHouse$Styler", "compileValue", "(I)Z"⟩
abbrev z_Sy_compileValue_at_k12 : List Cond := Cond.code y_Sy_compileValue_at_k12 b_Sy_compileValue_at_k12 3 (some .boolean) :: lw_g
def e_Sy_compileValue_at_k12 : en_T := ([(2, 0, 0, [11]), (0, 12, 12, [])], some (0, 0, 1, []), false, 8, 0, 0, [([(2, 0, 0, [11]), (0, 12, 12, []), (2, 0, 0, [109]), (0, 1, 1, [])], [], [3], [((0, 3), 2)], [], []), ([(2, 0, 0, [11]), (0, 12, 12, []), (2, 0, 0, [109]), (0, 0, 0, [])], [], [3], [((0, 3), 2)], [], [])], [((0, 3), (2, 0, 0, [109]))], (85070591730234615865843651857942052864, [(11, 1), (11, 2), (11, 5), (11, 6), (11, 7), (11, 8), (11, 11)], [(20, [0], [50, 2, 0, 6, 8, 3, 7, 7, 3, 2, 0, 6, 0, 3, 0, 3, 2, 0, 8, 0, 9999])], [(20, [0], [50, 2, 0, 6, 8, 3, 7, 7, 3, 2, 0, 6, 0, 3, 0, 3, 2, 0, 8, 0, 9999])], []))
abbrev b_Sy_compileValue_at_k2 : ByteArray := prog_13_method_17_code
def y_Sy_compileValue_at_k2 : MethodName := ⟨"DrawingHouse$Styler", "compileValue", "(I)Z"⟩
abbrev z_Sy_compileValue_at_k2 : List Cond := Cond.code y_Sy_compileValue_at_k2 b_Sy_compileValue_at_k2 3 (some .boolean) :: lw_g
def e_Sy_compileValue_at_k2 : en_T := ([(2, 0, 0, [11]), (0, 2, 2, [])], some (0, 0, 1, []), false, 38, 0, 0, [([(2, 0, 0, [11]), (0, 2, 2, []), (2, 0, 0, [109]), (0, 1, 1, [])], [], [3], [((0, 3), 2)], [], []), ([(2, 0, 0, [11]), (0, 2, 2, []), (2, 0, 0, [109]), (0, 0, 0, [])], [], [3], [((0, 3), 2)], [], [])], [((0, 3), (2, 0, 0, [109]))], (85070591730234615865843651857942052864, [(11, 1), (11, 2), (11, 5), (11, 6), (11, 7), (11, 8), (11, 11)], [(20, [0], [50, 2, 0, 6, 8, 3, 7, 7, 3, 2, 0, 6, 0, 3, 0, 3, 2, 0, 8, 0, 9999])], [(20, [0], [50, 2, 0, 6, 8, 3, 7, 7, 3, 2, 0, 6, 0, 3, 0, 3, 2, 0, 8, 0, 9999])], []))
abbrev b_Sy_compileValue_at_k3 : ByteArray := prog_13_method_17_code
def y_Sy_compileValue_at_k3 : MethodName := ⟨"DrawingHouse$Styler", "compileValue", "(I)Z"⟩
abbrev z_Sy_compileValue_at_k3 : List Cond := Cond.code y_Sy_compileValue_at_k3 b_Sy_compileValue_at_k3 3 (some .boolean) :: lw_g
def e_Sy_compileValue_at_k3 : en_T := ([(2, 0, 0, [11]), (0, 3, 3, [])], some (0, 0, 1, []), false, 35, 0, 0, [([(2, 0, 0, [11]), (0, 3, 3, []), (2, 0, 0, [109]), (0, 1, 1, [])], [], [3], [((0, 3), 2)], [], []), ([(2, 0, 0, [11]), (0, 3, 3, []), (2, 0, 0, [109]), (0, 0, 0, [])], [], [3], [((0, 3), 2)], [], [])], [((0, 3), (2, 0, 0, [109]))], (85070591730234615865843651857942052864, [(11, 1), (11, 2), (11, 5), (11, 6), (11, 7), (11, 8), (11, 11)], [(20, [0], [50, 2, 0, 6, 8, 3, 7, 7, 3, 2, 0, 6, 0, 3, 0, 3, 2, 0, 8, 0, 9999])], [(20, [0], [50, 2, 0, 6, 8, 3, 7, 7, 3, 2, 0, 6, 0, 3, 0, 3, 2, 0, 8, 0, 9999])], []))
abbrev b_Sy_compileValue_at_k4 : ByteArray := prog_13_method_17_code
def y_Sy_compileValue_at_k4 : MethodName := ⟨"DrawingHouse$Styler", "compileValue", "(I)Z"⟩
abbrev z_Sy_compileValue_at_k4 : List Cond := Cond.code y_Sy_compileValue_at_k4 b_Sy_compileValue_at_k4 3 (some .boolean) :: lw_g
def e_Sy_compileValue_at_k4 : en_T := ([(2, 0, 0, [11]), (0, 4, 4, [])], some (0, 0, 1, []), false, 32, 0, 0, [([(2, 0, 0, [11]), (0, 4, 4, []), (2, 0, 0, [109]), (0, 1, 1, [])], [], [3], [((0, 3), 2)], [], []), ([(2, 0, 0, [11]), (0, 4, 4, []), (2, 0, 0, [109]), (0, 0, 0, [])], [], [3], [((0, 3), 2)], [], [])], [((0, 3), (2, 0, 0, [109]))], (85070591730234615865843651857942052864, [(11, 1), (11, 2), (11, 5), (11, 6), (11, 7), (11, 8), (11, 11)], [(20, [0], [50, 2, 0, 6, 8, 3, 7, 7, 3, 2, 0, 6, 0, 3, 0, 3, 2, 0, 8, 0, 9999])], [(20, [0], [50, 2, 0, 6, 8, 3, 7, 7, 3, 2, 0, 6, 0, 3, 0, 3, 2, 0, 8, 0, 9999])], []))
abbrev b_Sy_compileValue_at_k5 : ByteArray := prog_13_method_17_code
def y_Sy_compileValue_at_k5 : MethodName := ⟨"DrawingHouse$Styler", "compileValue", "(I)Z"⟩
abbrev z_Sy_compileValue_at_k5 : List Cond := Cond.code y_Sy_compileValue_at_k5 b_Sy_compileValue_at_k5 3 (some .boolean) :: lw_g
def e_Sy_compileValue_at_k5 : en_T := ([(2, 0, 0, [11]), (0, 5, 5, [])], some (0, 0, 1, []), false, 29, 0, 0, [([(2, 0, 0, [11]), (0, 5, 5, []), (2, 0, 0, [109]), (0, 1, 1, [])], [], [3], [((0, 3), 2)], [], []), ([(2, 0, 0, [11]), (0, 5, 5, []), (2, 0, 0, [109]), (0, 0, 0, [])], [], [3], [((0, 3), 2)], [], [])], [((0, 3), (2, 0, 0, [109]))], (85070591730234615865843651857942052864, [(11, 1), (11, 2), (11, 5), (11, 6), (11, 7), (11, 8), (11, 11)], [(20, [0], [50, 2, 0, 6, 8, 3, 7, 7, 3, 2, 0, 6, 0, 3, 0, 3, 2, 0, 8, 0, 9999])], [(20, [0], [50, 2, 0, 6, 8, 3, 7, 7, 3, 2, 0, 6, 0, 3, 0, 3, 2, 0, 8, 0, 9999])], []))
abbrev b_Sy_compileValue_at_k6 : ByteArray := prog_13_method_17_code
def y_Sy_compileValue_at_k6 : MethodName := ⟨"DrawingHouse$Styler", "compileValue", "(I)Z"⟩
abbrev z_Sy_compileValue_at_k6 : List Cond := Cond.code y_Sy_compileValue_at_k6 b_Sy_compileValue_at_k6 3 (some .boolean) :: lw_g
def e_Sy_compileValue_at_k6 : en_T := ([(2, 0, 0, [11]), (0, 6, 6, [])], some (0, 0, 1, []), false, 26, 0, 0, [([(2, 0, 0, [11]), (0, 6, 6, []), (2, 0, 0, [109]), (0, 1, 1, [])], [], [3], [((0, 3), 2)], [], []), ([(2, 0, 0, [11]), (0, 6, 6, []), (2, 0, 0, [109]), (0, 0, 0, [])], [], [3], [((0, 3), 2)], [], [])], [((0, 3), (2, 0, 0, [109]))], (85070591730234615865843651857942052864, [(11, 1), (11, 2), (11, 5), (11, 6), (11, 7), (11, 8), (11, 11)], [(20, [0], [50, 2, 0, 6, 8, 3, 7, 7, 3, 2, 0, 6, 0, 3, 0, 3, 2, 0, 8, 0, 9999])], [(20, [0], [50, 2, 0, 6, 8, 3, 7, 7, 3, 2, 0, 6, 0, 3, 0, 3, 2, 0, 8, 0, 9999])], []))
abbrev b_Sy_compileValue_at_k7 : ByteArray := prog_13_method_17_code
def y_Sy_compileValue_at_k7 : MethodName := ⟨"DrawingHouse$Styler", "compileValue", "(I)Z"⟩
abbrev z_Sy_compileValue_at_k7 : List Cond := Cond.code y_Sy_compileValue_at_k7 b_Sy_compileValue_at_k7 3 (some .boolean) :: lw_g
def e_Sy_compileValue_at_k7 : en_T := ([(2, 0, 0, [11]), (0, 7, 7, [])], some (0, 0, 1, []), false, 23, 0, 0, [([(2, 0, 0, [11]), (0, 7, 7, []), (2, 0, 0, [109]), (0, 1, 1, [])], [], [3], [((0, 3), 2)], [], []), ([(2, 0, 0, [11]), (0, 7, 7, []), (2, 0, 0, [109]), (0, 0, 0, [])], [], [3], [((0, 3), 2)], [], [])], [((0, 3), (2, 0, 0, [109]))], (85070591730234615865843651857942052864, [(11, 1), (11, 2), (11, 5), (11, 6), (11, 7), (11, 8), (11, 11)], [(20, [0], [50, 2, 0, 6, 8, 3, 7, 7, 3, 2, 0, 6, 0, 3, 0, 3, 2, 0, 8, 0, 9999])], [(20, [0], [50, 2, 0, 6, 8, 3, 7, 7, 3, 2, 0, 6, 0, 3, 0, 3, 2, 0, 8, 0, 9999])], []))
abbrev b_Sy_compileValue_at_k8 : ByteArray := prog_13_method_17_code
def y_Sy_compileValue_at_k8 : MethodName := ⟨"DrawingHouse$Styler", "compileValue", "(I)Z"⟩
abbrev z_Sy_compileValue_at_k8 : List Cond := Cond.code y_Sy_compileValue_at_k8 b_Sy_compileValue_at_k8 3 (some .boolean) :: lw_g
def e_Sy_compileValue_at_k8 : en_T := ([(2, 0, 0, [11]), (0, 8, 8, [])], some (0, 0, 1, []), false, 20, 0, 0, [([(2, 0, 0, [11]), (0, 8, 8, []), (2, 0, 0, [109]), (0, 1, 1, [])], [], [3], [((0, 3), 2)], [], []), ([(2, 0, 0, [11]), (0, 8, 8, []), (2, 0, 0, [109]), (0, 0, 0, [])], [], [3], [((0, 3), 2)], [], [])], [((0, 3), (2, 0, 0, [109]))], (85070591730234615865843651857942052864, [(11, 1), (11, 2), (11, 5), (11, 6), (11, 7), (11, 8), (11, 11)], [(20, [0], [50, 2, 0, 6, 8, 3, 7, 7, 3, 2, 0, 6, 0, 3, 0, 3, 2, 0, 8, 0, 9999])], [(20, [0], [50, 2, 0, 6, 8, 3, 7, 7, 3, 2, 0, 6, 0, 3, 0, 3, 2, 0, 8, 0, 9999])], []))
abbrev b_Sy_compileValue_at_k9 : ByteArray := prog_13_method_17_code
def y_Sy_compileValue_at_k9 : MethodName := ⟨"DrawingHouse$Styler", "compileValue", "(I)Z"⟩
abbrev z_Sy_compileValue_at_k9 : List Cond := Cond.code y_Sy_compileValue_at_k9 b_Sy_compileValue_at_k9 3 (some .boolean) :: lw_g
def e_Sy_compileValue_at_k9 : en_T := ([(2, 0, 0, [11]), (0, 9, 9, [])], some (0, 0, 1, []), false, 17, 0, 0, [([(2, 0, 0, [11]), (0, 9, 9, []), (2, 0, 0, [109]), (0, 1, 1, [])], [], [3], [((0, 3), 2)], [], []), ([(2, 0, 0, [11]), (0, 9, 9, []), (2, 0, 0, [109]), (0, 0, 0, [])], [], [3], [((0, 3), 2)], [], [])], [((0, 3), (2, 0, 0, [109]))], (85070591730234615865843651857942052864, [(11, 1), (11, 2), (11, 5), (11, 6), (11, 7), (11, 8), (11, 11)], [(20, [0], [50, 2, 0, 6, 8, 3, 7, 7, 3, 2, 0, 6, 0, 3, 0, 3, 2, 0, 8, 0, 9999])], [(20, [0], [50, 2, 0, 6, 8, 3, 7, 7, 3, 2, 0, 6, 0, 3, 0, 3, 2, 0, 8, 0, 9999])], []))
abbrev b_Mo_node : ByteArray := prog_15_method_99_code
def y_Mo_node : MethodName := ⟨"DrawingHouseModel", "node", "(III)I"⟩
abbrev z_Mo_node : List Cond := Cond.code y_Mo_node b_Mo_node 7 (some .int) :: lw_g
def e_Mo_node : en_T := ([(2, 0, 0, [165]), (0, -2147483648, 2147483647, []), (0, -2147483648, 2147483647, []), (0, -2147483648, 2147483647, [])], some (0, -2147483648, 2147483647, []), false, 10, 0, 0, [], [], (60147456823632884001388639669112232509411255195858370560, [(165, 5), (165, 31), (165, 32)], [(20, [0], [60, 0, 3, 198, 2, 3, 4])], [], []))
abbrev b_Em_embed_at_gn : ByteArray := prog_3_method_5_code
def y_Em_embed_at_gn : MethodName := ⟨"DrawingHouse$Embedder", "embed", "(LDrawingHouse$Net;)Z"⟩
abbrev z_Em_embed_at_gn : List Cond := Cond.code y_Em_embed_at_gn b_Em_embed_at_gn 6 (some .boolean) :: lw_g
def e_Em_embed_at_gn : en_T := ([(2, 0, 0, [1]), (2, 0, 0, [5])], some (0, 0, 1, []), false, 9, 0, 0, [], [], (599627206528856207757672448, [(1, 0), (1, 5), (1, 6), (1, 7), (1, 15), (1, 16), (1, 17), (1, 18), (5, 13)], [(20, [1], [60, 2, 3, 595, 5, 6, 7, 8, 9])], [(20, [1, 2], [60, 2, 3, 632, 5, 6, 9, 12, 16])], []))
abbrev b_Em_embed_at_gp : ByteArray := prog_3_method_5_code
def y_Em_embed_at_gp : MethodName := ⟨"DrawingHouse$Embedder", "embed", "(LDrawingHouse$Net;)Z"⟩
abbrev z_Em_embed_at_gp : List Cond := Cond.code y_Em_embed_at_gp b_Em_embed_at_gp 6 (some .boolean) :: lw_g
def e_Em_embed_at_gp : en_T := ([(2, 0, 0, [1]), (2, 0, 0, [149])], some (0, 0, 1, []), false, 9, 0, 0, [], [], (691323101154449317387607266452099343788802048, [(1, 0), (1, 5), (1, 6), (1, 7), (1, 15), (1, 16), (1, 17), (1, 18), (149, 13)], [(20, [1], [60, 2, 3, 595, 5, 6, 7, 8, 9])], [(20, [1, 2], [60, 2, 3, 632, 5, 6, 9, 12, 16])], []))
abbrev b_Mo_bar : ByteArray := prog_15_method_93_code
def y_Mo_bar : MethodName := ⟨"DrawingHouseModel", "bar", "()V"⟩
abbrev z_Mo_bar : List Cond := Cond.code y_Mo_bar b_Mo_bar 5 none :: lw_g
def e_Mo_bar : en_T := ([(2, 0, 0, [165])], none, false, 12, 0, 0, [], [], (1707370193406432660440881541426095788123714298751392468172800, [(165, 31), (165, 32), (165, 39), (165, 45), (165, 49), (165, 58), (165, 59)], [(20, [0], [60, 1, 1, 197, 5, 2])], [], []))
abbrev b_Mo_isOuter : ByteArray := prog_15_method_92_code
def y_Mo_isOuter : MethodName := ⟨"DrawingHouseModel", "isOuter", "()Z"⟩
abbrev z_Mo_isOuter : List Cond := Cond.code y_Mo_isOuter b_Mo_isOuter 2 (some .boolean) :: lw_g
def e_Mo_isOuter : en_T := ([(2, 0, 0, [165])], some (0, 0, 1, []), false, 12, 0, 0, [], [], (100432149147442384898919449084933185601511304968599632871424, [(165, 31), (165, 32), (165, 39), (165, 45), (165, 49)], [(20, [0], [60, 1, 1, 197, 5, 2])], [], []))
abbrev b_Mo_isPlanar : ByteArray := prog_15_method_91_code
def y_Mo_isPlanar : MethodName := ⟨"DrawingHouseModel", "isPlanar", "()Z"⟩
abbrev z_Mo_isPlanar : List Cond := Cond.code y_Mo_isPlanar b_Mo_isPlanar 1 (some .boolean) :: lw_g
def e_Mo_isPlanar : en_T := ([(2, 0, 0, [165])], some (0, 0, 1, []), false, 12, 0, 0, [], [], (100432149147442384898919449084933185601511304968599632871424, [(165, 31), (165, 32), (165, 39), (165, 45), (165, 49)], [(20, [0], [60, 1, 1, 197, 5, 2])], [(20, [0], [60, 2, 2, 75, 31, 32, 33, 34]), (20, [0, 1], [60, 2, 6, 184, 31, 32, 33, 34, 35, 17, 36, 37]), (20, [0], [60, 3, 4, 201, 5, 31, 32, 2, 33, 34, 35])], []))
abbrev b_Ho_count : ByteArray := prog_1_method_5_code
def y_Ho_count : MethodName := ⟨"DrawingHouse", "count", "(II)I"⟩
abbrev z_Ho_count : List Cond := Cond.code y_Ho_count b_Ho_count 3 (some .int) :: lw_g
def e_Ho_count : en_T := ([(2, 0, 0, [12]), (0, -2147483648, 2147483647, []), (0, -2147483648, 2147483647, [])], some (0, -1, 48, []), false, 13, 0, 0, [], [], (281337537757184, [(2, 0), (2, 1), (2, 2), (2, 3)], [(20, [0], [62, 0])], [(20, [0], [62, 0])], []))
abbrev b_Ho_node : ByteArray := prog_1_method_6_code
def y_Ho_node : MethodName := ⟨"DrawingHouse", "node", "(III)I"⟩
abbrev z_Ho_node : List Cond := Cond.code y_Ho_node b_Ho_node 4 (some .int) :: lw_g
def e_Ho_node : en_T := ([(2, 0, 0, [12]), (0, -2147483648, 2147483647, []), (0, -2147483648, 2147483647, []), (0, -2147483648, 2147483647, [])], some (0, -1, 127, []), false, 13, 0, 0, [], [], (281337537757184, [(2, 0), (2, 1), (2, 2), (2, 3)], [(20, [0], [62, 0])], [(20, [0], [62, 0])], []))
abbrev b_Re_readItem : ByteArray := prog_10_method_12_code
def y_Re_readItem : MethodName := ⟨"DrawingHouse$Reader", "readItem", "()Z"⟩
abbrev z_Re_readItem : List Cond := Cond.code y_Re_readItem b_Re_readItem 1 (some .boolean) :: lw_g
def e_Re_readItem : en_T := ([(2, 0, 0, [8])], some (0, 0, 1, []), false, 11, 0, 0, [([(2, 0, 0, [8]), (2, 0, 0, [164]), (0, 0, 2000, []), (0, 0, 0, [])], [], [3], [((0, 4), 1)], [], []), ([(2, 0, 0, [8]), (2, 0, 0, [164]), (0, 0, 2000, []), (0, 0, 1, [])], [], [3], [((0, 4), 1)], [], []), ([(2, 0, 0, [8]), (2, 0, 0, [164]), (0, 0, 2000, []), (0, 1, 1, [])], [], [3], [((0, 4), 1)], [], [])], [((0, 4), (2, 0, 0, [164]))], (11690585850954518683822635009467721794735159902208, [(8, 2), (8, 3), (8, 6), (8, 7), (8, 8), (8, 9), (8, 11), (164, 0), (164, 1), (164, 2)], [(20, [0, 0, 0, 0], [31, 1, -3, -1, 1, 7, 4008, 1, 1, 6, -1, 1, 8, 2000, 1, 7]), (20, [0, 0], [30, 0, 1, 1, 8, -1, 1, 6]), (20, [1], [60, 2, 3, 670, 0, 1, 14, 7, 8]), (20, [1], [60, 2, 2, 596, 0, 1, 7, 8]), (20, [0, 2], [30, 0, 1, 1, 8, -1, 0, 0]), (20, [0, 2], [30, 0, -1, 1, 8, 1, 0, 0]), (20, [0, 1], [60, 9, 6, 1058, 5, 6, 7, 8, 9, 11, 1000, 1001, 1002, 0, 10, 1004, 1003, 1007, 1008]), (20, [0], [50, 1, 0, 2, 1, 3, 2, 0, 2, 0, 0]), (20, [1], [60, 1, 3, 1085, 1, 7, 8, 15])], [(20, [1], [60, 2, 3, 670, 0, 1, 14, 7, 8]), (20, [1], [60, 2, 2, 596, 0, 1, 7, 8]), (20, [0, 1, 3], [60, 8, 6, 1063, 5, 6, 11, 2, 3, 1000, 1001, 1002, 0, 10, 1004, 1003, 1007, 1008]), (20, [3, 2, 0], [31, 1, 0, 1, 0, 0, -1, 1, 0, 0, -1, 1, 6]), (20, [1], [60, 1, 3, 1085, 1, 7, 8, 15])], [(0, 0, 2000, [])]))
abbrev b_Sy_compileBoth_at_k0 : ByteArray := prog_13_method_12_code
def y_Sy_compileBoth_at_k0 : MethodName := ⟨"DrawingHouse$Styler", "compileBoth", "(I)Z"⟩
abbrev z_Sy_compileBoth_at_k0 : List Cond := Cond.code y_Sy_compileBoth_at_k0 b_Sy_compileBoth_at_k0 3 (some .boolean) :: lw_g
def e_Sy_compileBoth_at_k0 : en_T := ([(2, 0, 0, [11]), (0, 0, 0, [])], some (0, 0, 1, []), false, 48, 0, 0, [], [((0, 3), (2, 0, 0, [109]))], (85070591730234615865843651857942052864, [(11, 1), (11, 2), (11, 5), (11, 6), (11, 7), (11, 8), (11, 11)], [(20, [0], [50, 2, 0, 6, 8, 3, 7, 7, 3, 2, 0, 6, 0, 3, 0, 3, 2, 0, 8, 0, 9999])], [(20, [0], [50, 2, 0, 6, 8, 3, 7, 7, 3, 2, 0, 6, 0, 3, 0, 3, 2, 0, 8, 0, 9999])], []))
abbrev b_Sy_compileBoth_at_k1 : ByteArray := prog_13_method_12_code
def y_Sy_compileBoth_at_k1 : MethodName := ⟨"DrawingHouse$Styler", "compileBoth", "(I)Z"⟩
abbrev z_Sy_compileBoth_at_k1 : List Cond := Cond.code y_Sy_compileBoth_at_k1 b_Sy_compileBoth_at_k1 3 (some .boolean) :: lw_g
def e_Sy_compileBoth_at_k1 : en_T := ([(2, 0, 0, [11]), (0, 1, 1, [])], some (0, 0, 1, []), false, 45, 0, 0, [], [((0, 3), (2, 0, 0, [109]))], (85070591730234615865843651857942052864, [(11, 1), (11, 2), (11, 5), (11, 6), (11, 7), (11, 8), (11, 11)], [(20, [0], [50, 2, 0, 6, 8, 3, 7, 7, 3, 2, 0, 6, 0, 3, 0, 3, 2, 0, 8, 0, 9999])], [(20, [0], [50, 2, 0, 6, 8, 3, 7, 7, 3, 2, 0, 6, 0, 3, 0, 3, 2, 0, 8, 0, 9999])], []))
abbrev b_Sy_compileBoth_at_k10 : ByteArray := prog_13_method_12_code
def y_Sy_compileBoth_at_k10 : MethodName := ⟨"DrawingHouse$Styler", "compileBoth", "(I)Z"⟩
abbrev z_Sy_compileBoth_at_k10 : List Cond := Cond.code y_Sy_compileBoth_at_k10 b_Sy_compileBoth_at_k10 3 (some .boolean) :: lw_g
def e_Sy_compileBoth_at_k10 : en_T := ([(2, 0, 0, [11]), (0, 10, 10, [])], some (0, 0, 1, []), false, 18, 0, 0, [], [((0, 3), (2, 0, 0, [109]))], (85070591730234615865843651857942052864, [(11, 1), (11, 2), (11, 5), (11, 6), (11, 7), (11, 8), (11, 11)], [(20, [0], [50, 2, 0, 6, 8, 3, 7, 7, 3, 2, 0, 6, 0, 3, 0, 3, 2, 0, 8, 0, 9999])], [(20, [0], [50, 2, 0, 6, 8, 3, 7, 7, 3, 2, 0, 6, 0, 3, 0, 3, 2, 0, 8, 0, 9999])], []))
abbrev b_Sy_compileBoth_at_k11 : ByteArray := prog_13_method_12_code
def y_Sy_compileBoth_at_k11 : MethodName := ⟨"DrawingHouse$Styler", "compileBoth", "(I)Z"⟩
abbrev z_Sy_compileBoth_at_k11 : List Cond := Cond.code y_Sy_compileBoth_at_k11 b_Sy_compileBoth_at_k11 3 (some .boolean) :: lw_g
def e_Sy_compileBoth_at_k11 : en_T := ([(2, 0, 0, [11]), (0, 11, 11, [])], some (0, 0, 1, []), false, 15, 0, 0, [], [((0, 3), (2, 0, 0, [109]))], (85070591730234615865843651857942052864, [(11, 1), (11, 2), (11, 5), (11, 6), (11, 7), (11, 8), (11, 11)], [(20, [0], [50, 2, 0, 6, 8, 3, 7, 7, 3, 2, 0, 6, 0, 3, 0, 3, 2, 0, 8, 0, 9999])], [(20, [0], [50, 2, 0, 6, 8, 3, 7, 7, 3, 2, 0, 6, 0, 3, 0, 3, 2, 0, 8, 0, 9999])], []))
abbrev b_Sy_compileBoth_at_k12 : ByteArray := prog_13_method_12_code
def y_Sy_compileBoth_at_k12 : MethodName := ⟨"DrawingHouse$Styler", "compileBoth", "(I)Z"⟩
abbrev z_Sy_compileBoth_at_k12 : List Cond := Cond.code y_Sy_compileBoth_at_k12 b_Sy_compileBoth_at_k12 3 (some .boolean) :: lw_g
def e_Sy_compileBoth_at_k12 : en_T := ([(2, 0, 0, [11]), (0, 12, 12, [])], some (0, 0, 1, []), false, 12, 0, 0, [], [((0, 3), (2, 0, 0, [109]))], (85070591730234615865843651857942052864, [(11, 1), (11, 2), (11, 5), (11, 6), (11, 7), (11, 8), (11, 11)], [(20, [0], [50, 2, 0, 6, 8, 3, 7, 7, 3, 2, 0, 6, 0, 3, 0, 3, 2, 0, 8, 0, 9999])], [(20, [0], [50, 2, 0, 6, 8, 3, 7, 7, 3, 2, 0, 6, 0, 3, 0, 3, 2, 0, 8, 0, 9999])], []))
abbrev b_Sy_compileBoth_at_k2 : ByteArray := prog_13_method_12_code
def y_Sy_compileBoth_at_k2 : MethodName := ⟨"DrawingHouse$Styler", "compileBoth", "(I)Z"⟩
abbrev z_Sy_compileBoth_at_k2 : List Cond := Cond.code y_Sy_compileBoth_at_k2 b_Sy_compileBoth_at_k2 3 (some .boolean) :: lw_g
def e_Sy_compileBoth_at_k2 : en_T := ([(2, 0, 0, [11]), (0, 2, 2, [])], some (0, 0, 1, []), false, 42, 0, 0, [], [((0, 3), (2, 0, 0, [109]))], (85070591730234615865843651857942052864, [(11, 1), (11, 2), (11, 5), (11, 6), (11, 7), (11, 8), (11, 11)], [(20, [0], [50, 2, 0, 6, 8, 3, 7, 7, 3, 2, 0, 6, 0, 3, 0, 3, 2, 0, 8, 0, 9999])], [(20, [0], [50, 2, 0, 6, 8, 3, 7, 7, 3, 2, 0, 6, 0, 3, 0, 3, 2, 0, 8, 0, 9999])], []))
abbrev b_Sy_compileBoth_at_k3 : ByteArray := prog_13_method_12_code
def y_Sy_compileBoth_at_k3 : MethodName := ⟨"DrawingHouse$Styler", "compileBoth", "(I)Z"⟩
abbrev z_Sy_compileBoth_at_k3 : List Cond := Cond.code y_Sy_compileBoth_at_k3 b_Sy_compileBoth_at_k3 3 (some .boolean) :: lw_g
def e_Sy_compileBoth_at_k3 : en_T := ([(2, 0, 0, [11]), (0, 3, 3, [])], some (0, 0, 1, []), false, 39, 0, 0, [], [((0, 3), (2, 0, 0, [109]))], (85070591730234615865843651857942052864, [(11, 1), (11, 2), (11, 5), (11, 6), (11, 7), (11, 8), (11, 11)], [(20, [0], [50, 2, 0, 6, 8, 3, 7, 7, 3, 2, 0, 6, 0, 3, 0, 3, 2, 0, 8, 0, 9999])], [(20, [0], [50, 2, 0, 6, 8, 3, 7, 7, 3, 2, 0, 6, 0, 3, 0, 3, 2, 0, 8, 0, 9999])], []))
abbrev b_Sy_compileBoth_at_k4 : ByteArray := prog_13_method_12_code
def y_Sy_compileBoth_at_k4 : MethodName := ⟨"DrawingHouse$Styler", "compileBoth", "(I)Z"⟩
abbrev z_Sy_compileBoth_at_k4 : List Cond := Cond.code y_Sy_compileBoth_at_k4 b_Sy_compileBoth_at_k4 3 (some .boolean) :: lw_g
def e_Sy_compileBoth_at_k4 : en_T := ([(2, 0, 0, [11]), (0, 4, 4, [])], some (0, 0, 1, []), false, 36, 0, 0, [], [((0, 3), (2, 0, 0, [109]))], (85070591730234615865843651857942052864, [(11, 1), (11, 2), (11, 5), (11, 6), (11, 7), (11, 8), (11, 11)], [(20, [0], [50, 2, 0, 6, 8, 3, 7, 7, 3, 2, 0, 6, 0, 3, 0, 3, 2, 0, 8, 0, 9999])], [(20, [0], [50, 2, 0, 6, 8, 3, 7, 7, 3, 2, 0, 6, 0, 3, 0, 3, 2, 0, 8, 0, 9999])], []))
abbrev b_Sy_compileBoth_at_k5 : ByteArray := prog_13_method_12_code
def y_Sy_compileBoth_at_k5 : MethodName := ⟨"DrawingHouse$Styler", "compileBoth", "(I)Z"⟩
abbrev z_Sy_compileBoth_at_k5 : List Cond := Cond.code y_Sy_compileBoth_at_k5 b_Sy_compileBoth_at_k5 3 (some .boolean) :: lw_g
def e_Sy_compileBoth_at_k5 : en_T := ([(2, 0, 0, [11]), (0, 5, 5, [])], some (0, 0, 1, []), false, 33, 0, 0, [], [((0, 3), (2, 0, 0, [109]))], (85070591730234615865843651857942052864, [(11, 1), (11, 2), (11, 5), (11, 6), (11, 7), (11, 8), (11, 11)], [(20, [0], [50, 2, 0, 6, 8, 3, 7, 7, 3, 2, 0, 6, 0, 3, 0, 3, 2, 0, 8, 0, 9999])], [(20, [0], [50, 2, 0, 6, 8, 3, 7, 7, 3, 2, 0, 6, 0, 3, 0, 3, 2, 0, 8, 0, 9999])], []))
abbrev b_Sy_compileBoth_at_k6 : ByteArray := prog_13_method_12_code
def y_Sy_compileBoth_at_k6 : MethodName := ⟨"DrawingHouse$Styler", "compileBoth", "(I)Z"⟩
abbrev z_Sy_compileBoth_at_k6 : List Cond := Cond.code y_Sy_compileBoth_at_k6 b_Sy_compileBoth_at_k6 3 (some .boolean) :: lw_g
def e_Sy_compileBoth_at_k6 : en_T := ([(2, 0, 0, [11]), (0, 6, 6, [])], some (0, 0, 1, []), false, 30, 0, 0, [], [((0, 3), (2, 0, 0, [109]))], (85070591730234615865843651857942052864, [(11, 1), (11, 2), (11, 5), (11, 6), (11, 7), (11, 8), (11, 11)], [(20, [0], [50, 2, 0, 6, 8, 3, 7, 7, 3, 2, 0, 6, 0, 3, 0, 3, 2, 0, 8, 0, 9999])], [(20, [0], [50, 2, 0, 6, 8, 3, 7, 7, 3, 2, 0, 6, 0, 3, 0, 3, 2, 0, 8, 0, 9999])], []))
abbrev b_Sy_compileBoth_at_k7 : ByteArray := prog_13_method_12_code
def y_Sy_compileBoth_at_k7 : MethodName := ⟨"DrawingHouse$Styler", "compileBoth", "(I)Z"⟩
abbrev z_Sy_compileBoth_at_k7 : List Cond := Cond.code y_Sy_compileBoth_at_k7 b_Sy_compileBoth_at_k7 3 (some .boolean) :: lw_g
def e_Sy_compileBoth_at_k7 : en_T := ([(2, 0, 0, [11]), (0, 7, 7, [])], some (0, 0, 1, []), false, 27, 0, 0, [], [((0, 3), (2, 0, 0, [109]))], (85070591730234615865843651857942052864, [(11, 1), (11, 2), (11, 5), (11, 6), (11, 7), (11, 8), (11, 11)], [(20, [0], [50, 2, 0, 6, 8, 3, 7, 7, 3, 2, 0, 6, 0, 3, 0, 3, 2, 0, 8, 0, 9999])], [(20, [0], [50, 2, 0, 6, 8, 3, 7, 7, 3, 2, 0, 6, 0, 3, 0, 3, 2, 0, 8, 0, 9999])], []))
abbrev b_Sy_compileBoth_at_k8 : ByteArray := prog_13_method_12_code
def y_Sy_compileBoth_at_k8 : MethodName := ⟨"DrawingHouse$Styler", "compileBoth", "(I)Z"⟩
abbrev z_Sy_compileBoth_at_k8 : List Cond := Cond.code y_Sy_compileBoth_at_k8 b_Sy_compileBoth_at_k8 3 (some .boolean) :: lw_g
def e_Sy_compileBoth_at_k8 : en_T := ([(2, 0, 0, [11]), (0, 8, 8, [])], some (0, 0, 1, []), false, 24, 0, 0, [], [((0, 3), (2, 0, 0, [109]))], (85070591730234615865843651857942052864, [(11, 1), (11, 2), (11, 5), (11, 6), (11, 7), (11, 8), (11, 11)], [(20, [0], [50, 2, 0, 6, 8, 3, 7, 7, 3, 2, 0, 6, 0, 3, 0, 3, 2, 0, 8, 0, 9999])], [(20, [0], [50, 2, 0, 6, 8, 3, 7, 7, 3, 2, 0, 6, 0, 3, 0, 3, 2, 0, 8, 0, 9999])], []))
abbrev b_Sy_compileBoth_at_k9 : ByteArray := prog_13_method_12_code
def y_Sy_compileBoth_at_k9 : MethodName := ⟨"DrawingHouse$Styler", "compileBoth", "(I)Z"⟩
abbrev z_Sy_compileBoth_at_k9 : List Cond := Cond.code y_Sy_compileBoth_at_k9 b_Sy_compileBoth_at_k9 3 (some .boolean) :: lw_g
def e_Sy_compileBoth_at_k9 : en_T := ([(2, 0, 0, [11]), (0, 9, 9, [])], some (0, 0, 1, []), false, 21, 0, 0, [], [((0, 3), (2, 0, 0, [109]))], (85070591730234615865843651857942052864, [(11, 1), (11, 2), (11, 5), (11, 6), (11, 7), (11, 8), (11, 11)], [(20, [0], [50, 2, 0, 6, 8, 3, 7, 7, 3, 2, 0, 6, 0, 3, 0, 3, 2, 0, 8, 0, 9999])], [(20, [0], [50, 2, 0, 6, 8, 3, 7, 7, 3, 2, 0, 6, 0, 3, 0, 3, 2, 0, 8, 0, 9999])], []))
abbrev b_Sy_compileOne_at_k0 : ByteArray := prog_13_method_13_code
def y_Sy_compileOne_at_k0 : MethodName := ⟨"DrawingHouse$Styler", "compileOne", "(I)Z"⟩
abbrev z_Sy_compileOne_at_k0 : List Cond := Cond.code y_Sy_compileOne_at_k0 b_Sy_compileOne_at_k0 5 (some .boolean) :: lw_g
def e_Sy_compileOne_at_k0 : en_T := ([(2, 0, 0, [11]), (0, 0, 0, [])], some (0, 0, 1, []), false, 47, 0, 0, [([(2, 0, 0, [11]), (0, 0, 0, []), (2, 0, 0, [109]), (0, 0, 1, [])], [], [3], [((0, 3), 2)], [], []), ([(2, 0, 0, [11]), (0, 0, 0, []), (2, 0, 0, [109]), (0, 0, 0, [])], [], [3], [((0, 3), 2)], [], []), ([(2, 0, 0, [11]), (0, 0, 0, []), (2, 0, 0, [109]), (0, 1, 1, [])], [], [3], [((0, 3), 2)], [], [])], [((0, 3), (2, 0, 0, [109]))], (85070591730234615865843651857942052864, [(11, 1), (11, 2), (11, 5), (11, 6), (11, 7), (11, 8), (11, 11)], [(20, [0], [50, 2, 0, 6, 8, 3, 7, 7, 3, 2, 0, 6, 0, 3, 0, 3, 2, 0, 8, 0, 9999])], [(20, [0], [50, 2, 0, 6, 8, 3, 7, 7, 3, 2, 0, 6, 0, 3, 0, 3, 2, 0, 8, 0, 9999])], []))
abbrev b_Sy_compileOne_at_k1 : ByteArray := prog_13_method_13_code
def y_Sy_compileOne_at_k1 : MethodName := ⟨"DrawingHouse$Styler", "compileOne", "(I)Z"⟩
abbrev z_Sy_compileOne_at_k1 : List Cond := Cond.code y_Sy_compileOne_at_k1 b_Sy_compileOne_at_k1 5 (some .boolean) :: lw_g
def e_Sy_compileOne_at_k1 : en_T := ([(2, 0, 0, [11]), (0, 1, 1, [])], some (0, 0, 1, []), false, 44, 0, 0, [([(2, 0, 0, [11]), (0, 1, 1, []), (2, 0, 0, [109]), (0, 0, 1, [])], [], [3], [((0, 3), 2)], [], []), ([(2, 0, 0, [11]), (0, 1, 1, []), (2, 0, 0, [109]), (0, 0, 0, [])], [], [3], [((0, 3), 2)], [], []), ([(2, 0, 0, [11]), (0, 1, 1, []), (2, 0, 0, [109]), (0, 1, 1, [])], [], [3], [((0, 3), 2)], [], [])], [((0, 3), (2, 0, 0, [109]))], (85070591730234615865843651857942052864, [(11, 1), (11, 2), (11, 5), (11, 6), (11, 7), (11, 8), (11, 11)], [(20, [0], [50, 2, 0, 6, 8, 3, 7, 7, 3, 2, 0, 6, 0, 3, 0, 3, 2, 0, 8, 0, 9999])], [(20, [0], [50, 2, 0, 6, 8, 3, 7, 7, 3, 2, 0, 6, 0, 3, 0, 3, 2, 0, 8, 0, 9999])], []))
abbrev b_Sy_compileOne_at_k10 : ByteArray := prog_13_method_13_code
def y_Sy_compileOne_at_k10 : MethodName := ⟨"DrawingHouse$Styler", "compileOne", "(I)Z"⟩
abbrev z_Sy_compileOne_at_k10 : List Cond := Cond.code y_Sy_compileOne_at_k10 b_Sy_compileOne_at_k10 5 (some .boolean) :: lw_g
def e_Sy_compileOne_at_k10 : en_T := ([(2, 0, 0, [11]), (0, 10, 10, [])], some (0, 0, 1, []), false, 17, 0, 0, [([(2, 0, 0, [11]), (0, 10, 10, []), (2, 0, 0, [109]), (0, 0, 1, [])], [], [3], [((0, 3), 2)], [], []), ([(2, 0, 0, [11]), (0, 10, 10, []), (2, 0, 0, [109]), (0, 0, 0, [])], [], [3], [((0, 3), 2)], [], []), ([(2, 0, 0, [11]), (0, 10, 10, []), (2, 0, 0, [109]), (0, 1, 1, [])], [], [3], [((0, 3), 2)], [], [])], [((0, 3), (2, 0, 0, [109]))], (85070591730234615865843651857942052864, [(11, 1), (11, 2), (11, 5), (11, 6), (11, 7), (11, 8), (11, 11)], [(20, [0], [50, 2, 0, 6, 8, 3, 7, 7, 3, 2, 0, 6, 0, 3, 0, 3, 2, 0, 8, 0, 9999])], [(20, [0], [50, 2, 0, 6, 8, 3, 7, 7, 3, 2, 0, 6, 0, 3, 0, 3, 2, 0, 8, 0, 9999])], []))
abbrev b_Sy_compileOne_at_k11 : ByteArray := prog_13_method_13_code
def y_Sy_compileOne_at_k11 : MethodName := ⟨"DrawingHouse$Styler", "compileOne", "(I)Z"⟩
abbrev z_Sy_compileOne_at_k11 : List Cond := Cond.code y_Sy_compileOne_at_k11 b_Sy_compileOne_at_k11 5 (some .boolean) :: lw_g
def e_Sy_compileOne_at_k11 : en_T := ([(2, 0, 0, [11]), (0, 11, 11, [])], some (0, 0, 1, []), false, 14, 0, 0, [([(2, 0, 0, [11]), (0, 11, 11, []), (2, 0, 0, [109]), (0, 0, 1, [])], [], [3], [((0, 3), 2)], [], []), ([(2, 0, 0, [11]), (0, 11, 11, []), (2, 0, 0, [109]), (0, 0, 0, [])], [], [3], [((0, 3), 2)], [], []), ([(2, 0, 0, [11]), (0, 11, 11, []), (2, 0, 0, [109]), (0, 1, 1, [])], [], [3], [((0, 3), 2)], [], [])], [((0, 3), (2, 0, 0, [109]))], (85070591730234615865843651857942052864, [(11, 1), (11, 2), (11, 5), (11, 6), (11, 7), (11, 8), (11, 11)], [(20, [0], [50, 2, 0, 6, 8, 3, 7, 7, 3, 2, 0, 6, 0, 3, 0, 3, 2, 0, 8, 0, 9999])], [(20, [0], [50, 2, 0, 6, 8, 3, 7, 7, 3, 2, 0, 6, 0, 3, 0, 3, 2, 0, 8, 0, 9999])], []))
abbrev b_Sy_compileOne_at_k12 : ByteArray := prog_13_method_13_code
def y_Sy_compileOne_at_k12 : MethodName := ⟨"DrawingHouse$Styler", "compileOne", "(I)Z"⟩
abbrev z_Sy_compileOne_at_k12 : List Cond := Cond.code y_Sy_compileOne_at_k12 b_Sy_compileOne_at_k12 5 (some .boolean) :: lw_g
def e_Sy_compileOne_at_k12 : en_T := ([(2, 0, 0, [11]), (0, 12, 12, [])], some (0, 0, 1, []), false, 11, 0, 0, [([(2, 0, 0, [11]), (0, 12, 12, []), (2, 0, 0, [109]), (0, 0, 1, [])], [], [3], [((0, 3), 2)], [], []), ([(2, 0, 0, [11]), (0, 12, 12, []), (2, 0, 0, [109]), (0, 0, 0, [])], [], [3], [((0, 3), 2)], [], [])], [((0, 3), (2, 0, 0, [109]))], (85070591730234615865843651857942052864, [(11, 1), (11, 2), (11, 5), (11, 6), (11, 7), (11, 8), (11, 11)], [(20, [0], [50, 2, 0, 6, 8, 3, 7, 7, 3, 2, 0, 6, 0, 3, 0, 3, 2, 0, 8, 0, 9999])], [(20, [0], [50, 2, 0, 6, 8, 3, 7, 7, 3, 2, 0, 6, 0, 3, 0, 3, 2, 0, 8, 0, 9999])], []))
abbrev b_Sy_compileOne_at_k2 : ByteArray := prog_13_method_13_code
def y_Sy_compileOne_at_k2 : MethodName := ⟨"DrawingHouse$Styler", "compileOne", "(I)Z"⟩
abbrev z_Sy_compileOne_at_k2 : List Cond := Cond.code y_Sy_compileOne_at_k2 b_Sy_compileOne_at_k2 5 (some .boolean) :: lw_g
def e_Sy_compileOne_at_k2 : en_T := ([(2, 0, 0, [11]), (0, 2, 2, [])], some (0, 0, 1, []), false, 41, 0, 0, [([(2, 0, 0, [11]), (0, 2, 2, []), (2, 0, 0, [109]), (0, 0, 1, [])], [], [3], [((0, 3), 2)], [], []), ([(2, 0, 0, [11]), (0, 2, 2, []), (2, 0, 0, [109]), (0, 0, 0, [])], [], [3], [((0, 3), 2)], [], []), ([(2, 0, 0, [11]), (0, 2, 2, []), (2, 0, 0, [109]), (0, 1, 1, [])], [], [3], [((0, 3), 2)], [], [])], [((0, 3), (2, 0, 0, [109]))], (85070591730234615865843651857942052864, [(11, 1), (11, 2), (11, 5), (11, 6), (11, 7), (11, 8), (11, 11)], [(20, [0], [50, 2, 0, 6, 8, 3, 7, 7, 3, 2, 0, 6, 0, 3, 0, 3, 2, 0, 8, 0, 9999])], [(20, [0], [50, 2, 0, 6, 8, 3, 7, 7, 3, 2, 0, 6, 0, 3, 0, 3, 2, 0, 8, 0, 9999])], []))
abbrev b_Sy_compileOne_at_k3 : ByteArray := prog_13_method_13_code
def y_Sy_compileOne_at_k3 : MethodName := ⟨"DrawingHouse$Styler", "compileOne", "(I)Z"⟩
abbrev z_Sy_compileOne_at_k3 : List Cond := Cond.code y_Sy_compileOne_at_k3 b_Sy_compileOne_at_k3 5 (some .boolean) :: lw_g
def e_Sy_compileOne_at_k3 : en_T := ([(2, 0, 0, [11]), (0, 3, 3, [])], some (0, 0, 1, []), false, 38, 0, 0, [([(2, 0, 0, [11]), (0, 3, 3, []), (2, 0, 0, [109]), (0, 0, 1, [])], [], [3], [((0, 3), 2)], [], []), ([(2, 0, 0, [11]), (0, 3, 3, []), (2, 0, 0, [109]), (0, 0, 0, [])], [], [3], [((0, 3), 2)], [], []), ([(2, 0, 0, [11]), (0, 3, 3, []), (2, 0, 0, [109]), (0, 1, 1, [])], [], [3], [((0, 3), 2)], [], [])], [((0, 3), (2, 0, 0, [109]))], (85070591730234615865843651857942052864, [(11, 1), (11, 2), (11, 5), (11, 6), (11, 7), (11, 8), (11, 11)], [(20, [0], [50, 2, 0, 6, 8, 3, 7, 7, 3, 2, 0, 6, 0, 3, 0, 3, 2, 0, 8, 0, 9999])], [(20, [0], [50, 2, 0, 6, 8, 3, 7, 7, 3, 2, 0, 6, 0, 3, 0, 3, 2, 0, 8, 0, 9999])], []))
abbrev b_Sy_compileOne_at_k4 : ByteArray := prog_13_method_13_code
def y_Sy_compileOne_at_k4 : MethodName := ⟨"DrawingHouse$Styler", "compileOne", "(I)Z"⟩
abbrev z_Sy_compileOne_at_k4 : List Cond := Cond.code y_Sy_compileOne_at_k4 b_Sy_compileOne_at_k4 5 (some .boolean) :: lw_g
def e_Sy_compileOne_at_k4 : en_T := ([(2, 0, 0, [11]), (0, 4, 4, [])], some (0, 0, 1, []), false, 35, 0, 0, [([(2, 0, 0, [11]), (0, 4, 4, []), (2, 0, 0, [109]), (0, 0, 1, [])], [], [3], [((0, 3), 2)], [], []), ([(2, 0, 0, [11]), (0, 4, 4, []), (2, 0, 0, [109]), (0, 0, 0, [])], [], [3], [((0, 3), 2)], [], []), ([(2, 0, 0, [11]), (0, 4, 4, []), (2, 0, 0, [109]), (0, 1, 1, [])], [], [3], [((0, 3), 2)], [], [])], [((0, 3), (2, 0, 0, [109]))], (85070591730234615865843651857942052864, [(11, 1), (11, 2), (11, 5), (11, 6), (11, 7), (11, 8), (11, 11)], [(20, [0], [50, 2, 0, 6, 8, 3, 7, 7, 3, 2, 0, 6, 0, 3, 0, 3, 2, 0, 8, 0, 9999])], [(20, [0], [50, 2, 0, 6, 8, 3, 7, 7, 3, 2, 0, 6, 0, 3, 0, 3, 2, 0, 8, 0, 9999])], []))
abbrev b_Sy_compileOne_at_k5 : ByteArray := prog_13_method_13_code
def y_Sy_compileOne_at_k5 : MethodName := ⟨"DrawingHouse$Styler", "compileOne", "(I)Z"⟩
abbrev z_Sy_compileOne_at_k5 : List Cond := Cond.code y_Sy_compileOne_at_k5 b_Sy_compileOne_at_k5 5 (some .boolean) :: lw_g
def e_Sy_compileOne_at_k5 : en_T := ([(2, 0, 0, [11]), (0, 5, 5, [])], some (0, 0, 1, []), false, 32, 0, 0, [([(2, 0, 0, [11]), (0, 5, 5, []), (2, 0, 0, [109]), (0, 0, 1, [])], [], [3], [((0, 3), 2)], [], []), ([(2, 0, 0, [11]), (0, 5, 5, []), (2, 0, 0, [109]), (0, 0, 0, [])], [], [3], [((0, 3), 2)], [], []), ([(2, 0, 0, [11]), (0, 5, 5, []), (2, 0, 0, [109]), (0, 1, 1, [])], [], [3], [((0, 3), 2)], [], [])], [((0, 3), (2, 0, 0, [109]))], (85070591730234615865843651857942052864, [(11, 1), (11, 2), (11, 5), (11, 6), (11, 7), (11, 8), (11, 11)], [(20, [0], [50, 2, 0, 6, 8, 3, 7, 7, 3, 2, 0, 6, 0, 3, 0, 3, 2, 0, 8, 0, 9999])], [(20, [0], [50, 2, 0, 6, 8, 3, 7, 7, 3, 2, 0, 6, 0, 3, 0, 3, 2, 0, 8, 0, 9999])], []))
abbrev b_Sy_compileOne_at_k6 : ByteArray := prog_13_method_13_code
def y_Sy_compileOne_at_k6 : MethodName := ⟨"DrawingHouse$Styler", "compileOne", "(I)Z"⟩
abbrev z_Sy_compileOne_at_k6 : List Cond := Cond.code y_Sy_compileOne_at_k6 b_Sy_compileOne_at_k6 5 (some .boolean) :: lw_g
def e_Sy_compileOne_at_k6 : en_T := ([(2, 0, 0, [11]), (0, 6, 6, [])], some (0, 0, 1, []), false, 29, 0, 0, [([(2, 0, 0, [11]), (0, 6, 6, []), (2, 0, 0, [109]), (0, 0, 1, [])], [], [3], [((0, 3), 2)], [], []), ([(2, 0, 0, [11]), (0, 6, 6, []), (2, 0, 0, [109]), (0, 0, 0, [])], [], [3], [((0, 3), 2)], [], []), ([(2, 0, 0, [11]), (0, 6, 6, []), (2, 0, 0, [109]), (0, 1, 1, [])], [], [3], [((0, 3), 2)], [], [])], [((0, 3), (2, 0, 0, [109]))], (85070591730234615865843651857942052864, [(11, 1), (11, 2), (11, 5), (11, 6), (11, 7), (11, 8), (11, 11)], [(20, [0], [50, 2, 0, 6, 8, 3, 7, 7, 3, 2, 0, 6, 0, 3, 0, 3, 2, 0, 8, 0, 9999])], [(20, [0], [50, 2, 0, 6, 8, 3, 7, 7, 3, 2, 0, 6, 0, 3, 0, 3, 2, 0, 8, 0, 9999])], []))
abbrev b_Sy_compileOne_at_k7 : ByteArray := prog_13_method_13_code
def y_Sy_compileOne_at_k7 : MethodName := ⟨"DrawingHouse$Styler", "compileOne", "(I)Z"⟩
abbrev z_Sy_compileOne_at_k7 : List Cond := Cond.code y_Sy_compileOne_at_k7 b_Sy_compileOne_at_k7 5 (some .boolean) :: lw_g
def e_Sy_compileOne_at_k7 : en_T := ([(2, 0, 0, [11]), (0, 7, 7, [])], some (0, 0, 1, []), false, 26, 0, 0, [([(2, 0, 0, [11]), (0, 7, 7, []), (2, 0, 0, [109]), (0, 0, 1, [])], [], [3], [((0, 3), 2)], [], []), ([(2, 0, 0, [11]), (0, 7, 7, []), (2, 0, 0, [109]), (0, 0, 0, [])], [], [3], [((0, 3), 2)], [], []), ([(2, 0, 0, [11]), (0, 7, 7, []), (2, 0, 0, [109]), (0, 1, 1, [])], [], [3], [((0, 3), 2)], [], [])], [((0, 3), (2, 0, 0, [109]))], (85070591730234615865843651857942052864, [(11, 1), (11, 2), (11, 5), (11, 6), (11, 7), (11, 8), (11, 11)], [(20, [0], [50, 2, 0, 6, 8, 3, 7, 7, 3, 2, 0, 6, 0, 3, 0, 3, 2, 0, 8, 0, 9999])], [(20, [0], [50, 2, 0, 6, 8, 3, 7, 7, 3, 2, 0, 6, 0, 3, 0, 3, 2, 0, 8, 0, 9999])], []))
abbrev b_Sy_compileOne_at_k8 : ByteArray := prog_13_method_13_code
def y_Sy_compileOne_at_k8 : MethodName := ⟨"DrawingHouse$Styler", "compileOne", "(I)Z"⟩
abbrev z_Sy_compileOne_at_k8 : List Cond := Cond.code y_Sy_compileOne_at_k8 b_Sy_compileOne_at_k8 5 (some .boolean) :: lw_g
def e_Sy_compileOne_at_k8 : en_T := ([(2, 0, 0, [11]), (0, 8, 8, [])], some (0, 0, 1, []), false, 23, 0, 0, [([(2, 0, 0, [11]), (0, 8, 8, []), (2, 0, 0, [109]), (0, 0, 1, [])], [], [3], [((0, 3), 2)], [], []), ([(2, 0, 0, [11]), (0, 8, 8, []), (2, 0, 0, [109]), (0, 0, 0, [])], [], [3], [((0, 3), 2)], [], []), ([(2, 0, 0, [11]), (0, 8, 8, []), (2, 0, 0, [109]), (0, 1, 1, [])], [], [3], [((0, 3), 2)], [], [])], [((0, 3), (2, 0, 0, [109]))], (85070591730234615865843651857942052864, [(11, 1), (11, 2), (11, 5), (11, 6), (11, 7), (11, 8), (11, 11)], [(20, [0], [50, 2, 0, 6, 8, 3, 7, 7, 3, 2, 0, 6, 0, 3, 0, 3, 2, 0, 8, 0, 9999])], [(20, [0], [50, 2, 0, 6, 8, 3, 7, 7, 3, 2, 0, 6, 0, 3, 0, 3, 2, 0, 8, 0, 9999])], []))
abbrev b_Sy_compileOne_at_k9 : ByteArray := prog_13_method_13_code
def y_Sy_compileOne_at_k9 : MethodName := ⟨"DrawingHouse$Styler", "compileOne", "(I)Z"⟩
abbrev z_Sy_compileOne_at_k9 : List Cond := Cond.code y_Sy_compileOne_at_k9 b_Sy_compileOne_at_k9 5 (some .boolean) :: lw_g
def e_Sy_compileOne_at_k9 : en_T := ([(2, 0, 0, [11]), (0, 9, 9, [])], some (0, 0, 1, []), false, 20, 0, 0, [([(2, 0, 0, [11]), (0, 9, 9, []), (2, 0, 0, [109]), (0, 0, 1, [])], [], [3], [((0, 3), 2)], [], []), ([(2, 0, 0, [11]), (0, 9, 9, []), (2, 0, 0, [109]), (0, 0, 0, [])], [], [3], [((0, 3), 2)], [], []), ([(2, 0, 0, [11]), (0, 9, 9, []), (2, 0, 0, [109]), (0, 1, 1, [])], [], [3], [((0, 3), 2)], [], [])], [((0, 3), (2, 0, 0, [109]))], (85070591730234615865843651857942052864, [(11, 1), (11, 2), (11, 5), (11, 6), (11, 7), (11, 8), (11, 11)], [(20, [0], [50, 2, 0, 6, 8, 3, 7, 7, 3, 2, 0, 6, 0, 3, 0, 3, 2, 0, 8, 0, 9999])], [(20, [0], [50, 2, 0, 6, 8, 3, 7, 7, 3, 2, 0, 6, 0, 3, 0, 3, 2, 0, 8, 0, 9999])], []))
abbrev b_Sy_compileTest_at_k0 : ByteArray := prog_13_method_11_code
def y_Sy_compileTest_at_k0 : MethodName := ⟨"DrawingHouse$Styler", "compileTest", "(I)Z"⟩
abbrev z_Sy_compileTest_at_k0 : List Cond := Cond.code y_Sy_compileTest_at_k0 b_Sy_compileTest_at_k0 3 (some .boolean) :: lw_g
def e_Sy_compileTest_at_k0 : en_T := ([(2, 0, 0, [11]), (0, 0, 0, [])], some (0, 0, 1, []), false, 49, 0, 0, [], [((0, 3), (2, 0, 0, [109]))], (85070591730234615865843651857942052864, [(11, 1), (11, 2), (11, 5), (11, 6), (11, 7), (11, 8), (11, 11)], [(20, [0], [50, 2, 0, 6, 8, 3, 7, 7, 3, 2, 0, 6, 0, 3, 0, 3, 2, 0, 8, 0, 9999])], [(20, [0], [50, 2, 0, 6, 8, 3, 7, 7, 3, 2, 0, 6, 0, 3, 0, 3, 2, 0, 8, 0, 9999])], []))
abbrev b_Sy_compileTest_at_k1 : ByteArray := prog_13_method_11_code
def y_Sy_compileTest_at_k1 : MethodName := ⟨"DrawingHouse$Styler", "compileTest", "(I)Z"⟩
abbrev z_Sy_compileTest_at_k1 : List Cond := Cond.code y_Sy_compileTest_at_k1 b_Sy_compileTest_at_k1 3 (some .boolean) :: lw_g
def e_Sy_compileTest_at_k1 : en_T := ([(2, 0, 0, [11]), (0, 1, 1, [])], some (0, 0, 1, []), false, 46, 0, 0, [], [((0, 3), (2, 0, 0, [109]))], (85070591730234615865843651857942052864, [(11, 1), (11, 2), (11, 5), (11, 6), (11, 7), (11, 8), (11, 11)], [(20, [0], [50, 2, 0, 6, 8, 3, 7, 7, 3, 2, 0, 6, 0, 3, 0, 3, 2, 0, 8, 0, 9999])], [(20, [0], [50, 2, 0, 6, 8, 3, 7, 7, 3, 2, 0, 6, 0, 3, 0, 3, 2, 0, 8, 0, 9999])], []))
abbrev b_Sy_compileTest_at_k10 : ByteArray := prog_13_method_11_code
def y_Sy_compileTest_at_k10 : MethodName := ⟨"DrawingHouse$Styler", "compileTest", "(I)Z"⟩
abbrev z_Sy_compileTest_at_k10 : List Cond := Cond.code y_Sy_compileTest_at_k10 b_Sy_compileTest_at_k10 3 (some .boolean) :: lw_g
def e_Sy_compileTest_at_k10 : en_T := ([(2, 0, 0, [11]), (0, 10, 10, [])], some (0, 0, 1, []), false, 19, 0, 0, [], [((0, 3), (2, 0, 0, [109]))], (85070591730234615865843651857942052864, [(11, 1), (11, 2), (11, 5), (11, 6), (11, 7), (11, 8), (11, 11)], [(20, [0], [50, 2, 0, 6, 8, 3, 7, 7, 3, 2, 0, 6, 0, 3, 0, 3, 2, 0, 8, 0, 9999])], [(20, [0], [50, 2, 0, 6, 8, 3, 7, 7, 3, 2, 0, 6, 0, 3, 0, 3, 2, 0, 8, 0, 9999])], []))
abbrev b_Sy_compileTest_at_k11 : ByteArray := prog_13_method_11_code
def y_Sy_compileTest_at_k11 : MethodName := ⟨"DrawingHouse$Styler", "compileTest", "(I)Z"⟩
abbrev z_Sy_compileTest_at_k11 : List Cond := Cond.code y_Sy_compileTest_at_k11 b_Sy_compileTest_at_k11 3 (some .boolean) :: lw_g
def e_Sy_compileTest_at_k11 : en_T := ([(2, 0, 0, [11]), (0, 11, 11, [])], some (0, 0, 1, []), false, 16, 0, 0, [], [((0, 3), (2, 0, 0, [109]))], (85070591730234615865843651857942052864, [(11, 1), (11, 2), (11, 5), (11, 6), (11, 7), (11, 8), (11, 11)], [(20, [0], [50, 2, 0, 6, 8, 3, 7, 7, 3, 2, 0, 6, 0, 3, 0, 3, 2, 0, 8, 0, 9999])], [(20, [0], [50, 2, 0, 6, 8, 3, 7, 7, 3, 2, 0, 6, 0, 3, 0, 3, 2, 0, 8, 0, 9999])], []))
abbrev b_Sy_compileTest_at_k12 : ByteArray := prog_13_method_11_code
def y_Sy_compileTest_at_k12 : MethodName := ⟨"DrawingHouse$Styler", "compileTest", "(I)Z"⟩
abbrev z_Sy_compileTest_at_k12 : List Cond := Cond.code y_Sy_compileTest_at_k12 b_Sy_compileTest_at_k12 3 (some .boolean) :: lw_g
def e_Sy_compileTest_at_k12 : en_T := ([(2, 0, 0, [11]), (0, 12, 12, [])], some (0, 0, 1, []), false, 13, 0, 0, [], [((0, 3), (2, 0, 0, [109]))], (85070591730234615865843651857942052864, [(11, 1), (11, 2), (11, 5), (11, 6), (11, 7), (11, 8), (11, 11)], [(20, [0], [50, 2, 0, 6, 8, 3, 7, 7, 3, 2, 0, 6, 0, 3, 0, 3, 2, 0, 8, 0, 9999])], [(20, [0], [50, 2, 0, 6, 8, 3, 7, 7, 3, 2, 0, 6, 0, 3, 0, 3, 2, 0, 8, 0, 9999])], []))
abbrev b_Sy_compileTest_at_k2 : ByteArray := prog_13_method_11_code
def y_Sy_compileTest_at_k2 : MethodName := ⟨"DrawingHouse$Styler", "compileTest", "(I)Z"⟩
abbrev z_Sy_compileTest_at_k2 : List Cond := Cond.code y_Sy_compileTest_at_k2 b_Sy_compileTest_at_k2 3 (some .boolean) :: lw_g
def e_Sy_compileTest_at_k2 : en_T := ([(2, 0, 0, [11]), (0, 2, 2, [])], some (0, 0, 1, []), false, 43, 0, 0, [], [((0, 3), (2, 0, 0, [109]))], (85070591730234615865843651857942052864, [(11, 1), (11, 2), (11, 5), (11, 6), (11, 7), (11, 8), (11, 11)], [(20, [0], [50, 2, 0, 6, 8, 3, 7, 7, 3, 2, 0, 6, 0, 3, 0, 3, 2, 0, 8, 0, 9999])], [(20, [0], [50, 2, 0, 6, 8, 3, 7, 7, 3, 2, 0, 6, 0, 3, 0, 3, 2, 0, 8, 0, 9999])], []))
abbrev b_Sy_compileTest_at_k3 : ByteArray := prog_13_method_11_code
def y_Sy_compileTest_at_k3 : MethodName := ⟨"DrawingHouse$Styler", "compileTest", "(I)Z"⟩
abbrev z_Sy_compileTest_at_k3 : List Cond := Cond.code y_Sy_compileTest_at_k3 b_Sy_compileTest_at_k3 3 (some .boolean) :: lw_g
def e_Sy_compileTest_at_k3 : en_T := ([(2, 0, 0, [11]), (0, 3, 3, [])], some (0, 0, 1, []), false, 40, 0, 0, [], [((0, 3), (2, 0, 0, [109]))], (85070591730234615865843651857942052864, [(11, 1), (11, 2), (11, 5), (11, 6), (11, 7), (11, 8), (11, 11)], [(20, [0], [50, 2, 0, 6, 8, 3, 7, 7, 3, 2, 0, 6, 0, 3, 0, 3, 2, 0, 8, 0, 9999])], [(20, [0], [50, 2, 0, 6, 8, 3, 7, 7, 3, 2, 0, 6, 0, 3, 0, 3, 2, 0, 8, 0, 9999])], []))
abbrev b_Sy_compileTest_at_k4 : ByteArray := prog_13_method_11_code
def y_Sy_compileTest_at_k4 : MethodName := ⟨"DrawingHouse$Styler", "compileTest", "(I)Z"⟩
abbrev z_Sy_compileTest_at_k4 : List Cond := Cond.code y_Sy_compileTest_at_k4 b_Sy_compileTest_at_k4 3 (some .boolean) :: lw_g
def e_Sy_compileTest_at_k4 : en_T := ([(2, 0, 0, [11]), (0, 4, 4, [])], some (0, 0, 1, []), false, 37, 0, 0, [], [((0, 3), (2, 0, 0, [109]))], (85070591730234615865843651857942052864, [(11, 1), (11, 2), (11, 5), (11, 6), (11, 7), (11, 8), (11, 11)], [(20, [0], [50, 2, 0, 6, 8, 3, 7, 7, 3, 2, 0, 6, 0, 3, 0, 3, 2, 0, 8, 0, 9999])], [(20, [0], [50, 2, 0, 6, 8, 3, 7, 7, 3, 2, 0, 6, 0, 3, 0, 3, 2, 0, 8, 0, 9999])], []))
abbrev b_Sy_compileTest_at_k5 : ByteArray := prog_13_method_11_code
def y_Sy_compileTest_at_k5 : MethodName := ⟨"DrawingHouse$Styler", "compileTest", "(I)Z"⟩
abbrev z_Sy_compileTest_at_k5 : List Cond := Cond.code y_Sy_compileTest_at_k5 b_Sy_compileTest_at_k5 3 (some .boolean) :: lw_g
def e_Sy_compileTest_at_k5 : en_T := ([(2, 0, 0, [11]), (0, 5, 5, [])], some (0, 0, 1, []), false, 34, 0, 0, [], [((0, 3), (2, 0, 0, [109]))], (85070591730234615865843651857942052864, [(11, 1), (11, 2), (11, 5), (11, 6), (11, 7), (11, 8), (11, 11)], [(20, [0], [50, 2, 0, 6, 8, 3, 7, 7, 3, 2, 0, 6, 0, 3, 0, 3, 2, 0, 8, 0, 9999])], [(20, [0], [50, 2, 0, 6, 8, 3, 7, 7, 3, 2, 0, 6, 0, 3, 0, 3, 2, 0, 8, 0, 9999])], []))
abbrev b_Sy_compileTest_at_k6 : ByteArray := prog_13_method_11_code
def y_Sy_compileTest_at_k6 : MethodName := ⟨"DrawingHouse$Styler", "compileTest", "(I)Z"⟩
abbrev z_Sy_compileTest_at_k6 : List Cond := Cond.code y_Sy_compileTest_at_k6 b_Sy_compileTest_at_k6 3 (some .boolean) :: lw_g
def e_Sy_compileTest_at_k6 : en_T := ([(2, 0, 0, [11]), (0, 6, 6, [])], some (0, 0, 1, []), false, 31, 0, 0, [], [((0, 3), (2, 0, 0, [109]))], (85070591730234615865843651857942052864, [(11, 1), (11, 2), (11, 5), (11, 6), (11, 7), (11, 8), (11, 11)], [(20, [0], [50, 2, 0, 6, 8, 3, 7, 7, 3, 2, 0, 6, 0, 3, 0, 3, 2, 0, 8, 0, 9999])], [(20, [0], [50, 2, 0, 6, 8, 3, 7, 7, 3, 2, 0, 6, 0, 3, 0, 3, 2, 0, 8, 0, 9999])], []))
abbrev b_Sy_compileTest_at_k7 : ByteArray := prog_13_method_11_code
def y_Sy_compileTest_at_k7 : MethodName := ⟨"DrawingHouse$Styler", "compileTest", "(I)Z"⟩
abbrev z_Sy_compileTest_at_k7 : List Cond := Cond.code y_Sy_compileTest_at_k7 b_Sy_compileTest_at_k7 3 (some .boolean) :: lw_g
def e_Sy_compileTest_at_k7 : en_T := ([(2, 0, 0, [11]), (0, 7, 7, [])], some (0, 0, 1, []), false, 28, 0, 0, [], [((0, 3), (2, 0, 0, [109]))], (85070591730234615865843651857942052864, [(11, 1), (11, 2), (11, 5), (11, 6), (11, 7), (11, 8), (11, 11)], [(20, [0], [50, 2, 0, 6, 8, 3, 7, 7, 3, 2, 0, 6, 0, 3, 0, 3, 2, 0, 8, 0, 9999])], [(20, [0], [50, 2, 0, 6, 8, 3, 7, 7, 3, 2, 0, 6, 0, 3, 0, 3, 2, 0, 8, 0, 9999])], []))
abbrev b_Sy_compileTest_at_k8 : ByteArray := prog_13_method_11_code
def y_Sy_compileTest_at_k8 : MethodName := ⟨"DrawingHouse$Styler", "compileTest", "(I)Z"⟩
abbrev z_Sy_compileTest_at_k8 : List Cond := Cond.code y_Sy_compileTest_at_k8 b_Sy_compileTest_at_k8 3 (some .boolean) :: lw_g
def e_Sy_compileTest_at_k8 : en_T := ([(2, 0, 0, [11]), (0, 8, 8, [])], some (0, 0, 1, []), false, 25, 0, 0, [], [((0, 3), (2, 0, 0, [109]))], (85070591730234615865843651857942052864, [(11, 1), (11, 2), (11, 5), (11, 6), (11, 7), (11, 8), (11, 11)], [(20, [0], [50, 2, 0, 6, 8, 3, 7, 7, 3, 2, 0, 6, 0, 3, 0, 3, 2, 0, 8, 0, 9999])], [(20, [0], [50, 2, 0, 6, 8, 3, 7, 7, 3, 2, 0, 6, 0, 3, 0, 3, 2, 0, 8, 0, 9999])], []))
abbrev b_Sy_compileTest_at_k9 : ByteArray := prog_13_method_11_code
def y_Sy_compileTest_at_k9 : MethodName := ⟨"DrawingHouse$Styler", "compileTest", "(I)Z"⟩
abbrev z_Sy_compileTest_at_k9 : List Cond := Cond.code y_Sy_compileTest_at_k9 b_Sy_compileTest_at_k9 3 (some .boolean) :: lw_g
def e_Sy_compileTest_at_k9 : en_T := ([(2, 0, 0, [11]), (0, 9, 9, [])], some (0, 0, 1, []), false, 22, 0, 0, [], [((0, 3), (2, 0, 0, [109]))], (85070591730234615865843651857942052864, [(11, 1), (11, 2), (11, 5), (11, 6), (11, 7), (11, 8), (11, 11)], [(20, [0], [50, 2, 0, 6, 8, 3, 7, 7, 3, 2, 0, 6, 0, 3, 0, 3, 2, 0, 8, 0, 9999])], [(20, [0], [50, 2, 0, 6, 8, 3, 7, 7, 3, 2, 0, 6, 0, 3, 0, 3, 2, 0, 8, 0, 9999])], []))
abbrev b_Mo_edgeItem : ByteArray := prog_15_method_39_code
def y_Mo_edgeItem : MethodName := ⟨"DrawingHouseModel", "edgeItem", "(I)V"⟩
abbrev z_Mo_edgeItem : List Cond := Cond.code y_Mo_edgeItem b_Mo_edgeItem 6 none :: lw_g
def e_Mo_edgeItem : en_T := ([(2, 0, 0, [165]), (0, 0, 7, [])], none, false, 11, 0, 0, [], [], (187072209578355573530071658587684226515959365500928, [(165, 8), (165, 9), (165, 11), (165, 12), (165, 13), (165, 14), (165, 15)], [(20, [0, 0], [30, 0, 1, 1, 15, -1, 1, 11]), (20, [0], [50, 3, 0, 12, 11, 15, 2, 21, 4, 7, 1, 3, 2, 0, 12, 0, 1, 0, 3, 2, 0, 11, 4, 3, 2, 0, 15, 0, 8, 3, 7, 1, 3, 2, 0, 12, 0, 0, 0, 7, 4, 3, 2, 0, 15, 0, 1, 2, 0, 11]), (20, [2, 0], [30, 0, 1, 0, 0, -1, 1, 11]), (20, [1, 0], [50, 1, 1, 1005, 1002, 0, 6, 4, 2, 1, 0, 0, 1, 3, 1, 2, 4, 3, 2, 1, 5, 0, 2]), (20, [0], [60, 1, 3, 199, 5, 2, 3, 4]), (20, [0, 1, 3], [60, 8, 2, 991, 10, 11, 12, 13, 14, 15, 8, 5, 1, 2])], [(20, [0, 0], [30, 0, 1, 1, 15, -1, 1, 11]), (20, [0], [50, 3, 0, 12, 11, 15, 2, 21, 4, 7, 1, 3, 2, 0, 12, 0, 1, 0, 3, 2, 0, 11, 4, 3, 2, 0, 15, 0, 8, 3, 7, 1, 3, 2, 0, 12, 0, 0, 0, 7, 4, 3, 2, 0, 15, 0, 1, 2, 0, 11]), (20, [2, 0], [30, 0, 1, 0, 0, -1, 1, 11]), (20, [0, 2], [50, 2, 0, 8, 11, 3, 7, 0, 2, 0, 1, 2, 0, 8, 0, 6, 4, 2, 1, 1, 0, 1, 2, 0, 11]), (20, [1, 0], [50, 1, 1, 1005, 1002, 0, 6, 4, 2, 1, 0, 0, 1, 3, 1, 2, 4, 3, 2, 1, 5, 0, 2]), (20, [0], [60, 1, 3, 199, 5, 2, 3, 4]), (20, [0, 1, 3], [60, 9, 2, 1007, 10, 11, 12, 13, 14, 15, 8, 9, 5, 1, 2])], [(0, 0, 2000, []), (0, 0, 4, [])]))
abbrev b_Ho_edge : ByteArray := prog_1_method_7_code
def y_Ho_edge : MethodName := ⟨"DrawingHouse", "edge", "(III)I"⟩
abbrev z_Ho_edge : List Cond := Cond.code y_Ho_edge b_Ho_edge 4 (some .int) :: lw_g
def e_Ho_edge : en_T := ([(2, 0, 0, [12]), (0, -2147483648, 2147483647, []), (0, -2147483648, 2147483647, []), (0, -2147483648, 2147483647, [])], some (0, -1, 47, []), false, 13, 0, 0, [], [], (281337537757184, [(2, 0), (2, 1), (2, 2), (2, 3)], [(20, [0], [62, 0])], [(20, [0], [62, 0])], []))
abbrev b_Sy_compileRule : ByteArray := prog_13_method_9_code
def y_Sy_compileRule : MethodName := ⟨"DrawingHouse$Styler", "compileRule", "()Z"⟩
abbrev z_Sy_compileRule : List Cond := Cond.code y_Sy_compileRule b_Sy_compileRule 3 (some .boolean) :: lw_g
def e_Sy_compileRule : en_T := ([(2, 0, 0, [11])], some (0, 0, 1, []), false, 50, 0, 0, [], [((0, 3), (2, 0, 0, [109])), ((0, 0), (0, 0, 112, []))], (595494142111642311060905563005594370048, [(11, 0), (11, 1), (11, 2), (11, 5), (11, 6), (11, 7), (11, 8), (11, 9), (11, 11)], [(20, [0, 3], [30, 0, 1, 1, 0, -1, 0, 0]), (20, [0], [50, 2, 0, 6, 8, 3, 7, 7, 3, 2, 0, 6, 0, 3, 0, 3, 2, 0, 8, 0, 9999])], [(20, [0, 3], [30, 1, 1, 1, 0, -1, 0, 0]), (20, [0], [50, 2, 0, 6, 8, 3, 7, 7, 3, 2, 0, 6, 0, 3, 0, 3, 2, 0, 8, 0, 9999])], [(0, 0, 111, [])]))
abbrev b_Em_bar : ByteArray := prog_3_method_3_code
def y_Em_bar : MethodName := ⟨"DrawingHouse$Embedder", "bar", "(LDrawingHouse$Graph;LDrawingHouse$Net;)V"⟩
abbrev z_Em_bar : List Cond := Cond.code y_Em_bar b_Em_bar 4 none :: lw_g
def e_Em_bar : en_T := ([(2, 0, 0, [1]), (2, 0, 0, [3]), (2, 0, 0, [5])], none, false, 10, 0, 0, [], [], (712230049778071776583401465242514497556447232, [(1, 0), (1, 5), (1, 6), (1, 7), (1, 15), (1, 16), (1, 17), (1, 18), (5, 2), (5, 3), (149, 5), (149, 6), (149, 13)], [(20, [1], [60, 2, 2, 596, 0, 1, 7, 8]), (20, [2], [50, 1, 0, 3, 1, 3, 2, 0, 3, 0, 0])], [], []))
abbrev b_Em_outer : ByteArray := prog_3_method_2_code
def y_Em_outer : MethodName := ⟨"DrawingHouse$Embedder", "outer", "(LDrawingHouse$Graph;LDrawingHouse$Net;)I"⟩
abbrev z_Em_outer : List Cond := Cond.code y_Em_outer b_Em_outer 4 (some .int) :: lw_g
def e_Em_outer : en_T := ([(2, 0, 0, [1]), (2, 0, 0, [3]), (2, 0, 0, [5])], some (0, 0, 1, []), false, 10, 0, 0, [], [], (712230049778071776582797002332707182700658688, [(1, 0), (1, 5), (1, 6), (1, 7), (1, 15), (1, 16), (1, 17), (1, 18), (5, 1), (149, 5), (149, 6), (149, 13)], [(20, [1], [60, 2, 2, 596, 0, 1, 7, 8])], [], []))
abbrev b_Sy_compile : ByteArray := prog_13_method_2_code
def y_Sy_compile : MethodName := ⟨"DrawingHouse$Styler", "compile", "([BI)Z"⟩
abbrev z_Sy_compile : List Cond := Cond.code y_Sy_compile b_Sy_compile 4 (some .boolean) :: lw_g
def e_Sy_compile : en_T := ([(2, 0, 0, [11]), (2, 0, 0, [109]), (0, 0, 2000, [])], some (0, 0, 1, []), false, 51, 0, 0, [], [], (595494142111642311060905563005594370048, [(11, 0), (11, 1), (11, 2), (11, 3), (11, 4), (11, 5), (11, 6), (11, 7), (11, 8), (11, 9), (11, 11)], [], [], []))
abbrev b_Re_readGraph : ByteArray := prog_10_method_3_code
def y_Re_readGraph : MethodName := ⟨"DrawingHouse$Reader", "readGraph", "(I)Z"⟩
abbrev z_Re_readGraph : List Cond := Cond.code y_Re_readGraph b_Re_readGraph 3 (some .boolean) :: lw_g
def e_Re_readGraph : en_T := ([(2, 0, 0, [8]), (0, 0, 2000, [])], some (0, 0, 1, []), false, 12, 0, 0, [], [((0, 4), (2, 0, 0, [164]))], (11690585850954518683822635009467721794735159902208, [(8, 2), (8, 3), (8, 5), (8, 6), (8, 7), (8, 8), (8, 9), (8, 11), (164, 0), (164, 1), (164, 2), (164, 17), (164, 18)], [], [(20, [2], [60, 2, 3, 670, 0, 1, 14, 7, 8]), (20, [2], [60, 2, 2, 596, 0, 1, 7, 8]), (20, [0, 2, 1, 3], [60, 4, 1, 1084, 5, 2, 3, 1000, 0])], []))
abbrev b_Mo_judge : ByteArray := prog_15_method_205_code
def y_Mo_judge : MethodName := ⟨"DrawingHouseModel", "judge", "(II)J"⟩
abbrev z_Mo_judge : List Cond := Cond.code y_Mo_judge b_Mo_judge 9 (some .long) :: lw_g
def e_Mo_judge : en_T := ([(2, 0, 0, [165]), (0, -2147483648, 2147483647, []), (0, -2147483648, 2147483647, [])], some (1, -9223372036854775808, 9223372036854775807, []), false, 10, 0, 0, [], [], (0, [(165, 5), (165, 139), (165, 153), (165, 154), (165, 155), (165, 156)], [], [], []))
abbrev b_Ho_embedded : ByteArray := prog_1_method_34_code
def y_Ho_embedded : MethodName := ⟨"DrawingHouse", "embedded", "(I)LDrawingHouse$Net;"⟩
abbrev z_Ho_embedded : List Cond := Cond.code y_Ho_embedded b_Ho_embedded 3 (some (.object "DrawingHouse$Net")) :: lw_g
def e_Ho_embedded : en_T := ([(2, 0, 0, [12]), (0, 0, 3, [])], some (2, 0, 0, [5]), false, 11, 0, 0, [], [], (712230049778071777201162559065590005831303168, [(1, 0), (1, 5), (1, 6), (1, 7), (1, 15), (1, 16), (1, 17), (1, 18), (5, 0), (5, 2), (5, 3), (5, 5), (5, 6), (5, 13), (149, 5), (149, 6), (149, 13)], [(20, [0], [62, 0])], [(20, [0], [62, 0]), (20, [0, 1, 2], [62, 199]), (20, [2], [50, 1, 0, 0, 0, 2, 0, 0, 2, 0, 0])], []))
abbrev b_Mo_groupItem_at_k0 : ByteArray := prog_15_method_38_code
def y_Mo_groupItem_at_k0 : MethodName := ⟨"DrawingHouseModel", "groupItem", "(II)V"⟩
abbrev z_Mo_groupItem_at_k0 : List Cond := Cond.code y_Mo_groupItem_at_k0 b_Mo_groupItem_at_k0 5 none :: lw_g
def e_Mo_groupItem_at_k0 : en_T := ([(2, 0, 0, [165]), (0, 0, 0, []), (0, 0, 0, [])], none, false, 19, 0, 0, [], [], (187072209578355573530071658587684226515959365500928, [(165, 8), (165, 9), (165, 11), (165, 12), (165, 13), (165, 14), (165, 15)], [(20, [0, 0], [30, 0, 1, 1, 15, -1, 1, 11]), (20, [0], [50, 3, 0, 12, 11, 15, 2, 21, 4, 7, 1, 3, 2, 0, 12, 0, 1, 0, 3, 2, 0, 11, 4, 3, 2, 0, 15, 0, 8, 3, 7, 1, 3, 2, 0, 12, 0, 0, 0, 7, 4, 3, 2, 0, 15, 0, 1, 2, 0, 11]), (20, [3, 0], [30, 0, 1, 0, 0, -1, 1, 11]), (20, [1, 0], [50, 1, 1, 1005, 1002, 0, 6, 4, 2, 1, 0, 0, 1, 3, 1, 2, 4, 3, 2, 1, 5, 0, 2]), (20, [0], [60, 1, 3, 199, 5, 2, 3, 4]), (20, [0, 1, 2], [60, 8, 2, 992, 10, 11, 12, 13, 14, 15, 8, 5, 1, 2])], [(20, [0, 0], [30, 0, 1, 1, 15, -1, 1, 11]), (20, [0], [50, 3, 0, 12, 11, 15, 2, 21, 4, 7, 1, 3, 2, 0, 12, 0, 1, 0, 3, 2, 0, 11, 4, 3, 2, 0, 15, 0, 8, 3, 7, 1, 3, 2, 0, 12, 0, 0, 0, 7, 4, 3, 2, 0, 15, 0, 1, 2, 0, 11]), (20, [3, 0], [30, 0, 1, 0, 0, -1, 1, 11]), (20, [0, 3], [50, 2, 0, 8, 11, 3, 7, 0, 2, 0, 1, 2, 0, 8, 0, 6, 4, 2, 1, 1, 0, 1, 2, 0, 11]), (20, [1, 0], [50, 1, 1, 1005, 1002, 0, 6, 4, 2, 1, 0, 0, 1, 3, 1, 2, 4, 3, 2, 1, 5, 0, 2]), (20, [0], [60, 1, 3, 199, 5, 2, 3, 4]), (20, [0, 1, 2], [60, 9, 2, 1007, 10, 11, 12, 13, 14, 15, 8, 9, 5, 1, 2])], [(0, 0, 2000, [])]))
abbrev b_Mo_groupItem_at_k1 : ByteArray := prog_15_method_38_code
def y_Mo_groupItem_at_k1 : MethodName := ⟨"DrawingHouseModel", "groupItem", "(II)V"⟩
abbrev z_Mo_groupItem_at_k1 : List Cond := Cond.code y_Mo_groupItem_at_k1 b_Mo_groupItem_at_k1 5 none :: lw_g
def e_Mo_groupItem_at_k1 : en_T := ([(2, 0, 0, [165]), (0, 0, 7, []), (0, 1, 1, [])], none, false, 17, 0, 0, [], [], (187072209578355573530071658587684226515959365500928, [(165, 8), (165, 9), (165, 11), (165, 12), (165, 13), (165, 14), (165, 15)], [(20, [0, 0], [30, 0, 1, 1, 15, -1, 1, 11]), (20, [0], [50, 3, 0, 12, 11, 15, 2, 21, 4, 7, 1, 3, 2, 0, 12, 0, 1, 0, 3, 2, 0, 11, 4, 3, 2, 0, 15, 0, 8, 3, 7, 1, 3, 2, 0, 12, 0, 0, 0, 7, 4, 3, 2, 0, 15, 0, 1, 2, 0, 11]), (20, [3, 0], [30, 0, 1, 0, 0, -1, 1, 11]), (20, [1, 0], [50, 1, 1, 1005, 1002, 0, 6, 4, 2, 1, 0, 0, 1, 3, 1, 2, 4, 3, 2, 1, 5, 0, 2]), (20, [0], [60, 1, 3, 199, 5, 2, 3, 4]), (20, [0, 1, 2], [60, 8, 2, 992, 10, 11, 12, 13, 14, 15, 8, 5, 1, 2])], [(20, [0, 0], [30, 0, 1, 1, 15, -1, 1, 11]), (20, [0], [50, 3, 0, 12, 11, 15, 2, 21, 4, 7, 1, 3, 2, 0, 12, 0, 1, 0, 3, 2, 0, 11, 4, 3, 2, 0, 15, 0, 8, 3, 7, 1, 3, 2, 0, 12, 0, 0, 0, 7, 4, 3, 2, 0, 15, 0, 1, 2, 0, 11]), (20, [3, 0], [30, 0, 1, 0, 0, -1, 1, 11]), (20, [0, 3], [50, 2, 0, 8, 11, 3, 7, 0, 2, 0, 1, 2, 0, 8, 0, 6, 4, 2, 1, 1, 0, 1, 2, 0, 11]), (20, [1, 0], [50, 1, 1, 1005, 1002, 0, 6, 4, 2, 1, 0, 0, 1, 3, 1, 2, 4, 3, 2, 1, 5, 0, 2]), (20, [0], [60, 1, 3, 199, 5, 2, 3, 4]), (20, [0, 1, 2], [60, 9, 2, 1007, 10, 11, 12, 13, 14, 15, 8, 9, 5, 1, 2])], [(0, 0, 2000, [])]))
abbrev b_Mo_groupItem_at_k2 : ByteArray := prog_15_method_38_code
def y_Mo_groupItem_at_k2 : MethodName := ⟨"DrawingHouseModel", "groupItem", "(II)V"⟩
abbrev z_Mo_groupItem_at_k2 : List Cond := Cond.code y_Mo_groupItem_at_k2 b_Mo_groupItem_at_k2 5 none :: lw_g
def e_Mo_groupItem_at_k2 : en_T := ([(2, 0, 0, [165]), (0, 0, 7, []), (0, 2, 2, [])], none, false, 15, 0, 0, [], [], (187072209578355573530071658587684226515959365500928, [(165, 8), (165, 9), (165, 11), (165, 12), (165, 13), (165, 14), (165, 15)], [(20, [0, 0], [30, 0, 1, 1, 15, -1, 1, 11]), (20, [0], [50, 3, 0, 12, 11, 15, 2, 21, 4, 7, 1, 3, 2, 0, 12, 0, 1, 0, 3, 2, 0, 11, 4, 3, 2, 0, 15, 0, 8, 3, 7, 1, 3, 2, 0, 12, 0, 0, 0, 7, 4, 3, 2, 0, 15, 0, 1, 2, 0, 11]), (20, [3, 0], [30, 0, 1, 0, 0, -1, 1, 11]), (20, [1, 0], [50, 1, 1, 1005, 1002, 0, 6, 4, 2, 1, 0, 0, 1, 3, 1, 2, 4, 3, 2, 1, 5, 0, 2]), (20, [0], [60, 1, 3, 199, 5, 2, 3, 4]), (20, [0, 1, 2], [60, 8, 2, 992, 10, 11, 12, 13, 14, 15, 8, 5, 1, 2])], [(20, [0, 0], [30, 0, 1, 1, 15, -1, 1, 11]), (20, [0], [50, 3, 0, 12, 11, 15, 2, 21, 4, 7, 1, 3, 2, 0, 12, 0, 1, 0, 3, 2, 0, 11, 4, 3, 2, 0, 15, 0, 8, 3, 7, 1, 3, 2, 0, 12, 0, 0, 0, 7, 4, 3, 2, 0, 15, 0, 1, 2, 0, 11]), (20, [3, 0], [30, 0, 1, 0, 0, -1, 1, 11]), (20, [0, 3], [50, 2, 0, 8, 11, 3, 7, 0, 2, 0, 1, 2, 0, 8, 0, 6, 4, 2, 1, 1, 0, 1, 2, 0, 11]), (20, [1, 0], [50, 1, 1, 1005, 1002, 0, 6, 4, 2, 1, 0, 0, 1, 3, 1, 2, 4, 3, 2, 1, 5, 0, 2]), (20, [0], [60, 1, 3, 199, 5, 2, 3, 4]), (20, [0, 1, 2], [60, 9, 2, 1007, 10, 11, 12, 13, 14, 15, 8, 9, 5, 1, 2])], [(0, 0, 2000, [])]))
abbrev b_Mo_groupItem_at_k3 : ByteArray := prog_15_method_38_code
def y_Mo_groupItem_at_k3 : MethodName := ⟨"DrawingHouseModel", "groupItem", "(II)V"⟩
abbrev z_Mo_groupItem_at_k3 : List Cond := Cond.code y_Mo_groupItem_at_k3 b_Mo_groupItem_at_k3 5 none :: lw_g
def e_Mo_groupItem_at_k3 : en_T := ([(2, 0, 0, [165]), (0, 0, 7, []), (0, 3, 3, [])], none, false, 13, 0, 0, [], [], (187072209578355573530071658587684226515959365500928, [(165, 8), (165, 9), (165, 11), (165, 12), (165, 13), (165, 14), (165, 15)], [(20, [0, 0], [30, 0, 1, 1, 15, -1, 1, 11]), (20, [0], [50, 3, 0, 12, 11, 15, 2, 21, 4, 7, 1, 3, 2, 0, 12, 0, 1, 0, 3, 2, 0, 11, 4, 3, 2, 0, 15, 0, 8, 3, 7, 1, 3, 2, 0, 12, 0, 0, 0, 7, 4, 3, 2, 0, 15, 0, 1, 2, 0, 11]), (20, [3, 0], [30, 0, 1, 0, 0, -1, 1, 11]), (20, [1, 0], [50, 1, 1, 1005, 1002, 0, 6, 4, 2, 1, 0, 0, 1, 3, 1, 2, 4, 3, 2, 1, 5, 0, 2]), (20, [0], [60, 1, 3, 199, 5, 2, 3, 4]), (20, [0, 1, 2], [60, 8, 2, 992, 10, 11, 12, 13, 14, 15, 8, 5, 1, 2])], [(20, [0, 0], [30, 0, 1, 1, 15, -1, 1, 11]), (20, [0], [50, 3, 0, 12, 11, 15, 2, 21, 4, 7, 1, 3, 2, 0, 12, 0, 1, 0, 3, 2, 0, 11, 4, 3, 2, 0, 15, 0, 8, 3, 7, 1, 3, 2, 0, 12, 0, 0, 0, 7, 4, 3, 2, 0, 15, 0, 1, 2, 0, 11]), (20, [3, 0], [30, 0, 1, 0, 0, -1, 1, 11]), (20, [0, 3], [50, 2, 0, 8, 11, 3, 7, 0, 2, 0, 1, 2, 0, 8, 0, 6, 4, 2, 1, 1, 0, 1, 2, 0, 11]), (20, [1, 0], [50, 1, 1, 1005, 1002, 0, 6, 4, 2, 1, 0, 0, 1, 3, 1, 2, 4, 3, 2, 1, 5, 0, 2]), (20, [0], [60, 1, 3, 199, 5, 2, 3, 4]), (20, [0, 1, 2], [60, 9, 2, 1007, 10, 11, 12, 13, 14, 15, 8, 9, 5, 1, 2])], [(0, 0, 2000, [])]))
abbrev b_Mo_groupItem_at_k4 : ByteArray := prog_15_method_38_code
def y_Mo_groupItem_at_k4 : MethodName := ⟨"DrawingHouseModel", "groupItem", "(II)V"⟩
abbrev z_Mo_groupItem_at_k4 : List Cond := Cond.code y_Mo_groupItem_at_k4 b_Mo_groupItem_at_k4 5 none :: lw_g
def e_Mo_groupItem_at_k4 : en_T := ([(2, 0, 0, [165]), (0, 0, 7, []), (0, 4, 4, [])], none, false, 7, 0, 0, [], [], (0, [(165, 8), (165, 9)], [(20, [0, 0], [30, 0, 1, 1, 15, -1, 1, 11]), (20, [0], [50, 3, 0, 12, 11, 15, 2, 21, 4, 7, 1, 3, 2, 0, 12, 0, 1, 0, 3, 2, 0, 11, 4, 3, 2, 0, 15, 0, 8, 3, 7, 1, 3, 2, 0, 12, 0, 0, 0, 7, 4, 3, 2, 0, 15, 0, 1, 2, 0, 11]), (20, [3, 0], [30, 0, 1, 0, 0, -1, 1, 11]), (20, [1, 0], [50, 1, 1, 1005, 1002, 0, 6, 4, 2, 1, 0, 0, 1, 3, 1, 2, 4, 3, 2, 1, 5, 0, 2]), (20, [0], [60, 1, 3, 199, 5, 2, 3, 4]), (20, [0, 1, 2], [60, 8, 2, 992, 10, 11, 12, 13, 14, 15, 8, 5, 1, 2])], [(20, [0, 0], [30, 0, 1, 1, 15, -1, 1, 11]), (20, [0], [50, 3, 0, 12, 11, 15, 2, 21, 4, 7, 1, 3, 2, 0, 12, 0, 1, 0, 3, 2, 0, 11, 4, 3, 2, 0, 15, 0, 8, 3, 7, 1, 3, 2, 0, 12, 0, 0, 0, 7, 4, 3, 2, 0, 15, 0, 1, 2, 0, 11]), (20, [3, 0], [30, 0, 1, 0, 0, -1, 1, 11]), (20, [0, 3], [50, 2, 0, 8, 11, 3, 7, 0, 2, 0, 1, 2, 0, 8, 0, 6, 4, 2, 1, 1, 0, 1, 2, 0, 11]), (20, [1, 0], [50, 1, 1, 1005, 1002, 0, 6, 4, 2, 1, 0, 0, 1, 3, 1, 2, 4, 3, 2, 1, 5, 0, 2]), (20, [0], [60, 1, 3, 199, 5, 2, 3, 4]), (20, [0, 1, 2], [60, 9, 2, 1007, 10, 11, 12, 13, 14, 15, 8, 9, 5, 1, 2])], [(0, 0, 2000, [])]))
abbrev b_Mo_item_at_k0 : ByteArray := prog_15_method_37_code
def y_Mo_item_at_k0 : MethodName := ⟨"DrawingHouseModel", "item", "(II)V"⟩
abbrev z_Mo_item_at_k0 : List Cond := Cond.code y_Mo_item_at_k0 b_Mo_item_at_k0 5 none :: lw_g
def e_Mo_item_at_k0 : en_T := ([(2, 0, 0, [165]), (0, 0, 0, []), (0, 0, 0, [])], none, false, 20, 0, 0, [], [], (187072209578355573530071658587684226515959365500928, [(165, 8), (165, 9), (165, 11), (165, 12), (165, 13), (165, 14), (165, 15)], [(20, [0, 0], [30, 0, 1, 1, 15, -1, 1, 11]), (20, [0], [50, 3, 0, 12, 11, 15, 2, 21, 4, 7, 1, 3, 2, 0, 12, 0, 1, 0, 3, 2, 0, 11, 4, 3, 2, 0, 15, 0, 8, 3, 7, 1, 3, 2, 0, 12, 0, 0, 0, 7, 4, 3, 2, 0, 15, 0, 1, 2, 0, 11]), (20, [3, 0], [30, 0, 1, 0, 0, -1, 1, 11]), (20, [1, 0], [50, 1, 1, 1005, 1002, 0, 6, 4, 2, 1, 0, 0, 1, 3, 1, 2, 4, 3, 2, 1, 5, 0, 2]), (20, [0], [60, 1, 3, 199, 5, 2, 3, 4]), (20, [0, 1, 2], [60, 8, 2, 990, 10, 11, 12, 13, 14, 15, 8, 5, 1, 2])], [(20, [0, 0], [30, 0, 1, 1, 15, -1, 1, 11]), (20, [0], [50, 3, 0, 12, 11, 15, 2, 21, 4, 7, 1, 3, 2, 0, 12, 0, 1, 0, 3, 2, 0, 11, 4, 3, 2, 0, 15, 0, 8, 3, 7, 1, 3, 2, 0, 12, 0, 0, 0, 7, 4, 3, 2, 0, 15, 0, 1, 2, 0, 11]), (20, [3, 0], [30, 0, 1, 0, 0, -1, 1, 11]), (20, [0, 3], [50, 2, 0, 8, 11, 3, 7, 0, 2, 0, 1, 2, 0, 8, 0, 6, 4, 2, 1, 1, 0, 1, 2, 0, 11]), (20, [1, 0], [50, 1, 1, 1005, 1002, 0, 6, 4, 2, 1, 0, 0, 1, 3, 1, 2, 4, 3, 2, 1, 5, 0, 2]), (20, [0], [60, 1, 3, 199, 5, 2, 3, 4]), (20, [0, 1, 2], [60, 9, 2, 1007, 10, 11, 12, 13, 14, 15, 8, 9, 5, 1, 2])], [(0, 0, 2000, [])]))
abbrev b_Mo_item_at_k1 : ByteArray := prog_15_method_37_code
def y_Mo_item_at_k1 : MethodName := ⟨"DrawingHouseModel", "item", "(II)V"⟩
abbrev z_Mo_item_at_k1 : List Cond := Cond.code y_Mo_item_at_k1 b_Mo_item_at_k1 5 none :: lw_g
def e_Mo_item_at_k1 : en_T := ([(2, 0, 0, [165]), (0, 0, 7, []), (0, 1, 1, [])], none, false, 18, 0, 0, [], [], (187072209578355573530071658587684226515959365500928, [(165, 8), (165, 9), (165, 11), (165, 12), (165, 13), (165, 14), (165, 15)], [(20, [0, 0], [30, 0, 1, 1, 15, -1, 1, 11]), (20, [0], [50, 3, 0, 12, 11, 15, 2, 21, 4, 7, 1, 3, 2, 0, 12, 0, 1, 0, 3, 2, 0, 11, 4, 3, 2, 0, 15, 0, 8, 3, 7, 1, 3, 2, 0, 12, 0, 0, 0, 7, 4, 3, 2, 0, 15, 0, 1, 2, 0, 11]), (20, [3, 0], [30, 0, 1, 0, 0, -1, 1, 11]), (20, [1, 0], [50, 1, 1, 1005, 1002, 0, 6, 4, 2, 1, 0, 0, 1, 3, 1, 2, 4, 3, 2, 1, 5, 0, 2]), (20, [0], [60, 1, 3, 199, 5, 2, 3, 4]), (20, [0, 1, 2], [60, 8, 2, 990, 10, 11, 12, 13, 14, 15, 8, 5, 1, 2])], [(20, [0, 0], [30, 0, 1, 1, 15, -1, 1, 11]), (20, [0], [50, 3, 0, 12, 11, 15, 2, 21, 4, 7, 1, 3, 2, 0, 12, 0, 1, 0, 3, 2, 0, 11, 4, 3, 2, 0, 15, 0, 8, 3, 7, 1, 3, 2, 0, 12, 0, 0, 0, 7, 4, 3, 2, 0, 15, 0, 1, 2, 0, 11]), (20, [3, 0], [30, 0, 1, 0, 0, -1, 1, 11]), (20, [0, 3], [50, 2, 0, 8, 11, 3, 7, 0, 2, 0, 1, 2, 0, 8, 0, 6, 4, 2, 1, 1, 0, 1, 2, 0, 11]), (20, [1, 0], [50, 1, 1, 1005, 1002, 0, 6, 4, 2, 1, 0, 0, 1, 3, 1, 2, 4, 3, 2, 1, 5, 0, 2]), (20, [0], [60, 1, 3, 199, 5, 2, 3, 4]), (20, [0, 1, 2], [60, 9, 2, 1007, 10, 11, 12, 13, 14, 15, 8, 9, 5, 1, 2])], [(0, 0, 2000, [])]))
abbrev b_Mo_item_at_k2 : ByteArray := prog_15_method_37_code
def y_Mo_item_at_k2 : MethodName := ⟨"DrawingHouseModel", "item", "(II)V"⟩
abbrev z_Mo_item_at_k2 : List Cond := Cond.code y_Mo_item_at_k2 b_Mo_item_at_k2 5 none :: lw_g
def e_Mo_item_at_k2 : en_T := ([(2, 0, 0, [165]), (0, 0, 7, []), (0, 2, 2, [])], none, false, 16, 0, 0, [], [], (187072209578355573530071658587684226515959365500928, [(165, 8), (165, 9), (165, 11), (165, 12), (165, 13), (165, 14), (165, 15)], [(20, [0, 0], [30, 0, 1, 1, 15, -1, 1, 11]), (20, [0], [50, 3, 0, 12, 11, 15, 2, 21, 4, 7, 1, 3, 2, 0, 12, 0, 1, 0, 3, 2, 0, 11, 4, 3, 2, 0, 15, 0, 8, 3, 7, 1, 3, 2, 0, 12, 0, 0, 0, 7, 4, 3, 2, 0, 15, 0, 1, 2, 0, 11]), (20, [3, 0], [30, 0, 1, 0, 0, -1, 1, 11]), (20, [1, 0], [50, 1, 1, 1005, 1002, 0, 6, 4, 2, 1, 0, 0, 1, 3, 1, 2, 4, 3, 2, 1, 5, 0, 2]), (20, [0], [60, 1, 3, 199, 5, 2, 3, 4]), (20, [0, 1, 2], [60, 8, 2, 990, 10, 11, 12, 13, 14, 15, 8, 5, 1, 2])], [(20, [0, 0], [30, 0, 1, 1, 15, -1, 1, 11]), (20, [0], [50, 3, 0, 12, 11, 15, 2, 21, 4, 7, 1, 3, 2, 0, 12, 0, 1, 0, 3, 2, 0, 11, 4, 3, 2, 0, 15, 0, 8, 3, 7, 1, 3, 2, 0, 12, 0, 0, 0, 7, 4, 3, 2, 0, 15, 0, 1, 2, 0, 11]), (20, [3, 0], [30, 0, 1, 0, 0, -1, 1, 11]), (20, [0, 3], [50, 2, 0, 8, 11, 3, 7, 0, 2, 0, 1, 2, 0, 8, 0, 6, 4, 2, 1, 1, 0, 1, 2, 0, 11]), (20, [1, 0], [50, 1, 1, 1005, 1002, 0, 6, 4, 2, 1, 0, 0, 1, 3, 1, 2, 4, 3, 2, 1, 5, 0, 2]), (20, [0], [60, 1, 3, 199, 5, 2, 3, 4]), (20, [0, 1, 2], [60, 9, 2, 1007, 10, 11, 12, 13, 14, 15, 8, 9, 5, 1, 2])], [(0, 0, 2000, [])]))
abbrev b_Mo_item_at_k3 : ByteArray := prog_15_method_37_code
def y_Mo_item_at_k3 : MethodName := ⟨"DrawingHouseModel", "item", "(II)V"⟩
abbrev z_Mo_item_at_k3 : List Cond := Cond.code y_Mo_item_at_k3 b_Mo_item_at_k3 5 none :: lw_g
def e_Mo_item_at_k3 : en_T := ([(2, 0, 0, [165]), (0, 0, 7, []), (0, 3, 3, [])], none, false, 14, 0, 0, [], [], (187072209578355573530071658587684226515959365500928, [(165, 8), (165, 9), (165, 11), (165, 12), (165, 13), (165, 14), (165, 15)], [(20, [0, 0], [30, 0, 1, 1, 15, -1, 1, 11]), (20, [0], [50, 3, 0, 12, 11, 15, 2, 21, 4, 7, 1, 3, 2, 0, 12, 0, 1, 0, 3, 2, 0, 11, 4, 3, 2, 0, 15, 0, 8, 3, 7, 1, 3, 2, 0, 12, 0, 0, 0, 7, 4, 3, 2, 0, 15, 0, 1, 2, 0, 11]), (20, [3, 0], [30, 0, 1, 0, 0, -1, 1, 11]), (20, [1, 0], [50, 1, 1, 1005, 1002, 0, 6, 4, 2, 1, 0, 0, 1, 3, 1, 2, 4, 3, 2, 1, 5, 0, 2]), (20, [0], [60, 1, 3, 199, 5, 2, 3, 4]), (20, [0, 1, 2], [60, 8, 2, 990, 10, 11, 12, 13, 14, 15, 8, 5, 1, 2])], [(20, [0, 0], [30, 0, 1, 1, 15, -1, 1, 11]), (20, [0], [50, 3, 0, 12, 11, 15, 2, 21, 4, 7, 1, 3, 2, 0, 12, 0, 1, 0, 3, 2, 0, 11, 4, 3, 2, 0, 15, 0, 8, 3, 7, 1, 3, 2, 0, 12, 0, 0, 0, 7, 4, 3, 2, 0, 15, 0, 1, 2, 0, 11]), (20, [3, 0], [30, 0, 1, 0, 0, -1, 1, 11]), (20, [0, 3], [50, 2, 0, 8, 11, 3, 7, 0, 2, 0, 1, 2, 0, 8, 0, 6, 4, 2, 1, 1, 0, 1, 2, 0, 11]), (20, [1, 0], [50, 1, 1, 1005, 1002, 0, 6, 4, 2, 1, 0, 0, 1, 3, 1, 2, 4, 3, 2, 1, 5, 0, 2]), (20, [0], [60, 1, 3, 199, 5, 2, 3, 4]), (20, [0, 1, 2], [60, 9, 2, 1007, 10, 11, 12, 13, 14, 15, 8, 9, 5, 1, 2])], [(0, 0, 2000, [])]))
abbrev b_Mo_item_at_k4 : ByteArray := prog_15_method_37_code
def y_Mo_item_at_k4 : MethodName := ⟨"DrawingHouseModel", "item", "(II)V"⟩
abbrev z_Mo_item_at_k4 : List Cond := Cond.code y_Mo_item_at_k4 b_Mo_item_at_k4 5 none :: lw_g
def e_Mo_item_at_k4 : en_T := ([(2, 0, 0, [165]), (0, 0, 7, []), (0, 4, 4, [])], none, false, 12, 0, 0, [], [], (187072209578355573530071658587684226515959365500928, [(165, 8), (165, 9), (165, 11), (165, 12), (165, 13), (165, 14), (165, 15)], [(20, [0, 0], [30, 0, 1, 1, 15, -1, 1, 11]), (20, [0], [50, 3, 0, 12, 11, 15, 2, 21, 4, 7, 1, 3, 2, 0, 12, 0, 1, 0, 3, 2, 0, 11, 4, 3, 2, 0, 15, 0, 8, 3, 7, 1, 3, 2, 0, 12, 0, 0, 0, 7, 4, 3, 2, 0, 15, 0, 1, 2, 0, 11]), (20, [3, 0], [30, 0, 1, 0, 0, -1, 1, 11]), (20, [1, 0], [50, 1, 1, 1005, 1002, 0, 6, 4, 2, 1, 0, 0, 1, 3, 1, 2, 4, 3, 2, 1, 5, 0, 2]), (20, [0], [60, 1, 3, 199, 5, 2, 3, 4]), (20, [0, 1, 2], [60, 8, 2, 990, 10, 11, 12, 13, 14, 15, 8, 5, 1, 2])], [(20, [0, 0], [30, 0, 1, 1, 15, -1, 1, 11]), (20, [0], [50, 3, 0, 12, 11, 15, 2, 21, 4, 7, 1, 3, 2, 0, 12, 0, 1, 0, 3, 2, 0, 11, 4, 3, 2, 0, 15, 0, 8, 3, 7, 1, 3, 2, 0, 12, 0, 0, 0, 7, 4, 3, 2, 0, 15, 0, 1, 2, 0, 11]), (20, [3, 0], [30, 0, 1, 0, 0, -1, 1, 11]), (20, [0, 3], [50, 2, 0, 8, 11, 3, 7, 0, 2, 0, 1, 2, 0, 8, 0, 6, 4, 2, 1, 1, 0, 1, 2, 0, 11]), (20, [1, 0], [50, 1, 1, 1005, 1002, 0, 6, 4, 2, 1, 0, 0, 1, 3, 1, 2, 4, 3, 2, 1, 5, 0, 2]), (20, [0], [60, 1, 3, 199, 5, 2, 3, 4]), (20, [0, 1, 2], [60, 9, 2, 1007, 10, 11, 12, 13, 14, 15, 8, 9, 5, 1, 2])], [(0, 0, 2000, [])]))
abbrev b_Mo_product_at_f0 : ByteArray := prog_15_method_225_code
def y_Mo_product_at_f0 : MethodName := ⟨"DrawingHouseModel", "product", "()J"⟩
abbrev z_Mo_product_at_f0 : List Cond := Cond.code y_Mo_product_at_f0 b_Mo_product_at_f0 6 (some .long) :: lw_g
def e_Mo_product_at_f0 : en_T := ([(2, 0, 0, [165])], some (1, -9223372036854775808, 9223372036854775807, []), false, 46, 0, 0, [], [], (0, [(165, 8), (165, 9), (165, 158), (165, 159)], [(20, [0], [50, 2, 1, 158, 157, 160, 2, 12, 0, 7, 4, 3, 2, 0, 158, 0, 1, 2, 0, 157, 2, 7, 0, 3, 2, 0, 157, 0, 2010, 3, 14, 1, 10, 3, 0, 160, 5, 3, 2, 0, 157, 0, 1, 0, 0, 1, 10, 3, 0, 160, 5, 3, 2, 0, 157, 0, 1, 0, 4]), (20, [0, 1], [30, 0, 1, 1, 158, -1, 0, 0]), (20, [0, 1], [30, 0, -1, 1, 158, 1, 0, 0]), (20, [0], [50, 2, 0, 164, 165, 4, 7, 1, 3, 2, 0, 164, 0, 0, 0, 3, 2, 0, 165, 0, 23]), (20, [0], [30, 0, 1, 1, 159]), (20, [0], [30, 0, -1, 1, 159]), (20, [0, 2], [50, 1, 0, 8, 1, 3, 2, 0, 8, 1, 1]), (20, [0, 3], [50, 1, 0, 159, 1, 3, 2, 0, 159, 1, 1])], [(20, [0], [50, 2, 1, 158, 157, 160, 2, 12, 0, 7, 4, 3, 2, 0, 158, 0, 1, 2, 0, 157, 2, 7, 0, 3, 2, 0, 157, 0, 2010, 3, 14, 1, 10, 3, 0, 160, 5, 3, 2, 0, 157, 0, 1, 0, 0, 1, 10, 3, 0, 160, 5, 3, 2, 0, 157, 0, 1, 0, 4]), (20, [1, 0], [30, 0, 1, 0, 0, -1, 1, 158]), (20, [0], [30, 0, 1, 1, 159]), (20, [0], [30, 0, -1, 1, 159]), (20, [0, 1, 2, 3], [60, 4, 5, 1, 8, 158, 164, 10, 160, 161, 162, 163, 1])], [(0, 0, 2009, []), (0, 0, 5, []), (0, 0, 13, [])]))
abbrev b_Mo_product_at_f1 : ByteArray := prog_15_method_225_code
def y_Mo_product_at_f1 : MethodName := ⟨"DrawingHouseModel", "product", "()J"⟩
abbrev z_Mo_product_at_f1 : List Cond := Cond.code y_Mo_product_at_f1 b_Mo_product_at_f1 6 (some .long) :: lw_g
def e_Mo_product_at_f1 : en_T := ([(2, 0, 0, [165])], some (1, -9223372036854775808, 9223372036854775807, []), false, 43, 0, 0, [], [], (0, [(165, 8), (165, 9), (165, 158), (165, 159)], [(20, [0], [50, 2, 1, 158, 157, 160, 2, 12, 0, 7, 4, 3, 2, 0, 158, 0, 1, 2, 0, 157, 2, 7, 0, 3, 2, 0, 157, 0, 2010, 3, 14, 1, 10, 3, 0, 160, 5, 3, 2, 0, 157, 0, 1, 0, 0, 1, 10, 3, 0, 160, 5, 3, 2, 0, 157, 0, 1, 0, 4]), (20, [0, 1], [30, 0, 1, 1, 158, -1, 0, 0]), (20, [0, 1], [30, 0, -1, 1, 158, 1, 0, 0]), (20, [0], [50, 2, 0, 164, 165, 4, 7, 1, 3, 2, 0, 164, 0, 0, 0, 3, 2, 0, 165, 0, 23]), (20, [0], [30, 1, 1, 1, 159]), (20, [0], [30, -1, -1, 1, 159]), (20, [0, 2], [50, 1, 0, 8, 1, 3, 2, 0, 8, 1, 1]), (20, [0, 3], [50, 1, 0, 159, 1, 3, 2, 0, 159, 1, 1])], [(20, [0], [50, 2, 1, 158, 157, 160, 2, 12, 0, 7, 4, 3, 2, 0, 158, 0, 1, 2, 0, 157, 2, 7, 0, 3, 2, 0, 157, 0, 2010, 3, 14, 1, 10, 3, 0, 160, 5, 3, 2, 0, 157, 0, 1, 0, 0, 1, 10, 3, 0, 160, 5, 3, 2, 0, 157, 0, 1, 0, 4]), (20, [1, 0], [30, 0, 1, 0, 0, -1, 1, 158]), (20, [0], [30, 1, 1, 1, 159]), (20, [0], [30, -1, -1, 1, 159]), (20, [0, 1, 2, 3], [60, 4, 5, 1, 8, 158, 164, 10, 160, 161, 162, 163, 1])], [(0, 0, 2009, []), (0, 0, 5, []), (0, 0, 13, [])]))
abbrev b_Mo_product_at_f10 : ByteArray := prog_15_method_225_code
def y_Mo_product_at_f10 : MethodName := ⟨"DrawingHouseModel", "product", "()J"⟩
abbrev z_Mo_product_at_f10 : List Cond := Cond.code y_Mo_product_at_f10 b_Mo_product_at_f10 6 (some .long) :: lw_g
def e_Mo_product_at_f10 : en_T := ([(2, 0, 0, [165])], some (1, -9223372036854775808, 9223372036854775807, []), false, 16, 0, 0, [], [], (0, [(165, 8), (165, 9), (165, 158), (165, 159)], [(20, [0], [50, 2, 1, 158, 157, 160, 2, 12, 0, 7, 4, 3, 2, 0, 158, 0, 1, 2, 0, 157, 2, 7, 0, 3, 2, 0, 157, 0, 2010, 3, 14, 1, 10, 3, 0, 160, 5, 3, 2, 0, 157, 0, 1, 0, 0, 1, 10, 3, 0, 160, 5, 3, 2, 0, 157, 0, 1, 0, 4]), (20, [0, 1], [30, 0, 1, 1, 158, -1, 0, 0]), (20, [0, 1], [30, 0, -1, 1, 158, 1, 0, 0]), (20, [0], [50, 2, 0, 164, 165, 4, 7, 1, 3, 2, 0, 164, 0, 0, 0, 3, 2, 0, 165, 0, 23]), (20, [0], [30, 10, 1, 1, 159]), (20, [0], [30, -10, -1, 1, 159]), (20, [0, 2], [50, 1, 0, 8, 1, 3, 2, 0, 8, 1, 1]), (20, [0, 3], [50, 1, 0, 159, 1, 3, 2, 0, 159, 1, 1])], [(20, [0], [50, 2, 1, 158, 157, 160, 2, 12, 0, 7, 4, 3, 2, 0, 158, 0, 1, 2, 0, 157, 2, 7, 0, 3, 2, 0, 157, 0, 2010, 3, 14, 1, 10, 3, 0, 160, 5, 3, 2, 0, 157, 0, 1, 0, 0, 1, 10, 3, 0, 160, 5, 3, 2, 0, 157, 0, 1, 0, 4]), (20, [1, 0], [30, 0, 1, 0, 0, -1, 1, 158]), (20, [0], [30, 10, 1, 1, 159]), (20, [0], [30, -10, -1, 1, 159]), (20, [0, 1, 2, 3], [60, 4, 5, 1, 8, 158, 164, 10, 160, 161, 162, 163, 1])], [(0, 0, 2009, []), (0, 0, 5, []), (0, 0, 13, [])]))
abbrev b_Mo_product_at_f11 : ByteArray := prog_15_method_225_code
def y_Mo_product_at_f11 : MethodName := ⟨"DrawingHouseModel", "product", "()J"⟩
abbrev z_Mo_product_at_f11 : List Cond := Cond.code y_Mo_product_at_f11 b_Mo_product_at_f11 6 (some .long) :: lw_g
def e_Mo_product_at_f11 : en_T := ([(2, 0, 0, [165])], some (1, -9223372036854775808, 9223372036854775807, []), false, 13, 0, 0, [], [], (0, [(165, 8), (165, 9), (165, 158), (165, 159)], [(20, [0], [50, 2, 1, 158, 157, 160, 2, 12, 0, 7, 4, 3, 2, 0, 158, 0, 1, 2, 0, 157, 2, 7, 0, 3, 2, 0, 157, 0, 2010, 3, 14, 1, 10, 3, 0, 160, 5, 3, 2, 0, 157, 0, 1, 0, 0, 1, 10, 3, 0, 160, 5, 3, 2, 0, 157, 0, 1, 0, 4]), (20, [0, 1], [30, 0, 1, 1, 158, -1, 0, 0]), (20, [0, 1], [30, 0, -1, 1, 158, 1, 0, 0]), (20, [0], [50, 2, 0, 164, 165, 4, 7, 1, 3, 2, 0, 164, 0, 0, 0, 3, 2, 0, 165, 0, 23]), (20, [0], [30, 11, 1, 1, 159]), (20, [0], [30, -11, -1, 1, 159]), (20, [0, 2], [50, 1, 0, 8, 1, 3, 2, 0, 8, 1, 1]), (20, [0, 3], [50, 1, 0, 159, 1, 3, 2, 0, 159, 1, 1])], [(20, [0], [50, 2, 1, 158, 157, 160, 2, 12, 0, 7, 4, 3, 2, 0, 158, 0, 1, 2, 0, 157, 2, 7, 0, 3, 2, 0, 157, 0, 2010, 3, 14, 1, 10, 3, 0, 160, 5, 3, 2, 0, 157, 0, 1, 0, 0, 1, 10, 3, 0, 160, 5, 3, 2, 0, 157, 0, 1, 0, 4]), (20, [1, 0], [30, 0, 1, 0, 0, -1, 1, 158]), (20, [0], [30, 11, 1, 1, 159]), (20, [0], [30, -11, -1, 1, 159]), (20, [0, 1, 2, 3], [60, 4, 5, 1, 8, 158, 164, 10, 160, 161, 162, 163, 1])], [(0, 0, 2009, []), (0, 0, 5, []), (0, 0, 13, [])]))
abbrev b_Mo_product_at_f12 : ByteArray := prog_15_method_225_code
def y_Mo_product_at_f12 : MethodName := ⟨"DrawingHouseModel", "product", "()J"⟩
abbrev z_Mo_product_at_f12 : List Cond := Cond.code y_Mo_product_at_f12 b_Mo_product_at_f12 6 (some .long) :: lw_g
def e_Mo_product_at_f12 : en_T := ([(2, 0, 0, [165])], some (1, -9223372036854775808, 9223372036854775807, []), false, 10, 0, 0, [], [], (0, [(165, 8), (165, 9), (165, 158), (165, 159)], [(20, [0], [50, 2, 1, 158, 157, 160, 2, 12, 0, 7, 4, 3, 2, 0, 158, 0, 1, 2, 0, 157, 2, 7, 0, 3, 2, 0, 157, 0, 2010, 3, 14, 1, 10, 3, 0, 160, 5, 3, 2, 0, 157, 0, 1, 0, 0, 1, 10, 3, 0, 160, 5, 3, 2, 0, 157, 0, 1, 0, 4]), (20, [0, 1], [30, 0, 1, 1, 158, -1, 0, 0]), (20, [0, 1], [30, 0, -1, 1, 158, 1, 0, 0]), (20, [0], [50, 2, 0, 164, 165, 4, 7, 1, 3, 2, 0, 164, 0, 0, 0, 3, 2, 0, 165, 0, 23]), (20, [0], [30, 12, 1, 1, 159]), (20, [0], [30, -12, -1, 1, 159]), (20, [0, 2], [50, 1, 0, 8, 1, 3, 2, 0, 8, 1, 1]), (20, [0, 3], [50, 1, 0, 159, 1, 3, 2, 0, 159, 1, 1])], [(20, [0], [50, 2, 1, 158, 157, 160, 2, 12, 0, 7, 4, 3, 2, 0, 158, 0, 1, 2, 0, 157, 2, 7, 0, 3, 2, 0, 157, 0, 2010, 3, 14, 1, 10, 3, 0, 160, 5, 3, 2, 0, 157, 0, 1, 0, 0, 1, 10, 3, 0, 160, 5, 3, 2, 0, 157, 0, 1, 0, 4]), (20, [1, 0], [30, 0, 1, 0, 0, -1, 1, 158]), (20, [0], [30, 12, 1, 1, 159]), (20, [0], [30, -12, -1, 1, 159]), (20, [0, 1, 2, 3], [60, 4, 5, 1, 8, 158, 164, 10, 160, 161, 162, 163, 1])], [(0, 0, 2009, []), (0, 0, 5, []), (0, 0, 13, [])]))
abbrev b_Mo_product_at_f13 : ByteArray := prog_15_method_225_code
def y_Mo_product_at_f13 : MethodName := ⟨"DrawingHouseModel", "product", "()J"⟩
abbrev z_Mo_product_at_f13 : List Cond := Cond.code y_Mo_product_at_f13 b_Mo_product_at_f13 6 (some .long) :: lw_g
def e_Mo_product_at_f13 : en_T := ([(2, 0, 0, [165])], some (1, 0, 0, []), false, 7, 0, 0, [], [], (0, [(165, 158)], [(20, [0], [50, 2, 1, 158, 157, 160, 2, 12, 0, 7, 4, 3, 2, 0, 158, 0, 1, 2, 0, 157, 2, 7, 0, 3, 2, 0, 157, 0, 2010, 3, 14, 1, 10, 3, 0, 160, 5, 3, 2, 0, 157, 0, 1, 0, 0, 1, 10, 3, 0, 160, 5, 3, 2, 0, 157, 0, 1, 0, 4]), (20, [0, 1], [30, 0, 1, 1, 158, -1, 0, 0]), (20, [0, 1], [30, 0, -1, 1, 158, 1, 0, 0]), (20, [0], [50, 2, 0, 164, 165, 4, 7, 1, 3, 2, 0, 164, 0, 0, 0, 3, 2, 0, 165, 0, 23]), (20, [0], [30, 13, 1, 1, 159]), (20, [0], [30, -13, -1, 1, 159]), (20, [0], [30, -1, -1, 1, 8]), (20, [0, 2], [50, 1, 0, 8, 1, 3, 2, 0, 8, 1, 1]), (20, [0, 3], [50, 1, 0, 159, 1, 3, 2, 0, 159, 1, 1])], [(20, [0], [50, 2, 1, 158, 157, 160, 2, 12, 0, 7, 4, 3, 2, 0, 158, 0, 1, 2, 0, 157, 2, 7, 0, 3, 2, 0, 157, 0, 2010, 3, 14, 1, 10, 3, 0, 160, 5, 3, 2, 0, 157, 0, 1, 0, 0, 1, 10, 3, 0, 160, 5, 3, 2, 0, 157, 0, 1, 0, 4]), (20, [1, 0], [30, 0, 1, 0, 0, -1, 1, 158]), (20, [0], [30, 13, 1, 1, 159]), (20, [0], [30, -13, -1, 1, 159]), (20, [0], [30, -1, -1, 1, 8]), (20, [0, 1, 2, 3], [60, 4, 5, 1, 8, 158, 164, 10, 160, 161, 162, 163, 1])], [(0, 0, 2009, []), (0, 0, 5, []), (0, 0, 13, [])]))
abbrev b_Mo_product_at_f2 : ByteArray := prog_15_method_225_code
def y_Mo_product_at_f2 : MethodName := ⟨"DrawingHouseModel", "product", "()J"⟩
abbrev z_Mo_product_at_f2 : List Cond := Cond.code y_Mo_product_at_f2 b_Mo_product_at_f2 6 (some .long) :: lw_g
def e_Mo_product_at_f2 : en_T := ([(2, 0, 0, [165])], some (1, -9223372036854775808, 9223372036854775807, []), false, 40, 0, 0, [], [], (0, [(165, 8), (165, 9), (165, 158), (165, 159)], [(20, [0], [50, 2, 1, 158, 157, 160, 2, 12, 0, 7, 4, 3, 2, 0, 158, 0, 1, 2, 0, 157, 2, 7, 0, 3, 2, 0, 157, 0, 2010, 3, 14, 1, 10, 3, 0, 160, 5, 3, 2, 0, 157, 0, 1, 0, 0, 1, 10, 3, 0, 160, 5, 3, 2, 0, 157, 0, 1, 0, 4]), (20, [0, 1], [30, 0, 1, 1, 158, -1, 0, 0]), (20, [0, 1], [30, 0, -1, 1, 158, 1, 0, 0]), (20, [0], [50, 2, 0, 164, 165, 4, 7, 1, 3, 2, 0, 164, 0, 0, 0, 3, 2, 0, 165, 0, 23]), (20, [0], [30, 2, 1, 1, 159]), (20, [0], [30, -2, -1, 1, 159]), (20, [0, 2], [50, 1, 0, 8, 1, 3, 2, 0, 8, 1, 1]), (20, [0, 3], [50, 1, 0, 159, 1, 3, 2, 0, 159, 1, 1])], [(20, [0], [50, 2, 1, 158, 157, 160, 2, 12, 0, 7, 4, 3, 2, 0, 158, 0, 1, 2, 0, 157, 2, 7, 0, 3, 2, 0, 157, 0, 2010, 3, 14, 1, 10, 3, 0, 160, 5, 3, 2, 0, 157, 0, 1, 0, 0, 1, 10, 3, 0, 160, 5, 3, 2, 0, 157, 0, 1, 0, 4]), (20, [1, 0], [30, 0, 1, 0, 0, -1, 1, 158]), (20, [0], [30, 2, 1, 1, 159]), (20, [0], [30, -2, -1, 1, 159]), (20, [0, 1, 2, 3], [60, 4, 5, 1, 8, 158, 164, 10, 160, 161, 162, 163, 1])], [(0, 0, 2009, []), (0, 0, 5, []), (0, 0, 13, [])]))
abbrev b_Mo_product_at_f3 : ByteArray := prog_15_method_225_code
def y_Mo_product_at_f3 : MethodName := ⟨"DrawingHouseModel", "product", "()J"⟩
abbrev z_Mo_product_at_f3 : List Cond := Cond.code y_Mo_product_at_f3 b_Mo_product_at_f3 6 (some .long) :: lw_g
def e_Mo_product_at_f3 : en_T := ([(2, 0, 0, [165])], some (1, -9223372036854775808, 9223372036854775807, []), false, 37, 0, 0, [], [], (0, [(165, 8), (165, 9), (165, 158), (165, 159)], [(20, [0], [50, 2, 1, 158, 157, 160, 2, 12, 0, 7, 4, 3, 2, 0, 158, 0, 1, 2, 0, 157, 2, 7, 0, 3, 2, 0, 157, 0, 2010, 3, 14, 1, 10, 3, 0, 160, 5, 3, 2, 0, 157, 0, 1, 0, 0, 1, 10, 3, 0, 160, 5, 3, 2, 0, 157, 0, 1, 0, 4]), (20, [0, 1], [30, 0, 1, 1, 158, -1, 0, 0]), (20, [0, 1], [30, 0, -1, 1, 158, 1, 0, 0]), (20, [0], [50, 2, 0, 164, 165, 4, 7, 1, 3, 2, 0, 164, 0, 0, 0, 3, 2, 0, 165, 0, 23]), (20, [0], [30, 3, 1, 1, 159]), (20, [0], [30, -3, -1, 1, 159]), (20, [0, 2], [50, 1, 0, 8, 1, 3, 2, 0, 8, 1, 1]), (20, [0, 3], [50, 1, 0, 159, 1, 3, 2, 0, 159, 1, 1])], [(20, [0], [50, 2, 1, 158, 157, 160, 2, 12, 0, 7, 4, 3, 2, 0, 158, 0, 1, 2, 0, 157, 2, 7, 0, 3, 2, 0, 157, 0, 2010, 3, 14, 1, 10, 3, 0, 160, 5, 3, 2, 0, 157, 0, 1, 0, 0, 1, 10, 3, 0, 160, 5, 3, 2, 0, 157, 0, 1, 0, 4]), (20, [1, 0], [30, 0, 1, 0, 0, -1, 1, 158]), (20, [0], [30, 3, 1, 1, 159]), (20, [0], [30, -3, -1, 1, 159]), (20, [0, 1, 2, 3], [60, 4, 5, 1, 8, 158, 164, 10, 160, 161, 162, 163, 1])], [(0, 0, 2009, []), (0, 0, 5, []), (0, 0, 13, [])]))
abbrev b_Mo_product_at_f4 : ByteArray := prog_15_method_225_code
def y_Mo_product_at_f4 : MethodName := ⟨"DrawingHouseModel", "product", "()J"⟩
abbrev z_Mo_product_at_f4 : List Cond := Cond.code y_Mo_product_at_f4 b_Mo_product_at_f4 6 (some .long) :: lw_g
def e_Mo_product_at_f4 : en_T := ([(2, 0, 0, [165])], some (1, -9223372036854775808, 9223372036854775807, []), false, 34, 0, 0, [], [], (0, [(165, 8), (165, 9), (165, 158), (165, 159)], [(20, [0], [50, 2, 1, 158, 157, 160, 2, 12, 0, 7, 4, 3, 2, 0, 158, 0, 1, 2, 0, 157, 2, 7, 0, 3, 2, 0, 157, 0, 2010, 3, 14, 1, 10, 3, 0, 160, 5, 3, 2, 0, 157, 0, 1, 0, 0, 1, 10, 3, 0, 160, 5, 3, 2, 0, 157, 0, 1, 0, 4]), (20, [0, 1], [30, 0, 1, 1, 158, -1, 0, 0]), (20, [0, 1], [30, 0, -1, 1, 158, 1, 0, 0]), (20, [0], [50, 2, 0, 164, 165, 4, 7, 1, 3, 2, 0, 164, 0, 0, 0, 3, 2, 0, 165, 0, 23]), (20, [0], [30, 4, 1, 1, 159]), (20, [0], [30, -4, -1, 1, 159]), (20, [0, 2], [50, 1, 0, 8, 1, 3, 2, 0, 8, 1, 1]), (20, [0, 3], [50, 1, 0, 159, 1, 3, 2, 0, 159, 1, 1])], [(20, [0], [50, 2, 1, 158, 157, 160, 2, 12, 0, 7, 4, 3, 2, 0, 158, 0, 1, 2, 0, 157, 2, 7, 0, 3, 2, 0, 157, 0, 2010, 3, 14, 1, 10, 3, 0, 160, 5, 3, 2, 0, 157, 0, 1, 0, 0, 1, 10, 3, 0, 160, 5, 3, 2, 0, 157, 0, 1, 0, 4]), (20, [1, 0], [30, 0, 1, 0, 0, -1, 1, 158]), (20, [0], [30, 4, 1, 1, 159]), (20, [0], [30, -4, -1, 1, 159]), (20, [0, 1, 2, 3], [60, 4, 5, 1, 8, 158, 164, 10, 160, 161, 162, 163, 1])], [(0, 0, 2009, []), (0, 0, 5, []), (0, 0, 13, [])]))
abbrev b_Mo_product_at_f5 : ByteArray := prog_15_method_225_code
def y_Mo_product_at_f5 : MethodName := ⟨"DrawingHouseModel", "product", "()J"⟩
abbrev z_Mo_product_at_f5 : List Cond := Cond.code y_Mo_product_at_f5 b_Mo_product_at_f5 6 (some .long) :: lw_g
def e_Mo_product_at_f5 : en_T := ([(2, 0, 0, [165])], some (1, -9223372036854775808, 9223372036854775807, []), false, 31, 0, 0, [], [], (0, [(165, 8), (165, 9), (165, 158), (165, 159)], [(20, [0], [50, 2, 1, 158, 157, 160, 2, 12, 0, 7, 4, 3, 2, 0, 158, 0, 1, 2, 0, 157, 2, 7, 0, 3, 2, 0, 157, 0, 2010, 3, 14, 1, 10, 3, 0, 160, 5, 3, 2, 0, 157, 0, 1, 0, 0, 1, 10, 3, 0, 160, 5, 3, 2, 0, 157, 0, 1, 0, 4]), (20, [0, 1], [30, 0, 1, 1, 158, -1, 0, 0]), (20, [0, 1], [30, 0, -1, 1, 158, 1, 0, 0]), (20, [0], [50, 2, 0, 164, 165, 4, 7, 1, 3, 2, 0, 164, 0, 0, 0, 3, 2, 0, 165, 0, 23]), (20, [0], [30, 5, 1, 1, 159]), (20, [0], [30, -5, -1, 1, 159]), (20, [0, 2], [50, 1, 0, 8, 1, 3, 2, 0, 8, 1, 1]), (20, [0, 3], [50, 1, 0, 159, 1, 3, 2, 0, 159, 1, 1])], [(20, [0], [50, 2, 1, 158, 157, 160, 2, 12, 0, 7, 4, 3, 2, 0, 158, 0, 1, 2, 0, 157, 2, 7, 0, 3, 2, 0, 157, 0, 2010, 3, 14, 1, 10, 3, 0, 160, 5, 3, 2, 0, 157, 0, 1, 0, 0, 1, 10, 3, 0, 160, 5, 3, 2, 0, 157, 0, 1, 0, 4]), (20, [1, 0], [30, 0, 1, 0, 0, -1, 1, 158]), (20, [0], [30, 5, 1, 1, 159]), (20, [0], [30, -5, -1, 1, 159]), (20, [0, 1, 2, 3], [60, 4, 5, 1, 8, 158, 164, 10, 160, 161, 162, 163, 1])], [(0, 0, 2009, []), (0, 0, 5, []), (0, 0, 13, [])]))
abbrev b_Mo_product_at_f6 : ByteArray := prog_15_method_225_code
def y_Mo_product_at_f6 : MethodName := ⟨"DrawingHouseModel", "product", "()J"⟩
abbrev z_Mo_product_at_f6 : List Cond := Cond.code y_Mo_product_at_f6 b_Mo_product_at_f6 6 (some .long) :: lw_g
def e_Mo_product_at_f6 : en_T := ([(2, 0, 0, [165])], some (1, -9223372036854775808, 9223372036854775807, []), false, 28, 0, 0, [], [], (0, [(165, 8), (165, 9), (165, 158), (165, 159)], [(20, [0], [50, 2, 1, 158, 157, 160, 2, 12, 0, 7, 4, 3, 2, 0, 158, 0, 1, 2, 0, 157, 2, 7, 0, 3, 2, 0, 157, 0, 2010, 3, 14, 1, 10, 3, 0, 160, 5, 3, 2, 0, 157, 0, 1, 0, 0, 1, 10, 3, 0, 160, 5, 3, 2, 0, 157, 0, 1, 0, 4]), (20, [0, 1], [30, 0, 1, 1, 158, -1, 0, 0]), (20, [0, 1], [30, 0, -1, 1, 158, 1, 0, 0]), (20, [0], [50, 2, 0, 164, 165, 4, 7, 1, 3, 2, 0, 164, 0, 0, 0, 3, 2, 0, 165, 0, 23]), (20, [0], [30, 6, 1, 1, 159]), (20, [0], [30, -6, -1, 1, 159]), (20, [0, 2], [50, 1, 0, 8, 1, 3, 2, 0, 8, 1, 1]), (20, [0, 3], [50, 1, 0, 159, 1, 3, 2, 0, 159, 1, 1])], [(20, [0], [50, 2, 1, 158, 157, 160, 2, 12, 0, 7, 4, 3, 2, 0, 158, 0, 1, 2, 0, 157, 2, 7, 0, 3, 2, 0, 157, 0, 2010, 3, 14, 1, 10, 3, 0, 160, 5, 3, 2, 0, 157, 0, 1, 0, 0, 1, 10, 3, 0, 160, 5, 3, 2, 0, 157, 0, 1, 0, 4]), (20, [1, 0], [30, 0, 1, 0, 0, -1, 1, 158]), (20, [0], [30, 6, 1, 1, 159]), (20, [0], [30, -6, -1, 1, 159]), (20, [0, 1, 2, 3], [60, 4, 5, 1, 8, 158, 164, 10, 160, 161, 162, 163, 1])], [(0, 0, 2009, []), (0, 0, 5, []), (0, 0, 13, [])]))
abbrev b_Mo_product_at_f7 : ByteArray := prog_15_method_225_code
def y_Mo_product_at_f7 : MethodName := ⟨"DrawingHouseModel", "product", "()J"⟩
abbrev z_Mo_product_at_f7 : List Cond := Cond.code y_Mo_product_at_f7 b_Mo_product_at_f7 6 (some .long) :: lw_g
def e_Mo_product_at_f7 : en_T := ([(2, 0, 0, [165])], some (1, -9223372036854775808, 9223372036854775807, []), false, 25, 0, 0, [], [], (0, [(165, 8), (165, 9), (165, 158), (165, 159)], [(20, [0], [50, 2, 1, 158, 157, 160, 2, 12, 0, 7, 4, 3, 2, 0, 158, 0, 1, 2, 0, 157, 2, 7, 0, 3, 2, 0, 157, 0, 2010, 3, 14, 1, 10, 3, 0, 160, 5, 3, 2, 0, 157, 0, 1, 0, 0, 1, 10, 3, 0, 160, 5, 3, 2, 0, 157, 0, 1, 0, 4]), (20, [0, 1], [30, 0, 1, 1, 158, -1, 0, 0]), (20, [0, 1], [30, 0, -1, 1, 158, 1, 0, 0]), (20, [0], [50, 2, 0, 164, 165, 4, 7, 1, 3, 2, 0, 164, 0, 0, 0, 3, 2, 0, 165, 0, 23]), (20, [0], [30, 7, 1, 1, 159]), (20, [0], [30, -7, -1, 1, 159]), (20, [0, 2], [50, 1, 0, 8, 1, 3, 2, 0, 8, 1, 1]), (20, [0, 3], [50, 1, 0, 159, 1, 3, 2, 0, 159, 1, 1])], [(20, [0], [50, 2, 1, 158, 157, 160, 2, 12, 0, 7, 4, 3, 2, 0, 158, 0, 1, 2, 0, 157, 2, 7, 0, 3, 2, 0, 157, 0, 2010, 3, 14, 1, 10, 3, 0, 160, 5, 3, 2, 0, 157, 0, 1, 0, 0, 1, 10, 3, 0, 160, 5, 3, 2, 0, 157, 0, 1, 0, 4]), (20, [1, 0], [30, 0, 1, 0, 0, -1, 1, 158]), (20, [0], [30, 7, 1, 1, 159]), (20, [0], [30, -7, -1, 1, 159]), (20, [0, 1, 2, 3], [60, 4, 5, 1, 8, 158, 164, 10, 160, 161, 162, 163, 1])], [(0, 0, 2009, []), (0, 0, 5, []), (0, 0, 13, [])]))
abbrev b_Mo_product_at_f8 : ByteArray := prog_15_method_225_code
def y_Mo_product_at_f8 : MethodName := ⟨"DrawingHouseModel", "product", "()J"⟩
abbrev z_Mo_product_at_f8 : List Cond := Cond.code y_Mo_product_at_f8 b_Mo_product_at_f8 6 (some .long) :: lw_g
def e_Mo_product_at_f8 : en_T := ([(2, 0, 0, [165])], some (1, -9223372036854775808, 9223372036854775807, []), false, 22, 0, 0, [], [], (0, [(165, 8), (165, 9), (165, 158), (165, 159)], [(20, [0], [50, 2, 1, 158, 157, 160, 2, 12, 0, 7, 4, 3, 2, 0, 158, 0, 1, 2, 0, 157, 2, 7, 0, 3, 2, 0, 157, 0, 2010, 3, 14, 1, 10, 3, 0, 160, 5, 3, 2, 0, 157, 0, 1, 0, 0, 1, 10, 3, 0, 160, 5, 3, 2, 0, 157, 0, 1, 0, 4]), (20, [0, 1], [30, 0, 1, 1, 158, -1, 0, 0]), (20, [0, 1], [30, 0, -1, 1, 158, 1, 0, 0]), (20, [0], [50, 2, 0, 164, 165, 4, 7, 1, 3, 2, 0, 164, 0, 0, 0, 3, 2, 0, 165, 0, 23]), (20, [0], [30, 8, 1, 1, 159]), (20, [0], [30, -8, -1, 1, 159]), (20, [0, 2], [50, 1, 0, 8, 1, 3, 2, 0, 8, 1, 1]), (20, [0, 3], [50, 1, 0, 159, 1, 3, 2, 0, 159, 1, 1])], [(20, [0], [50, 2, 1, 158, 157, 160, 2, 12, 0, 7, 4, 3, 2, 0, 158, 0, 1, 2, 0, 157, 2, 7, 0, 3, 2, 0, 157, 0, 2010, 3, 14, 1, 10, 3, 0, 160, 5, 3, 2, 0, 157, 0, 1, 0, 0, 1, 10, 3, 0, 160, 5, 3, 2, 0, 157, 0, 1, 0, 4]), (20, [1, 0], [30, 0, 1, 0, 0, -1, 1, 158]), (20, [0], [30, 8, 1, 1, 159]), (20, [0], [30, -8, -1, 1, 159]), (20, [0, 1, 2, 3], [60, 4, 5, 1, 8, 158, 164, 10, 160, 161, 162, 163, 1])], [(0, 0, 2009, []), (0, 0, 5, []), (0, 0, 13, [])]))
abbrev b_Mo_product_at_f9 : ByteArray := prog_15_method_225_code
def y_Mo_product_at_f9 : MethodName := ⟨"DrawingHouseModel", "product", "()J"⟩
abbrev z_Mo_product_at_f9 : List Cond := Cond.code y_Mo_product_at_f9 b_Mo_product_at_f9 6 (some .long) :: lw_g
def e_Mo_product_at_f9 : en_T := ([(2, 0, 0, [165])], some (1, -9223372036854775808, 9223372036854775807, []), false, 19, 0, 0, [], [], (0, [(165, 8), (165, 9), (165, 158), (165, 159)], [(20, [0], [50, 2, 1, 158, 157, 160, 2, 12, 0, 7, 4, 3, 2, 0, 158, 0, 1, 2, 0, 157, 2, 7, 0, 3, 2, 0, 157, 0, 2010, 3, 14, 1, 10, 3, 0, 160, 5, 3, 2, 0, 157, 0, 1, 0, 0, 1, 10, 3, 0, 160, 5, 3, 2, 0, 157, 0, 1, 0, 4]), (20, [0, 1], [30, 0, 1, 1, 158, -1, 0, 0]), (20, [0, 1], [30, 0, -1, 1, 158, 1, 0, 0]), (20, [0], [50, 2, 0, 164, 165, 4, 7, 1, 3, 2, 0, 164, 0, 0, 0, 3, 2, 0, 165, 0, 23]), (20, [0], [30, 9, 1, 1, 159]), (20, [0], [30, -9, -1, 1, 159]), (20, [0, 2], [50, 1, 0, 8, 1, 3, 2, 0, 8, 1, 1]), (20, [0, 3], [50, 1, 0, 159, 1, 3, 2, 0, 159, 1, 1])], [(20, [0], [50, 2, 1, 158, 157, 160, 2, 12, 0, 7, 4, 3, 2, 0, 158, 0, 1, 2, 0, 157, 2, 7, 0, 3, 2, 0, 157, 0, 2010, 3, 14, 1, 10, 3, 0, 160, 5, 3, 2, 0, 157, 0, 1, 0, 0, 1, 10, 3, 0, 160, 5, 3, 2, 0, 157, 0, 1, 0, 4]), (20, [1, 0], [30, 0, 1, 0, 0, -1, 1, 158]), (20, [0], [30, 9, 1, 1, 159]), (20, [0], [30, -9, -1, 1, 159]), (20, [0, 1, 2, 3], [60, 4, 5, 1, 8, 158, 164, 10, 160, 161, 162, 163, 1])], [(0, 0, 2009, []), (0, 0, 5, []), (0, 0, 13, [])]))
abbrev b_Mo_styleValue_at_f0 : ByteArray := prog_15_method_226_code
def y_Mo_styleValue_at_f0 : MethodName := ⟨"DrawingHouseModel", "styleValue", "()J"⟩
abbrev z_Mo_styleValue_at_f0 : List Cond := Cond.code y_Mo_styleValue_at_f0 b_Mo_styleValue_at_f0 3 (some .long) :: lw_g
def e_Mo_styleValue_at_f0 : en_T := ([(2, 0, 0, [165])], some (1, -9223372036854775808, 9223372036854775807, []), false, 45, 0, 0, [], [], (0, [(165, 8), (165, 9), (165, 158), (165, 159)], [(20, [0], [50, 2, 1, 158, 157, 160, 2, 12, 0, 7, 4, 3, 2, 0, 158, 0, 1, 2, 0, 157, 2, 7, 0, 3, 2, 0, 157, 0, 2010, 3, 14, 1, 10, 3, 0, 160, 5, 3, 2, 0, 157, 0, 1, 0, 0, 1, 10, 3, 0, 160, 5, 3, 2, 0, 157, 0, 1, 0, 4]), (20, [0, 1], [30, 0, 1, 1, 158, -1, 0, 0]), (20, [0, 1], [30, 0, -1, 1, 158, 1, 0, 0]), (20, [0], [50, 2, 0, 164, 165, 4, 7, 1, 3, 2, 0, 164, 0, 0, 0, 3, 2, 0, 165, 0, 23]), (20, [0], [30, 0, 1, 1, 159]), (20, [0], [30, 0, -1, 1, 159]), (20, [0, 2], [50, 1, 0, 8, 1, 3, 2, 0, 8, 1, 1]), (20, [0, 3], [50, 1, 0, 159, 1, 3, 2, 0, 159, 1, 1])], [(20, [0], [50, 2, 1, 158, 157, 160, 2, 12, 0, 7, 4, 3, 2, 0, 158, 0, 1, 2, 0, 157, 2, 7, 0, 3, 2, 0, 157, 0, 2010, 3, 14, 1, 10, 3, 0, 160, 5, 3, 2, 0, 157, 0, 1, 0, 0, 1, 10, 3, 0, 160, 5, 3, 2, 0, 157, 0, 1, 0, 4]), (20, [1, 0], [30, 0, 1, 0, 0, -1, 1, 158]), (20, [0], [30, 0, 1, 1, 159]), (20, [0], [30, 0, -1, 1, 159]), (20, [0, 1, 2, 3], [60, 4, 5, 0, 8, 158, 164, 10, 160, 161, 162, 163, 1])], [(0, 0, 2009, []), (0, 0, 5, []), (0, 0, 13, [])]))
abbrev b_Mo_styleValue_at_f1 : ByteArray := prog_15_method_226_code
def y_Mo_styleValue_at_f1 : MethodName := ⟨"DrawingHouseModel", "styleValue", "()J"⟩
abbrev z_Mo_styleValue_at_f1 : List Cond := Cond.code y_Mo_styleValue_at_f1 b_Mo_styleValue_at_f1 3 (some .long) :: lw_g
def e_Mo_styleValue_at_f1 : en_T := ([(2, 0, 0, [165])], some (1, -9223372036854775808, 9223372036854775807, []), false, 42, 0, 0, [], [], (0, [(165, 8), (165, 9), (165, 158), (165, 159)], [(20, [0], [50, 2, 1, 158, 157, 160, 2, 12, 0, 7, 4, 3, 2, 0, 158, 0, 1, 2, 0, 157, 2, 7, 0, 3, 2, 0, 157, 0, 2010, 3, 14, 1, 10, 3, 0, 160, 5, 3, 2, 0, 157, 0, 1, 0, 0, 1, 10, 3, 0, 160, 5, 3, 2, 0, 157, 0, 1, 0, 4]), (20, [0, 1], [30, 0, 1, 1, 158, -1, 0, 0]), (20, [0, 1], [30, 0, -1, 1, 158, 1, 0, 0]), (20, [0], [50, 2, 0, 164, 165, 4, 7, 1, 3, 2, 0, 164, 0, 0, 0, 3, 2, 0, 165, 0, 23]), (20, [0], [30, 1, 1, 1, 159]), (20, [0], [30, -1, -1, 1, 159]), (20, [0, 2], [50, 1, 0, 8, 1, 3, 2, 0, 8, 1, 1]), (20, [0, 3], [50, 1, 0, 159, 1, 3, 2, 0, 159, 1, 1])], [(20, [0], [50, 2, 1, 158, 157, 160, 2, 12, 0, 7, 4, 3, 2, 0, 158, 0, 1, 2, 0, 157, 2, 7, 0, 3, 2, 0, 157, 0, 2010, 3, 14, 1, 10, 3, 0, 160, 5, 3, 2, 0, 157, 0, 1, 0, 0, 1, 10, 3, 0, 160, 5, 3, 2, 0, 157, 0, 1, 0, 4]), (20, [1, 0], [30, 0, 1, 0, 0, -1, 1, 158]), (20, [0], [30, 1, 1, 1, 159]), (20, [0], [30, -1, -1, 1, 159]), (20, [0, 1, 2, 3], [60, 4, 5, 0, 8, 158, 164, 10, 160, 161, 162, 163, 1])], [(0, 0, 2009, []), (0, 0, 5, []), (0, 0, 13, [])]))
abbrev b_Mo_styleValue_at_f10 : ByteArray := prog_15_method_226_code
def y_Mo_styleValue_at_f10 : MethodName := ⟨"DrawingHouseModel", "styleValue", "()J"⟩
abbrev z_Mo_styleValue_at_f10 : List Cond := Cond.code y_Mo_styleValue_at_f10 b_Mo_styleValue_at_f10 3 (some .long) :: lw_g
def e_Mo_styleValue_at_f10 : en_T := ([(2, 0, 0, [165])], some (1, -9223372036854775808, 9223372036854775807, []), false, 15, 0, 0, [], [], (0, [(165, 8), (165, 9), (165, 158), (165, 159)], [(20, [0], [50, 2, 1, 158, 157, 160, 2, 12, 0, 7, 4, 3, 2, 0, 158, 0, 1, 2, 0, 157, 2, 7, 0, 3, 2, 0, 157, 0, 2010, 3, 14, 1, 10, 3, 0, 160, 5, 3, 2, 0, 157, 0, 1, 0, 0, 1, 10, 3, 0, 160, 5, 3, 2, 0, 157, 0, 1, 0, 4]), (20, [0, 1], [30, 0, 1, 1, 158, -1, 0, 0]), (20, [0, 1], [30, 0, -1, 1, 158, 1, 0, 0]), (20, [0], [50, 2, 0, 164, 165, 4, 7, 1, 3, 2, 0, 164, 0, 0, 0, 3, 2, 0, 165, 0, 23]), (20, [0], [30, 10, 1, 1, 159]), (20, [0], [30, -10, -1, 1, 159]), (20, [0, 2], [50, 1, 0, 8, 1, 3, 2, 0, 8, 1, 1]), (20, [0, 3], [50, 1, 0, 159, 1, 3, 2, 0, 159, 1, 1])], [(20, [0], [50, 2, 1, 158, 157, 160, 2, 12, 0, 7, 4, 3, 2, 0, 158, 0, 1, 2, 0, 157, 2, 7, 0, 3, 2, 0, 157, 0, 2010, 3, 14, 1, 10, 3, 0, 160, 5, 3, 2, 0, 157, 0, 1, 0, 0, 1, 10, 3, 0, 160, 5, 3, 2, 0, 157, 0, 1, 0, 4]), (20, [1, 0], [30, 0, 1, 0, 0, -1, 1, 158]), (20, [0], [30, 10, 1, 1, 159]), (20, [0], [30, -10, -1, 1, 159]), (20, [0, 1, 2, 3], [60, 4, 5, 0, 8, 158, 164, 10, 160, 161, 162, 163, 1])], [(0, 0, 2009, []), (0, 0, 5, []), (0, 0, 13, [])]))
abbrev b_Mo_styleValue_at_f11 : ByteArray := prog_15_method_226_code
def y_Mo_styleValue_at_f11 : MethodName := ⟨"DrawingHouseModel", "styleValue", "()J"⟩
abbrev z_Mo_styleValue_at_f11 : List Cond := Cond.code y_Mo_styleValue_at_f11 b_Mo_styleValue_at_f11 3 (some .long) :: lw_g
def e_Mo_styleValue_at_f11 : en_T := ([(2, 0, 0, [165])], some (1, -9223372036854775808, 9223372036854775807, []), false, 12, 0, 0, [], [], (0, [(165, 8), (165, 9), (165, 158), (165, 159)], [(20, [0], [50, 2, 1, 158, 157, 160, 2, 12, 0, 7, 4, 3, 2, 0, 158, 0, 1, 2, 0, 157, 2, 7, 0, 3, 2, 0, 157, 0, 2010, 3, 14, 1, 10, 3, 0, 160, 5, 3, 2, 0, 157, 0, 1, 0, 0, 1, 10, 3, 0, 160, 5, 3, 2, 0, 157, 0, 1, 0, 4]), (20, [0, 1], [30, 0, 1, 1, 158, -1, 0, 0]), (20, [0, 1], [30, 0, -1, 1, 158, 1, 0, 0]), (20, [0], [50, 2, 0, 164, 165, 4, 7, 1, 3, 2, 0, 164, 0, 0, 0, 3, 2, 0, 165, 0, 23]), (20, [0], [30, 11, 1, 1, 159]), (20, [0], [30, -11, -1, 1, 159]), (20, [0, 2], [50, 1, 0, 8, 1, 3, 2, 0, 8, 1, 1]), (20, [0, 3], [50, 1, 0, 159, 1, 3, 2, 0, 159, 1, 1])], [(20, [0], [50, 2, 1, 158, 157, 160, 2, 12, 0, 7, 4, 3, 2, 0, 158, 0, 1, 2, 0, 157, 2, 7, 0, 3, 2, 0, 157, 0, 2010, 3, 14, 1, 10, 3, 0, 160, 5, 3, 2, 0, 157, 0, 1, 0, 0, 1, 10, 3, 0, 160, 5, 3, 2, 0, 157, 0, 1, 0, 4]), (20, [1, 0], [30, 0, 1, 0, 0, -1, 1, 158]), (20, [0], [30, 11, 1, 1, 159]), (20, [0], [30, -11, -1, 1, 159]), (20, [0, 1, 2, 3], [60, 4, 5, 0, 8, 158, 164, 10, 160, 161, 162, 163, 1])], [(0, 0, 2009, []), (0, 0, 5, []), (0, 0, 13, [])]))
abbrev b_Mo_styleValue_at_f12 : ByteArray := prog_15_method_226_code
def y_Mo_styleValue_at_f12 : MethodName := ⟨"DrawingHouseModel", "styleValue", "()J"⟩
abbrev z_Mo_styleValue_at_f12 : List Cond := Cond.code y_Mo_styleValue_at_f12 b_Mo_styleValue_at_f12 3 (some .long) :: lw_g
def e_Mo_styleValue_at_f12 : en_T := ([(2, 0, 0, [165])], some (1, -9223372036854775808, 9223372036854775807, []), false, 9, 0, 0, [], [], (0, [(165, 8), (165, 9), (165, 158), (165, 159)], [(20, [0], [50, 2, 1, 158, 157, 160, 2, 12, 0, 7, 4, 3, 2, 0, 158, 0, 1, 2, 0, 157, 2, 7, 0, 3, 2, 0, 157, 0, 2010, 3, 14, 1, 10, 3, 0, 160, 5, 3, 2, 0, 157, 0, 1, 0, 0, 1, 10, 3, 0, 160, 5, 3, 2, 0, 157, 0, 1, 0, 4]), (20, [0, 1], [30, 0, 1, 1, 158, -1, 0, 0]), (20, [0, 1], [30, 0, -1, 1, 158, 1, 0, 0]), (20, [0], [50, 2, 0, 164, 165, 4, 7, 1, 3, 2, 0, 164, 0, 0, 0, 3, 2, 0, 165, 0, 23]), (20, [0], [30, 12, 1, 1, 159]), (20, [0], [30, -12, -1, 1, 159]), (20, [0, 2], [50, 1, 0, 8, 1, 3, 2, 0, 8, 1, 1]), (20, [0, 3], [50, 1, 0, 159, 1, 3, 2, 0, 159, 1, 1])], [(20, [0], [50, 2, 1, 158, 157, 160, 2, 12, 0, 7, 4, 3, 2, 0, 158, 0, 1, 2, 0, 157, 2, 7, 0, 3, 2, 0, 157, 0, 2010, 3, 14, 1, 10, 3, 0, 160, 5, 3, 2, 0, 157, 0, 1, 0, 0, 1, 10, 3, 0, 160, 5, 3, 2, 0, 157, 0, 1, 0, 4]), (20, [1, 0], [30, 0, 1, 0, 0, -1, 1, 158]), (20, [0], [30, 12, 1, 1, 159]), (20, [0], [30, -12, -1, 1, 159]), (20, [0, 1, 2, 3], [60, 4, 5, 0, 8, 158, 164, 10, 160, 161, 162, 163, 1])], [(0, 0, 2009, []), (0, 0, 5, []), (0, 0, 13, [])]))
abbrev b_Mo_styleValue_at_f13 : ByteArray := prog_15_method_226_code
def y_Mo_styleValue_at_f13 : MethodName := ⟨"DrawingHouseModel", "styleValue", "()J"⟩
abbrev z_Mo_styleValue_at_f13 : List Cond := Cond.code y_Mo_styleValue_at_f13 b_Mo_styleValue_at_f13 3 (some .long) :: lw_g
def e_Mo_styleValue_at_f13 : en_T := ([(2, 0, 0, [165])], some (1, 0, 0, []), false, 6, 0, 0, [], [], (0, [], [(20, [0], [50, 2, 1, 158, 157, 160, 2, 12, 0, 7, 4, 3, 2, 0, 158, 0, 1, 2, 0, 157, 2, 7, 0, 3, 2, 0, 157, 0, 2010, 3, 14, 1, 10, 3, 0, 160, 5, 3, 2, 0, 157, 0, 1, 0, 0, 1, 10, 3, 0, 160, 5, 3, 2, 0, 157, 0, 1, 0, 4]), (20, [0, 1], [30, 0, 1, 1, 158, -1, 0, 0]), (20, [0, 1], [30, 0, -1, 1, 158, 1, 0, 0]), (20, [0], [50, 2, 0, 164, 165, 4, 7, 1, 3, 2, 0, 164, 0, 0, 0, 3, 2, 0, 165, 0, 23]), (20, [0], [30, 13, 1, 1, 159]), (20, [0], [30, -13, -1, 1, 159]), (20, [0], [30, -1, -1, 1, 8]), (20, [0, 2], [50, 1, 0, 8, 1, 3, 2, 0, 8, 1, 1]), (20, [0, 3], [50, 1, 0, 159, 1, 3, 2, 0, 159, 1, 1])], [(20, [0], [50, 2, 1, 158, 157, 160, 2, 12, 0, 7, 4, 3, 2, 0, 158, 0, 1, 2, 0, 157, 2, 7, 0, 3, 2, 0, 157, 0, 2010, 3, 14, 1, 10, 3, 0, 160, 5, 3, 2, 0, 157, 0, 1, 0, 0, 1, 10, 3, 0, 160, 5, 3, 2, 0, 157, 0, 1, 0, 4]), (20, [1, 0], [30, 0, 1, 0, 0, -1, 1, 158]), (20, [0], [30, 13, 1, 1, 159]), (20, [0], [30, -13, -1, 1, 159]), (20, [0], [30, -1, -1, 1, 8]), (20, [0, 1, 2, 3], [60, 4, 5, 0, 8, 158, 164, 10, 160, 161, 162, 163, 1])], [(0, 0, 2009, []), (0, 0, 5, []), (0, 0, 13, [])]))
abbrev b_Mo_styleValue_at_f2 : ByteArray := prog_15_method_226_code
def y_Mo_styleValue_at_f2 : MethodName := ⟨"DrawingHouseModel", "styleValue", "()J"⟩
abbrev z_Mo_styleValue_at_f2 : List Cond := Cond.code y_Mo_styleValue_at_f2 b_Mo_styleValue_at_f2 3 (some .long) :: lw_g
def e_Mo_styleValue_at_f2 : en_T := ([(2, 0, 0, [165])], some (1, -9223372036854775808, 9223372036854775807, []), false, 39, 0, 0, [], [], (0, [(165, 8), (165, 9), (165, 158), (165, 159)], [(20, [0], [50, 2, 1, 158, 157, 160, 2, 12, 0, 7, 4, 3, 2, 0, 158, 0, 1, 2, 0, 157, 2, 7, 0, 3, 2, 0, 157, 0, 2010, 3, 14, 1, 10, 3, 0, 160, 5, 3, 2, 0, 157, 0, 1, 0, 0, 1, 10, 3, 0, 160, 5, 3, 2, 0, 157, 0, 1, 0, 4]), (20, [0, 1], [30, 0, 1, 1, 158, -1, 0, 0]), (20, [0, 1], [30, 0, -1, 1, 158, 1, 0, 0]), (20, [0], [50, 2, 0, 164, 165, 4, 7, 1, 3, 2, 0, 164, 0, 0, 0, 3, 2, 0, 165, 0, 23]), (20, [0], [30, 2, 1, 1, 159]), (20, [0], [30, -2, -1, 1, 159]), (20, [0, 2], [50, 1, 0, 8, 1, 3, 2, 0, 8, 1, 1]), (20, [0, 3], [50, 1, 0, 159, 1, 3, 2, 0, 159, 1, 1])], [(20, [0], [50, 2, 1, 158, 157, 160, 2, 12, 0, 7, 4, 3, 2, 0, 158, 0, 1, 2, 0, 157, 2, 7, 0, 3, 2, 0, 157, 0, 2010, 3, 14, 1, 10, 3, 0, 160, 5, 3, 2, 0, 157, 0, 1, 0, 0, 1, 10, 3, 0, 160, 5, 3, 2, 0, 157, 0, 1, 0, 4]), (20, [1, 0], [30, 0, 1, 0, 0, -1, 1, 158]), (20, [0], [30, 2, 1, 1, 159]), (20, [0], [30, -2, -1, 1, 159]), (20, [0, 1, 2, 3], [60, 4, 5, 0, 8, 158, 164, 10, 160, 161, 162, 163, 1])], [(0, 0, 2009, []), (0, 0, 5, []), (0, 0, 13, [])]))
abbrev b_Mo_styleValue_at_f3 : ByteArray := prog_15_method_226_code
def y_Mo_styleValue_at_f3 : MethodName := ⟨"DrawingHouseModel", "styleValue", "()J"⟩
abbrev z_Mo_styleValue_at_f3 : List Cond := Cond.code y_Mo_styleValue_at_f3 b_Mo_styleValue_at_f3 3 (some .long) :: lw_g
def e_Mo_styleValue_at_f3 : en_T := ([(2, 0, 0, [165])], some (1, -9223372036854775808, 9223372036854775807, []), false, 36, 0, 0, [], [], (0, [(165, 8), (165, 9), (165, 158), (165, 159)], [(20, [0], [50, 2, 1, 158, 157, 160, 2, 12, 0, 7, 4, 3, 2, 0, 158, 0, 1, 2, 0, 157, 2, 7, 0, 3, 2, 0, 157, 0, 2010, 3, 14, 1, 10, 3, 0, 160, 5, 3, 2, 0, 157, 0, 1, 0, 0, 1, 10, 3, 0, 160, 5, 3, 2, 0, 157, 0, 1, 0, 4]), (20, [0, 1], [30, 0, 1, 1, 158, -1, 0, 0]), (20, [0, 1], [30, 0, -1, 1, 158, 1, 0, 0]), (20, [0], [50, 2, 0, 164, 165, 4, 7, 1, 3, 2, 0, 164, 0, 0, 0, 3, 2, 0, 165, 0, 23]), (20, [0], [30, 3, 1, 1, 159]), (20, [0], [30, -3, -1, 1, 159]), (20, [0, 2], [50, 1, 0, 8, 1, 3, 2, 0, 8, 1, 1]), (20, [0, 3], [50, 1, 0, 159, 1, 3, 2, 0, 159, 1, 1])], [(20, [0], [50, 2, 1, 158, 157, 160, 2, 12, 0, 7, 4, 3, 2, 0, 158, 0, 1, 2, 0, 157, 2, 7, 0, 3, 2, 0, 157, 0, 2010, 3, 14, 1, 10, 3, 0, 160, 5, 3, 2, 0, 157, 0, 1, 0, 0, 1, 10, 3, 0, 160, 5, 3, 2, 0, 157, 0, 1, 0, 4]), (20, [1, 0], [30, 0, 1, 0, 0, -1, 1, 158]), (20, [0], [30, 3, 1, 1, 159]), (20, [0], [30, -3, -1, 1, 159]), (20, [0, 1, 2, 3], [60, 4, 5, 0, 8, 158, 164, 10, 160, 161, 162, 163, 1])], [(0, 0, 2009, []), (0, 0, 5, []), (0, 0, 13, [])]))
abbrev b_Mo_styleValue_at_f4 : ByteArray := prog_15_method_226_code
def y_Mo_styleValue_at_f4 : MethodName := ⟨"DrawingHouseModel", "styleValue", "()J"⟩
abbrev z_Mo_styleValue_at_f4 : List Cond := Cond.code y_Mo_styleValue_at_f4 b_Mo_styleValue_at_f4 3 (some .long) :: lw_g
def e_Mo_styleValue_at_f4 : en_T := ([(2, 0, 0, [165])], some (1, -9223372036854775808, 9223372036854775807, []), false, 33, 0, 0, [], [], (0, [(165, 8), (165, 9), (165, 158), (165, 159)], [(20, [0], [50, 2, 1, 158, 157, 160, 2, 12, 0, 7, 4, 3, 2, 0, 158, 0, 1, 2, 0, 157, 2, 7, 0, 3, 2, 0, 157, 0, 2010, 3, 14, 1, 10, 3, 0, 160, 5, 3, 2, 0, 157, 0, 1, 0, 0, 1, 10, 3, 0, 160, 5, 3, 2, 0, 157, 0, 1, 0, 4]), (20, [0, 1], [30, 0, 1, 1, 158, -1, 0, 0]), (20, [0, 1], [30, 0, -1, 1, 158, 1, 0, 0]), (20, [0], [50, 2, 0, 164, 165, 4, 7, 1, 3, 2, 0, 164, 0, 0, 0, 3, 2, 0, 165, 0, 23]), (20, [0], [30, 4, 1, 1, 159]), (20, [0], [30, -4, -1, 1, 159]), (20, [0, 2], [50, 1, 0, 8, 1, 3, 2, 0, 8, 1, 1]), (20, [0, 3], [50, 1, 0, 159, 1, 3, 2, 0, 159, 1, 1])], [(20, [0], [50, 2, 1, 158, 157, 160, 2, 12, 0, 7, 4, 3, 2, 0, 158, 0, 1, 2, 0, 157, 2, 7, 0, 3, 2, 0, 157, 0, 2010, 3, 14, 1, 10, 3, 0, 160, 5, 3, 2, 0, 157, 0, 1, 0, 0, 1, 10, 3, 0, 160, 5, 3, 2, 0, 157, 0, 1, 0, 4]), (20, [1, 0], [30, 0, 1, 0, 0, -1, 1, 158]), (20, [0], [30, 4, 1, 1, 159]), (20, [0], [30, -4, -1, 1, 159]), (20, [0, 1, 2, 3], [60, 4, 5, 0, 8, 158, 164, 10, 160, 161, 162, 163, 1])], [(0, 0, 2009, []), (0, 0, 5, []), (0, 0, 13, [])]))
abbrev b_Mo_styleValue_at_f5 : ByteArray := prog_15_method_226_code
def y_Mo_styleValue_at_f5 : MethodName := ⟨"DrawingHouseModel", "styleValue", "()J"⟩
abbrev z_Mo_styleValue_at_f5 : List Cond := Cond.code y_Mo_styleValue_at_f5 b_Mo_styleValue_at_f5 3 (some .long) :: lw_g
def e_Mo_styleValue_at_f5 : en_T := ([(2, 0, 0, [165])], some (1, -9223372036854775808, 9223372036854775807, []), false, 30, 0, 0, [], [], (0, [(165, 8), (165, 9), (165, 158), (165, 159)], [(20, [0], [50, 2, 1, 158, 157, 160, 2, 12, 0, 7, 4, 3, 2, 0, 158, 0, 1, 2, 0, 157, 2, 7, 0, 3, 2, 0, 157, 0, 2010, 3, 14, 1, 10, 3, 0, 160, 5, 3, 2, 0, 157, 0, 1, 0, 0, 1, 10, 3, 0, 160, 5, 3, 2, 0, 157, 0, 1, 0, 4]), (20, [0, 1], [30, 0, 1, 1, 158, -1, 0, 0]), (20, [0, 1], [30, 0, -1, 1, 158, 1, 0, 0]), (20, [0], [50, 2, 0, 164, 165, 4, 7, 1, 3, 2, 0, 164, 0, 0, 0, 3, 2, 0, 165, 0, 23]), (20, [0], [30, 5, 1, 1, 159]), (20, [0], [30, -5, -1, 1, 159]), (20, [0, 2], [50, 1, 0, 8, 1, 3, 2, 0, 8, 1, 1]), (20, [0, 3], [50, 1, 0, 159, 1, 3, 2, 0, 159, 1, 1])], [(20, [0], [50, 2, 1, 158, 157, 160, 2, 12, 0, 7, 4, 3, 2, 0, 158, 0, 1, 2, 0, 157, 2, 7, 0, 3, 2, 0, 157, 0, 2010, 3, 14, 1, 10, 3, 0, 160, 5, 3, 2, 0, 157, 0, 1, 0, 0, 1, 10, 3, 0, 160, 5, 3, 2, 0, 157, 0, 1, 0, 4]), (20, [1, 0], [30, 0, 1, 0, 0, -1, 1, 158]), (20, [0], [30, 5, 1, 1, 159]), (20, [0], [30, -5, -1, 1, 159]), (20, [0, 1, 2, 3], [60, 4, 5, 0, 8, 158, 164, 10, 160, 161, 162, 163, 1])], [(0, 0, 2009, []), (0, 0, 5, []), (0, 0, 13, [])]))
abbrev b_Mo_styleValue_at_f6 : ByteArray := prog_15_method_226_code
def y_Mo_styleValue_at_f6 : MethodName := ⟨"DrawingHouseModel", "styleValue", "()J"⟩
abbrev z_Mo_styleValue_at_f6 : List Cond := Cond.code y_Mo_styleValue_at_f6 b_Mo_styleValue_at_f6 3 (some .long) :: lw_g
def e_Mo_styleValue_at_f6 : en_T := ([(2, 0, 0, [165])], some (1, -9223372036854775808, 9223372036854775807, []), false, 27, 0, 0, [], [], (0, [(165, 8), (165, 9), (165, 158), (165, 159)], [(20, [0], [50, 2, 1, 158, 157, 160, 2, 12, 0, 7, 4, 3, 2, 0, 158, 0, 1, 2, 0, 157, 2, 7, 0, 3, 2, 0, 157, 0, 2010, 3, 14, 1, 10, 3, 0, 160, 5, 3, 2, 0, 157, 0, 1, 0, 0, 1, 10, 3, 0, 160, 5, 3, 2, 0, 157, 0, 1, 0, 4]), (20, [0, 1], [30, 0, 1, 1, 158, -1, 0, 0]), (20, [0, 1], [30, 0, -1, 1, 158, 1, 0, 0]), (20, [0], [50, 2, 0, 164, 165, 4, 7, 1, 3, 2, 0, 164, 0, 0, 0, 3, 2, 0, 165, 0, 23]), (20, [0], [30, 6, 1, 1, 159]), (20, [0], [30, -6, -1, 1, 159]), (20, [0, 2], [50, 1, 0, 8, 1, 3, 2, 0, 8, 1, 1]), (20, [0, 3], [50, 1, 0, 159, 1, 3, 2, 0, 159, 1, 1])], [(20, [0], [50, 2, 1, 158, 157, 160, 2, 12, 0, 7, 4, 3, 2, 0, 158, 0, 1, 2, 0, 157, 2, 7, 0, 3, 2, 0, 157, 0, 2010, 3, 14, 1, 10, 3, 0, 160, 5, 3, 2, 0, 157, 0, 1, 0, 0, 1, 10, 3, 0, 160, 5, 3, 2, 0, 157, 0, 1, 0, 4]), (20, [1, 0], [30, 0, 1, 0, 0, -1, 1, 158]), (20, [0], [30, 6, 1, 1, 159]), (20, [0], [30, -6, -1, 1, 159]), (20, [0, 1, 2, 3], [60, 4, 5, 0, 8, 158, 164, 10, 160, 161, 162, 163, 1])], [(0, 0, 2009, []), (0, 0, 5, []), (0, 0, 13, [])]))
abbrev b_Mo_styleValue_at_f7 : ByteArray := prog_15_method_226_code
def y_Mo_styleValue_at_f7 : MethodName := ⟨"DrawingHouseModel", "styleValue", "()J"⟩
abbrev z_Mo_styleValue_at_f7 : List Cond := Cond.code y_Mo_styleValue_at_f7 b_Mo_styleValue_at_f7 3 (some .long) :: lw_g
def e_Mo_styleValue_at_f7 : en_T := ([(2, 0, 0, [165])], some (1, -9223372036854775808, 9223372036854775807, []), false, 24, 0, 0, [], [], (0, [(165, 8), (165, 9), (165, 158), (165, 159)], [(20, [0], [50, 2, 1, 158, 157, 160, 2, 12, 0, 7, 4, 3, 2, 0, 158, 0, 1, 2, 0, 157, 2, 7, 0, 3, 2, 0, 157, 0, 2010, 3, 14, 1, 10, 3, 0, 160, 5, 3, 2, 0, 157, 0, 1, 0, 0, 1, 10, 3, 0, 160, 5, 3, 2, 0, 157, 0, 1, 0, 4]), (20, [0, 1], [30, 0, 1, 1, 158, -1, 0, 0]), (20, [0, 1], [30, 0, -1, 1, 158, 1, 0, 0]), (20, [0], [50, 2, 0, 164, 165, 4, 7, 1, 3, 2, 0, 164, 0, 0, 0, 3, 2, 0, 165, 0, 23]), (20, [0], [30, 7, 1, 1, 159]), (20, [0], [30, -7, -1, 1, 159]), (20, [0, 2], [50, 1, 0, 8, 1, 3, 2, 0, 8, 1, 1]), (20, [0, 3], [50, 1, 0, 159, 1, 3, 2, 0, 159, 1, 1])], [(20, [0], [50, 2, 1, 158, 157, 160, 2, 12, 0, 7, 4, 3, 2, 0, 158, 0, 1, 2, 0, 157, 2, 7, 0, 3, 2, 0, 157, 0, 2010, 3, 14, 1, 10, 3, 0, 160, 5, 3, 2, 0, 157, 0, 1, 0, 0, 1, 10, 3, 0, 160, 5, 3, 2, 0, 157, 0, 1, 0, 4]), (20, [1, 0], [30, 0, 1, 0, 0, -1, 1, 158]), (20, [0], [30, 7, 1, 1, 159]), (20, [0], [30, -7, -1, 1, 159]), (20, [0, 1, 2, 3], [60, 4, 5, 0, 8, 158, 164, 10, 160, 161, 162, 163, 1])], [(0, 0, 2009, []), (0, 0, 5, []), (0, 0, 13, [])]))
abbrev b_Mo_styleValue_at_f8 : ByteArray := prog_15_method_226_code
def y_Mo_styleValue_at_f8 : MethodName := ⟨"DrawingHouseModel", "styleValue", "()J"⟩
abbrev z_Mo_styleValue_at_f8 : List Cond := Cond.code y_Mo_styleValue_at_f8 b_Mo_styleValue_at_f8 3 (some .long) :: lw_g
def e_Mo_styleValue_at_f8 : en_T := ([(2, 0, 0, [165])], some (1, -9223372036854775808, 9223372036854775807, []), false, 21, 0, 0, [], [], (0, [(165, 8), (165, 9), (165, 158), (165, 159)], [(20, [0], [50, 2, 1, 158, 157, 160, 2, 12, 0, 7, 4, 3, 2, 0, 158, 0, 1, 2, 0, 157, 2, 7, 0, 3, 2, 0, 157, 0, 2010, 3, 14, 1, 10, 3, 0, 160, 5, 3, 2, 0, 157, 0, 1, 0, 0, 1, 10, 3, 0, 160, 5, 3, 2, 0, 157, 0, 1, 0, 4]), (20, [0, 1], [30, 0, 1, 1, 158, -1, 0, 0]), (20, [0, 1], [30, 0, -1, 1, 158, 1, 0, 0]), (20, [0], [50, 2, 0, 164, 165, 4, 7, 1, 3, 2, 0, 164, 0, 0, 0, 3, 2, 0, 165, 0, 23]), (20, [0], [30, 8, 1, 1, 159]), (20, [0], [30, -8, -1, 1, 159]), (20, [0, 2], [50, 1, 0, 8, 1, 3, 2, 0, 8, 1, 1]), (20, [0, 3], [50, 1, 0, 159, 1, 3, 2, 0, 159, 1, 1])], [(20, [0], [50, 2, 1, 158, 157, 160, 2, 12, 0, 7, 4, 3, 2, 0, 158, 0, 1, 2, 0, 157, 2, 7, 0, 3, 2, 0, 157, 0, 2010, 3, 14, 1, 10, 3, 0, 160, 5, 3, 2, 0, 157, 0, 1, 0, 0, 1, 10, 3, 0, 160, 5, 3, 2, 0, 157, 0, 1, 0, 4]), (20, [1, 0], [30, 0, 1, 0, 0, -1, 1, 158]), (20, [0], [30, 8, 1, 1, 159]), (20, [0], [30, -8, -1, 1, 159]), (20, [0, 1, 2, 3], [60, 4, 5, 0, 8, 158, 164, 10, 160, 161, 162, 163, 1])], [(0, 0, 2009, []), (0, 0, 5, []), (0, 0, 13, [])]))
abbrev b_Mo_styleValue_at_f9 : ByteArray := prog_15_method_226_code
def y_Mo_styleValue_at_f9 : MethodName := ⟨"DrawingHouseModel", "styleValue", "()J"⟩
abbrev z_Mo_styleValue_at_f9 : List Cond := Cond.code y_Mo_styleValue_at_f9 b_Mo_styleValue_at_f9 3 (some .long) :: lw_g
def e_Mo_styleValue_at_f9 : en_T := ([(2, 0, 0, [165])], some (1, -9223372036854775808, 9223372036854775807, []), false, 18, 0, 0, [], [], (0, [(165, 8), (165, 9), (165, 158), (165, 159)], [(20, [0], [50, 2, 1, 158, 157, 160, 2, 12, 0, 7, 4, 3, 2, 0, 158, 0, 1, 2, 0, 157, 2, 7, 0, 3, 2, 0, 157, 0, 2010, 3, 14, 1, 10, 3, 0, 160, 5, 3, 2, 0, 157, 0, 1, 0, 0, 1, 10, 3, 0, 160, 5, 3, 2, 0, 157, 0, 1, 0, 4]), (20, [0, 1], [30, 0, 1, 1, 158, -1, 0, 0]), (20, [0, 1], [30, 0, -1, 1, 158, 1, 0, 0]), (20, [0], [50, 2, 0, 164, 165, 4, 7, 1, 3, 2, 0, 164, 0, 0, 0, 3, 2, 0, 165, 0, 23]), (20, [0], [30, 9, 1, 1, 159]), (20, [0], [30, -9, -1, 1, 159]), (20, [0, 2], [50, 1, 0, 8, 1, 3, 2, 0, 8, 1, 1]), (20, [0, 3], [50, 1, 0, 159, 1, 3, 2, 0, 159, 1, 1])], [(20, [0], [50, 2, 1, 158, 157, 160, 2, 12, 0, 7, 4, 3, 2, 0, 158, 0, 1, 2, 0, 157, 2, 7, 0, 3, 2, 0, 157, 0, 2010, 3, 14, 1, 10, 3, 0, 160, 5, 3, 2, 0, 157, 0, 1, 0, 0, 1, 10, 3, 0, 160, 5, 3, 2, 0, 157, 0, 1, 0, 4]), (20, [1, 0], [30, 0, 1, 0, 0, -1, 1, 158]), (20, [0], [30, 9, 1, 1, 159]), (20, [0], [30, -9, -1, 1, 159]), (20, [0, 1, 2, 3], [60, 4, 5, 0, 8, 158, 164, 10, 160, 161, 162, 163, 1])], [(0, 0, 2009, []), (0, 0, 5, []), (0, 0, 13, [])]))
abbrev b_Mo_sum_at_f0 : ByteArray := prog_15_method_224_code
def y_Mo_sum_at_f0 : MethodName := ⟨"DrawingHouseModel", "sum", "()J"⟩
abbrev z_Mo_sum_at_f0 : List Cond := Cond.code y_Mo_sum_at_f0 b_Mo_sum_at_f0 6 (some .long) :: lw_g
def e_Mo_sum_at_f0 : en_T := ([(2, 0, 0, [165])], some (1, -9223372036854775808, 9223372036854775807, []), false, 47, 0, 0, [], [], (0, [(165, 8), (165, 9), (165, 158), (165, 159)], [(20, [0], [50, 2, 1, 158, 157, 160, 2, 12, 0, 7, 4, 3, 2, 0, 158, 0, 1, 2, 0, 157, 2, 7, 0, 3, 2, 0, 157, 0, 2010, 3, 14, 1, 10, 3, 0, 160, 5, 3, 2, 0, 157, 0, 1, 0, 0, 1, 10, 3, 0, 160, 5, 3, 2, 0, 157, 0, 1, 0, 4]), (20, [0, 1], [30, 0, 1, 1, 158, -1, 0, 0]), (20, [0, 1], [30, 0, -1, 1, 158, 1, 0, 0]), (20, [0], [50, 2, 0, 164, 165, 4, 7, 1, 3, 2, 0, 164, 0, 0, 0, 3, 2, 0, 165, 0, 23]), (20, [0], [30, 0, 1, 1, 159]), (20, [0], [30, 0, -1, 1, 159]), (20, [0, 2], [50, 1, 0, 8, 1, 3, 2, 0, 8, 1, 1]), (20, [0, 3], [50, 1, 0, 159, 1, 3, 2, 0, 159, 1, 1])], [(20, [0], [50, 2, 1, 158, 157, 160, 2, 12, 0, 7, 4, 3, 2, 0, 158, 0, 1, 2, 0, 157, 2, 7, 0, 3, 2, 0, 157, 0, 2010, 3, 14, 1, 10, 3, 0, 160, 5, 3, 2, 0, 157, 0, 1, 0, 0, 1, 10, 3, 0, 160, 5, 3, 2, 0, 157, 0, 1, 0, 4]), (20, [1, 0], [30, 0, 1, 0, 0, -1, 1, 158]), (20, [0], [30, 0, 1, 1, 159]), (20, [0], [30, 0, -1, 1, 159]), (20, [0, 1, 2, 3], [60, 4, 5, 2, 8, 158, 164, 10, 160, 161, 162, 163, 1])], [(0, 0, 2009, []), (0, 0, 5, []), (0, 0, 13, [])]))
abbrev b_Mo_sum_at_f1 : ByteArray := prog_15_method_224_code
def y_Mo_sum_at_f1 : MethodName := ⟨"DrawingHouseModel", "sum", "()J"⟩
abbrev z_Mo_sum_at_f1 : List Cond := Cond.code y_Mo_sum_at_f1 b_Mo_sum_at_f1 6 (some .long) :: lw_g
def e_Mo_sum_at_f1 : en_T := ([(2, 0, 0, [165])], some (1, -9223372036854775808, 9223372036854775807, []), false, 44, 0, 0, [], [], (0, [(165, 8), (165, 9), (165, 158), (165, 159)], [(20, [0], [50, 2, 1, 158, 157, 160, 2, 12, 0, 7, 4, 3, 2, 0, 158, 0, 1, 2, 0, 157, 2, 7, 0, 3, 2, 0, 157, 0, 2010, 3, 14, 1, 10, 3, 0, 160, 5, 3, 2, 0, 157, 0, 1, 0, 0, 1, 10, 3, 0, 160, 5, 3, 2, 0, 157, 0, 1, 0, 4]), (20, [0, 1], [30, 0, 1, 1, 158, -1, 0, 0]), (20, [0, 1], [30, 0, -1, 1, 158, 1, 0, 0]), (20, [0], [50, 2, 0, 164, 165, 4, 7, 1, 3, 2, 0, 164, 0, 0, 0, 3, 2, 0, 165, 0, 23]), (20, [0], [30, 1, 1, 1, 159]), (20, [0], [30, -1, -1, 1, 159]), (20, [0, 2], [50, 1, 0, 8, 1, 3, 2, 0, 8, 1, 1]), (20, [0, 3], [50, 1, 0, 159, 1, 3, 2, 0, 159, 1, 1])], [(20, [0], [50, 2, 1, 158, 157, 160, 2, 12, 0, 7, 4, 3, 2, 0, 158, 0, 1, 2, 0, 157, 2, 7, 0, 3, 2, 0, 157, 0, 2010, 3, 14, 1, 10, 3, 0, 160, 5, 3, 2, 0, 157, 0, 1, 0, 0, 1, 10, 3, 0, 160, 5, 3, 2, 0, 157, 0, 1, 0, 4]), (20, [1, 0], [30, 0, 1, 0, 0, -1, 1, 158]), (20, [0], [30, 1, 1, 1, 159]), (20, [0], [30, -1, -1, 1, 159]), (20, [0, 1, 2, 3], [60, 4, 5, 2, 8, 158, 164, 10, 160, 161, 162, 163, 1])], [(0, 0, 2009, []), (0, 0, 5, []), (0, 0, 13, [])]))
abbrev b_Mo_sum_at_f10 : ByteArray := prog_15_method_224_code
def y_Mo_sum_at_f10 : MethodName := ⟨"DrawingHouseModel", "sum", "()J"⟩
abbrev z_Mo_sum_at_f10 : List Cond := Cond.code y_Mo_sum_at_f10 b_Mo_sum_at_f10 6 (some .long) :: lw_g
def e_Mo_sum_at_f10 : en_T := ([(2, 0, 0, [165])], some (1, -9223372036854775808, 9223372036854775807, []), false, 17, 0, 0, [], [], (0, [(165, 8), (165, 9), (165, 158), (165, 159)], [(20, [0], [50, 2, 1, 158, 157, 160, 2, 12, 0, 7, 4, 3, 2, 0, 158, 0, 1, 2, 0, 157, 2, 7, 0, 3, 2, 0, 157, 0, 2010, 3, 14, 1, 10, 3, 0, 160, 5, 3, 2, 0, 157, 0, 1, 0, 0, 1, 10, 3, 0, 160, 5, 3, 2, 0, 157, 0, 1, 0, 4]), (20, [0, 1], [30, 0, 1, 1, 158, -1, 0, 0]), (20, [0, 1], [30, 0, -1, 1, 158, 1, 0, 0]), (20, [0], [50, 2, 0, 164, 165, 4, 7, 1, 3, 2, 0, 164, 0, 0, 0, 3, 2, 0, 165, 0, 23]), (20, [0], [30, 10, 1, 1, 159]), (20, [0], [30, -10, -1, 1, 159]), (20, [0, 2], [50, 1, 0, 8, 1, 3, 2, 0, 8, 1, 1]), (20, [0, 3], [50, 1, 0, 159, 1, 3, 2, 0, 159, 1, 1])], [(20, [0], [50, 2, 1, 158, 157, 160, 2, 12, 0, 7, 4, 3, 2, 0, 158, 0, 1, 2, 0, 157, 2, 7, 0, 3, 2, 0, 157, 0, 2010, 3, 14, 1, 10, 3, 0, 160, 5, 3, 2, 0, 157, 0, 1, 0, 0, 1, 10, 3, 0, 160, 5, 3, 2, 0, 157, 0, 1, 0, 4]), (20, [1, 0], [30, 0, 1, 0, 0, -1, 1, 158]), (20, [0], [30, 10, 1, 1, 159]), (20, [0], [30, -10, -1, 1, 159]), (20, [0, 1, 2, 3], [60, 4, 5, 2, 8, 158, 164, 10, 160, 161, 162, 163, 1])], [(0, 0, 2009, []), (0, 0, 5, []), (0, 0, 13, [])]))
abbrev b_Mo_sum_at_f11 : ByteArray := prog_15_method_224_code
def y_Mo_sum_at_f11 : MethodName := ⟨"DrawingHouseModel", "sum", "()J"⟩
abbrev z_Mo_sum_at_f11 : List Cond := Cond.code y_Mo_sum_at_f11 b_Mo_sum_at_f11 6 (some .long) :: lw_g
def e_Mo_sum_at_f11 : en_T := ([(2, 0, 0, [165])], some (1, -9223372036854775808, 9223372036854775807, []), false, 14, 0, 0, [], [], (0, [(165, 8), (165, 9), (165, 158), (165, 159)], [(20, [0], [50, 2, 1, 158, 157, 160, 2, 12, 0, 7, 4, 3, 2, 0, 158, 0, 1, 2, 0, 157, 2, 7, 0, 3, 2, 0, 157, 0, 2010, 3, 14, 1, 10, 3, 0, 160, 5, 3, 2, 0, 157, 0, 1, 0, 0, 1, 10, 3, 0, 160, 5, 3, 2, 0, 157, 0, 1, 0, 4]), (20, [0, 1], [30, 0, 1, 1, 158, -1, 0, 0]), (20, [0, 1], [30, 0, -1, 1, 158, 1, 0, 0]), (20, [0], [50, 2, 0, 164, 165, 4, 7, 1, 3, 2, 0, 164, 0, 0, 0, 3, 2, 0, 165, 0, 23]), (20, [0], [30, 11, 1, 1, 159]), (20, [0], [30, -11, -1, 1, 159]), (20, [0, 2], [50, 1, 0, 8, 1, 3, 2, 0, 8, 1, 1]), (20, [0, 3], [50, 1, 0, 159, 1, 3, 2, 0, 159, 1, 1])], [(20, [0], [50, 2, 1, 158, 157, 160, 2, 12, 0, 7, 4, 3, 2, 0, 158, 0, 1, 2, 0, 157, 2, 7, 0, 3, 2, 0, 157, 0, 2010, 3, 14, 1, 10, 3, 0, 160, 5, 3, 2, 0, 157, 0, 1, 0, 0, 1, 10, 3, 0, 160, 5, 3, 2, 0, 157, 0, 1, 0, 4]), (20, [1, 0], [30, 0, 1, 0, 0, -1, 1, 158]), (20, [0], [30, 11, 1, 1, 159]), (20, [0], [30, -11, -1, 1, 159]), (20, [0, 1, 2, 3], [60, 4, 5, 2, 8, 158, 164, 10, 160, 161, 162, 163, 1])], [(0, 0, 2009, []), (0, 0, 5, []), (0, 0, 13, [])]))
abbrev b_Mo_sum_at_f12 : ByteArray := prog_15_method_224_code
def y_Mo_sum_at_f12 : MethodName := ⟨"DrawingHouseModel", "sum", "()J"⟩
abbrev z_Mo_sum_at_f12 : List Cond := Cond.code y_Mo_sum_at_f12 b_Mo_sum_at_f12 6 (some .long) :: lw_g
def e_Mo_sum_at_f12 : en_T := ([(2, 0, 0, [165])], some (1, -9223372036854775808, 9223372036854775807, []), false, 11, 0, 0, [], [], (0, [(165, 8), (165, 9), (165, 158), (165, 159)], [(20, [0], [50, 2, 1, 158, 157, 160, 2, 12, 0, 7, 4, 3, 2, 0, 158, 0, 1, 2, 0, 157, 2, 7, 0, 3, 2, 0, 157, 0, 2010, 3, 14, 1, 10, 3, 0, 160, 5, 3, 2, 0, 157, 0, 1, 0, 0, 1, 10, 3, 0, 160, 5, 3, 2, 0, 157, 0, 1, 0, 4]), (20, [0, 1], [30, 0, 1, 1, 158, -1, 0, 0]), (20, [0, 1], [30, 0, -1, 1, 158, 1, 0, 0]), (20, [0], [50, 2, 0, 164, 165, 4, 7, 1, 3, 2, 0, 164, 0, 0, 0, 3, 2, 0, 165, 0, 23]), (20, [0], [30, 12, 1, 1, 159]), (20, [0], [30, -12, -1, 1, 159]), (20, [0, 2], [50, 1, 0, 8, 1, 3, 2, 0, 8, 1, 1]), (20, [0, 3], [50, 1, 0, 159, 1, 3, 2, 0, 159, 1, 1])], [(20, [0], [50, 2, 1, 158, 157, 160, 2, 12, 0, 7, 4, 3, 2, 0, 158, 0, 1, 2, 0, 157, 2, 7, 0, 3, 2, 0, 157, 0, 2010, 3, 14, 1, 10, 3, 0, 160, 5, 3, 2, 0, 157, 0, 1, 0, 0, 1, 10, 3, 0, 160, 5, 3, 2, 0, 157, 0, 1, 0, 4]), (20, [1, 0], [30, 0, 1, 0, 0, -1, 1, 158]), (20, [0], [30, 12, 1, 1, 159]), (20, [0], [30, -12, -1, 1, 159]), (20, [0, 1, 2, 3], [60, 4, 5, 2, 8, 158, 164, 10, 160, 161, 162, 163, 1])], [(0, 0, 2009, []), (0, 0, 5, []), (0, 0, 13, [])]))
abbrev b_Mo_sum_at_f13 : ByteArray := prog_15_method_224_code
def y_Mo_sum_at_f13 : MethodName := ⟨"DrawingHouseModel", "sum", "()J"⟩
abbrev z_Mo_sum_at_f13 : List Cond := Cond.code y_Mo_sum_at_f13 b_Mo_sum_at_f13 6 (some .long) :: lw_g
def e_Mo_sum_at_f13 : en_T := ([(2, 0, 0, [165])], some (1, 0, 0, []), false, 8, 0, 0, [], [], (0, [(165, 158)], [(20, [0], [50, 2, 1, 158, 157, 160, 2, 12, 0, 7, 4, 3, 2, 0, 158, 0, 1, 2, 0, 157, 2, 7, 0, 3, 2, 0, 157, 0, 2010, 3, 14, 1, 10, 3, 0, 160, 5, 3, 2, 0, 157, 0, 1, 0, 0, 1, 10, 3, 0, 160, 5, 3, 2, 0, 157, 0, 1, 0, 4]), (20, [0, 1], [30, 0, 1, 1, 158, -1, 0, 0]), (20, [0, 1], [30, 0, -1, 1, 158, 1, 0, 0]), (20, [0], [50, 2, 0, 164, 165, 4, 7, 1, 3, 2, 0, 164, 0, 0, 0, 3, 2, 0, 165, 0, 23]), (20, [0], [30, 13, 1, 1, 159]), (20, [0], [30, -13, -1, 1, 159]), (20, [0], [30, -1, -1, 1, 8]), (20, [0, 2], [50, 1, 0, 8, 1, 3, 2, 0, 8, 1, 1]), (20, [0, 3], [50, 1, 0, 159, 1, 3, 2, 0, 159, 1, 1])], [(20, [0], [50, 2, 1, 158, 157, 160, 2, 12, 0, 7, 4, 3, 2, 0, 158, 0, 1, 2, 0, 157, 2, 7, 0, 3, 2, 0, 157, 0, 2010, 3, 14, 1, 10, 3, 0, 160, 5, 3, 2, 0, 157, 0, 1, 0, 0, 1, 10, 3, 0, 160, 5, 3, 2, 0, 157, 0, 1, 0, 4]), (20, [1, 0], [30, 0, 1, 0, 0, -1, 1, 158]), (20, [0], [30, 13, 1, 1, 159]), (20, [0], [30, -13, -1, 1, 159]), (20, [0], [30, -1, -1, 1, 8]), (20, [0, 1, 2, 3], [60, 4, 5, 2, 8, 158, 164, 10, 160, 161, 162, 163, 1])], [(0, 0, 2009, []), (0, 0, 5, []), (0, 0, 13, [])]))
abbrev b_Mo_sum_at_f2 : ByteArray := prog_15_method_224_code
def y_Mo_sum_at_f2 : MethodName := ⟨"DrawingHouseModel", "sum", "()J"⟩
abbrev z_Mo_sum_at_f2 : List Cond := Cond.code y_Mo_sum_at_f2 b_Mo_sum_at_f2 6 (some .long) :: lw_g
def e_Mo_sum_at_f2 : en_T := ([(2, 0, 0, [165])], some (1, -9223372036854775808, 9223372036854775807, []), false, 41, 0, 0, [], [], (0, [(165, 8), (165, 9), (165, 158), (165, 159)], [(20, [0], [50, 2, 1, 158, 157, 160, 2, 12, 0, 7, 4, 3, 2, 0, 158, 0, 1, 2, 0, 157, 2, 7, 0, 3, 2, 0, 157, 0, 2010, 3, 14, 1, 10, 3, 0, 160, 5, 3, 2, 0, 157, 0, 1, 0, 0, 1, 10, 3, 0, 160, 5, 3, 2, 0, 157, 0, 1, 0, 4]), (20, [0, 1], [30, 0, 1, 1, 158, -1, 0, 0]), (20, [0, 1], [30, 0, -1, 1, 158, 1, 0, 0]), (20, [0], [50, 2, 0, 164, 165, 4, 7, 1, 3, 2, 0, 164, 0, 0, 0, 3, 2, 0, 165, 0, 23]), (20, [0], [30, 2, 1, 1, 159]), (20, [0], [30, -2, -1, 1, 159]), (20, [0, 2], [50, 1, 0, 8, 1, 3, 2, 0, 8, 1, 1]), (20, [0, 3], [50, 1, 0, 159, 1, 3, 2, 0, 159, 1, 1])], [(20, [0], [50, 2, 1, 158, 157, 160, 2, 12, 0, 7, 4, 3, 2, 0, 158, 0, 1, 2, 0, 157, 2, 7, 0, 3, 2, 0, 157, 0, 2010, 3, 14, 1, 10, 3, 0, 160, 5, 3, 2, 0, 157, 0, 1, 0, 0, 1, 10, 3, 0, 160, 5, 3, 2, 0, 157, 0, 1, 0, 4]), (20, [1, 0], [30, 0, 1, 0, 0, -1, 1, 158]), (20, [0], [30, 2, 1, 1, 159]), (20, [0], [30, -2, -1, 1, 159]), (20, [0, 1, 2, 3], [60, 4, 5, 2, 8, 158, 164, 10, 160, 161, 162, 163, 1])], [(0, 0, 2009, []), (0, 0, 5, []), (0, 0, 13, [])]))
abbrev b_Mo_sum_at_f3 : ByteArray := prog_15_method_224_code
def y_Mo_sum_at_f3 : MethodName := ⟨"DrawingHouseModel", "sum", "()J"⟩
abbrev z_Mo_sum_at_f3 : List Cond := Cond.code y_Mo_sum_at_f3 b_Mo_sum_at_f3 6 (some .long) :: lw_g
def e_Mo_sum_at_f3 : en_T := ([(2, 0, 0, [165])], some (1, -9223372036854775808, 9223372036854775807, []), false, 38, 0, 0, [], [], (0, [(165, 8), (165, 9), (165, 158), (165, 159)], [(20, [0], [50, 2, 1, 158, 157, 160, 2, 12, 0, 7, 4, 3, 2, 0, 158, 0, 1, 2, 0, 157, 2, 7, 0, 3, 2, 0, 157, 0, 2010, 3, 14, 1, 10, 3, 0, 160, 5, 3, 2, 0, 157, 0, 1, 0, 0, 1, 10, 3, 0, 160, 5, 3, 2, 0, 157, 0, 1, 0, 4]), (20, [0, 1], [30, 0, 1, 1, 158, -1, 0, 0]), (20, [0, 1], [30, 0, -1, 1, 158, 1, 0, 0]), (20, [0], [50, 2, 0, 164, 165, 4, 7, 1, 3, 2, 0, 164, 0, 0, 0, 3, 2, 0, 165, 0, 23]), (20, [0], [30, 3, 1, 1, 159]), (20, [0], [30, -3, -1, 1, 159]), (20, [0, 2], [50, 1, 0, 8, 1, 3, 2, 0, 8, 1, 1]), (20, [0, 3], [50, 1, 0, 159, 1, 3, 2, 0, 159, 1, 1])], [(20, [0], [50, 2, 1, 158, 157, 160, 2, 12, 0, 7, 4, 3, 2, 0, 158, 0, 1, 2, 0, 157, 2, 7, 0, 3, 2, 0, 157, 0, 2010, 3, 14, 1, 10, 3, 0, 160, 5, 3, 2, 0, 157, 0, 1, 0, 0, 1, 10, 3, 0, 160, 5, 3, 2, 0, 157, 0, 1, 0, 4]), (20, [1, 0], [30, 0, 1, 0, 0, -1, 1, 158]), (20, [0], [30, 3, 1, 1, 159]), (20, [0], [30, -3, -1, 1, 159]), (20, [0, 1, 2, 3], [60, 4, 5, 2, 8, 158, 164, 10, 160, 161, 162, 163, 1])], [(0, 0, 2009, []), (0, 0, 5, []), (0, 0, 13, [])]))
abbrev b_Mo_sum_at_f4 : ByteArray := prog_15_method_224_code
def y_Mo_sum_at_f4 : MethodName := ⟨"DrawingHouseModel", "sum", "()J"⟩
abbrev z_Mo_sum_at_f4 : List Cond := Cond.code y_Mo_sum_at_f4 b_Mo_sum_at_f4 6 (some .long) :: lw_g
def e_Mo_sum_at_f4 : en_T := ([(2, 0, 0, [165])], some (1, -9223372036854775808, 9223372036854775807, []), false, 35, 0, 0, [], [], (0, [(165, 8), (165, 9), (165, 158), (165, 159)], [(20, [0], [50, 2, 1, 158, 157, 160, 2, 12, 0, 7, 4, 3, 2, 0, 158, 0, 1, 2, 0, 157, 2, 7, 0, 3, 2, 0, 157, 0, 2010, 3, 14, 1, 10, 3, 0, 160, 5, 3, 2, 0, 157, 0, 1, 0, 0, 1, 10, 3, 0, 160, 5, 3, 2, 0, 157, 0, 1, 0, 4]), (20, [0, 1], [30, 0, 1, 1, 158, -1, 0, 0]), (20, [0, 1], [30, 0, -1, 1, 158, 1, 0, 0]), (20, [0], [50, 2, 0, 164, 165, 4, 7, 1, 3, 2, 0, 164, 0, 0, 0, 3, 2, 0, 165, 0, 23]), (20, [0], [30, 4, 1, 1, 159]), (20, [0], [30, -4, -1, 1, 159]), (20, [0, 2], [50, 1, 0, 8, 1, 3, 2, 0, 8, 1, 1]), (20, [0, 3], [50, 1, 0, 159, 1, 3, 2, 0, 159, 1, 1])], [(20, [0], [50, 2, 1, 158, 157, 160, 2, 12, 0, 7, 4, 3, 2, 0, 158, 0, 1, 2, 0, 157, 2, 7, 0, 3, 2, 0, 157, 0, 2010, 3, 14, 1, 10, 3, 0, 160, 5, 3, 2, 0, 157, 0, 1, 0, 0, 1, 10, 3, 0, 160, 5, 3, 2, 0, 157, 0, 1, 0, 4]), (20, [1, 0], [30, 0, 1, 0, 0, -1, 1, 158]), (20, [0], [30, 4, 1, 1, 159]), (20, [0], [30, -4, -1, 1, 159]), (20, [0, 1, 2, 3], [60, 4, 5, 2, 8, 158, 164, 10, 160, 161, 162, 163, 1])], [(0, 0, 2009, []), (0, 0, 5, []), (0, 0, 13, [])]))
abbrev b_Mo_sum_at_f5 : ByteArray := prog_15_method_224_code
def y_Mo_sum_at_f5 : MethodName := ⟨"DrawingHouseModel", "sum", "()J"⟩
abbrev z_Mo_sum_at_f5 : List Cond := Cond.code y_Mo_sum_at_f5 b_Mo_sum_at_f5 6 (some .long) :: lw_g
def e_Mo_sum_at_f5 : en_T := ([(2, 0, 0, [165])], some (1, -9223372036854775808, 9223372036854775807, []), false, 32, 0, 0, [], [], (0, [(165, 8), (165, 9), (165, 158), (165, 159)], [(20, [0], [50, 2, 1, 158, 157, 160, 2, 12, 0, 7, 4, 3, 2, 0, 158, 0, 1, 2, 0, 157, 2, 7, 0, 3, 2, 0, 157, 0, 2010, 3, 14, 1, 10, 3, 0, 160, 5, 3, 2, 0, 157, 0, 1, 0, 0, 1, 10, 3, 0, 160, 5, 3, 2, 0, 157, 0, 1, 0, 4]), (20, [0, 1], [30, 0, 1, 1, 158, -1, 0, 0]), (20, [0, 1], [30, 0, -1, 1, 158, 1, 0, 0]), (20, [0], [50, 2, 0, 164, 165, 4, 7, 1, 3, 2, 0, 164, 0, 0, 0, 3, 2, 0, 165, 0, 23]), (20, [0], [30, 5, 1, 1, 159]), (20, [0], [30, -5, -1, 1, 159]), (20, [0, 2], [50, 1, 0, 8, 1, 3, 2, 0, 8, 1, 1]), (20, [0, 3], [50, 1, 0, 159, 1, 3, 2, 0, 159, 1, 1])], [(20, [0], [50, 2, 1, 158, 157, 160, 2, 12, 0, 7, 4, 3, 2, 0, 158, 0, 1, 2, 0, 157, 2, 7, 0, 3, 2, 0, 157, 0, 2010, 3, 14, 1, 10, 3, 0, 160, 5, 3, 2, 0, 157, 0, 1, 0, 0, 1, 10, 3, 0, 160, 5, 3, 2, 0, 157, 0, 1, 0, 4]), (20, [1, 0], [30, 0, 1, 0, 0, -1, 1, 158]), (20, [0], [30, 5, 1, 1, 159]), (20, [0], [30, -5, -1, 1, 159]), (20, [0, 1, 2, 3], [60, 4, 5, 2, 8, 158, 164, 10, 160, 161, 162, 163, 1])], [(0, 0, 2009, []), (0, 0, 5, []), (0, 0, 13, [])]))
abbrev b_Mo_sum_at_f6 : ByteArray := prog_15_method_224_code
def y_Mo_sum_at_f6 : MethodName := ⟨"DrawingHouseModel", "sum", "()J"⟩
abbrev z_Mo_sum_at_f6 : List Cond := Cond.code y_Mo_sum_at_f6 b_Mo_sum_at_f6 6 (some .long) :: lw_g
def e_Mo_sum_at_f6 : en_T := ([(2, 0, 0, [165])], some (1, -9223372036854775808, 9223372036854775807, []), false, 29, 0, 0, [], [], (0, [(165, 8), (165, 9), (165, 158), (165, 159)], [(20, [0], [50, 2, 1, 158, 157, 160, 2, 12, 0, 7, 4, 3, 2, 0, 158, 0, 1, 2, 0, 157, 2, 7, 0, 3, 2, 0, 157, 0, 2010, 3, 14, 1, 10, 3, 0, 160, 5, 3, 2, 0, 157, 0, 1, 0, 0, 1, 10, 3, 0, 160, 5, 3, 2, 0, 157, 0, 1, 0, 4]), (20, [0, 1], [30, 0, 1, 1, 158, -1, 0, 0]), (20, [0, 1], [30, 0, -1, 1, 158, 1, 0, 0]), (20, [0], [50, 2, 0, 164, 165, 4, 7, 1, 3, 2, 0, 164, 0, 0, 0, 3, 2, 0, 165, 0, 23]), (20, [0], [30, 6, 1, 1, 159]), (20, [0], [30, -6, -1, 1, 159]), (20, [0, 2], [50, 1, 0, 8, 1, 3, 2, 0, 8, 1, 1]), (20, [0, 3], [50, 1, 0, 159, 1, 3, 2, 0, 159, 1, 1])], [(20, [0], [50, 2, 1, 158, 157, 160, 2, 12, 0, 7, 4, 3, 2, 0, 158, 0, 1, 2, 0, 157, 2, 7, 0, 3, 2, 0, 157, 0, 2010, 3, 14, 1, 10, 3, 0, 160, 5, 3, 2, 0, 157, 0, 1, 0, 0, 1, 10, 3, 0, 160, 5, 3, 2, 0, 157, 0, 1, 0, 4]), (20, [1, 0], [30, 0, 1, 0, 0, -1, 1, 158]), (20, [0], [30, 6, 1, 1, 159]), (20, [0], [30, -6, -1, 1, 159]), (20, [0, 1, 2, 3], [60, 4, 5, 2, 8, 158, 164, 10, 160, 161, 162, 163, 1])], [(0, 0, 2009, []), (0, 0, 5, []), (0, 0, 13, [])]))
abbrev b_Mo_sum_at_f7 : ByteArray := prog_15_method_224_code
def y_Mo_sum_at_f7 : MethodName := ⟨"DrawingHouseModel", "sum", "()J"⟩
abbrev z_Mo_sum_at_f7 : List Cond := Cond.code y_Mo_sum_at_f7 b_Mo_sum_at_f7 6 (some .long) :: lw_g
def e_Mo_sum_at_f7 : en_T := ([(2, 0, 0, [165])], some (1, -9223372036854775808, 9223372036854775807, []), false, 26, 0, 0, [], [], (0, [(165, 8), (165, 9), (165, 158), (165, 159)], [(20, [0], [50, 2, 1, 158, 157, 160, 2, 12, 0, 7, 4, 3, 2, 0, 158, 0, 1, 2, 0, 157, 2, 7, 0, 3, 2, 0, 157, 0, 2010, 3, 14, 1, 10, 3, 0, 160, 5, 3, 2, 0, 157, 0, 1, 0, 0, 1, 10, 3, 0, 160, 5, 3, 2, 0, 157, 0, 1, 0, 4]), (20, [0, 1], [30, 0, 1, 1, 158, -1, 0, 0]), (20, [0, 1], [30, 0, -1, 1, 158, 1, 0, 0]), (20, [0], [50, 2, 0, 164, 165, 4, 7, 1, 3, 2, 0, 164, 0, 0, 0, 3, 2, 0, 165, 0, 23]), (20, [0], [30, 7, 1, 1, 159]), (20, [0], [30, -7, -1, 1, 159]), (20, [0, 2], [50, 1, 0, 8, 1, 3, 2, 0, 8, 1, 1]), (20, [0, 3], [50, 1, 0, 159, 1, 3, 2, 0, 159, 1, 1])], [(20, [0], [50, 2, 1, 158, 157, 160, 2, 12, 0, 7, 4, 3, 2, 0, 158, 0, 1, 2, 0, 157, 2, 7, 0, 3, 2, 0, 157, 0, 2010, 3, 14, 1, 10, 3, 0, 160, 5, 3, 2, 0, 157, 0, 1, 0, 0, 1, 10, 3, 0, 160, 5, 3, 2, 0, 157, 0, 1, 0, 4]), (20, [1, 0], [30, 0, 1, 0, 0, -1, 1, 158]), (20, [0], [30, 7, 1, 1, 159]), (20, [0], [30, -7, -1, 1, 159]), (20, [0, 1, 2, 3], [60, 4, 5, 2, 8, 158, 164, 10, 160, 161, 162, 163, 1])], [(0, 0, 2009, []), (0, 0, 5, []), (0, 0, 13, [])]))
abbrev b_Mo_sum_at_f8 : ByteArray := prog_15_method_224_code
def y_Mo_sum_at_f8 : MethodName := ⟨"DrawingHouseModel", "sum", "()J"⟩
abbrev z_Mo_sum_at_f8 : List Cond := Cond.code y_Mo_sum_at_f8 b_Mo_sum_at_f8 6 (some .long) :: lw_g
def e_Mo_sum_at_f8 : en_T := ([(2, 0, 0, [165])], some (1, -9223372036854775808, 9223372036854775807, []), false, 23, 0, 0, [], [], (0, [(165, 8), (165, 9), (165, 158), (165, 159)], [(20, [0], [50, 2, 1, 158, 157, 160, 2, 12, 0, 7, 4, 3, 2, 0, 158, 0, 1, 2, 0, 157, 2, 7, 0, 3, 2, 0, 157, 0, 2010, 3, 14, 1, 10, 3, 0, 160, 5, 3, 2, 0, 157, 0, 1, 0, 0, 1, 10, 3, 0, 160, 5, 3, 2, 0, 157, 0, 1, 0, 4]), (20, [0, 1], [30, 0, 1, 1, 158, -1, 0, 0]), (20, [0, 1], [30, 0, -1, 1, 158, 1, 0, 0]), (20, [0], [50, 2, 0, 164, 165, 4, 7, 1, 3, 2, 0, 164, 0, 0, 0, 3, 2, 0, 165, 0, 23]), (20, [0], [30, 8, 1, 1, 159]), (20, [0], [30, -8, -1, 1, 159]), (20, [0, 2], [50, 1, 0, 8, 1, 3, 2, 0, 8, 1, 1]), (20, [0, 3], [50, 1, 0, 159, 1, 3, 2, 0, 159, 1, 1])], [(20, [0], [50, 2, 1, 158, 157, 160, 2, 12, 0, 7, 4, 3, 2, 0, 158, 0, 1, 2, 0, 157, 2, 7, 0, 3, 2, 0, 157, 0, 2010, 3, 14, 1, 10, 3, 0, 160, 5, 3, 2, 0, 157, 0, 1, 0, 0, 1, 10, 3, 0, 160, 5, 3, 2, 0, 157, 0, 1, 0, 4]), (20, [1, 0], [30, 0, 1, 0, 0, -1, 1, 158]), (20, [0], [30, 8, 1, 1, 159]), (20, [0], [30, -8, -1, 1, 159]), (20, [0, 1, 2, 3], [60, 4, 5, 2, 8, 158, 164, 10, 160, 161, 162, 163, 1])], [(0, 0, 2009, []), (0, 0, 5, []), (0, 0, 13, [])]))
abbrev b_Mo_sum_at_f9 : ByteArray := prog_15_method_224_code
def y_Mo_sum_at_f9 : MethodName := ⟨"DrawingHouseModel", "sum", "()J"⟩
abbrev z_Mo_sum_at_f9 : List Cond := Cond.code y_Mo_sum_at_f9 b_Mo_sum_at_f9 6 (some .long) :: lw_g
def e_Mo_sum_at_f9 : en_T := ([(2, 0, 0, [165])], some (1, -9223372036854775808, 9223372036854775807, []), false, 20, 0, 0, [], [], (0, [(165, 8), (165, 9), (165, 158), (165, 159)], [(20, [0], [50, 2, 1, 158, 157, 160, 2, 12, 0, 7, 4, 3, 2, 0, 158, 0, 1, 2, 0, 157, 2, 7, 0, 3, 2, 0, 157, 0, 2010, 3, 14, 1, 10, 3, 0, 160, 5, 3, 2, 0, 157, 0, 1, 0, 0, 1, 10, 3, 0, 160, 5, 3, 2, 0, 157, 0, 1, 0, 4]), (20, [0, 1], [30, 0, 1, 1, 158, -1, 0, 0]), (20, [0, 1], [30, 0, -1, 1, 158, 1, 0, 0]), (20, [0], [50, 2, 0, 164, 165, 4, 7, 1, 3, 2, 0, 164, 0, 0, 0, 3, 2, 0, 165, 0, 23]), (20, [0], [30, 9, 1, 1, 159]), (20, [0], [30, -9, -1, 1, 159]), (20, [0, 2], [50, 1, 0, 8, 1, 3, 2, 0, 8, 1, 1]), (20, [0, 3], [50, 1, 0, 159, 1, 3, 2, 0, 159, 1, 1])], [(20, [0], [50, 2, 1, 158, 157, 160, 2, 12, 0, 7, 4, 3, 2, 0, 158, 0, 1, 2, 0, 157, 2, 7, 0, 3, 2, 0, 157, 0, 2010, 3, 14, 1, 10, 3, 0, 160, 5, 3, 2, 0, 157, 0, 1, 0, 0, 1, 10, 3, 0, 160, 5, 3, 2, 0, 157, 0, 1, 0, 4]), (20, [1, 0], [30, 0, 1, 0, 0, -1, 1, 158]), (20, [0], [30, 9, 1, 1, 159]), (20, [0], [30, -9, -1, 1, 159]), (20, [0, 1, 2, 3], [60, 4, 5, 2, 8, 158, 164, 10, 160, 161, 162, 163, 1])], [(0, 0, 2009, []), (0, 0, 5, []), (0, 0, 13, [])]))
abbrev b_Pl_lay : ByteArray := prog_8_method_2_code
def y_Pl_lay : MethodName := ⟨"DrawingHouse$PlainWays", "lay", "(IILDrawingHouse$Graph;LDrawingHouse$Facts;LDrawingHouse$Drawing;)I"⟩
abbrev z_Pl_lay : List Cond := Cond.code y_Pl_lay b_Pl_lay 6 (some .int) :: lw_g
def e_Pl_lay : en_T := ([(2, 0, 0, [6]), (0, 3, 7, []), (0, -2147483648, 2147483647, []), (2, 0, 0, [3]), (2, 0, 0, [2]), (2, 0, 0, [0])], some (0, -2, 0, []), false, 16, 0, 0, [], [], (5069983430893274915849367568384, [(0, 7), (0, 9), (6, 0), (6, 1), (6, 8), (6, 11), (6, 13), (6, 14)], [(20, [3, 4], [60, 1, 2, 671, 0, 14, 1004]), (20, [3, 4], [60, 2, 1, 672, 0, 1001, 1004]), (20, [6, 7], [62, 2000000])], [(20, [6, 7], [62, 2000000])], [(2, 0, 0, [12]), (0, 0, 3072, [])]))
abbrev b_Ho_planar : ByteArray := prog_1_method_15_code
def y_Ho_planar : MethodName := ⟨"DrawingHouse", "planar", "(II)I"⟩
abbrev z_Ho_planar : List Cond := Cond.code y_Ho_planar b_Ho_planar 4 (some .int) :: lw_g
def e_Ho_planar : en_T := ([(2, 0, 0, [12]), (0, -2147483648, 2147483647, []), (0, -2147483648, 2147483647, [])], some (0, -1, 144, []), false, 12, 0, 0, [], [], (712230049778071777201162559065590005831303168, [(1, 0), (1, 5), (1, 6), (1, 7), (1, 15), (1, 16), (1, 17), (1, 18), (5, 0), (5, 1), (5, 2), (5, 3), (5, 5), (5, 6), (5, 13), (149, 5), (149, 6), (149, 13)], [(20, [0], [62, 0])], [(20, [0], [62, 0])], []))
abbrev b_Mo_both_at_f0 : ByteArray := prog_15_method_222_code
def y_Mo_both_at_f0 : MethodName := ⟨"DrawingHouseModel", "both", "()Z"⟩
abbrev z_Mo_both_at_f0 : List Cond := Cond.code y_Mo_both_at_f0 b_Mo_both_at_f0 3 (some .boolean) :: lw_g
def e_Mo_both_at_f0 : en_T := ([(2, 0, 0, [165])], some (0, 0, 1, []), false, 49, 0, 0, [], [], (0, [(165, 8), (165, 9), (165, 158), (165, 159)], [(20, [0], [50, 2, 1, 158, 157, 160, 2, 12, 0, 7, 4, 3, 2, 0, 158, 0, 1, 2, 0, 157, 2, 7, 0, 3, 2, 0, 157, 0, 2010, 3, 14, 1, 10, 3, 0, 160, 5, 3, 2, 0, 157, 0, 1, 0, 0, 1, 10, 3, 0, 160, 5, 3, 2, 0, 157, 0, 1, 0, 4]), (20, [0, 1], [30, 0, 1, 1, 158, -1, 0, 0]), (20, [0, 1], [30, 0, -1, 1, 158, 1, 0, 0]), (20, [0], [50, 2, 0, 164, 165, 4, 7, 1, 3, 2, 0, 164, 0, 0, 0, 3, 2, 0, 165, 0, 23]), (20, [0], [30, 0, 1, 1, 159]), (20, [0], [30, 0, -1, 1, 159]), (20, [0, 2], [50, 1, 0, 8, 1, 3, 2, 0, 8, 1, 1]), (20, [0, 3], [50, 1, 0, 159, 1, 3, 2, 0, 159, 1, 1])], [(20, [0], [50, 2, 1, 158, 157, 160, 2, 12, 0, 7, 4, 3, 2, 0, 158, 0, 1, 2, 0, 157, 2, 7, 0, 3, 2, 0, 157, 0, 2010, 3, 14, 1, 10, 3, 0, 160, 5, 3, 2, 0, 157, 0, 1, 0, 0, 1, 10, 3, 0, 160, 5, 3, 2, 0, 157, 0, 1, 0, 4]), (20, [1, 0], [30, 0, 1, 0, 0, -1, 1, 158]), (20, [0], [30, 0, 1, 1, 159]), (20, [0], [30, 0, -1, 1, 159]), (20, [0, 1, 2, 3], [60, 4, 5, 4, 8, 158, 164, 10, 160, 161, 162, 163, 1])], [(0, 0, 2009, []), (0, 0, 5, []), (0, 0, 13, [])]))
abbrev b_Mo_both_at_f1 : ByteArray := prog_15_method_222_code
def y_Mo_both_at_f1 : MethodName := ⟨"DrawingHouseModel", "both", "()Z"⟩
abbrev z_Mo_both_at_f1 : List Cond := Cond.code y_Mo_both_at_f1 b_Mo_both_at_f1 3 (some .boolean) :: lw_g
def e_Mo_both_at_f1 : en_T := ([(2, 0, 0, [165])], some (0, 0, 1, []), false, 46, 0, 0, [], [], (0, [(165, 8), (165, 9), (165, 158), (165, 159)], [(20, [0], [50, 2, 1, 158, 157, 160, 2, 12, 0, 7, 4, 3, 2, 0, 158, 0, 1, 2, 0, 157, 2, 7, 0, 3, 2, 0, 157, 0, 2010, 3, 14, 1, 10, 3, 0, 160, 5, 3, 2, 0, 157, 0, 1, 0, 0, 1, 10, 3, 0, 160, 5, 3, 2, 0, 157, 0, 1, 0, 4]), (20, [0, 1], [30, 0, 1, 1, 158, -1, 0, 0]), (20, [0, 1], [30, 0, -1, 1, 158, 1, 0, 0]), (20, [0], [50, 2, 0, 164, 165, 4, 7, 1, 3, 2, 0, 164, 0, 0, 0, 3, 2, 0, 165, 0, 23]), (20, [0], [30, 1, 1, 1, 159]), (20, [0], [30, -1, -1, 1, 159]), (20, [0, 2], [50, 1, 0, 8, 1, 3, 2, 0, 8, 1, 1]), (20, [0, 3], [50, 1, 0, 159, 1, 3, 2, 0, 159, 1, 1])], [(20, [0], [50, 2, 1, 158, 157, 160, 2, 12, 0, 7, 4, 3, 2, 0, 158, 0, 1, 2, 0, 157, 2, 7, 0, 3, 2, 0, 157, 0, 2010, 3, 14, 1, 10, 3, 0, 160, 5, 3, 2, 0, 157, 0, 1, 0, 0, 1, 10, 3, 0, 160, 5, 3, 2, 0, 157, 0, 1, 0, 4]), (20, [1, 0], [30, 0, 1, 0, 0, -1, 1, 158]), (20, [0], [30, 1, 1, 1, 159]), (20, [0], [30, -1, -1, 1, 159]), (20, [0, 1, 2, 3], [60, 4, 5, 4, 8, 158, 164, 10, 160, 161, 162, 163, 1])], [(0, 0, 2009, []), (0, 0, 5, []), (0, 0, 13, [])]))
abbrev b_Mo_both_at_f10 : ByteArray := prog_15_method_222_code
def y_Mo_both_at_f10 : MethodName := ⟨"DrawingHouseModel", "both", "()Z"⟩
abbrev z_Mo_both_at_f10 : List Cond := Cond.code y_Mo_both_at_f10 b_Mo_both_at_f10 3 (some .boolean) :: lw_g
def e_Mo_both_at_f10 : en_T := ([(2, 0, 0, [165])], some (0, 0, 1, []), false, 19, 0, 0, [], [], (0, [(165, 8), (165, 9), (165, 158), (165, 159)], [(20, [0], [50, 2, 1, 158, 157, 160, 2, 12, 0, 7, 4, 3, 2, 0, 158, 0, 1, 2, 0, 157, 2, 7, 0, 3, 2, 0, 157, 0, 2010, 3, 14, 1, 10, 3, 0, 160, 5, 3, 2, 0, 157, 0, 1, 0, 0, 1, 10, 3, 0, 160, 5, 3, 2, 0, 157, 0, 1, 0, 4]), (20, [0, 1], [30, 0, 1, 1, 158, -1, 0, 0]), (20, [0, 1], [30, 0, -1, 1, 158, 1, 0, 0]), (20, [0], [50, 2, 0, 164, 165, 4, 7, 1, 3, 2, 0, 164, 0, 0, 0, 3, 2, 0, 165, 0, 23]), (20, [0], [30, 10, 1, 1, 159]), (20, [0], [30, -10, -1, 1, 159]), (20, [0, 2], [50, 1, 0, 8, 1, 3, 2, 0, 8, 1, 1]), (20, [0, 3], [50, 1, 0, 159, 1, 3, 2, 0, 159, 1, 1])], [(20, [0], [50, 2, 1, 158, 157, 160, 2, 12, 0, 7, 4, 3, 2, 0, 158, 0, 1, 2, 0, 157, 2, 7, 0, 3, 2, 0, 157, 0, 2010, 3, 14, 1, 10, 3, 0, 160, 5, 3, 2, 0, 157, 0, 1, 0, 0, 1, 10, 3, 0, 160, 5, 3, 2, 0, 157, 0, 1, 0, 4]), (20, [1, 0], [30, 0, 1, 0, 0, -1, 1, 158]), (20, [0], [30, 10, 1, 1, 159]), (20, [0], [30, -10, -1, 1, 159]), (20, [0, 1, 2, 3], [60, 4, 5, 4, 8, 158, 164, 10, 160, 161, 162, 163, 1])], [(0, 0, 2009, []), (0, 0, 5, []), (0, 0, 13, [])]))
abbrev b_Mo_both_at_f11 : ByteArray := prog_15_method_222_code
def y_Mo_both_at_f11 : MethodName := ⟨"DrawingHouseModel", "both", "()Z"⟩
abbrev z_Mo_both_at_f11 : List Cond := Cond.code y_Mo_both_at_f11 b_Mo_both_at_f11 3 (some .boolean) :: lw_g
def e_Mo_both_at_f11 : en_T := ([(2, 0, 0, [165])], some (0, 0, 1, []), false, 16, 0, 0, [], [], (0, [(165, 8), (165, 9), (165, 158), (165, 159)], [(20, [0], [50, 2, 1, 158, 157, 160, 2, 12, 0, 7, 4, 3, 2, 0, 158, 0, 1, 2, 0, 157, 2, 7, 0, 3, 2, 0, 157, 0, 2010, 3, 14, 1, 10, 3, 0, 160, 5, 3, 2, 0, 157, 0, 1, 0, 0, 1, 10, 3, 0, 160, 5, 3, 2, 0, 157, 0, 1, 0, 4]), (20, [0, 1], [30, 0, 1, 1, 158, -1, 0, 0]), (20, [0, 1], [30, 0, -1, 1, 158, 1, 0, 0]), (20, [0], [50, 2, 0, 164, 165, 4, 7, 1, 3, 2, 0, 164, 0, 0, 0, 3, 2, 0, 165, 0, 23]), (20, [0], [30, 11, 1, 1, 159]), (20, [0], [30, -11, -1, 1, 159]), (20, [0, 2], [50, 1, 0, 8, 1, 3, 2, 0, 8, 1, 1]), (20, [0, 3], [50, 1, 0, 159, 1, 3, 2, 0, 159, 1, 1])], [(20, [0], [50, 2, 1, 158, 157, 160, 2, 12, 0, 7, 4, 3, 2, 0, 158, 0, 1, 2, 0, 157, 2, 7, 0, 3, 2, 0, 157, 0, 2010, 3, 14, 1, 10, 3, 0, 160, 5, 3, 2, 0, 157, 0, 1, 0, 0, 1, 10, 3, 0, 160, 5, 3, 2, 0, 157, 0, 1, 0, 4]), (20, [1, 0], [30, 0, 1, 0, 0, -1, 1, 158]), (20, [0], [30, 11, 1, 1, 159]), (20, [0], [30, -11, -1, 1, 159]), (20, [0, 1, 2, 3], [60, 4, 5, 4, 8, 158, 164, 10, 160, 161, 162, 163, 1])], [(0, 0, 2009, []), (0, 0, 5, []), (0, 0, 13, [])]))
abbrev b_Mo_both_at_f12 : ByteArray := prog_15_method_222_code
def y_Mo_both_at_f12 : MethodName := ⟨"DrawingHouseModel", "both", "()Z"⟩
abbrev z_Mo_both_at_f12 : List Cond := Cond.code y_Mo_both_at_f12 b_Mo_both_at_f12 3 (some .boolean) :: lw_g
def e_Mo_both_at_f12 : en_T := ([(2, 0, 0, [165])], some (0, 0, 1, []), false, 13, 0, 0, [], [], (0, [(165, 8), (165, 9), (165, 158), (165, 159)], [(20, [0], [50, 2, 1, 158, 157, 160, 2, 12, 0, 7, 4, 3, 2, 0, 158, 0, 1, 2, 0, 157, 2, 7, 0, 3, 2, 0, 157, 0, 2010, 3, 14, 1, 10, 3, 0, 160, 5, 3, 2, 0, 157, 0, 1, 0, 0, 1, 10, 3, 0, 160, 5, 3, 2, 0, 157, 0, 1, 0, 4]), (20, [0, 1], [30, 0, 1, 1, 158, -1, 0, 0]), (20, [0, 1], [30, 0, -1, 1, 158, 1, 0, 0]), (20, [0], [50, 2, 0, 164, 165, 4, 7, 1, 3, 2, 0, 164, 0, 0, 0, 3, 2, 0, 165, 0, 23]), (20, [0], [30, 12, 1, 1, 159]), (20, [0], [30, -12, -1, 1, 159]), (20, [0, 2], [50, 1, 0, 8, 1, 3, 2, 0, 8, 1, 1]), (20, [0, 3], [50, 1, 0, 159, 1, 3, 2, 0, 159, 1, 1])], [(20, [0], [50, 2, 1, 158, 157, 160, 2, 12, 0, 7, 4, 3, 2, 0, 158, 0, 1, 2, 0, 157, 2, 7, 0, 3, 2, 0, 157, 0, 2010, 3, 14, 1, 10, 3, 0, 160, 5, 3, 2, 0, 157, 0, 1, 0, 0, 1, 10, 3, 0, 160, 5, 3, 2, 0, 157, 0, 1, 0, 4]), (20, [1, 0], [30, 0, 1, 0, 0, -1, 1, 158]), (20, [0], [30, 12, 1, 1, 159]), (20, [0], [30, -12, -1, 1, 159]), (20, [0, 1, 2, 3], [60, 4, 5, 4, 8, 158, 164, 10, 160, 161, 162, 163, 1])], [(0, 0, 2009, []), (0, 0, 5, []), (0, 0, 13, [])]))
abbrev b_Mo_both_at_f13 : ByteArray := prog_15_method_222_code
def y_Mo_both_at_f13 : MethodName := ⟨"DrawingHouseModel", "both", "()Z"⟩
abbrev z_Mo_both_at_f13 : List Cond := Cond.code y_Mo_both_at_f13 b_Mo_both_at_f13 3 (some .boolean) :: lw_g
def e_Mo_both_at_f13 : en_T := ([(2, 0, 0, [165])], some (0, 0, 0, []), false, 8, 0, 0, [], [], (0, [(165, 158)], [(20, [0], [50, 2, 1, 158, 157, 160, 2, 12, 0, 7, 4, 3, 2, 0, 158, 0, 1, 2, 0, 157, 2, 7, 0, 3, 2, 0, 157, 0, 2010, 3, 14, 1, 10, 3, 0, 160, 5, 3, 2, 0, 157, 0, 1, 0, 0, 1, 10, 3, 0, 160, 5, 3, 2, 0, 157, 0, 1, 0, 4]), (20, [0, 1], [30, 0, 1, 1, 158, -1, 0, 0]), (20, [0, 1], [30, 0, -1, 1, 158, 1, 0, 0]), (20, [0], [50, 2, 0, 164, 165, 4, 7, 1, 3, 2, 0, 164, 0, 0, 0, 3, 2, 0, 165, 0, 23]), (20, [0], [30, 13, 1, 1, 159]), (20, [0], [30, -13, -1, 1, 159]), (20, [0], [30, -1, -1, 1, 8]), (20, [0, 2], [50, 1, 0, 8, 1, 3, 2, 0, 8, 1, 1]), (20, [0, 3], [50, 1, 0, 159, 1, 3, 2, 0, 159, 1, 1])], [(20, [0], [50, 2, 1, 158, 157, 160, 2, 12, 0, 7, 4, 3, 2, 0, 158, 0, 1, 2, 0, 157, 2, 7, 0, 3, 2, 0, 157, 0, 2010, 3, 14, 1, 10, 3, 0, 160, 5, 3, 2, 0, 157, 0, 1, 0, 0, 1, 10, 3, 0, 160, 5, 3, 2, 0, 157, 0, 1, 0, 4]), (20, [1, 0], [30, 0, 1, 0, 0, -1, 1, 158]), (20, [0], [30, 13, 1, 1, 159]), (20, [0], [30, -13, -1, 1, 159]), (20, [0], [30, -1, -1, 1, 8]), (20, [0, 1, 2, 3], [60, 4, 5, 4, 8, 158, 164, 10, 160, 161, 162, 163, 1])], [(0, 0, 2009, []), (0, 0, 5, []), (0, 0, 13, [])]))
abbrev b_Mo_both_at_f2 : ByteArray := prog_15_method_222_code
def y_Mo_both_at_f2 : MethodName := ⟨"DrawingHouseModel", "both", "()Z"⟩
abbrev z_Mo_both_at_f2 : List Cond := Cond.code y_Mo_both_at_f2 b_Mo_both_at_f2 3 (some .boolean) :: lw_g
def e_Mo_both_at_f2 : en_T := ([(2, 0, 0, [165])], some (0, 0, 1, []), false, 43, 0, 0, [], [], (0, [(165, 8), (165, 9), (165, 158), (165, 159)], [(20, [0], [50, 2, 1, 158, 157, 160, 2, 12, 0, 7, 4, 3, 2, 0, 158, 0, 1, 2, 0, 157, 2, 7, 0, 3, 2, 0, 157, 0, 2010, 3, 14, 1, 10, 3, 0, 160, 5, 3, 2, 0, 157, 0, 1, 0, 0, 1, 10, 3, 0, 160, 5, 3, 2, 0, 157, 0, 1, 0, 4]), (20, [0, 1], [30, 0, 1, 1, 158, -1, 0, 0]), (20, [0, 1], [30, 0, -1, 1, 158, 1, 0, 0]), (20, [0], [50, 2, 0, 164, 165, 4, 7, 1, 3, 2, 0, 164, 0, 0, 0, 3, 2, 0, 165, 0, 23]), (20, [0], [30, 2, 1, 1, 159]), (20, [0], [30, -2, -1, 1, 159]), (20, [0, 2], [50, 1, 0, 8, 1, 3, 2, 0, 8, 1, 1]), (20, [0, 3], [50, 1, 0, 159, 1, 3, 2, 0, 159, 1, 1])], [(20, [0], [50, 2, 1, 158, 157, 160, 2, 12, 0, 7, 4, 3, 2, 0, 158, 0, 1, 2, 0, 157, 2, 7, 0, 3, 2, 0, 157, 0, 2010, 3, 14, 1, 10, 3, 0, 160, 5, 3, 2, 0, 157, 0, 1, 0, 0, 1, 10, 3, 0, 160, 5, 3, 2, 0, 157, 0, 1, 0, 4]), (20, [1, 0], [30, 0, 1, 0, 0, -1, 1, 158]), (20, [0], [30, 2, 1, 1, 159]), (20, [0], [30, -2, -1, 1, 159]), (20, [0, 1, 2, 3], [60, 4, 5, 4, 8, 158, 164, 10, 160, 161, 162, 163, 1])], [(0, 0, 2009, []), (0, 0, 5, []), (0, 0, 13, [])]))
abbrev b_Mo_both_at_f3 : ByteArray := prog_15_method_222_code
def y_Mo_both_at_f3 : MethodName := ⟨"DrawingHouseModel", "both", "()Z"⟩
abbrev z_Mo_both_at_f3 : List Cond := Cond.code y_Mo_both_at_f3 b_Mo_both_at_f3 3 (some .boolean) :: lw_g
def e_Mo_both_at_f3 : en_T := ([(2, 0, 0, [165])], some (0, 0, 1, []), false, 40, 0, 0, [], [], (0, [(165, 8), (165, 9), (165, 158), (165, 159)], [(20, [0], [50, 2, 1, 158, 157, 160, 2, 12, 0, 7, 4, 3, 2, 0, 158, 0, 1, 2, 0, 157, 2, 7, 0, 3, 2, 0, 157, 0, 2010, 3, 14, 1, 10, 3, 0, 160, 5, 3, 2, 0, 157, 0, 1, 0, 0, 1, 10, 3, 0, 160, 5, 3, 2, 0, 157, 0, 1, 0, 4]), (20, [0, 1], [30, 0, 1, 1, 158, -1, 0, 0]), (20, [0, 1], [30, 0, -1, 1, 158, 1, 0, 0]), (20, [0], [50, 2, 0, 164, 165, 4, 7, 1, 3, 2, 0, 164, 0, 0, 0, 3, 2, 0, 165, 0, 23]), (20, [0], [30, 3, 1, 1, 159]), (20, [0], [30, -3, -1, 1, 159]), (20, [0, 2], [50, 1, 0, 8, 1, 3, 2, 0, 8, 1, 1]), (20, [0, 3], [50, 1, 0, 159, 1, 3, 2, 0, 159, 1, 1])], [(20, [0], [50, 2, 1, 158, 157, 160, 2, 12, 0, 7, 4, 3, 2, 0, 158, 0, 1, 2, 0, 157, 2, 7, 0, 3, 2, 0, 157, 0, 2010, 3, 14, 1, 10, 3, 0, 160, 5, 3, 2, 0, 157, 0, 1, 0, 0, 1, 10, 3, 0, 160, 5, 3, 2, 0, 157, 0, 1, 0, 4]), (20, [1, 0], [30, 0, 1, 0, 0, -1, 1, 158]), (20, [0], [30, 3, 1, 1, 159]), (20, [0], [30, -3, -1, 1, 159]), (20, [0, 1, 2, 3], [60, 4, 5, 4, 8, 158, 164, 10, 160, 161, 162, 163, 1])], [(0, 0, 2009, []), (0, 0, 5, []), (0, 0, 13, [])]))
abbrev b_Mo_both_at_f4 : ByteArray := prog_15_method_222_code
def y_Mo_both_at_f4 : MethodName := ⟨"DrawingHouseModel", "both", "()Z"⟩
abbrev z_Mo_both_at_f4 : List Cond := Cond.code y_Mo_both_at_f4 b_Mo_both_at_f4 3 (some .boolean) :: lw_g
def e_Mo_both_at_f4 : en_T := ([(2, 0, 0, [165])], some (0, 0, 1, []), false, 37, 0, 0, [], [], (0, [(165, 8), (165, 9), (165, 158), (165, 159)], [(20, [0], [50, 2, 1, 158, 157, 160, 2, 12, 0, 7, 4, 3, 2, 0, 158, 0, 1, 2, 0, 157, 2, 7, 0, 3, 2, 0, 157, 0, 2010, 3, 14, 1, 10, 3, 0, 160, 5, 3, 2, 0, 157, 0, 1, 0, 0, 1, 10, 3, 0, 160, 5, 3, 2, 0, 157, 0, 1, 0, 4]), (20, [0, 1], [30, 0, 1, 1, 158, -1, 0, 0]), (20, [0, 1], [30, 0, -1, 1, 158, 1, 0, 0]), (20, [0], [50, 2, 0, 164, 165, 4, 7, 1, 3, 2, 0, 164, 0, 0, 0, 3, 2, 0, 165, 0, 23]), (20, [0], [30, 4, 1, 1, 159]), (20, [0], [30, -4, -1, 1, 159]), (20, [0, 2], [50, 1, 0, 8, 1, 3, 2, 0, 8, 1, 1]), (20, [0, 3], [50, 1, 0, 159, 1, 3, 2, 0, 159, 1, 1])], [(20, [0], [50, 2, 1, 158, 157, 160, 2, 12, 0, 7, 4, 3, 2, 0, 158, 0, 1, 2, 0, 157, 2, 7, 0, 3, 2, 0, 157, 0, 2010, 3, 14, 1, 10, 3, 0, 160, 5, 3, 2, 0, 157, 0, 1, 0, 0, 1, 10, 3, 0, 160, 5, 3, 2, 0, 157, 0, 1, 0, 4]), (20, [1, 0], [30, 0, 1, 0, 0, -1, 1, 158]), (20, [0], [30, 4, 1, 1, 159]), (20, [0], [30, -4, -1, 1, 159]), (20, [0, 1, 2, 3], [60, 4, 5, 4, 8, 158, 164, 10, 160, 161, 162, 163, 1])], [(0, 0, 2009, []), (0, 0, 5, []), (0, 0, 13, [])]))
abbrev b_Mo_both_at_f5 : ByteArray := prog_15_method_222_code
def y_Mo_both_at_f5 : MethodName := ⟨"DrawingHouseModel", "both", "()Z"⟩
abbrev z_Mo_both_at_f5 : List Cond := Cond.code y_Mo_both_at_f5 b_Mo_both_at_f5 3 (some .boolean) :: lw_g
def e_Mo_both_at_f5 : en_T := ([(2, 0, 0, [165])], some (0, 0, 1, []), false, 34, 0, 0, [], [], (0, [(165, 8), (165, 9), (165, 158), (165, 159)], [(20, [0], [50, 2, 1, 158, 157, 160, 2, 12, 0, 7, 4, 3, 2, 0, 158, 0, 1, 2, 0, 157, 2, 7, 0, 3, 2, 0, 157, 0, 2010, 3, 14, 1, 10, 3, 0, 160, 5, 3, 2, 0, 157, 0, 1, 0, 0, 1, 10, 3, 0, 160, 5, 3, 2, 0, 157, 0, 1, 0, 4]), (20, [0, 1], [30, 0, 1, 1, 158, -1, 0, 0]), (20, [0, 1], [30, 0, -1, 1, 158, 1, 0, 0]), (20, [0], [50, 2, 0, 164, 165, 4, 7, 1, 3, 2, 0, 164, 0, 0, 0, 3, 2, 0, 165, 0, 23]), (20, [0], [30, 5, 1, 1, 159]), (20, [0], [30, -5, -1, 1, 159]), (20, [0, 2], [50, 1, 0, 8, 1, 3, 2, 0, 8, 1, 1]), (20, [0, 3], [50, 1, 0, 159, 1, 3, 2, 0, 159, 1, 1])], [(20, [0], [50, 2, 1, 158, 157, 160, 2, 12, 0, 7, 4, 3, 2, 0, 158, 0, 1, 2, 0, 157, 2, 7, 0, 3, 2, 0, 157, 0, 2010, 3, 14, 1, 10, 3, 0, 160, 5, 3, 2, 0, 157, 0, 1, 0, 0, 1, 10, 3, 0, 160, 5, 3, 2, 0, 157, 0, 1, 0, 4]), (20, [1, 0], [30, 0, 1, 0, 0, -1, 1, 158]), (20, [0], [30, 5, 1, 1, 159]), (20, [0], [30, -5, -1, 1, 159]), (20, [0, 1, 2, 3], [60, 4, 5, 4, 8, 158, 164, 10, 160, 161, 162, 163, 1])], [(0, 0, 2009, []), (0, 0, 5, []), (0, 0, 13, [])]))
abbrev b_Mo_both_at_f6 : ByteArray := prog_15_method_222_code
def y_Mo_both_at_f6 : MethodName := ⟨"DrawingHouseModel", "both", "()Z"⟩
abbrev z_Mo_both_at_f6 : List Cond := Cond.code y_Mo_both_at_f6 b_Mo_both_at_f6 3 (some .boolean) :: lw_g
def e_Mo_both_at_f6 : en_T := ([(2, 0, 0, [165])], some (0, 0, 1, []), false, 31, 0, 0, [], [], (0, [(165, 8), (165, 9), (165, 158), (165, 159)], [(20, [0], [50, 2, 1, 158, 157, 160, 2, 12, 0, 7, 4, 3, 2, 0, 158, 0, 1, 2, 0, 157, 2, 7, 0, 3, 2, 0, 157, 0, 2010, 3, 14, 1, 10, 3, 0, 160, 5, 3, 2, 0, 157, 0, 1, 0, 0, 1, 10, 3, 0, 160, 5, 3, 2, 0, 157, 0, 1, 0, 4]), (20, [0, 1], [30, 0, 1, 1, 158, -1, 0, 0]), (20, [0, 1], [30, 0, -1, 1, 158, 1, 0, 0]), (20, [0], [50, 2, 0, 164, 165, 4, 7, 1, 3, 2, 0, 164, 0, 0, 0, 3, 2, 0, 165, 0, 23]), (20, [0], [30, 6, 1, 1, 159]), (20, [0], [30, -6, -1, 1, 159]), (20, [0, 2], [50, 1, 0, 8, 1, 3, 2, 0, 8, 1, 1]), (20, [0, 3], [50, 1, 0, 159, 1, 3, 2, 0, 159, 1, 1])], [(20, [0], [50, 2, 1, 158, 157, 160, 2, 12, 0, 7, 4, 3, 2, 0, 158, 0, 1, 2, 0, 157, 2, 7, 0, 3, 2, 0, 157, 0, 2010, 3, 14, 1, 10, 3, 0, 160, 5, 3, 2, 0, 157, 0, 1, 0, 0, 1, 10, 3, 0, 160, 5, 3, 2, 0, 157, 0, 1, 0, 4]), (20, [1, 0], [30, 0, 1, 0, 0, -1, 1, 158]), (20, [0], [30, 6, 1, 1, 159]), (20, [0], [30, -6, -1, 1, 159]), (20, [0, 1, 2, 3], [60, 4, 5, 4, 8, 158, 164, 10, 160, 161, 162, 163, 1])], [(0, 0, 2009, []), (0, 0, 5, []), (0, 0, 13, [])]))
abbrev b_Mo_both_at_f7 : ByteArray := prog_15_method_222_code
def y_Mo_both_at_f7 : MethodName := ⟨"DrawingHouseModel", "both", "()Z"⟩
abbrev z_Mo_both_at_f7 : List Cond := Cond.code y_Mo_both_at_f7 b_Mo_both_at_f7 3 (some .boolean) :: lw_g
def e_Mo_both_at_f7 : en_T := ([(2, 0, 0, [165])], some (0, 0, 1, []), false, 28, 0, 0, [], [], (0, [(165, 8), (165, 9), (165, 158), (165, 159)], [(20, [0], [50, 2, 1, 158, 157, 160, 2, 12, 0, 7, 4, 3, 2, 0, 158, 0, 1, 2, 0, 157, 2, 7, 0, 3, 2, 0, 157, 0, 2010, 3, 14, 1, 10, 3, 0, 160, 5, 3, 2, 0, 157, 0, 1, 0, 0, 1, 10, 3, 0, 160, 5, 3, 2, 0, 157, 0, 1, 0, 4]), (20, [0, 1], [30, 0, 1, 1, 158, -1, 0, 0]), (20, [0, 1], [30, 0, -1, 1, 158, 1, 0, 0]), (20, [0], [50, 2, 0, 164, 165, 4, 7, 1, 3, 2, 0, 164, 0, 0, 0, 3, 2, 0, 165, 0, 23]), (20, [0], [30, 7, 1, 1, 159]), (20, [0], [30, -7, -1, 1, 159]), (20, [0, 2], [50, 1, 0, 8, 1, 3, 2, 0, 8, 1, 1]), (20, [0, 3], [50, 1, 0, 159, 1, 3, 2, 0, 159, 1, 1])], [(20, [0], [50, 2, 1, 158, 157, 160, 2, 12, 0, 7, 4, 3, 2, 0, 158, 0, 1, 2, 0, 157, 2, 7, 0, 3, 2, 0, 157, 0, 2010, 3, 14, 1, 10, 3, 0, 160, 5, 3, 2, 0, 157, 0, 1, 0, 0, 1, 10, 3, 0, 160, 5, 3, 2, 0, 157, 0, 1, 0, 4]), (20, [1, 0], [30, 0, 1, 0, 0, -1, 1, 158]), (20, [0], [30, 7, 1, 1, 159]), (20, [0], [30, -7, -1, 1, 159]), (20, [0, 1, 2, 3], [60, 4, 5, 4, 8, 158, 164, 10, 160, 161, 162, 163, 1])], [(0, 0, 2009, []), (0, 0, 5, []), (0, 0, 13, [])]))
abbrev b_Mo_both_at_f8 : ByteArray := prog_15_method_222_code
def y_Mo_both_at_f8 : MethodName := ⟨"DrawingHouseModel", "both", "()Z"⟩
abbrev z_Mo_both_at_f8 : List Cond := Cond.code y_Mo_both_at_f8 b_Mo_both_at_f8 3 (some .boolean) :: lw_g
def e_Mo_both_at_f8 : en_T := ([(2, 0, 0, [165])], some (0, 0, 1, []), false, 25, 0, 0, [], [], (0, [(165, 8), (165, 9), (165, 158), (165, 159)], [(20, [0], [50, 2, 1, 158, 157, 160, 2, 12, 0, 7, 4, 3, 2, 0, 158, 0, 1, 2, 0, 157, 2, 7, 0, 3, 2, 0, 157, 0, 2010, 3, 14, 1, 10, 3, 0, 160, 5, 3, 2, 0, 157, 0, 1, 0, 0, 1, 10, 3, 0, 160, 5, 3, 2, 0, 157, 0, 1, 0, 4]), (20, [0, 1], [30, 0, 1, 1, 158, -1, 0, 0]), (20, [0, 1], [30, 0, -1, 1, 158, 1, 0, 0]), (20, [0], [50, 2, 0, 164, 165, 4, 7, 1, 3, 2, 0, 164, 0, 0, 0, 3, 2, 0, 165, 0, 23]), (20, [0], [30, 8, 1, 1, 159]), (20, [0], [30, -8, -1, 1, 159]), (20, [0, 2], [50, 1, 0, 8, 1, 3, 2, 0, 8, 1, 1]), (20, [0, 3], [50, 1, 0, 159, 1, 3, 2, 0, 159, 1, 1])], [(20, [0], [50, 2, 1, 158, 157, 160, 2, 12, 0, 7, 4, 3, 2, 0, 158, 0, 1, 2, 0, 157, 2, 7, 0, 3, 2, 0, 157, 0, 2010, 3, 14, 1, 10, 3, 0, 160, 5, 3, 2, 0, 157, 0, 1, 0, 0, 1, 10, 3, 0, 160, 5, 3, 2, 0, 157, 0, 1, 0, 4]), (20, [1, 0], [30, 0, 1, 0, 0, -1, 1, 158]), (20, [0], [30, 8, 1, 1, 159]), (20, [0], [30, -8, -1, 1, 159]), (20, [0, 1, 2, 3], [60, 4, 5, 4, 8, 158, 164, 10, 160, 161, 162, 163, 1])], [(0, 0, 2009, []), (0, 0, 5, []), (0, 0, 13, [])]))
abbrev b_Mo_both_at_f9 : ByteArray := prog_15_method_222_code
def y_Mo_both_at_f9 : MethodName := ⟨"DrawingHouseModel", "both", "()Z"⟩
abbrev z_Mo_both_at_f9 : List Cond := Cond.code y_Mo_both_at_f9 b_Mo_both_at_f9 3 (some .boolean) :: lw_g
def e_Mo_both_at_f9 : en_T := ([(2, 0, 0, [165])], some (0, 0, 1, []), false, 22, 0, 0, [], [], (0, [(165, 8), (165, 9), (165, 158), (165, 159)], [(20, [0], [50, 2, 1, 158, 157, 160, 2, 12, 0, 7, 4, 3, 2, 0, 158, 0, 1, 2, 0, 157, 2, 7, 0, 3, 2, 0, 157, 0, 2010, 3, 14, 1, 10, 3, 0, 160, 5, 3, 2, 0, 157, 0, 1, 0, 0, 1, 10, 3, 0, 160, 5, 3, 2, 0, 157, 0, 1, 0, 4]), (20, [0, 1], [30, 0, 1, 1, 158, -1, 0, 0]), (20, [0, 1], [30, 0, -1, 1, 158, 1, 0, 0]), (20, [0], [50, 2, 0, 164, 165, 4, 7, 1, 3, 2, 0, 164, 0, 0, 0, 3, 2, 0, 165, 0, 23]), (20, [0], [30, 9, 1, 1, 159]), (20, [0], [30, -9, -1, 1, 159]), (20, [0, 2], [50, 1, 0, 8, 1, 3, 2, 0, 8, 1, 1]), (20, [0, 3], [50, 1, 0, 159, 1, 3, 2, 0, 159, 1, 1])], [(20, [0], [50, 2, 1, 158, 157, 160, 2, 12, 0, 7, 4, 3, 2, 0, 158, 0, 1, 2, 0, 157, 2, 7, 0, 3, 2, 0, 157, 0, 2010, 3, 14, 1, 10, 3, 0, 160, 5, 3, 2, 0, 157, 0, 1, 0, 0, 1, 10, 3, 0, 160, 5, 3, 2, 0, 157, 0, 1, 0, 4]), (20, [1, 0], [30, 0, 1, 0, 0, -1, 1, 158]), (20, [0], [30, 9, 1, 1, 159]), (20, [0], [30, -9, -1, 1, 159]), (20, [0, 1, 2, 3], [60, 4, 5, 4, 8, 158, 164, 10, 160, 161, 162, 163, 1])], [(0, 0, 2009, []), (0, 0, 5, []), (0, 0, 13, [])]))
abbrev b_Mo_layers : ByteArray := prog_15_method_124_code
def y_Mo_layers : MethodName := ⟨"DrawingHouseModel", "layers", "(I)I"⟩
abbrev z_Mo_layers : List Cond := Cond.code y_Mo_layers b_Mo_layers 10 (some .int) :: lw_g
def e_Mo_layers : en_T := ([(2, 0, 0, [165]), (0, 0, 3, [])], some (0, -2, 0, []), false, 11, 0, 0, [], [], (14424539436827486914846178076255073192429604072863412324765144246767950233600, [(165, 79), (165, 80), (165, 81), (165, 94), (165, 99), (165, 100), (165, 101), (165, 107)], [(20, [0], [60, 1, 1, 197, 5, 2]), (20, [0], [60, 0, 3, 367, 110, 111, 112]), (20, [0], [50, 1, 1, 5, 2, 0, 2, 0, 1, 3, 0, 2, 2, 0, 5])], [], []))
abbrev b_Mo_oneTest_at_f0 : ByteArray := prog_15_method_223_code
def y_Mo_oneTest_at_f0 : MethodName := ⟨"DrawingHouseModel", "oneTest", "()Z"⟩
abbrev z_Mo_oneTest_at_f0 : List Cond := Cond.code y_Mo_oneTest_at_f0 b_Mo_oneTest_at_f0 6 (some .boolean) :: lw_g
def e_Mo_oneTest_at_f0 : en_T := ([(2, 0, 0, [165])], some (0, 0, 1, []), false, 48, 0, 0, [], [], (0, [(165, 8), (165, 9), (165, 158), (165, 159)], [(20, [0], [50, 2, 1, 158, 157, 160, 2, 12, 0, 7, 4, 3, 2, 0, 158, 0, 1, 2, 0, 157, 2, 7, 0, 3, 2, 0, 157, 0, 2010, 3, 14, 1, 10, 3, 0, 160, 5, 3, 2, 0, 157, 0, 1, 0, 0, 1, 10, 3, 0, 160, 5, 3, 2, 0, 157, 0, 1, 0, 4]), (20, [0, 1], [30, 0, 1, 1, 158, -1, 0, 0]), (20, [0, 1], [30, 0, -1, 1, 158, 1, 0, 0]), (20, [0], [50, 2, 0, 164, 165, 4, 7, 1, 3, 2, 0, 164, 0, 0, 0, 3, 2, 0, 165, 0, 23]), (20, [0], [30, 0, 1, 1, 159]), (20, [0], [30, 0, -1, 1, 159]), (20, [0, 2], [50, 1, 0, 8, 1, 3, 2, 0, 8, 1, 1]), (20, [0, 3], [50, 1, 0, 159, 1, 3, 2, 0, 159, 1, 1])], [(20, [0], [50, 2, 1, 158, 157, 160, 2, 12, 0, 7, 4, 3, 2, 0, 158, 0, 1, 2, 0, 157, 2, 7, 0, 3, 2, 0, 157, 0, 2010, 3, 14, 1, 10, 3, 0, 160, 5, 3, 2, 0, 157, 0, 1, 0, 0, 1, 10, 3, 0, 160, 5, 3, 2, 0, 157, 0, 1, 0, 4]), (20, [1, 0], [30, 0, 1, 0, 0, -1, 1, 158]), (20, [0], [30, 0, 1, 1, 159]), (20, [0], [30, 0, -1, 1, 159]), (20, [0, 1, 2, 3], [60, 4, 5, 3, 8, 158, 164, 10, 160, 161, 162, 163, 1])], [(0, 0, 2009, []), (0, 0, 5, []), (0, 0, 13, [])]))
abbrev b_Mo_oneTest_at_f1 : ByteArray := prog_15_method_223_code
def y_Mo_oneTest_at_f1 : MethodName := ⟨"DrawingHouseModel", "oneTest", "()Z"⟩
abbrev z_Mo_oneTest_at_f1 : List Cond := Cond.code y_Mo_oneTest_at_f1 b_Mo_oneTest_at_f1 6 (some .boolean) :: lw_g
def e_Mo_oneTest_at_f1 : en_T := ([(2, 0, 0, [165])], some (0, 0, 1, []), false, 45, 0, 0, [], [], (0, [(165, 8), (165, 9), (165, 158), (165, 159)], [(20, [0], [50, 2, 1, 158, 157, 160, 2, 12, 0, 7, 4, 3, 2, 0, 158, 0, 1, 2, 0, 157, 2, 7, 0, 3, 2, 0, 157, 0, 2010, 3, 14, 1, 10, 3, 0, 160, 5, 3, 2, 0, 157, 0, 1, 0, 0, 1, 10, 3, 0, 160, 5, 3, 2, 0, 157, 0, 1, 0, 4]), (20, [0, 1], [30, 0, 1, 1, 158, -1, 0, 0]), (20, [0, 1], [30, 0, -1, 1, 158, 1, 0, 0]), (20, [0], [50, 2, 0, 164, 165, 4, 7, 1, 3, 2, 0, 164, 0, 0, 0, 3, 2, 0, 165, 0, 23]), (20, [0], [30, 1, 1, 1, 159]), (20, [0], [30, -1, -1, 1, 159]), (20, [0, 2], [50, 1, 0, 8, 1, 3, 2, 0, 8, 1, 1]), (20, [0, 3], [50, 1, 0, 159, 1, 3, 2, 0, 159, 1, 1])], [(20, [0], [50, 2, 1, 158, 157, 160, 2, 12, 0, 7, 4, 3, 2, 0, 158, 0, 1, 2, 0, 157, 2, 7, 0, 3, 2, 0, 157, 0, 2010, 3, 14, 1, 10, 3, 0, 160, 5, 3, 2, 0, 157, 0, 1, 0, 0, 1, 10, 3, 0, 160, 5, 3, 2, 0, 157, 0, 1, 0, 4]), (20, [1, 0], [30, 0, 1, 0, 0, -1, 1, 158]), (20, [0], [30, 1, 1, 1, 159]), (20, [0], [30, -1, -1, 1, 159]), (20, [0, 1, 2, 3], [60, 4, 5, 3, 8, 158, 164, 10, 160, 161, 162, 163, 1])], [(0, 0, 2009, []), (0, 0, 5, []), (0, 0, 13, [])]))
abbrev b_Mo_oneTest_at_f10 : ByteArray := prog_15_method_223_code
def y_Mo_oneTest_at_f10 : MethodName := ⟨"DrawingHouseModel", "oneTest", "()Z"⟩
abbrev z_Mo_oneTest_at_f10 : List Cond := Cond.code y_Mo_oneTest_at_f10 b_Mo_oneTest_at_f10 6 (some .boolean) :: lw_g
def e_Mo_oneTest_at_f10 : en_T := ([(2, 0, 0, [165])], some (0, 0, 1, []), false, 18, 0, 0, [], [], (0, [(165, 8), (165, 9), (165, 158), (165, 159)], [(20, [0], [50, 2, 1, 158, 157, 160, 2, 12, 0, 7, 4, 3, 2, 0, 158, 0, 1, 2, 0, 157, 2, 7, 0, 3, 2, 0, 157, 0, 2010, 3, 14, 1, 10, 3, 0, 160, 5, 3, 2, 0, 157, 0, 1, 0, 0, 1, 10, 3, 0, 160, 5, 3, 2, 0, 157, 0, 1, 0, 4]), (20, [0, 1], [30, 0, 1, 1, 158, -1, 0, 0]), (20, [0, 1], [30, 0, -1, 1, 158, 1, 0, 0]), (20, [0], [50, 2, 0, 164, 165, 4, 7, 1, 3, 2, 0, 164, 0, 0, 0, 3, 2, 0, 165, 0, 23]), (20, [0], [30, 10, 1, 1, 159]), (20, [0], [30, -10, -1, 1, 159]), (20, [0, 2], [50, 1, 0, 8, 1, 3, 2, 0, 8, 1, 1]), (20, [0, 3], [50, 1, 0, 159, 1, 3, 2, 0, 159, 1, 1])], [(20, [0], [50, 2, 1, 158, 157, 160, 2, 12, 0, 7, 4, 3, 2, 0, 158, 0, 1, 2, 0, 157, 2, 7, 0, 3, 2, 0, 157, 0, 2010, 3, 14, 1, 10, 3, 0, 160, 5, 3, 2, 0, 157, 0, 1, 0, 0, 1, 10, 3, 0, 160, 5, 3, 2, 0, 157, 0, 1, 0, 4]), (20, [1, 0], [30, 0, 1, 0, 0, -1, 1, 158]), (20, [0], [30, 10, 1, 1, 159]), (20, [0], [30, -10, -1, 1, 159]), (20, [0, 1, 2, 3], [60, 4, 5, 3, 8, 158, 164, 10, 160, 161, 162, 163, 1])], [(0, 0, 2009, []), (0, 0, 5, []), (0, 0, 13, [])]))
abbrev b_Mo_oneTest_at_f11 : ByteArray := prog_15_method_223_code
def y_Mo_oneTest_at_f11 : MethodName := ⟨"DrawingHouseModel", "oneTest", "()Z"⟩
abbrev z_Mo_oneTest_at_f11 : List Cond := Cond.code y_Mo_oneTest_at_f11 b_Mo_oneTest_at_f11 6 (some .boolean) :: lw_g
def e_Mo_oneTest_at_f11 : en_T := ([(2, 0, 0, [165])], some (0, 0, 1, []), false, 15, 0, 0, [], [], (0, [(165, 8), (165, 9), (165, 158), (165, 159)], [(20, [0], [50, 2, 1, 158, 157, 160, 2, 12, 0, 7, 4, 3, 2, 0, 158, 0, 1, 2, 0, 157, 2, 7, 0, 3, 2, 0, 157, 0, 2010, 3, 14, 1, 10, 3, 0, 160, 5, 3, 2, 0, 157, 0, 1, 0, 0, 1, 10, 3, 0, 160, 5, 3, 2, 0, 157, 0, 1, 0, 4]), (20, [0, 1], [30, 0, 1, 1, 158, -1, 0, 0]), (20, [0, 1], [30, 0, -1, 1, 158, 1, 0, 0]), (20, [0], [50, 2, 0, 164, 165, 4, 7, 1, 3, 2, 0, 164, 0, 0, 0, 3, 2, 0, 165, 0, 23]), (20, [0], [30, 11, 1, 1, 159]), (20, [0], [30, -11, -1, 1, 159]), (20, [0, 2], [50, 1, 0, 8, 1, 3, 2, 0, 8, 1, 1]), (20, [0, 3], [50, 1, 0, 159, 1, 3, 2, 0, 159, 1, 1])], [(20, [0], [50, 2, 1, 158, 157, 160, 2, 12, 0, 7, 4, 3, 2, 0, 158, 0, 1, 2, 0, 157, 2, 7, 0, 3, 2, 0, 157, 0, 2010, 3, 14, 1, 10, 3, 0, 160, 5, 3, 2, 0, 157, 0, 1, 0, 0, 1, 10, 3, 0, 160, 5, 3, 2, 0, 157, 0, 1, 0, 4]), (20, [1, 0], [30, 0, 1, 0, 0, -1, 1, 158]), (20, [0], [30, 11, 1, 1, 159]), (20, [0], [30, -11, -1, 1, 159]), (20, [0, 1, 2, 3], [60, 4, 5, 3, 8, 158, 164, 10, 160, 161, 162, 163, 1])], [(0, 0, 2009, []), (0, 0, 5, []), (0, 0, 13, [])]))
abbrev b_Mo_oneTest_at_f12 : ByteArray := prog_15_method_223_code
def y_Mo_oneTest_at_f12 : MethodName := ⟨"DrawingHouseModel", "oneTest", "()Z"⟩
abbrev z_Mo_oneTest_at_f12 : List Cond := Cond.code y_Mo_oneTest_at_f12 b_Mo_oneTest_at_f12 6 (some .boolean) :: lw_g
def e_Mo_oneTest_at_f12 : en_T := ([(2, 0, 0, [165])], some (0, 0, 1, []), false, 12, 0, 0, [], [], (0, [(165, 8), (165, 9), (165, 158), (165, 159)], [(20, [0], [50, 2, 1, 158, 157, 160, 2, 12, 0, 7, 4, 3, 2, 0, 158, 0, 1, 2, 0, 157, 2, 7, 0, 3, 2, 0, 157, 0, 2010, 3, 14, 1, 10, 3, 0, 160, 5, 3, 2, 0, 157, 0, 1, 0, 0, 1, 10, 3, 0, 160, 5, 3, 2, 0, 157, 0, 1, 0, 4]), (20, [0, 1], [30, 0, 1, 1, 158, -1, 0, 0]), (20, [0, 1], [30, 0, -1, 1, 158, 1, 0, 0]), (20, [0], [50, 2, 0, 164, 165, 4, 7, 1, 3, 2, 0, 164, 0, 0, 0, 3, 2, 0, 165, 0, 23]), (20, [0], [30, 12, 1, 1, 159]), (20, [0], [30, -12, -1, 1, 159]), (20, [0, 2], [50, 1, 0, 8, 1, 3, 2, 0, 8, 1, 1]), (20, [0, 3], [50, 1, 0, 159, 1, 3, 2, 0, 159, 1, 1])], [(20, [0], [50, 2, 1, 158, 157, 160, 2, 12, 0, 7, 4, 3, 2, 0, 158, 0, 1, 2, 0, 157, 2, 7, 0, 3, 2, 0, 157, 0, 2010, 3, 14, 1, 10, 3, 0, 160, 5, 3, 2, 0, 157, 0, 1, 0, 0, 1, 10, 3, 0, 160, 5, 3, 2, 0, 157, 0, 1, 0, 4]), (20, [1, 0], [30, 0, 1, 0, 0, -1, 1, 158]), (20, [0], [30, 12, 1, 1, 159]), (20, [0], [30, -12, -1, 1, 159]), (20, [0, 1, 2, 3], [60, 4, 5, 3, 8, 158, 164, 10, 160, 161, 162, 163, 1])], [(0, 0, 2009, []), (0, 0, 5, []), (0, 0, 13, [])]))
abbrev b_Mo_oneTest_at_f13 : ByteArray := prog_15_method_223_code
def y_Mo_oneTest_at_f13 : MethodName := ⟨"DrawingHouseModel", "oneTest", "()Z"⟩
abbrev z_Mo_oneTest_at_f13 : List Cond := Cond.code y_Mo_oneTest_at_f13 b_Mo_oneTest_at_f13 6 (some .boolean) :: lw_g
def e_Mo_oneTest_at_f13 : en_T := ([(2, 0, 0, [165])], some (0, 0, 0, []), false, 6, 0, 0, [], [], (0, [], [(20, [0], [50, 2, 1, 158, 157, 160, 2, 12, 0, 7, 4, 3, 2, 0, 158, 0, 1, 2, 0, 157, 2, 7, 0, 3, 2, 0, 157, 0, 2010, 3, 14, 1, 10, 3, 0, 160, 5, 3, 2, 0, 157, 0, 1, 0, 0, 1, 10, 3, 0, 160, 5, 3, 2, 0, 157, 0, 1, 0, 4]), (20, [0, 1], [30, 0, 1, 1, 158, -1, 0, 0]), (20, [0, 1], [30, 0, -1, 1, 158, 1, 0, 0]), (20, [0], [50, 2, 0, 164, 165, 4, 7, 1, 3, 2, 0, 164, 0, 0, 0, 3, 2, 0, 165, 0, 23]), (20, [0], [30, 13, 1, 1, 159]), (20, [0], [30, -13, -1, 1, 159]), (20, [0], [30, -1, -1, 1, 8]), (20, [0, 2], [50, 1, 0, 8, 1, 3, 2, 0, 8, 1, 1]), (20, [0, 3], [50, 1, 0, 159, 1, 3, 2, 0, 159, 1, 1])], [(20, [0], [50, 2, 1, 158, 157, 160, 2, 12, 0, 7, 4, 3, 2, 0, 158, 0, 1, 2, 0, 157, 2, 7, 0, 3, 2, 0, 157, 0, 2010, 3, 14, 1, 10, 3, 0, 160, 5, 3, 2, 0, 157, 0, 1, 0, 0, 1, 10, 3, 0, 160, 5, 3, 2, 0, 157, 0, 1, 0, 4]), (20, [1, 0], [30, 0, 1, 0, 0, -1, 1, 158]), (20, [0], [30, 13, 1, 1, 159]), (20, [0], [30, -13, -1, 1, 159]), (20, [0], [30, -1, -1, 1, 8]), (20, [0, 1, 2, 3], [60, 4, 5, 3, 8, 158, 164, 10, 160, 161, 162, 163, 1])], [(0, 0, 2009, []), (0, 0, 5, []), (0, 0, 13, [])]))
abbrev b_Mo_oneTest_at_f2 : ByteArray := prog_15_method_223_code
def y_Mo_oneTest_at_f2 : MethodName := ⟨"DrawingHouseModel", "oneTest", "()Z"⟩
abbrev z_Mo_oneTest_at_f2 : List Cond := Cond.code y_Mo_oneTest_at_f2 b_Mo_oneTest_at_f2 6 (some .boolean) :: lw_g
def e_Mo_oneTest_at_f2 : en_T := ([(2, 0, 0, [165])], some (0, 0, 1, []), false, 42, 0, 0, [], [], (0, [(165, 8), (165, 9), (165, 158), (165, 159)], [(20, [0], [50, 2, 1, 158, 157, 160, 2, 12, 0, 7, 4, 3, 2, 0, 158, 0, 1, 2, 0, 157, 2, 7, 0, 3, 2, 0, 157, 0, 2010, 3, 14, 1, 10, 3, 0, 160, 5, 3, 2, 0, 157, 0, 1, 0, 0, 1, 10, 3, 0, 160, 5, 3, 2, 0, 157, 0, 1, 0, 4]), (20, [0, 1], [30, 0, 1, 1, 158, -1, 0, 0]), (20, [0, 1], [30, 0, -1, 1, 158, 1, 0, 0]), (20, [0], [50, 2, 0, 164, 165, 4, 7, 1, 3, 2, 0, 164, 0, 0, 0, 3, 2, 0, 165, 0, 23]), (20, [0], [30, 2, 1, 1, 159]), (20, [0], [30, -2, -1, 1, 159]), (20, [0, 2], [50, 1, 0, 8, 1, 3, 2, 0, 8, 1, 1]), (20, [0, 3], [50, 1, 0, 159, 1, 3, 2, 0, 159, 1, 1])], [(20, [0], [50, 2, 1, 158, 157, 160, 2, 12, 0, 7, 4, 3, 2, 0, 158, 0, 1, 2, 0, 157, 2, 7, 0, 3, 2, 0, 157, 0, 2010, 3, 14, 1, 10, 3, 0, 160, 5, 3, 2, 0, 157, 0, 1, 0, 0, 1, 10, 3, 0, 160, 5, 3, 2, 0, 157, 0, 1, 0, 4]), (20, [1, 0], [30, 0, 1, 0, 0, -1, 1, 158]), (20, [0], [30, 2, 1, 1, 159]), (20, [0], [30, -2, -1, 1, 159]), (20, [0, 1, 2, 3], [60, 4, 5, 3, 8, 158, 164, 10, 160, 161, 162, 163, 1])], [(0, 0, 2009, []), (0, 0, 5, []), (0, 0, 13, [])]))
abbrev b_Mo_oneTest_at_f3 : ByteArray := prog_15_method_223_code
def y_Mo_oneTest_at_f3 : MethodName := ⟨"DrawingHouseModel", "oneTest", "()Z"⟩
abbrev z_Mo_oneTest_at_f3 : List Cond := Cond.code y_Mo_oneTest_at_f3 b_Mo_oneTest_at_f3 6 (some .boolean) :: lw_g
def e_Mo_oneTest_at_f3 : en_T := ([(2, 0, 0, [165])], some (0, 0, 1, []), false, 39, 0, 0, [], [], (0, [(165, 8), (165, 9), (165, 158), (165, 159)], [(20, [0], [50, 2, 1, 158, 157, 160, 2, 12, 0, 7, 4, 3, 2, 0, 158, 0, 1, 2, 0, 157, 2, 7, 0, 3, 2, 0, 157, 0, 2010, 3, 14, 1, 10, 3, 0, 160, 5, 3, 2, 0, 157, 0, 1, 0, 0, 1, 10, 3, 0, 160, 5, 3, 2, 0, 157, 0, 1, 0, 4]), (20, [0, 1], [30, 0, 1, 1, 158, -1, 0, 0]), (20, [0, 1], [30, 0, -1, 1, 158, 1, 0, 0]), (20, [0], [50, 2, 0, 164, 165, 4, 7, 1, 3, 2, 0, 164, 0, 0, 0, 3, 2, 0, 165, 0, 23]), (20, [0], [30, 3, 1, 1, 159]), (20, [0], [30, -3, -1, 1, 159]), (20, [0, 2], [50, 1, 0, 8, 1, 3, 2, 0, 8, 1, 1]), (20, [0, 3], [50, 1, 0, 159, 1, 3, 2, 0, 159, 1, 1])], [(20, [0], [50, 2, 1, 158, 157, 160, 2, 12, 0, 7, 4, 3, 2, 0, 158, 0, 1, 2, 0, 157, 2, 7, 0, 3, 2, 0, 157, 0, 2010, 3, 14, 1, 10, 3, 0, 160, 5, 3, 2, 0, 157, 0, 1, 0, 0, 1, 10, 3, 0, 160, 5, 3, 2, 0, 157, 0, 1, 0, 4]), (20, [1, 0], [30, 0, 1, 0, 0, -1, 1, 158]), (20, [0], [30, 3, 1, 1, 159]), (20, [0], [30, -3, -1, 1, 159]), (20, [0, 1, 2, 3], [60, 4, 5, 3, 8, 158, 164, 10, 160, 161, 162, 163, 1])], [(0, 0, 2009, []), (0, 0, 5, []), (0, 0, 13, [])]))
abbrev b_Mo_oneTest_at_f4 : ByteArray := prog_15_method_223_code
def y_Mo_oneTest_at_f4 : MethodName := ⟨"DrawingHouseModel", "oneTest", "()Z"⟩
abbrev z_Mo_oneTest_at_f4 : List Cond := Cond.code y_Mo_oneTest_at_f4 b_Mo_oneTest_at_f4 6 (some .boolean) :: lw_g
def e_Mo_oneTest_at_f4 : en_T := ([(2, 0, 0, [165])], some (0, 0, 1, []), false, 36, 0, 0, [], [], (0, [(165, 8), (165, 9), (165, 158), (165, 159)], [(20, [0], [50, 2, 1, 158, 157, 160, 2, 12, 0, 7, 4, 3, 2, 0, 158, 0, 1, 2, 0, 157, 2, 7, 0, 3, 2, 0, 157, 0, 2010, 3, 14, 1, 10, 3, 0, 160, 5, 3, 2, 0, 157, 0, 1, 0, 0, 1, 10, 3, 0, 160, 5, 3, 2, 0, 157, 0, 1, 0, 4]), (20, [0, 1], [30, 0, 1, 1, 158, -1, 0, 0]), (20, [0, 1], [30, 0, -1, 1, 158, 1, 0, 0]), (20, [0], [50, 2, 0, 164, 165, 4, 7, 1, 3, 2, 0, 164, 0, 0, 0, 3, 2, 0, 165, 0, 23]), (20, [0], [30, 4, 1, 1, 159]), (20, [0], [30, -4, -1, 1, 159]), (20, [0, 2], [50, 1, 0, 8, 1, 3, 2, 0, 8, 1, 1]), (20, [0, 3], [50, 1, 0, 159, 1, 3, 2, 0, 159, 1, 1])], [(20, [0], [50, 2, 1, 158, 157, 160, 2, 12, 0, 7, 4, 3, 2, 0, 158, 0, 1, 2, 0, 157, 2, 7, 0, 3, 2, 0, 157, 0, 2010, 3, 14, 1, 10, 3, 0, 160, 5, 3, 2, 0, 157, 0, 1, 0, 0, 1, 10, 3, 0, 160, 5, 3, 2, 0, 157, 0, 1, 0, 4]), (20, [1, 0], [30, 0, 1, 0, 0, -1, 1, 158]), (20, [0], [30, 4, 1, 1, 159]), (20, [0], [30, -4, -1, 1, 159]), (20, [0, 1, 2, 3], [60, 4, 5, 3, 8, 158, 164, 10, 160, 161, 162, 163, 1])], [(0, 0, 2009, []), (0, 0, 5, []), (0, 0, 13, [])]))
abbrev b_Mo_oneTest_at_f5 : ByteArray := prog_15_method_223_code
def y_Mo_oneTest_at_f5 : MethodName := ⟨"DrawingHouseModel", "oneTest", "()Z"⟩
abbrev z_Mo_oneTest_at_f5 : List Cond := Cond.code y_Mo_oneTest_at_f5 b_Mo_oneTest_at_f5 6 (some .boolean) :: lw_g
def e_Mo_oneTest_at_f5 : en_T := ([(2, 0, 0, [165])], some (0, 0, 1, []), false, 33, 0, 0, [], [], (0, [(165, 8), (165, 9), (165, 158), (165, 159)], [(20, [0], [50, 2, 1, 158, 157, 160, 2, 12, 0, 7, 4, 3, 2, 0, 158, 0, 1, 2, 0, 157, 2, 7, 0, 3, 2, 0, 157, 0, 2010, 3, 14, 1, 10, 3, 0, 160, 5, 3, 2, 0, 157, 0, 1, 0, 0, 1, 10, 3, 0, 160, 5, 3, 2, 0, 157, 0, 1, 0, 4]), (20, [0, 1], [30, 0, 1, 1, 158, -1, 0, 0]), (20, [0, 1], [30, 0, -1, 1, 158, 1, 0, 0]), (20, [0], [50, 2, 0, 164, 165, 4, 7, 1, 3, 2, 0, 164, 0, 0, 0, 3, 2, 0, 165, 0, 23]), (20, [0], [30, 5, 1, 1, 159]), (20, [0], [30, -5, -1, 1, 159]), (20, [0, 2], [50, 1, 0, 8, 1, 3, 2, 0, 8, 1, 1]), (20, [0, 3], [50, 1, 0, 159, 1, 3, 2, 0, 159, 1, 1])], [(20, [0], [50, 2, 1, 158, 157, 160, 2, 12, 0, 7, 4, 3, 2, 0, 158, 0, 1, 2, 0, 157, 2, 7, 0, 3, 2, 0, 157, 0, 2010, 3, 14, 1, 10, 3, 0, 160, 5, 3, 2, 0, 157, 0, 1, 0, 0, 1, 10, 3, 0, 160, 5, 3, 2, 0, 157, 0, 1, 0, 4]), (20, [1, 0], [30, 0, 1, 0, 0, -1, 1, 158]), (20, [0], [30, 5, 1, 1, 159]), (20, [0], [30, -5, -1, 1, 159]), (20, [0, 1, 2, 3], [60, 4, 5, 3, 8, 158, 164, 10, 160, 161, 162, 163, 1])], [(0, 0, 2009, []), (0, 0, 5, []), (0, 0, 13, [])]))
abbrev b_Mo_oneTest_at_f6 : ByteArray := prog_15_method_223_code
def y_Mo_oneTest_at_f6 : MethodName := ⟨"DrawingHouseModel", "oneTest", "()Z"⟩
abbrev z_Mo_oneTest_at_f6 : List Cond := Cond.code y_Mo_oneTest_at_f6 b_Mo_oneTest_at_f6 6 (some .boolean) :: lw_g
def e_Mo_oneTest_at_f6 : en_T := ([(2, 0, 0, [165])], some (0, 0, 1, []), false, 30, 0, 0, [], [], (0, [(165, 8), (165, 9), (165, 158), (165, 159)], [(20, [0], [50, 2, 1, 158, 157, 160, 2, 12, 0, 7, 4, 3, 2, 0, 158, 0, 1, 2, 0, 157, 2, 7, 0, 3, 2, 0, 157, 0, 2010, 3, 14, 1, 10, 3, 0, 160, 5, 3, 2, 0, 157, 0, 1, 0, 0, 1, 10, 3, 0, 160, 5, 3, 2, 0, 157, 0, 1, 0, 4]), (20, [0, 1], [30, 0, 1, 1, 158, -1, 0, 0]), (20, [0, 1], [30, 0, -1, 1, 158, 1, 0, 0]), (20, [0], [50, 2, 0, 164, 165, 4, 7, 1, 3, 2, 0, 164, 0, 0, 0, 3, 2, 0, 165, 0, 23]), (20, [0], [30, 6, 1, 1, 159]), (20, [0], [30, -6, -1, 1, 159]), (20, [0, 2], [50, 1, 0, 8, 1, 3, 2, 0, 8, 1, 1]), (20, [0, 3], [50, 1, 0, 159, 1, 3, 2, 0, 159, 1, 1])], [(20, [0], [50, 2, 1, 158, 157, 160, 2, 12, 0, 7, 4, 3, 2, 0, 158, 0, 1, 2, 0, 157, 2, 7, 0, 3, 2, 0, 157, 0, 2010, 3, 14, 1, 10, 3, 0, 160, 5, 3, 2, 0, 157, 0, 1, 0, 0, 1, 10, 3, 0, 160, 5, 3, 2, 0, 157, 0, 1, 0, 4]), (20, [1, 0], [30, 0, 1, 0, 0, -1, 1, 158]), (20, [0], [30, 6, 1, 1, 159]), (20, [0], [30, -6, -1, 1, 159]), (20, [0, 1, 2, 3], [60, 4, 5, 3, 8, 158, 164, 10, 160, 161, 162, 163, 1])], [(0, 0, 2009, []), (0, 0, 5, []), (0, 0, 13, [])]))
abbrev b_Mo_oneTest_at_f7 : ByteArray := prog_15_method_223_code
def y_Mo_oneTest_at_f7 : MethodName := ⟨"DrawingHouseModel", "oneTest", "()Z"⟩
abbrev z_Mo_oneTest_at_f7 : List Cond := Cond.code y_Mo_oneTest_at_f7 b_Mo_oneTest_at_f7 6 (some .boolean) :: lw_g
def e_Mo_oneTest_at_f7 : en_T := ([(2, 0, 0, [165])], some (0, 0, 1, []), false, 27, 0, 0, [], [], (0, [(165, 8), (165, 9), (165, 158), (165, 159)], [(20, [0], [50, 2, 1, 158, 157, 160, 2, 12, 0, 7, 4, 3, 2, 0, 158, 0, 1, 2, 0, 157, 2, 7, 0, 3, 2, 0, 157, 0, 2010, 3, 14, 1, 10, 3, 0, 160, 5, 3, 2, 0, 157, 0, 1, 0, 0, 1, 10, 3, 0, 160, 5, 3, 2, 0, 157, 0, 1, 0, 4]), (20, [0, 1], [30, 0, 1, 1, 158, -1, 0, 0]), (20, [0, 1], [30, 0, -1, 1, 158, 1, 0, 0]), (20, [0], [50, 2, 0, 164, 165, 4, 7, 1, 3, 2, 0, 164, 0, 0, 0, 3, 2, 0, 165, 0, 23]), (20, [0], [30, 7, 1, 1, 159]), (20, [0], [30, -7, -1, 1, 159]), (20, [0, 2], [50, 1, 0, 8, 1, 3, 2, 0, 8, 1, 1]), (20, [0, 3], [50, 1, 0, 159, 1, 3, 2, 0, 159, 1, 1])], [(20, [0], [50, 2, 1, 158, 157, 160, 2, 12, 0, 7, 4, 3, 2, 0, 158, 0, 1, 2, 0, 157, 2, 7, 0, 3, 2, 0, 157, 0, 2010, 3, 14, 1, 10, 3, 0, 160, 5, 3, 2, 0, 157, 0, 1, 0, 0, 1, 10, 3, 0, 160, 5, 3, 2, 0, 157, 0, 1, 0, 4]), (20, [1, 0], [30, 0, 1, 0, 0, -1, 1, 158]), (20, [0], [30, 7, 1, 1, 159]), (20, [0], [30, -7, -1, 1, 159]), (20, [0, 1, 2, 3], [60, 4, 5, 3, 8, 158, 164, 10, 160, 161, 162, 163, 1])], [(0, 0, 2009, []), (0, 0, 5, []), (0, 0, 13, [])]))
abbrev b_Mo_oneTest_at_f8 : ByteArray := prog_15_method_223_code
def y_Mo_oneTest_at_f8 : MethodName := ⟨"DrawingHouseModel", "oneTest", "()Z"⟩
abbrev z_Mo_oneTest_at_f8 : List Cond := Cond.code y_Mo_oneTest_at_f8 b_Mo_oneTest_at_f8 6 (some .boolean) :: lw_g
def e_Mo_oneTest_at_f8 : en_T := ([(2, 0, 0, [165])], some (0, 0, 1, []), false, 24, 0, 0, [], [], (0, [(165, 8), (165, 9), (165, 158), (165, 159)], [(20, [0], [50, 2, 1, 158, 157, 160, 2, 12, 0, 7, 4, 3, 2, 0, 158, 0, 1, 2, 0, 157, 2, 7, 0, 3, 2, 0, 157, 0, 2010, 3, 14, 1, 10, 3, 0, 160, 5, 3, 2, 0, 157, 0, 1, 0, 0, 1, 10, 3, 0, 160, 5, 3, 2, 0, 157, 0, 1, 0, 4]), (20, [0, 1], [30, 0, 1, 1, 158, -1, 0, 0]), (20, [0, 1], [30, 0, -1, 1, 158, 1, 0, 0]), (20, [0], [50, 2, 0, 164, 165, 4, 7, 1, 3, 2, 0, 164, 0, 0, 0, 3, 2, 0, 165, 0, 23]), (20, [0], [30, 8, 1, 1, 159]), (20, [0], [30, -8, -1, 1, 159]), (20, [0, 2], [50, 1, 0, 8, 1, 3, 2, 0, 8, 1, 1]), (20, [0, 3], [50, 1, 0, 159, 1, 3, 2, 0, 159, 1, 1])], [(20, [0], [50, 2, 1, 158, 157, 160, 2, 12, 0, 7, 4, 3, 2, 0, 158, 0, 1, 2, 0, 157, 2, 7, 0, 3, 2, 0, 157, 0, 2010, 3, 14, 1, 10, 3, 0, 160, 5, 3, 2, 0, 157, 0, 1, 0, 0, 1, 10, 3, 0, 160, 5, 3, 2, 0, 157, 0, 1, 0, 4]), (20, [1, 0], [30, 0, 1, 0, 0, -1, 1, 158]), (20, [0], [30, 8, 1, 1, 159]), (20, [0], [30, -8, -1, 1, 159]), (20, [0, 1, 2, 3], [60, 4, 5, 3, 8, 158, 164, 10, 160, 161, 162, 163, 1])], [(0, 0, 2009, []), (0, 0, 5, []), (0, 0, 13, [])]))
abbrev b_Mo_oneTest_at_f9 : ByteArray := prog_15_method_223_code
def y_Mo_oneTest_at_f9 : MethodName := ⟨"DrawingHouseModel", "oneTest", "()Z"⟩
abbrev z_Mo_oneTest_at_f9 : List Cond := Cond.code y_Mo_oneTest_at_f9 b_Mo_oneTest_at_f9 6 (some .boolean) :: lw_g
def e_Mo_oneTest_at_f9 : en_T := ([(2, 0, 0, [165])], some (0, 0, 1, []), false, 21, 0, 0, [], [], (0, [(165, 8), (165, 9), (165, 158), (165, 159)], [(20, [0], [50, 2, 1, 158, 157, 160, 2, 12, 0, 7, 4, 3, 2, 0, 158, 0, 1, 2, 0, 157, 2, 7, 0, 3, 2, 0, 157, 0, 2010, 3, 14, 1, 10, 3, 0, 160, 5, 3, 2, 0, 157, 0, 1, 0, 0, 1, 10, 3, 0, 160, 5, 3, 2, 0, 157, 0, 1, 0, 4]), (20, [0, 1], [30, 0, 1, 1, 158, -1, 0, 0]), (20, [0, 1], [30, 0, -1, 1, 158, 1, 0, 0]), (20, [0], [50, 2, 0, 164, 165, 4, 7, 1, 3, 2, 0, 164, 0, 0, 0, 3, 2, 0, 165, 0, 23]), (20, [0], [30, 9, 1, 1, 159]), (20, [0], [30, -9, -1, 1, 159]), (20, [0, 2], [50, 1, 0, 8, 1, 3, 2, 0, 8, 1, 1]), (20, [0, 3], [50, 1, 0, 159, 1, 3, 2, 0, 159, 1, 1])], [(20, [0], [50, 2, 1, 158, 157, 160, 2, 12, 0, 7, 4, 3, 2, 0, 158, 0, 1, 2, 0, 157, 2, 7, 0, 3, 2, 0, 157, 0, 2010, 3, 14, 1, 10, 3, 0, 160, 5, 3, 2, 0, 157, 0, 1, 0, 0, 1, 10, 3, 0, 160, 5, 3, 2, 0, 157, 0, 1, 0, 4]), (20, [1, 0], [30, 0, 1, 0, 0, -1, 1, 158]), (20, [0], [30, 9, 1, 1, 159]), (20, [0], [30, -9, -1, 1, 159]), (20, [0, 1, 2, 3], [60, 4, 5, 3, 8, 158, 164, 10, 160, 161, 162, 163, 1])], [(0, 0, 2009, []), (0, 0, 5, []), (0, 0, 13, [])]))
abbrev b_Mo_test_at_f0 : ByteArray := prog_15_method_221_code
def y_Mo_test_at_f0 : MethodName := ⟨"DrawingHouseModel", "test", "()Z"⟩
abbrev z_Mo_test_at_f0 : List Cond := Cond.code y_Mo_test_at_f0 b_Mo_test_at_f0 3 (some .boolean) :: lw_g
def e_Mo_test_at_f0 : en_T := ([(2, 0, 0, [165])], some (0, 0, 1, []), false, 50, 0, 0, [], [], (0, [(165, 8), (165, 9), (165, 158), (165, 159)], [(20, [0], [50, 2, 1, 158, 157, 160, 2, 12, 0, 7, 4, 3, 2, 0, 158, 0, 1, 2, 0, 157, 2, 7, 0, 3, 2, 0, 157, 0, 2010, 3, 14, 1, 10, 3, 0, 160, 5, 3, 2, 0, 157, 0, 1, 0, 0, 1, 10, 3, 0, 160, 5, 3, 2, 0, 157, 0, 1, 0, 4]), (20, [0, 1], [30, 0, 1, 1, 158, -1, 0, 0]), (20, [0, 1], [30, 0, -1, 1, 158, 1, 0, 0]), (20, [0], [50, 2, 0, 164, 165, 4, 7, 1, 3, 2, 0, 164, 0, 0, 0, 3, 2, 0, 165, 0, 23]), (20, [0], [30, 0, 1, 1, 159]), (20, [0], [30, 0, -1, 1, 159]), (20, [0, 2], [50, 1, 0, 8, 1, 3, 2, 0, 8, 1, 1]), (20, [0, 3], [50, 1, 0, 159, 1, 3, 2, 0, 159, 1, 1])], [(20, [0], [50, 2, 1, 158, 157, 160, 2, 12, 0, 7, 4, 3, 2, 0, 158, 0, 1, 2, 0, 157, 2, 7, 0, 3, 2, 0, 157, 0, 2010, 3, 14, 1, 10, 3, 0, 160, 5, 3, 2, 0, 157, 0, 1, 0, 0, 1, 10, 3, 0, 160, 5, 3, 2, 0, 157, 0, 1, 0, 4]), (20, [1, 0], [30, 0, 1, 0, 0, -1, 1, 158]), (20, [0], [30, 0, 1, 1, 159]), (20, [0], [30, 0, -1, 1, 159]), (20, [0, 1, 2, 3], [60, 4, 5, 5, 8, 158, 164, 10, 160, 161, 162, 163, 1])], [(0, 0, 2009, []), (0, 0, 5, []), (0, 0, 13, [])]))
abbrev b_Mo_test_at_f1 : ByteArray := prog_15_method_221_code
def y_Mo_test_at_f1 : MethodName := ⟨"DrawingHouseModel", "test", "()Z"⟩
abbrev z_Mo_test_at_f1 : List Cond := Cond.code y_Mo_test_at_f1 b_Mo_test_at_f1 3 (some .boolean) :: lw_g
def e_Mo_test_at_f1 : en_T := ([(2, 0, 0, [165])], some (0, 0, 1, []), false, 47, 0, 0, [], [], (0, [(165, 8), (165, 9), (165, 158), (165, 159)], [(20, [0], [50, 2, 1, 158, 157, 160, 2, 12, 0, 7, 4, 3, 2, 0, 158, 0, 1, 2, 0, 157, 2, 7, 0, 3, 2, 0, 157, 0, 2010, 3, 14, 1, 10, 3, 0, 160, 5, 3, 2, 0, 157, 0, 1, 0, 0, 1, 10, 3, 0, 160, 5, 3, 2, 0, 157, 0, 1, 0, 4]), (20, [0, 1], [30, 0, 1, 1, 158, -1, 0, 0]), (20, [0, 1], [30, 0, -1, 1, 158, 1, 0, 0]), (20, [0], [50, 2, 0, 164, 165, 4, 7, 1, 3, 2, 0, 164, 0, 0, 0, 3, 2, 0, 165, 0, 23]), (20, [0], [30, 1, 1, 1, 159]), (20, [0], [30, -1, -1, 1, 159]), (20, [0, 2], [50, 1, 0, 8, 1, 3, 2, 0, 8, 1, 1]), (20, [0, 3], [50, 1, 0, 159, 1, 3, 2, 0, 159, 1, 1])], [(20, [0], [50, 2, 1, 158, 157, 160, 2, 12, 0, 7, 4, 3, 2, 0, 158, 0, 1, 2, 0, 157, 2, 7, 0, 3, 2, 0, 157, 0, 2010, 3, 14, 1, 10, 3, 0, 160, 5, 3, 2, 0, 157, 0, 1, 0, 0, 1, 10, 3, 0, 160, 5, 3, 2, 0, 157, 0, 1, 0, 4]), (20, [1, 0], [30, 0, 1, 0, 0, -1, 1, 158]), (20, [0], [30, 1, 1, 1, 159]), (20, [0], [30, -1, -1, 1, 159]), (20, [0, 1, 2, 3], [60, 4, 5, 5, 8, 158, 164, 10, 160, 161, 162, 163, 1])], [(0, 0, 2009, []), (0, 0, 5, []), (0, 0, 13, [])]))
abbrev b_Mo_test_at_f10 : ByteArray := prog_15_method_221_code
def y_Mo_test_at_f10 : MethodName := ⟨"DrawingHouseModel", "test", "()Z"⟩
abbrev z_Mo_test_at_f10 : List Cond := Cond.code y_Mo_test_at_f10 b_Mo_test_at_f10 3 (some .boolean) :: lw_g
def e_Mo_test_at_f10 : en_T := ([(2, 0, 0, [165])], some (0, 0, 1, []), false, 20, 0, 0, [], [], (0, [(165, 8), (165, 9), (165, 158), (165, 159)], [(20, [0], [50, 2, 1, 158, 157, 160, 2, 12, 0, 7, 4, 3, 2, 0, 158, 0, 1, 2, 0, 157, 2, 7, 0, 3, 2, 0, 157, 0, 2010, 3, 14, 1, 10, 3, 0, 160, 5, 3, 2, 0, 157, 0, 1, 0, 0, 1, 10, 3, 0, 160, 5, 3, 2, 0, 157, 0, 1, 0, 4]), (20, [0, 1], [30, 0, 1, 1, 158, -1, 0, 0]), (20, [0, 1], [30, 0, -1, 1, 158, 1, 0, 0]), (20, [0], [50, 2, 0, 164, 165, 4, 7, 1, 3, 2, 0, 164, 0, 0, 0, 3, 2, 0, 165, 0, 23]), (20, [0], [30, 10, 1, 1, 159]), (20, [0], [30, -10, -1, 1, 159]), (20, [0, 2], [50, 1, 0, 8, 1, 3, 2, 0, 8, 1, 1]), (20, [0, 3], [50, 1, 0, 159, 1, 3, 2, 0, 159, 1, 1])], [(20, [0], [50, 2, 1, 158, 157, 160, 2, 12, 0, 7, 4, 3, 2, 0, 158, 0, 1, 2, 0, 157, 2, 7, 0, 3, 2, 0, 157, 0, 2010, 3, 14, 1, 10, 3, 0, 160, 5, 3, 2, 0, 157, 0, 1, 0, 0, 1, 10, 3, 0, 160, 5, 3, 2, 0, 157, 0, 1, 0, 4]), (20, [1, 0], [30, 0, 1, 0, 0, -1, 1, 158]), (20, [0], [30, 10, 1, 1, 159]), (20, [0], [30, -10, -1, 1, 159]), (20, [0, 1, 2, 3], [60, 4, 5, 5, 8, 158, 164, 10, 160, 161, 162, 163, 1])], [(0, 0, 2009, []), (0, 0, 5, []), (0, 0, 13, [])]))
abbrev b_Mo_test_at_f11 : ByteArray := prog_15_method_221_code
def y_Mo_test_at_f11 : MethodName := ⟨"DrawingHouseModel", "test", "()Z"⟩
abbrev z_Mo_test_at_f11 : List Cond := Cond.code y_Mo_test_at_f11 b_Mo_test_at_f11 3 (some .boolean) :: lw_g
def e_Mo_test_at_f11 : en_T := ([(2, 0, 0, [165])], some (0, 0, 1, []), false, 17, 0, 0, [], [], (0, [(165, 8), (165, 9), (165, 158), (165, 159)], [(20, [0], [50, 2, 1, 158, 157, 160, 2, 12, 0, 7, 4, 3, 2, 0, 158, 0, 1, 2, 0, 157, 2, 7, 0, 3, 2, 0, 157, 0, 2010, 3, 14, 1, 10, 3, 0, 160, 5, 3, 2, 0, 157, 0, 1, 0, 0, 1, 10, 3, 0, 160, 5, 3, 2, 0, 157, 0, 1, 0, 4]), (20, [0, 1], [30, 0, 1, 1, 158, -1, 0, 0]), (20, [0, 1], [30, 0, -1, 1, 158, 1, 0, 0]), (20, [0], [50, 2, 0, 164, 165, 4, 7, 1, 3, 2, 0, 164, 0, 0, 0, 3, 2, 0, 165, 0, 23]), (20, [0], [30, 11, 1, 1, 159]), (20, [0], [30, -11, -1, 1, 159]), (20, [0, 2], [50, 1, 0, 8, 1, 3, 2, 0, 8, 1, 1]), (20, [0, 3], [50, 1, 0, 159, 1, 3, 2, 0, 159, 1, 1])], [(20, [0], [50, 2, 1, 158, 157, 160, 2, 12, 0, 7, 4, 3, 2, 0, 158, 0, 1, 2, 0, 157, 2, 7, 0, 3, 2, 0, 157, 0, 2010, 3, 14, 1, 10, 3, 0, 160, 5, 3, 2, 0, 157, 0, 1, 0, 0, 1, 10, 3, 0, 160, 5, 3, 2, 0, 157, 0, 1, 0, 4]), (20, [1, 0], [30, 0, 1, 0, 0, -1, 1, 158]), (20, [0], [30, 11, 1, 1, 159]), (20, [0], [30, -11, -1, 1, 159]), (20, [0, 1, 2, 3], [60, 4, 5, 5, 8, 158, 164, 10, 160, 161, 162, 163, 1])], [(0, 0, 2009, []), (0, 0, 5, []), (0, 0, 13, [])]))
abbrev b_Mo_test_at_f12 : ByteArray := prog_15_method_221_code
def y_Mo_test_at_f12 : MethodName := ⟨"DrawingHouseModel", "test", "()Z"⟩
abbrev z_Mo_test_at_f12 : List Cond := Cond.code y_Mo_test_at_f12 b_Mo_test_at_f12 3 (some .boolean) :: lw_g
def e_Mo_test_at_f12 : en_T := ([(2, 0, 0, [165])], some (0, 0, 1, []), false, 14, 0, 0, [], [], (0, [(165, 8), (165, 9), (165, 158), (165, 159)], [(20, [0], [50, 2, 1, 158, 157, 160, 2, 12, 0, 7, 4, 3, 2, 0, 158, 0, 1, 2, 0, 157, 2, 7, 0, 3, 2, 0, 157, 0, 2010, 3, 14, 1, 10, 3, 0, 160, 5, 3, 2, 0, 157, 0, 1, 0, 0, 1, 10, 3, 0, 160, 5, 3, 2, 0, 157, 0, 1, 0, 4]), (20, [0, 1], [30, 0, 1, 1, 158, -1, 0, 0]), (20, [0, 1], [30, 0, -1, 1, 158, 1, 0, 0]), (20, [0], [50, 2, 0, 164, 165, 4, 7, 1, 3, 2, 0, 164, 0, 0, 0, 3, 2, 0, 165, 0, 23]), (20, [0], [30, 12, 1, 1, 159]), (20, [0], [30, -12, -1, 1, 159]), (20, [0, 2], [50, 1, 0, 8, 1, 3, 2, 0, 8, 1, 1]), (20, [0, 3], [50, 1, 0, 159, 1, 3, 2, 0, 159, 1, 1])], [(20, [0], [50, 2, 1, 158, 157, 160, 2, 12, 0, 7, 4, 3, 2, 0, 158, 0, 1, 2, 0, 157, 2, 7, 0, 3, 2, 0, 157, 0, 2010, 3, 14, 1, 10, 3, 0, 160, 5, 3, 2, 0, 157, 0, 1, 0, 0, 1, 10, 3, 0, 160, 5, 3, 2, 0, 157, 0, 1, 0, 4]), (20, [1, 0], [30, 0, 1, 0, 0, -1, 1, 158]), (20, [0], [30, 12, 1, 1, 159]), (20, [0], [30, -12, -1, 1, 159]), (20, [0, 1, 2, 3], [60, 4, 5, 5, 8, 158, 164, 10, 160, 161, 162, 163, 1])], [(0, 0, 2009, []), (0, 0, 5, []), (0, 0, 13, [])]))
abbrev b_Mo_test_at_f13 : ByteArray := prog_15_method_221_code
def y_Mo_test_at_f13 : MethodName := ⟨"DrawingHouseModel", "test", "()Z"⟩
abbrev z_Mo_test_at_f13 : List Cond := Cond.code y_Mo_test_at_f13 b_Mo_test_at_f13 3 (some .boolean) :: lw_g
def e_Mo_test_at_f13 : en_T := ([(2, 0, 0, [165])], some (0, 0, 0, []), false, 9, 0, 0, [], [], (0, [(165, 158)], [(20, [0], [50, 2, 1, 158, 157, 160, 2, 12, 0, 7, 4, 3, 2, 0, 158, 0, 1, 2, 0, 157, 2, 7, 0, 3, 2, 0, 157, 0, 2010, 3, 14, 1, 10, 3, 0, 160, 5, 3, 2, 0, 157, 0, 1, 0, 0, 1, 10, 3, 0, 160, 5, 3, 2, 0, 157, 0, 1, 0, 4]), (20, [0, 1], [30, 0, 1, 1, 158, -1, 0, 0]), (20, [0, 1], [30, 0, -1, 1, 158, 1, 0, 0]), (20, [0], [50, 2, 0, 164, 165, 4, 7, 1, 3, 2, 0, 164, 0, 0, 0, 3, 2, 0, 165, 0, 23]), (20, [0], [30, 13, 1, 1, 159]), (20, [0], [30, -13, -1, 1, 159]), (20, [0], [30, -1, -1, 1, 8]), (20, [0, 2], [50, 1, 0, 8, 1, 3, 2, 0, 8, 1, 1]), (20, [0, 3], [50, 1, 0, 159, 1, 3, 2, 0, 159, 1, 1])], [(20, [0], [50, 2, 1, 158, 157, 160, 2, 12, 0, 7, 4, 3, 2, 0, 158, 0, 1, 2, 0, 157, 2, 7, 0, 3, 2, 0, 157, 0, 2010, 3, 14, 1, 10, 3, 0, 160, 5, 3, 2, 0, 157, 0, 1, 0, 0, 1, 10, 3, 0, 160, 5, 3, 2, 0, 157, 0, 1, 0, 4]), (20, [1, 0], [30, 0, 1, 0, 0, -1, 1, 158]), (20, [0], [30, 13, 1, 1, 159]), (20, [0], [30, -13, -1, 1, 159]), (20, [0], [30, -1, -1, 1, 8]), (20, [0, 1, 2, 3], [60, 4, 5, 5, 8, 158, 164, 10, 160, 161, 162, 163, 1])], [(0, 0, 2009, []), (0, 0, 5, []), (0, 0, 13, [])]))
abbrev b_Mo_test_at_f2 : ByteArray := prog_15_method_221_code
def y_Mo_test_at_f2 : MethodName := ⟨"DrawingHouseModel", "test", "()Z"⟩
abbrev z_Mo_test_at_f2 : List Cond := Cond.code y_Mo_test_at_f2 b_Mo_test_at_f2 3 (some .boolean) :: lw_g
def e_Mo_test_at_f2 : en_T := ([(2, 0, 0, [165])], some (0, 0, 1, []), false, 44, 0, 0, [], [], (0, [(165, 8), (165, 9), (165, 158), (165, 159)], [(20, [0], [50, 2, 1, 158, 157, 160, 2, 12, 0, 7, 4, 3, 2, 0, 158, 0, 1, 2, 0, 157, 2, 7, 0, 3, 2, 0, 157, 0, 2010, 3, 14, 1, 10, 3, 0, 160, 5, 3, 2, 0, 157, 0, 1, 0, 0, 1, 10, 3, 0, 160, 5, 3, 2, 0, 157, 0, 1, 0, 4]), (20, [0, 1], [30, 0, 1, 1, 158, -1, 0, 0]), (20, [0, 1], [30, 0, -1, 1, 158, 1, 0, 0]), (20, [0], [50, 2, 0, 164, 165, 4, 7, 1, 3, 2, 0, 164, 0, 0, 0, 3, 2, 0, 165, 0, 23]), (20, [0], [30, 2, 1, 1, 159]), (20, [0], [30, -2, -1, 1, 159]), (20, [0, 2], [50, 1, 0, 8, 1, 3, 2, 0, 8, 1, 1]), (20, [0, 3], [50, 1, 0, 159, 1, 3, 2, 0, 159, 1, 1])], [(20, [0], [50, 2, 1, 158, 157, 160, 2, 12, 0, 7, 4, 3, 2, 0, 158, 0, 1, 2, 0, 157, 2, 7, 0, 3, 2, 0, 157, 0, 2010, 3, 14, 1, 10, 3, 0, 160, 5, 3, 2, 0, 157, 0, 1, 0, 0, 1, 10, 3, 0, 160, 5, 3, 2, 0, 157, 0, 1, 0, 4]), (20, [1, 0], [30, 0, 1, 0, 0, -1, 1, 158]), (20, [0], [30, 2, 1, 1, 159]), (20, [0], [30, -2, -1, 1, 159]), (20, [0, 1, 2, 3], [60, 4, 5, 5, 8, 158, 164, 10, 160, 161, 162, 163, 1])], [(0, 0, 2009, []), (0, 0, 5, []), (0, 0, 13, [])]))
abbrev b_Mo_test_at_f3 : ByteArray := prog_15_method_221_code
def y_Mo_test_at_f3 : MethodName := ⟨"DrawingHouseModel", "test", "()Z"⟩
abbrev z_Mo_test_at_f3 : List Cond := Cond.code y_Mo_test_at_f3 b_Mo_test_at_f3 3 (some .boolean) :: lw_g
def e_Mo_test_at_f3 : en_T := ([(2, 0, 0, [165])], some (0, 0, 1, []), false, 41, 0, 0, [], [], (0, [(165, 8), (165, 9), (165, 158), (165, 159)], [(20, [0], [50, 2, 1, 158, 157, 160, 2, 12, 0, 7, 4, 3, 2, 0, 158, 0, 1, 2, 0, 157, 2, 7, 0, 3, 2, 0, 157, 0, 2010, 3, 14, 1, 10, 3, 0, 160, 5, 3, 2, 0, 157, 0, 1, 0, 0, 1, 10, 3, 0, 160, 5, 3, 2, 0, 157, 0, 1, 0, 4]), (20, [0, 1], [30, 0, 1, 1, 158, -1, 0, 0]), (20, [0, 1], [30, 0, -1, 1, 158, 1, 0, 0]), (20, [0], [50, 2, 0, 164, 165, 4, 7, 1, 3, 2, 0, 164, 0, 0, 0, 3, 2, 0, 165, 0, 23]), (20, [0], [30, 3, 1, 1, 159]), (20, [0], [30, -3, -1, 1, 159]), (20, [0, 2], [50, 1, 0, 8, 1, 3, 2, 0, 8, 1, 1]), (20, [0, 3], [50, 1, 0, 159, 1, 3, 2, 0, 159, 1, 1])], [(20, [0], [50, 2, 1, 158, 157, 160, 2, 12, 0, 7, 4, 3, 2, 0, 158, 0, 1, 2, 0, 157, 2, 7, 0, 3, 2, 0, 157, 0, 2010, 3, 14, 1, 10, 3, 0, 160, 5, 3, 2, 0, 157, 0, 1, 0, 0, 1, 10, 3, 0, 160, 5, 3, 2, 0, 157, 0, 1, 0, 4]), (20, [1, 0], [30, 0, 1, 0, 0, -1, 1, 158]), (20, [0], [30, 3, 1, 1, 159]), (20, [0], [30, -3, -1, 1, 159]), (20, [0, 1, 2, 3], [60, 4, 5, 5, 8, 158, 164, 10, 160, 161, 162, 163, 1])], [(0, 0, 2009, []), (0, 0, 5, []), (0, 0, 13, [])]))
abbrev b_Mo_test_at_f4 : ByteArray := prog_15_method_221_code
def y_Mo_test_at_f4 : MethodName := ⟨"DrawingHouseModel", "test", "()Z"⟩
abbrev z_Mo_test_at_f4 : List Cond := Cond.code y_Mo_test_at_f4 b_Mo_test_at_f4 3 (some .boolean) :: lw_g
def e_Mo_test_at_f4 : en_T := ([(2, 0, 0, [165])], some (0, 0, 1, []), false, 38, 0, 0, [], [], (0, [(165, 8), (165, 9), (165, 158), (165, 159)], [(20, [0], [50, 2, 1, 158, 157, 160, 2, 12, 0, 7, 4, 3, 2, 0, 158, 0, 1, 2, 0, 157, 2, 7, 0, 3, 2, 0, 157, 0, 2010, 3, 14, 1, 10, 3, 0, 160, 5, 3, 2, 0, 157, 0, 1, 0, 0, 1, 10, 3, 0, 160, 5, 3, 2, 0, 157, 0, 1, 0, 4]), (20, [0, 1], [30, 0, 1, 1, 158, -1, 0, 0]), (20, [0, 1], [30, 0, -1, 1, 158, 1, 0, 0]), (20, [0], [50, 2, 0, 164, 165, 4, 7, 1, 3, 2, 0, 164, 0, 0, 0, 3, 2, 0, 165, 0, 23]), (20, [0], [30, 4, 1, 1, 159]), (20, [0], [30, -4, -1, 1, 159]), (20, [0, 2], [50, 1, 0, 8, 1, 3, 2, 0, 8, 1, 1]), (20, [0, 3], [50, 1, 0, 159, 1, 3, 2, 0, 159, 1, 1])], [(20, [0], [50, 2, 1, 158, 157, 160, 2, 12, 0, 7, 4, 3, 2, 0, 158, 0, 1, 2, 0, 157, 2, 7, 0, 3, 2, 0, 157, 0, 2010, 3, 14, 1, 10, 3, 0, 160, 5, 3, 2, 0, 157, 0, 1, 0, 0, 1, 10, 3, 0, 160, 5, 3, 2, 0, 157, 0, 1, 0, 4]), (20, [1, 0], [30, 0, 1, 0, 0, -1, 1, 158]), (20, [0], [30, 4, 1, 1, 159]), (20, [0], [30, -4, -1, 1, 159]), (20, [0, 1, 2, 3], [60, 4, 5, 5, 8, 158, 164, 10, 160, 161, 162, 163, 1])], [(0, 0, 2009, []), (0, 0, 5, []), (0, 0, 13, [])]))
abbrev b_Mo_test_at_f5 : ByteArray := prog_15_method_221_code
def y_Mo_test_at_f5 : MethodName := ⟨"DrawingHouseModel", "test", "()Z"⟩
abbrev z_Mo_test_at_f5 : List Cond := Cond.code y_Mo_test_at_f5 b_Mo_test_at_f5 3 (some .boolean) :: lw_g
def e_Mo_test_at_f5 : en_T := ([(2, 0, 0, [165])], some (0, 0, 1, []), false, 35, 0, 0, [], [], (0, [(165, 8), (165, 9), (165, 158), (165, 159)], [(20, [0], [50, 2, 1, 158, 157, 160, 2, 12, 0, 7, 4, 3, 2, 0, 158, 0, 1, 2, 0, 157, 2, 7, 0, 3, 2, 0, 157, 0, 2010, 3, 14, 1, 10, 3, 0, 160, 5, 3, 2, 0, 157, 0, 1, 0, 0, 1, 10, 3, 0, 160, 5, 3, 2, 0, 157, 0, 1, 0, 4]), (20, [0, 1], [30, 0, 1, 1, 158, -1, 0, 0]), (20, [0, 1], [30, 0, -1, 1, 158, 1, 0, 0]), (20, [0], [50, 2, 0, 164, 165, 4, 7, 1, 3, 2, 0, 164, 0, 0, 0, 3, 2, 0, 165, 0, 23]), (20, [0], [30, 5, 1, 1, 159]), (20, [0], [30, -5, -1, 1, 159]), (20, [0, 2], [50, 1, 0, 8, 1, 3, 2, 0, 8, 1, 1]), (20, [0, 3], [50, 1, 0, 159, 1, 3, 2, 0, 159, 1, 1])], [(20, [0], [50, 2, 1, 158, 157, 160, 2, 12, 0, 7, 4, 3, 2, 0, 158, 0, 1, 2, 0, 157, 2, 7, 0, 3, 2, 0, 157, 0, 2010, 3, 14, 1, 10, 3, 0, 160, 5, 3, 2, 0, 157, 0, 1, 0, 0, 1, 10, 3, 0, 160, 5, 3, 2, 0, 157, 0, 1, 0, 4]), (20, [1, 0], [30, 0, 1, 0, 0, -1, 1, 158]), (20, [0], [30, 5, 1, 1, 159]), (20, [0], [30, -5, -1, 1, 159]), (20, [0, 1, 2, 3], [60, 4, 5, 5, 8, 158, 164, 10, 160, 161, 162, 163, 1])], [(0, 0, 2009, []), (0, 0, 5, []), (0, 0, 13, [])]))
abbrev b_Mo_test_at_f6 : ByteArray := prog_15_method_221_code
def y_Mo_test_at_f6 : MethodName := ⟨"DrawingHouseModel", "test", "()Z"⟩
abbrev z_Mo_test_at_f6 : List Cond := Cond.code y_Mo_test_at_f6 b_Mo_test_at_f6 3 (some .boolean) :: lw_g
def e_Mo_test_at_f6 : en_T := ([(2, 0, 0, [165])], some (0, 0, 1, []), false, 32, 0, 0, [], [], (0, [(165, 8), (165, 9), (165, 158), (165, 159)], [(20, [0], [50, 2, 1, 158, 157, 160, 2, 12, 0, 7, 4, 3, 2, 0, 158, 0, 1, 2, 0, 157, 2, 7, 0, 3, 2, 0, 157, 0, 2010, 3, 14, 1, 10, 3, 0, 160, 5, 3, 2, 0, 157, 0, 1, 0, 0, 1, 10, 3, 0, 160, 5, 3, 2, 0, 157, 0, 1, 0, 4]), (20, [0, 1], [30, 0, 1, 1, 158, -1, 0, 0]), (20, [0, 1], [30, 0, -1, 1, 158, 1, 0, 0]), (20, [0], [50, 2, 0, 164, 165, 4, 7, 1, 3, 2, 0, 164, 0, 0, 0, 3, 2, 0, 165, 0, 23]), (20, [0], [30, 6, 1, 1, 159]), (20, [0], [30, -6, -1, 1, 159]), (20, [0, 2], [50, 1, 0, 8, 1, 3, 2, 0, 8, 1, 1]), (20, [0, 3], [50, 1, 0, 159, 1, 3, 2, 0, 159, 1, 1])], [(20, [0], [50, 2, 1, 158, 157, 160, 2, 12, 0, 7, 4, 3, 2, 0, 158, 0, 1, 2, 0, 157, 2, 7, 0, 3, 2, 0, 157, 0, 2010, 3, 14, 1, 10, 3, 0, 160, 5, 3, 2, 0, 157, 0, 1, 0, 0, 1, 10, 3, 0, 160, 5, 3, 2, 0, 157, 0, 1, 0, 4]), (20, [1, 0], [30, 0, 1, 0, 0, -1, 1, 158]), (20, [0], [30, 6, 1, 1, 159]), (20, [0], [30, -6, -1, 1, 159]), (20, [0, 1, 2, 3], [60, 4, 5, 5, 8, 158, 164, 10, 160, 161, 162, 163, 1])], [(0, 0, 2009, []), (0, 0, 5, []), (0, 0, 13, [])]))
abbrev b_Mo_test_at_f7 : ByteArray := prog_15_method_221_code
def y_Mo_test_at_f7 : MethodName := ⟨"DrawingHouseModel", "test", "()Z"⟩
abbrev z_Mo_test_at_f7 : List Cond := Cond.code y_Mo_test_at_f7 b_Mo_test_at_f7 3 (some .boolean) :: lw_g
def e_Mo_test_at_f7 : en_T := ([(2, 0, 0, [165])], some (0, 0, 1, []), false, 29, 0, 0, [], [], (0, [(165, 8), (165, 9), (165, 158), (165, 159)], [(20, [0], [50, 2, 1, 158, 157, 160, 2, 12, 0, 7, 4, 3, 2, 0, 158, 0, 1, 2, 0, 157, 2, 7, 0, 3, 2, 0, 157, 0, 2010, 3, 14, 1, 10, 3, 0, 160, 5, 3, 2, 0, 157, 0, 1, 0, 0, 1, 10, 3, 0, 160, 5, 3, 2, 0, 157, 0, 1, 0, 4]), (20, [0, 1], [30, 0, 1, 1, 158, -1, 0, 0]), (20, [0, 1], [30, 0, -1, 1, 158, 1, 0, 0]), (20, [0], [50, 2, 0, 164, 165, 4, 7, 1, 3, 2, 0, 164, 0, 0, 0, 3, 2, 0, 165, 0, 23]), (20, [0], [30, 7, 1, 1, 159]), (20, [0], [30, -7, -1, 1, 159]), (20, [0, 2], [50, 1, 0, 8, 1, 3, 2, 0, 8, 1, 1]), (20, [0, 3], [50, 1, 0, 159, 1, 3, 2, 0, 159, 1, 1])], [(20, [0], [50, 2, 1, 158, 157, 160, 2, 12, 0, 7, 4, 3, 2, 0, 158, 0, 1, 2, 0, 157, 2, 7, 0, 3, 2, 0, 157, 0, 2010, 3, 14, 1, 10, 3, 0, 160, 5, 3, 2, 0, 157, 0, 1, 0, 0, 1, 10, 3, 0, 160, 5, 3, 2, 0, 157, 0, 1, 0, 4]), (20, [1, 0], [30, 0, 1, 0, 0, -1, 1, 158]), (20, [0], [30, 7, 1, 1, 159]), (20, [0], [30, -7, -1, 1, 159]), (20, [0, 1, 2, 3], [60, 4, 5, 5, 8, 158, 164, 10, 160, 161, 162, 163, 1])], [(0, 0, 2009, []), (0, 0, 5, []), (0, 0, 13, [])]))
abbrev b_Mo_test_at_f8 : ByteArray := prog_15_method_221_code
def y_Mo_test_at_f8 : MethodName := ⟨"DrawingHouseModel", "test", "()Z"⟩
abbrev z_Mo_test_at_f8 : List Cond := Cond.code y_Mo_test_at_f8 b_Mo_test_at_f8 3 (some .boolean) :: lw_g
def e_Mo_test_at_f8 : en_T := ([(2, 0, 0, [165])], some (0, 0, 1, []), false, 26, 0, 0, [], [], (0, [(165, 8), (165, 9), (165, 158), (165, 159)], [(20, [0], [50, 2, 1, 158, 157, 160, 2, 12, 0, 7, 4, 3, 2, 0, 158, 0, 1, 2, 0, 157, 2, 7, 0, 3, 2, 0, 157, 0, 2010, 3, 14, 1, 10, 3, 0, 160, 5, 3, 2, 0, 157, 0, 1, 0, 0, 1, 10, 3, 0, 160, 5, 3, 2, 0, 157, 0, 1, 0, 4]), (20, [0, 1], [30, 0, 1, 1, 158, -1, 0, 0]), (20, [0, 1], [30, 0, -1, 1, 158, 1, 0, 0]), (20, [0], [50, 2, 0, 164, 165, 4, 7, 1, 3, 2, 0, 164, 0, 0, 0, 3, 2, 0, 165, 0, 23]), (20, [0], [30, 8, 1, 1, 159]), (20, [0], [30, -8, -1, 1, 159]), (20, [0, 2], [50, 1, 0, 8, 1, 3, 2, 0, 8, 1, 1]), (20, [0, 3], [50, 1, 0, 159, 1, 3, 2, 0, 159, 1, 1])], [(20, [0], [50, 2, 1, 158, 157, 160, 2, 12, 0, 7, 4, 3, 2, 0, 158, 0, 1, 2, 0, 157, 2, 7, 0, 3, 2, 0, 157, 0, 2010, 3, 14, 1, 10, 3, 0, 160, 5, 3, 2, 0, 157, 0, 1, 0, 0, 1, 10, 3, 0, 160, 5, 3, 2, 0, 157, 0, 1, 0, 4]), (20, [1, 0], [30, 0, 1, 0, 0, -1, 1, 158]), (20, [0], [30, 8, 1, 1, 159]), (20, [0], [30, -8, -1, 1, 159]), (20, [0, 1, 2, 3], [60, 4, 5, 5, 8, 158, 164, 10, 160, 161, 162, 163, 1])], [(0, 0, 2009, []), (0, 0, 5, []), (0, 0, 13, [])]))
abbrev b_Mo_test_at_f9 : ByteArray := prog_15_method_221_code
def y_Mo_test_at_f9 : MethodName := ⟨"DrawingHouseModel", "test", "()Z"⟩
abbrev z_Mo_test_at_f9 : List Cond := Cond.code y_Mo_test_at_f9 b_Mo_test_at_f9 3 (some .boolean) :: lw_g
def e_Mo_test_at_f9 : en_T := ([(2, 0, 0, [165])], some (0, 0, 1, []), false, 23, 0, 0, [], [], (0, [(165, 8), (165, 9), (165, 158), (165, 159)], [(20, [0], [50, 2, 1, 158, 157, 160, 2, 12, 0, 7, 4, 3, 2, 0, 158, 0, 1, 2, 0, 157, 2, 7, 0, 3, 2, 0, 157, 0, 2010, 3, 14, 1, 10, 3, 0, 160, 5, 3, 2, 0, 157, 0, 1, 0, 0, 1, 10, 3, 0, 160, 5, 3, 2, 0, 157, 0, 1, 0, 4]), (20, [0, 1], [30, 0, 1, 1, 158, -1, 0, 0]), (20, [0, 1], [30, 0, -1, 1, 158, 1, 0, 0]), (20, [0], [50, 2, 0, 164, 165, 4, 7, 1, 3, 2, 0, 164, 0, 0, 0, 3, 2, 0, 165, 0, 23]), (20, [0], [30, 9, 1, 1, 159]), (20, [0], [30, -9, -1, 1, 159]), (20, [0, 2], [50, 1, 0, 8, 1, 3, 2, 0, 8, 1, 1]), (20, [0, 3], [50, 1, 0, 159, 1, 3, 2, 0, 159, 1, 1])], [(20, [0], [50, 2, 1, 158, 157, 160, 2, 12, 0, 7, 4, 3, 2, 0, 158, 0, 1, 2, 0, 157, 2, 7, 0, 3, 2, 0, 157, 0, 2010, 3, 14, 1, 10, 3, 0, 160, 5, 3, 2, 0, 157, 0, 1, 0, 0, 1, 10, 3, 0, 160, 5, 3, 2, 0, 157, 0, 1, 0, 4]), (20, [1, 0], [30, 0, 1, 0, 0, -1, 1, 158]), (20, [0], [30, 9, 1, 1, 159]), (20, [0], [30, -9, -1, 1, 159]), (20, [0, 1, 2, 3], [60, 4, 5, 5, 8, 158, 164, 10, 160, 161, 162, 163, 1])], [(0, 0, 2009, []), (0, 0, 5, []), (0, 0, 13, [])]))
abbrev b_Mo_text : ByteArray := prog_15_method_240_code
def y_Mo_text : MethodName := ⟨"DrawingHouseModel", "text", "(II)I"⟩
abbrev z_Mo_text : List Cond := Cond.code y_Mo_text b_Mo_text 4 (some .int) :: lw_g
def e_Mo_text : en_T := ([(2, 0, 0, [165]), (0, -2147483648, 2147483647, []), (0, -2147483648, 2147483647, [])], some (0, -1, 100000000, []), false, 17, 0, 0, [], [], (11656013353354374425516771440941113439854441034312837127510874458433425711231250989056, [(165, 5), (165, 139), (165, 169), (165, 170)], [], [], []))
abbrev b_Ho_turn : ByteArray := prog_1_method_16_code
def y_Ho_turn : MethodName := ⟨"DrawingHouse", "turn", "(IIII)I"⟩
abbrev z_Ho_turn : List Cond := Cond.code y_Ho_turn b_Ho_turn 6 (some .int) :: lw_g
def e_Ho_turn : en_T := ([(2, 0, 0, [12]), (0, -2147483648, 2147483647, []), (0, -2147483648, 2147483647, []), (0, -2147483648, 2147483647, []), (0, -2147483648, 2147483647, [])], some (0, -1, 71, []), false, 12, 0, 0, [], [], (712230049778071777201162559065590005831303168, [(1, 0), (1, 5), (1, 6), (1, 7), (1, 15), (1, 16), (1, 17), (1, 18), (5, 0), (5, 2), (5, 3), (5, 5), (5, 6), (5, 13), (149, 5), (149, 6), (149, 13)], [(20, [0], [62, 0])], [(20, [0], [62, 0])], []))
abbrev b_Pn_lay : ByteArray := prog_9_method_2_code
def y_Pn_lay : MethodName := ⟨"DrawingHouse$PlanarWays", "lay", "(ILDrawingHouse$Graph;LDrawingHouse$Facts;LDrawingHouse$Net;LDrawingHouse$Drawing;)I"⟩
abbrev z_Pn_lay : List Cond := Cond.code y_Pn_lay b_Pn_lay 6 (some .int) :: lw_g
def e_Pn_lay : en_T := ([(2, 0, 0, [7]), (0, 1, 2, []), (2, 0, 0, [3]), (2, 0, 0, [2]), (2, 0, 0, [5]), (2, 0, 0, [0])], some (0, -3, 0, []), false, 12, 0, 0, [], [], (31766521725675121767675041100378181161416636632180585452153603028966503407635894593110016, [(7, 3), (294, 5), (294, 6), (294, 13)], [(20, [2], [60, 1, 1, 637, 0, 14]), (20, [4, 2, 3], [60, 3, 1, 644, 0, 1001, 2002, 16]), (20, [2, 3], [60, 3, 3, 673, 0, 1, 1002, 14, 7, 8]), (20, [2, 3], [60, 1, 2, 671, 0, 14, 1004]), (20, [2, 3], [60, 2, 1, 672, 0, 1001, 1004]), (20, [2], [60, 2, 3, 670, 0, 1, 14, 7, 8]), (20, [2], [60, 2, 2, 596, 0, 1, 7, 8]), (20, [6, 7, 5], [62, 2000000])], [(20, [6, 7], [62, 2000006])], [(2, 0, 0, [12]), (0, 0, 3066, [])]))
abbrev b_Mo_planar : ByteArray := prog_15_method_94_code
def y_Mo_planar : MethodName := ⟨"DrawingHouseModel", "planar", "(II)I"⟩
abbrev z_Mo_planar : List Cond := Cond.code y_Mo_planar b_Mo_planar 4 (some .int) :: lw_g
def e_Mo_planar : en_T := ([(2, 0, 0, [165]), (0, -2147483648, 2147483647, []), (0, -2147483648, 2147483647, [])], some (0, -1, 160, []), false, 13, 0, 0, [], [], (3013007354366862259318725741453290402673004231199911646855168, [(165, 5), (165, 31), (165, 32), (165, 39), (165, 45), (165, 49), (165, 53), (165, 58), (165, 59)], [(20, [0], [60, 0, 3, 198, 2, 3, 4])], [], []))
abbrev b_Mo_read : ByteArray := prog_15_method_41_code
def y_Mo_read : MethodName := ⟨"DrawingHouseModel", "read", "(II)I"⟩
abbrev z_Mo_read : List Cond := Cond.code y_Mo_read b_Mo_read 4 (some .int) :: lw_g
def e_Mo_read : en_T := ([(2, 0, 0, [165]), (0, -2147483648, 2147483647, []), (0, -2147483648, 2147483647, [])], some (0, -2, 24, []), false, 21, 0, 0, [], [], (13167250334660972400934512718246437439945746594453943882941988864, [(165, 0), (165, 5), (165, 7), (165, 8), (165, 9), (165, 10), (165, 11), (165, 12), (165, 13), (165, 14), (165, 15)], [(20, [0], [60, 0, 3, 198, 2, 3, 4]), (20, [1, 2, 0, 3], [50, 1, 0, 2000, 3, 39, 2, 6, 0, 2, 0, 0, 1, 0, 2, 6, 0, 2, 1, 0, 0, 3, 2, 6, 0, 2, 0, 0, 1, 1, 2, 7, 0, 2, 1, 1, 2, 2, 0, 1, 2, 1, 3, 0, 0, 2, 35, 3, 6, 0, 2, 1, 0, 0, -1, 3, 6, 0, 2, 0, 4, 1, 0, 3, 6, 0, 2, 1, 1, 0, -1, 0, 7, 4, 3, 2, 2, 0, 0, 1, 1, 1, 1, 2, 1, 3, 2, 2, 0]), (20, [0, 4], [30, 0, 1, 1, 0, -1, 0, 0]), (20, [0, 4], [30, 0, -1, 1, 0, 1, 0, 0])], [(20, [0], [60, 0, 3, 198, 2, 3, 4]), (20, [0, 3], [50, 1, 0, 0, 1, 3, 2, 0, 0, 1, 1]), (20, [0, 1, 2, 4, 5], [60, 2, 1, 1038, 8, 9, 1])], [(0, 0, 2000, []), (0, 0, 2000, [])]))
abbrev b_Mo_rule_at_f0 : ByteArray := prog_15_method_219_code
def y_Mo_rule_at_f0 : MethodName := ⟨"DrawingHouseModel", "rule", "()V"⟩
abbrev z_Mo_rule_at_f0 : List Cond := Cond.code y_Mo_rule_at_f0 b_Mo_rule_at_f0 6 none :: lw_g
def e_Mo_rule_at_f0 : en_T := ([(2, 0, 0, [165])], none, false, 51, 0, 0, [], [], (13164036458569648337239753460458804039861886925068638906788872192, [(165, 8), (165, 9), (165, 158), (165, 159), (165, 164)], [(20, [0], [50, 2, 1, 158, 157, 160, 2, 12, 0, 7, 4, 3, 2, 0, 158, 0, 1, 2, 0, 157, 2, 7, 0, 3, 2, 0, 157, 0, 2010, 3, 14, 1, 10, 3, 0, 160, 5, 3, 2, 0, 157, 0, 1, 0, 0, 1, 10, 3, 0, 160, 5, 3, 2, 0, 157, 0, 1, 0, 4]), (20, [0, 1], [30, 0, 1, 1, 158, -1, 0, 0]), (20, [0, 1], [30, 0, -1, 1, 158, 1, 0, 0]), (20, [0], [50, 4, 4, 8, 158, 10, 165, 160, 163, 162, 1, 4, 148, 2, 7, 1, 3, 2, 0, 8, 0, 0, 2, 10, 1, 6, 3, 0, 160, 2, 0, 158, 0, 1, 2, 18, 1, 6, 3, 0, 163, 2, 0, 158, 4, 6, 3, 0, 162, 2, 0, 158, 0, 4, 2, 15, 0, 10, 4, 6, 3, 0, 162, 2, 0, 158, 0, 4, 2, 0, 10, 2, 21, 1, 17, 9, 13, 3, 0, 1, 4, 6, 3, 0, 162, 2, 0, 158, 0, 0, 0, 256, 0, 110, 2, 21, 1, 17, 9, 13, 3, 0, 1, 4, 6, 3, 0, 162, 2, 0, 158, 0, 1, 0, 256, 0, 111, 2, 21, 1, 17, 9, 13, 3, 0, 1, 4, 6, 3, 0, 162, 2, 0, 158, 0, 2, 0, 256, 0, 100, 1, 17, 9, 13, 3, 0, 1, 4, 6, 3, 0, 162, 2, 0, 158, 0, 3, 0, 256, 0, 101, 0, 3, 2, 0, 165, 0, 23]), (20, [0], [30, 0, 1, 1, 159]), (20, [0], [30, 0, -1, 1, 159]), (20, [0], [50, 1, 0, 8, 1, 3, 2, 0, 8, 0, 0])], [(20, [0], [50, 2, 1, 158, 157, 160, 2, 12, 0, 7, 4, 3, 2, 0, 158, 0, 1, 2, 0, 157, 2, 7, 0, 3, 2, 0, 157, 0, 2010, 3, 14, 1, 10, 3, 0, 160, 5, 3, 2, 0, 157, 0, 1, 0, 0, 1, 10, 3, 0, 160, 5, 3, 2, 0, 157, 0, 1, 0, 4]), (20, [1, 0], [30, 0, 1, 0, 0, -1, 1, 158]), (20, [0], [30, 0, 1, 1, 159]), (20, [0], [30, 0, -1, 1, 159]), (20, [0, 1, 0], [31, 1, -1, -1, 1, 8, -1, 1, 0, 0, -1, 1, 158]), (20, [0, 1], [60, 3, 5, 64, 8, 158, 10, 160, 161, 162, 163, 1])], [(0, 0, 2009, [])]))
abbrev b_Mo_turn : ByteArray := prog_15_method_95_code
def y_Mo_turn : MethodName := ⟨"DrawingHouseModel", "turn", "(IIII)I"⟩
abbrev z_Mo_turn : List Cond := Cond.code y_Mo_turn b_Mo_turn 6 (some .int) :: lw_g
def e_Mo_turn : en_T := ([(2, 0, 0, [165]), (0, -2147483648, 2147483647, []), (0, -2147483648, 2147483647, []), (0, -2147483648, 2147483647, []), (0, -2147483648, 2147483647, [])], some (0, -1, 79, []), false, 13, 0, 0, [], [], (3013007354366862259318725741453290402673004231199911646855168, [(165, 5), (165, 31), (165, 32), (165, 39), (165, 45), (165, 49), (165, 53), (165, 58), (165, 59)], [(20, [0], [60, 0, 3, 198, 2, 3, 4])], [], []))
abbrev b_Ho_read : ByteArray := prog_1_method_3_code
def y_Ho_read : MethodName := ⟨"DrawingHouse", "read", "(II)I"⟩
abbrev z_Ho_read : List Cond := Cond.code y_Ho_read b_Ho_read 4 (some .int) :: lw_g
def e_Ho_read : en_T := ([(2, 0, 0, [12]), (0, -2147483648, 2147483647, []), (0, -2147483648, 2147483647, [])], some (0, -2, 24, []), false, 13, 0, 0, [([(2, 0, 0, [12]), (0, -2147483648, -1, []), (0, -2147483648, 2147483647, []), (2, 0, 0, [8]), (0, 0, 2000, []), (0, 0, 2000, []), (0, -2, -2, [])], [], [6], [((0, 4), 3)], [], []), ([(2, 0, 0, [12]), (0, 4, 2147483647, []), (0, -2147483648, 2147483647, []), (2, 0, 0, [8]), (0, 0, 2000, []), (0, 0, 2000, []), (0, -2, -2, [])], [], [6], [((0, 4), 3)], [], []), ([(2, 0, 0, [12]), (0, 0, 3, []), (0, -2147483648, -1, []), (2, 0, 0, [8]), (0, 0, 2000, []), (0, 0, 2000, []), (0, -2, -2, [])], [], [6], [((0, 4), 3)], [], []), ([(2, 0, 0, [12]), (0, 0, 3, []), (0, 0, 2000, []), (2, 0, 0, [8]), (0, 0, 2000, []), (0, 0, 2000, []), (0, 0, 24, [])], [], [6], [((0, 4), 3)], [], []), ([(2, 0, 0, [12]), (0, 0, 3, []), (0, 0, 2000, []), (2, 0, 0, [8]), (0, 0, 2000, []), (0, 0, 2000, []), (0, -1, -1, [])], [], [6], [((0, 4), 3)], [], []), ([(2, 0, 0, [12]), (0, 0, 3, []), (0, 1, 2147483647, []), (2, 0, 0, [8]), (0, 0, 2000, []), (0, 0, 2000, []), (0, -2, -2, [])], [], [6], [((0, 4), 3)], [], [])], [((0, 4), (2, 0, 0, [8]))], (11690585850954518683822635009470027356269405274112, [(0, 1), (2, 0), (3, 0), (3, 1), (3, 2), (3, 17), (3, 18), (5, 0), (5, 1), (5, 2), (5, 3), (8, 1), (8, 2), (8, 3), (8, 5), (8, 6), (8, 7), (8, 8), (8, 9), (8, 11), (164, 0), (164, 1), (164, 2), (164, 17), (164, 18)], [(20, [0], [62, 0]), (20, [1, 2, 3, 4], [50, 1, 0, 2001, 3, 39, 2, 6, 0, 2, 0, 0, 1, 0, 2, 6, 0, 2, 1, 0, 0, 3, 2, 6, 0, 2, 0, 0, 1, 1, 2, 7, 0, 2, 1, 1, 2, 2, 1, 1, 2, 1, 3, 0, 0, 2, 35, 3, 6, 0, 2, 1, 0, 0, -1, 3, 6, 0, 2, 0, 4, 1, 0, 3, 6, 0, 2, 1, 1, 0, -1, 0, 7, 4, 3, 2, 2, 1, 0, 1, 1, 1, 1, 2, 1, 3, 2, 2, 1]), (20, [3, 5], [50, 1, 0, 1, 1, 3, 2, 0, 1, 1, 1])], [(20, [0], [62, 0]), (20, [3, 4], [50, 1, 0, 1, 1, 3, 2, 0, 1, 1, 1]), (20, [3, 1, 2, 5, 6], [60, 2, 1, 1110, 2, 3, 0])], [(0, 0, 2000, []), (0, 0, 2000, [])]))
abbrev b_La_lay : ByteArray := prog_6_method_5_code
def y_La_lay : MethodName := ⟨"DrawingHouse$Layers", "lay", "(LDrawingHouse$Graph;LDrawingHouse$Facts;LDrawingHouse$Drawing;)I"⟩
abbrev z_La_lay : List Cond := Cond.code y_La_lay b_La_lay 5 (some .int) :: lw_g
def e_La_lay : en_T := ([(2, 0, 0, [4]), (2, 0, 0, [3]), (2, 0, 0, [2]), (2, 0, 0, [0])], some (0, -2, 0, []), false, 13, 0, 0, [([(2, 0, 0, [4]), (2, 0, 0, [3]), (2, 0, 0, [2]), (2, 0, 0, [0]), (2, 0, 0, [10]), (2, 0, 0, [12]), (0, 0, 3072, []), (0, 0, 0, [])], [], [7], [((0, 0), 4)], [], []), ([(2, 0, 0, [4]), (2, 0, 0, [3]), (2, 0, 0, [2]), (2, 0, 0, [0]), (2, 0, 0, [10]), (2, 0, 0, [12]), (0, 0, 3072, []), (0, -2, -2, [])], [], [7], [((0, 0), 4)], [], [])], [((0, 0), (2, 0, 0, [10]))], (42202988866171645644062132502901276672, [(0, 7), (0, 8), (4, 1), (4, 2), (4, 3), (10, 0), (10, 1)], [(20, [1], [60, 2, 2, 596, 0, 1, 7, 8]), (20, [1, 2], [60, 1, 3, 658, 1, 7, 8, 1009]), (20, [1], [50, 1, 0, 0, 0, 2, 0, 1, 2, 0, 0]), (20, [0], [60, 0, 1, 648, 17]), (20, [5, 6], [62, 2000000])], [(20, [5, 6], [62, 2000000])], [(2, 0, 0, [12]), (0, 0, 3072, [])]))
abbrev b_Mo_bars : ByteArray := prog_15_method_151_code
def y_Mo_bars : MethodName := ⟨"DrawingHouseModel", "bars", "(I)I"⟩
abbrev z_Mo_bars : List Cond := Cond.code y_Mo_bars b_Mo_bars 8 (some .int) :: lw_g
def e_Mo_bars : en_T := ([(2, 0, 0, [165]), (0, 0, 3, [])], some (0, -2, 0, []), false, 13, 0, 0, [], [], (174592759553957820330882414741214162035912022391512891473832948206202911719424, [(165, 31), (165, 32), (165, 39), (165, 45), (165, 49), (165, 53), (165, 125)], [(20, [0], [60, 1, 1, 197, 5, 2])], [], []))
abbrev b_Mo_grid : ByteArray := prog_15_method_143_code
def y_Mo_grid : MethodName := ⟨"DrawingHouseModel", "grid", "()I"⟩
abbrev z_Mo_grid : List Cond := Cond.code y_Mo_grid b_Mo_grid 7 (some .int) :: lw_g
def e_Mo_grid : en_T := ([(2, 0, 0, [165])], some (0, -3, 0, []), false, 13, 0, 0, [], [], (44326666062985438475970474693232232535739065185669865852741013133503286476800, [(165, 31), (165, 32), (165, 39), (165, 45), (165, 49), (165, 53), (165, 121)], [(20, [0], [60, 1, 1, 197, 5, 2])], [], []))
abbrev b_Mo_style : ByteArray := prog_15_method_217_code
def y_Mo_style : MethodName := ⟨"DrawingHouseModel", "style", "(II)I"⟩
abbrev z_Mo_style : List Cond := Cond.code y_Mo_style b_Mo_style 6 (some .int) :: lw_g
def e_Mo_style : en_T := ([(2, 0, 0, [165]), (0, -2147483648, 2147483647, []), (0, -2147483648, 2147483647, [])], some (0, -2147483648, 2147483647, []), false, 52, 0, 0, [], [], (3854983583010482888216572187100040203043012532707653708363793244961657548638563336192, [(165, 0), (165, 5), (165, 7), (165, 8), (165, 9), (165, 10), (165, 11), (165, 31), (165, 32), (165, 99), (165, 139), (165, 157), (165, 158), (165, 159), (165, 164), (165, 165)], [(20, [0], [60, 0, 3, 198, 2, 3, 4]), (20, [1, 2, 0, 3], [50, 1, 0, 2000, 3, 39, 2, 6, 0, 2, 0, 0, 1, 0, 2, 6, 0, 2, 1, 0, 0, 3, 2, 6, 0, 2, 0, 0, 1, 1, 2, 7, 0, 2, 1, 1, 2, 2, 0, 1, 2, 1, 3, 0, 0, 2, 35, 3, 6, 0, 2, 1, 0, 0, -1, 3, 6, 0, 2, 0, 4, 1, 0, 3, 6, 0, 2, 1, 1, 0, -1, 0, 7, 4, 3, 2, 2, 0, 0, 1, 1, 1, 1, 2, 1, 3, 2, 2, 0])], [(20, [0, 3], [50, 1, 0, 0, 1, 3, 2, 0, 0, 1, 1])], [(0, 0, 2000, [])]))
abbrev b_Ho_style : ByteArray := prog_1_method_24_code
def y_Ho_style : MethodName := ⟨"DrawingHouse", "style", "(II)I"⟩
abbrev z_Ho_style : List Cond := Cond.code y_Ho_style b_Ho_style 4 (some .int) :: lw_g
def e_Ho_style : en_T := ([(2, 0, 0, [12]), (0, -2147483648, 2147483647, []), (0, -2147483648, 2147483647, [])], some (0, -2, 112, []), false, 52, 6, 2444, [([(2, 0, 0, [12]), (0, -2147483648, -1, []), (0, -2147483648, 2147483647, []), (2, 0, 0, [8]), (0, 0, 2000, []), (0, -2, -2, [])], [], [5], [((0, 4), 3)], [], []), ([(2, 0, 0, [12]), (0, 4, 2147483647, []), (0, -2147483648, 2147483647, []), (2, 0, 0, [8]), (0, 0, 2000, []), (0, -2, -2, [])], [], [5], [((0, 4), 3)], [], []), ([(2, 0, 0, [12]), (0, 0, 3, []), (0, -2147483648, -1, []), (2, 0, 0, [8]), (0, 0, 2000, []), (0, -2, -2, [])], [], [5], [((0, 4), 3)], [], []), ([(2, 0, 0, [12]), (0, 0, 3, []), (0, 0, 2000, []), (2, 0, 0, [8]), (0, 0, 2000, []), (0, 0, 112, [])], [], [5], [((0, 4), 3)], [], []), ([(2, 0, 0, [12]), (0, 0, 3, []), (0, 0, 2000, []), (2, 0, 0, [8]), (0, 0, 2000, []), (0, -1, -1, [])], [], [5], [((0, 4), 3)], [], []), ([(2, 0, 0, [12]), (0, 0, 3, []), (0, 1, 2147483647, []), (2, 0, 0, [8]), (0, 0, 2000, []), (0, -2, -2, [])], [], [5], [((0, 4), 3)], [], [])], [((0, 4), (2, 0, 0, [8]))], (2637188343637273091841153488933749784576, [(2, 0), (2, 1), (2, 2), (2, 3), (8, 1), (8, 2), (8, 3), (11, 0), (11, 1), (11, 2), (11, 3), (11, 4), (11, 5), (11, 6), (11, 7), (11, 8), (11, 9), (11, 11), (11, 15), (12, 16), (304, 0), (304, 1), (304, 2), (304, 3), (304, 4), (304, 5), (304, 6), (304, 7), (304, 8), (304, 9), (304, 10), (304, 11), (304, 12), (304, 13), (304, 14), (304, 15), (304, 16)], [(20, [0], [62, 0]), (20, [1, 2, 3, 4], [50, 1, 0, 2001, 3, 39, 2, 6, 0, 2, 0, 0, 1, 0, 2, 6, 0, 2, 1, 0, 0, 3, 2, 6, 0, 2, 0, 0, 1, 1, 2, 7, 0, 2, 1, 1, 2, 2, 1, 1, 2, 1, 3, 0, 0, 2, 35, 3, 6, 0, 2, 1, 0, 0, -1, 3, 6, 0, 2, 0, 4, 1, 0, 3, 6, 0, 2, 1, 1, 0, -1, 0, 7, 4, 3, 2, 2, 1, 0, 1, 1, 1, 1, 2, 1, 3, 2, 2, 1])], [(20, [0], [62, 0]), (20, [3, 4], [50, 1, 0, 1, 1, 3, 2, 0, 1, 1, 1])], [(0, 0, 2000, [])]))
abbrev b_Mo_draw : ByteArray := prog_15_method_107_code
def y_Mo_draw : MethodName := ⟨"DrawingHouseModel", "draw", "(III)I"⟩
abbrev z_Mo_draw : List Cond := Cond.code y_Mo_draw b_Mo_draw 5 (some .int) :: lw_g
def e_Mo_draw : en_T := ([(2, 0, 0, [165]), (0, -2147483648, 2147483647, []), (0, -2147483648, 2147483647, []), (0, -2147483648, 2147483647, [])], some (0, -3, 0, []), false, 14, 0, 0, [], [], (118571049907293957153131195294761884537621520370137560369214499844175168343638016, [(165, 5), (165, 31), (165, 32), (165, 39), (165, 45), (165, 49), (165, 53), (165, 79), (165, 80), (165, 81), (165, 94), (165, 99), (165, 100), (165, 101), (165, 107), (165, 121), (165, 125), (165, 132), (165, 133), (165, 134)], [(20, [0], [60, 0, 3, 198, 2, 3, 4]), (20, [0], [60, 0, 3, 367, 110, 111, 112])], [], []))
abbrev b_Ho_draw : ByteArray := prog_1_method_17_code
def y_Ho_draw : MethodName := ⟨"DrawingHouse", "draw", "(III)I"⟩
abbrev z_Ho_draw : List Cond := Cond.code y_Ho_draw b_Ho_draw 5 (some .int) :: lw_g
def e_Ho_draw : en_T := ([(2, 0, 0, [12]), (0, -2147483648, 2147483647, []), (0, -2147483648, 2147483647, []), (0, -2147483648, 2147483647, [])], some (0, -3, 0, []), false, 17, 32, 26011, [], [], (541025515809296643334786463202722721424283735760894740092254428723838703683252723937951744, [(0, 1), (0, 7), (0, 8), (0, 9), (1, 0), (1, 5), (1, 6), (1, 7), (1, 15), (1, 16), (1, 17), (1, 18), (2, 0), (2, 1), (2, 2), (2, 3), (4, 1), (4, 2), (4, 3), (5, 0), (5, 2), (5, 3), (5, 5), (5, 6), (5, 13), (6, 0), (6, 1), (6, 8), (6, 11), (6, 13), (6, 14), (7, 3), (10, 0), (10, 1), (12, 17), (12, 18), (12, 19), (149, 5), (149, 6), (149, 13), (294, 5), (294, 6), (294, 13), (299, 0), (299, 1), (299, 2), (299, 3), (299, 4), (299, 5), (299, 6), (299, 7), (299, 8), (299, 9), (299, 10), (299, 11), (299, 12), (299, 13), (299, 14), (299, 15), (299, 16), (299, 17), (299, 18), (299, 19), (299, 20), (300, 0), (300, 1), (300, 2), (300, 3), (300, 4), (300, 5), (300, 6), (300, 7), (300, 8), (301, 0), (301, 1), (301, 2), (301, 3), (301, 4), (301, 5), (301, 6), (301, 7), (301, 8), (302, 0), (302, 1), (302, 2), (302, 3), (302, 4), (302, 5), (302, 6), (302, 7), (302, 8), (302, 9), (302, 10), (302, 11), (302, 12), (302, 13), (302, 14), (302, 15), (302, 16), (302, 17), (302, 18), (305, 0), (305, 1), (305, 2), (305, 3), (305, 4), (305, 5), (305, 6), (305, 7), (305, 8), (305, 9), (305, 10), (305, 11), (305, 12), (305, 13), (305, 14), (305, 15), (305, 16)], [(20, [0], [62, 0]), (20, [0], [62, 1000000]), (20, [0, 4], [62, 2000000])], [(20, [0], [62, 0]), (20, [0], [62, 1000000]), (20, [0, 4], [62, 2000006])], [(0, 0, 3066, [])]))
abbrev b_Ho_draw_at_b : ByteArray := prog_1_method_17_code
def y_Ho_draw_at_b : MethodName := ⟨"DrawingHouse", "draw", "(III)I"⟩
abbrev z_Ho_draw_at_b : List Cond := Cond.code y_Ho_draw_at_b b_Ho_draw_at_b 5 (some .int) :: lw_g
def e_Ho_draw_at_b : en_T := ([(2, 0, 0, [12]), (0, 0, 3, []), (0, 0, 0, []), (0, -2147483648, 2147483647, [])], some (0, -1, -1, []), false, 7, 0, 0, [], [], (0, [], [(20, [0], [62, 0]), (20, [0], [62, 1000000]), (20, [0, 4], [62, 2000000]), (20, [0, 1], [51, 0, 0, 1, 4000000000, 0, 6, 14, 0, 0, 4000, 1, 1, 0, 0])], [(20, [0], [62, 0]), (20, [0], [62, 1000000]), (20, [0, 4], [62, 2000006])], [(0, 0, 3066, [])]))
abbrev b_Ho_draw_at_c : ByteArray := prog_1_method_17_code
def y_Ho_draw_at_c : MethodName := ⟨"DrawingHouse", "draw", "(III)I"⟩
abbrev z_Ho_draw_at_c : List Cond := Cond.code y_Ho_draw_at_c b_Ho_draw_at_c 5 (some .int) :: lw_g
def e_Ho_draw_at_c : en_T := ([(2, 0, 0, [12]), (0, 0, 3, []), (0, 0, 0, []), (0, -2147483648, 2147483647, [])], some (0, -2, 0, []), false, 14, 0, 0, [([(2, 0, 0, [12]), (0, 0, 3, []), (0, 0, 0, []), (0, -2147483648, 2147483647, []), (2, 0, 0, [4]), (0, 0, 3066, []), (0, 0, 0, [])], [], [6], [((0, 17), 4)], [], []), ([(2, 0, 0, [12]), (0, 0, 3, []), (0, 0, 0, []), (0, -2147483648, 2147483647, []), (2, 0, 0, [4]), (0, 0, 3066, []), (0, -2, -2, [])], [], [6], [((0, 17), 4)], [], []), ([(2, 0, 0, [12]), (0, 0, 3, []), (0, 0, 0, []), (0, -2147483648, 2147483647, []), (2, 0, 0, [4]), (0, 0, 3066, []), (0, -1, -1, [])], [], [6], [((0, 17), 4)], [], [])], [((0, 17), (2, 0, 0, [4]))], (42202988866171645644062413840439033856, [(0, 1), (0, 7), (0, 8), (2, 0), (2, 1), (2, 2), (2, 3), (4, 1), (4, 2), (4, 3), (10, 0), (10, 1)], [(20, [0], [62, 0]), (20, [0], [62, 1000000]), (20, [0, 5], [62, 2000000])], [(20, [0], [62, 0]), (20, [0], [62, 1000000]), (20, [0, 5], [62, 2000006])], [(0, 0, 3066, [])]))
abbrev b_Ho_draw_at_d : ByteArray := prog_1_method_17_code
def y_Ho_draw_at_d : MethodName := ⟨"DrawingHouse", "draw", "(III)I"⟩
abbrev z_Ho_draw_at_d : List Cond := Cond.code y_Ho_draw_at_d b_Ho_draw_at_d 5 (some .int) :: lw_g
def e_Ho_draw_at_d : en_T := ([(2, 0, 0, [12]), (0, 0, 3, []), (0, 0, 0, []), (0, -2147483648, 2147483647, [])], some (0, -2, 0, []), false, 14, 32, 26011, [([(2, 0, 0, [12]), (0, 0, 3, []), (0, 0, 0, []), (0, -2147483648, 2147483647, []), (3, 0, 0, [4]), (0, 0, 3066, []), (0, 0, 0, []), (2, 0, 0, [4])], [], [6], [((0, 17), 7)], [], []), ([(2, 0, 0, [12]), (0, 0, 3, []), (0, 0, 0, []), (0, -2147483648, 2147483647, []), (3, 0, 0, [4]), (0, 0, 3066, []), (0, -2, -2, []), (2, 0, 0, [4])], [], [6], [((0, 17), 7)], [], []), ([(2, 0, 0, [12]), (0, 0, 3, []), (0, 0, 0, []), (0, -2147483648, 2147483647, []), (2, 0, 0, [4]), (0, 0, 3066, []), (0, 0, 0, [])], [], [6], [((0, 17), 4)], [], []), ([(2, 0, 0, [12]), (0, 0, 3, []), (0, 0, 0, []), (0, -2147483648, 2147483647, []), (2, 0, 0, [4]), (0, 0, 3066, []), (0, -2, -2, [])], [], [6], [((0, 17), 4)], [], [])], [((0, 17), (3, 0, 0, [4]))], (509258994083621521567111422102344540262867098416484104862023978510278747935110974146592768, [(0, 1), (0, 7), (0, 8), (2, 0), (2, 1), (2, 2), (2, 3), (4, 1), (4, 2), (4, 3), (10, 0), (10, 1), (12, 17), (299, 0), (299, 1), (299, 2), (299, 3), (299, 4), (299, 5), (299, 6), (299, 7), (299, 8), (299, 9), (299, 10), (299, 11), (299, 12), (299, 13), (299, 14), (299, 15), (299, 16), (299, 17), (299, 18), (299, 19), (299, 20), (300, 0), (300, 1), (300, 2), (300, 3), (300, 4), (300, 5), (300, 6), (300, 7), (300, 8)], [(20, [0], [62, 0]), (20, [0], [62, 1000000]), (20, [0, 5], [62, 2000000]), (20, [0, 1], [51, 0, 0, 1, 4000000000, 0, 2, 0, 1, 14, 0, 0, 4000, 1, 1])], [(20, [0], [62, 0]), (20, [0], [62, 1000000]), (20, [0, 5], [62, 2000006])], [(0, 0, 3066, [])]))
abbrev b_Ho_draw_at_n : ByteArray := prog_1_method_17_code
def y_Ho_draw_at_n : MethodName := ⟨"DrawingHouse", "draw", "(III)I"⟩
abbrev z_Ho_draw_at_n : List Cond := Cond.code y_Ho_draw_at_n b_Ho_draw_at_n 5 (some .int) :: lw_g
def e_Ho_draw_at_n : en_T := ([(2, 0, 0, [12]), (0, -2147483648, 2147483647, []), (0, -2147483648, -1, []), (0, -2147483648, 2147483647, [])], some (0, -1, -1, []), false, 7, 0, 0, [], [], (0, [], [(20, [0], [62, 0]), (20, [0], [62, 1000000]), (20, [0, 4], [62, 2000000])], [(20, [0], [62, 0]), (20, [0], [62, 1000000]), (20, [0, 4], [62, 2000006])], [(0, 0, 3066, [])]))
abbrev b_Ho_draw_at_p : ByteArray := prog_1_method_17_code
def y_Ho_draw_at_p : MethodName := ⟨"DrawingHouse", "draw", "(III)I"⟩
abbrev z_Ho_draw_at_p : List Cond := Cond.code y_Ho_draw_at_p b_Ho_draw_at_p 5 (some .int) :: lw_g
def e_Ho_draw_at_p : en_T := ([(2, 0, 0, [12]), (0, -2147483648, 2147483647, []), (0, 1, 2147483647, []), (0, -2147483648, 2147483647, [])], some (0, -3, 0, []), false, 17, 19, 1787, [], [], (31766521725675121767675041100378181161416637344410635230230450213559955748423087329624064, [(0, 1), (0, 7), (0, 9), (1, 0), (1, 5), (1, 6), (1, 7), (1, 15), (1, 16), (1, 17), (1, 18), (2, 0), (2, 1), (2, 2), (2, 3), (5, 0), (5, 2), (5, 3), (5, 5), (5, 6), (5, 13), (6, 0), (6, 1), (6, 8), (6, 11), (6, 13), (6, 14), (7, 3), (12, 18), (12, 19), (149, 5), (149, 6), (149, 13), (294, 5), (294, 6), (294, 13), (301, 0), (301, 1), (301, 2), (301, 3), (301, 4), (301, 5), (301, 6), (301, 7), (301, 8), (302, 0), (302, 1), (302, 2), (302, 3), (302, 4), (302, 5), (302, 6), (302, 7), (302, 8), (302, 9), (302, 10), (302, 11), (302, 12), (302, 13), (302, 14), (302, 15), (302, 16), (302, 17), (302, 18), (305, 0), (305, 1), (305, 2), (305, 3), (305, 4), (305, 5), (305, 6), (305, 7), (305, 8), (305, 9), (305, 10), (305, 11), (305, 12), (305, 13), (305, 14), (305, 15), (305, 16)], [(20, [0], [62, 0]), (20, [0], [62, 1000000]), (20, [0, 4], [62, 2000000])], [(20, [0], [62, 0]), (20, [0], [62, 1000000]), (20, [0, 4], [62, 2000006])], [(0, 0, 3066, [])]))
abbrev b_Ho_draw_at_r0 : ByteArray := prog_1_method_17_code
def y_Ho_draw_at_r0 : MethodName := ⟨"DrawingHouse", "draw", "(III)I"⟩
abbrev z_Ho_draw_at_r0 : List Cond := Cond.code y_Ho_draw_at_r0 b_Ho_draw_at_r0 5 (some .int) :: lw_g
def e_Ho_draw_at_r0 : en_T := ([(2, 0, 0, [12]), (0, -2147483648, -1, []), (0, 0, 0, []), (0, -2147483648, 2147483647, [])], some (0, -1, -1, []), false, 7, 0, 0, [], [], (0, [], [(20, [0], [62, 0]), (20, [0], [62, 1000000]), (20, [0, 4], [62, 2000000])], [(20, [0], [62, 0]), (20, [0], [62, 1000000]), (20, [0, 4], [62, 2000006])], [(0, 0, 3066, [])]))
abbrev b_Ho_draw_at_r1 : ByteArray := prog_1_method_17_code
def y_Ho_draw_at_r1 : MethodName := ⟨"DrawingHouse", "draw", "(III)I"⟩
abbrev z_Ho_draw_at_r1 : List Cond := Cond.code y_Ho_draw_at_r1 b_Ho_draw_at_r1 5 (some .int) :: lw_g
def e_Ho_draw_at_r1 : en_T := ([(2, 0, 0, [12]), (0, 4, 2147483647, []), (0, 0, 0, []), (0, -2147483648, 2147483647, [])], some (0, -1, -1, []), false, 7, 0, 0, [], [], (0, [], [(20, [0], [62, 0]), (20, [0], [62, 1000000]), (20, [0, 4], [62, 2000000])], [(20, [0], [62, 0]), (20, [0], [62, 1000000]), (20, [0, 4], [62, 2000006])], [(0, 0, 3066, [])]))
def e_Ho_hasDrawing_np : en_T := ([(2, 0, 0, [12]), (0, -2147483648, 2147483647, [])], some (0, 0, 1, []), true, 7, 0, 0, [], [], (0, [], [], [(20, [2, 1, 0], [51, 0, 0, 1, 4001002003, 4, 6, 1, 2, 1, 0, 0, 1, 2, 6, 0, 2, 0, 0, 1, 1, 2, 6, 0, 2, 1, 1, 0, 3, 7, 6, 14, 2, 3, 4001, 1, 1, 0, -1]), (20, [2, 1, 0], [51, 0, 0, 1, 4001002003, 4, 6, 1, 2, 1, 0, 0, 0, 3, 6, 0, 2, 1, 1, 0, -1, 3, 6, 0, 2, 0, 4, 1, 1, 1, 6, 14, 2, 3, 4001, 1, 1, 0, -1])], []))
def e_Dr_overlap_np : en_T := ([(0, -41000000, 1001000000, []), (0, -41000000, 1001000000, []), (0, -41000000, 1001000000, []), (0, -41000000, 1001000000, [])], some (0, -1042000000, 1042000000, []), true, 6, 0, 0, [], [], (0, [], [], [], []))
def e_Dr_pointX_np : en_T := ([(2, 0, 0, [0]), (0, 0, 47, []), (0, 0, 25, [])], some (0, -41000000, 1001000000, []), true, 6, 0, 0, [], [((0, 0), (2, 0, 0, [3]))], (0, [], [], [(20, [0, 3, 1, 2, 4], [60, 0, 5, 933, 2, 4, 5, 1007, 1008])], []))
def e_Dr_pointY_np : en_T := ([(2, 0, 0, [0]), (0, 0, 47, []), (0, 0, 25, [])], some (0, -41000000, 1001000000, []), true, 6, 0, 0, [], [((0, 0), (2, 0, 0, [3]))], (0, [], [], [(20, [0, 3, 1, 2, 4], [60, 0, 5, 940, 3, 4, 6, 1007, 1008])], []))
def e_Gr_hasEdge_np : en_T := ([(2, 0, 0, [3]), (0, -2147483648, 2147483647, [])], some (0, 0, 1, []), true, 6, 0, 0, [], [], (0, [], [], [(20, [2, 1, 0], [50, 1, 0, 2001, 4, 6, 1, 2, 1, 0, 0, 1, 2, 6, 0, 2, 0, 0, 1, 1, 0, 6, 4, 2, 1, 1, 0, 1, 2, 2, 1]), (20, [2, 1, 0], [50, 1, 0, 2001, 4, 6, 1, 2, 1, 0, 0, 0, 3, 6, 0, 2, 1, 1, 0, -1, 0, 3, 2, 2, 1, 1, 1])], []))
def e_Ne_edgeBetween_np : en_T := ([(2, 0, 0, [5, 149, 294]), (0, 0, 24, []), (0, 0, 24, [])], some (0, -1, 71, []), true, 6, 0, 0, [], [], (0, [], [], [], []))
def e_Ne_endAt_np : en_T := ([(2, 0, 0, [5, 149, 294]), (0, 0, 71, []), (0, 0, 24, [])], some (0, 0, 143, []), true, 6, 0, 0, [], [], (0, [], [], [], []))
def e_Mo_ex_np : en_T := ([(2, 0, 0, [165]), (0, 0, 47, []), (0, 0, 25, [])], some (0, -300000011, 300000000, []), true, 7, 0, 0, [], [], (0, [], [(20, [2, 0, 1], [50, 1, 1, 1139, 1064, 0, 2, 1, 0, 4, 14, 3, 1, 64, 4, 7, 6, 2, 0, 48, 2, 1, 139, 1, 2, 0, 1])], [(20, [2, 3, 0, 1], [50, 2, 2, 2139, 2005, 2062, 2002, 4, 6, 1, 2, 1, 0, 0, 0, 1, 2, 1, 1, 3, 2, 62, 4, 7, 6, 2, 0, 24, 2, 2, 139, 3, 2, 2, 4, 7, 4, 3, 2, 2, 5, 0, 267, 1, 3]), (20, [2, 0, 1, 3], [50, 2, 3, 1139, 1005, 1064, 1062, 1002, 4, 22, 1, 2, 1, 0, 4, 14, 3, 1, 64, 4, 7, 6, 2, 0, 48, 2, 1, 139, 1, 2, 0, 1, 1, 2, 1, 3, 3, 1, 62, 4, 7, 6, 2, 0, 24, 2, 1, 139, 3, 1, 2, 4, 7, 4, 3, 2, 1, 5, 0, 315, 1, 2]), (20, [2, 0, 1, 3], [50, 1, 2, 1139, 1064, 1065, 3, 6, 1, 2, 1, 0, 0, 0, 3, 22, 1, 2, 1, 0, 4, 14, 3, 1, 64, 4, 7, 6, 2, 0, 48, 2, 1, 139, 1, 2, 0, 1, 1, 2, 1, 3, 3, 1, 65, 4, 15, 6, 2, 0, 24, 4, 7, 6, 2, 0, 48, 2, 1, 139, 1, 2, 5, 2, 1, 0, 0, 1])], []))
def e_Mo_ey_np : en_T := ([(2, 0, 0, [165]), (0, 0, 47, []), (0, 0, 25, [])], some (0, -900000000, 900000000, []), true, 7, 0, 0, [], [], (0, [], [(20, [2, 0, 1], [50, 1, 1, 1139, 1064, 0, 2, 1, 0, 4, 14, 3, 1, 64, 4, 7, 6, 2, 0, 48, 2, 1, 139, 1, 2, 0, 1])], [(20, [2, 3, 0, 1], [50, 2, 2, 2139, 2005, 2063, 2002, 4, 6, 1, 2, 1, 0, 0, 0, 1, 2, 1, 1, 3, 2, 63, 4, 7, 6, 2, 0, 24, 2, 2, 139, 3, 2, 2, 4, 7, 4, 3, 2, 2, 5, 0, 267, 1, 3]), (20, [2, 0, 1, 3], [50, 2, 3, 1139, 1005, 1064, 1063, 1002, 4, 22, 1, 2, 1, 0, 4, 14, 3, 1, 64, 4, 7, 6, 2, 0, 48, 2, 1, 139, 1, 2, 0, 1, 1, 2, 1, 3, 3, 1, 63, 4, 7, 6, 2, 0, 24, 2, 1, 139, 3, 1, 2, 4, 7, 4, 3, 2, 1, 5, 0, 315, 1, 2]), (20, [2, 0, 1, 3], [50, 1, 2, 1139, 1064, 1066, 3, 6, 1, 2, 1, 0, 0, 0, 3, 22, 1, 2, 1, 0, 4, 14, 3, 1, 64, 4, 7, 6, 2, 0, 48, 2, 1, 139, 1, 2, 0, 1, 1, 2, 1, 3, 3, 1, 66, 4, 15, 6, 2, 0, 24, 4, 7, 6, 2, 0, 48, 2, 1, 139, 1, 2, 5, 2, 1, 0, 0, 1])], []))
def e_Mo_isOn_np : en_T := ([(1, -300000011, 300000000, []), (1, -900000000, 900000000, []), (1, -300000011, 300000000, []), (1, -900000000, 900000000, []), (1, -300000011, 300000000, []), (1, -900000000, 900000000, [])], some (0, 0, 1, []), true, 7, 0, 0, [], [], (0, [], [], [], []))
def e_Mo_max_np : en_T := ([(0, -900000000, 2147483647, []), (0, -900000000, 900000000, [])], some (0, -900000000, 2147483647, []), true, 6, 0, 0, [], [], (0, [], [], [(7, [0, 2], [5]), (7, [1, 2], [5])], []))
def e_Mo_min_np : en_T := ([(0, -2147483648, 300000000, []), (0, -900000000, 900000000, [])], some (0, -2147483648, 300000000, []), true, 6, 0, 0, [], [], (0, [], [], [(7, [2, 0], [5]), (7, [2, 1], [5])], []))
def e_Mo_signOf_np : en_T := ([(1, -2160000039600000000, 2160000039600000000, [])], some (0, -1, 1, []), true, 6, 0, 0, [], [], (0, [], [], [], []))
def e_Mo_turnOf_np : en_T := ([(1, -300000011, 300000000, []), (1, -900000000, 900000000, []), (1, -300000011, 300000000, []), (1, -900000000, 900000000, []), (1, -300000011, 300000000, []), (1, -900000000, 900000000, [])], some (1, -2160000039600000000, 2160000039600000000, []), true, 6, 0, 0, [], [], (0, [], [], [], []))
def e_La_init_nw : en_T := ([], some (2, 0, 0, [4]), false, 9, 32, 26011, [], [], (509258994083621521567111422102344540262867098416484062659035112338633103872697133707558912, [(299, 0), (299, 1), (299, 2), (299, 3), (299, 4), (299, 5), (299, 6), (299, 7), (299, 8), (299, 9), (299, 10), (299, 11), (299, 12), (299, 13), (299, 14), (299, 15), (299, 16), (299, 17), (299, 18), (299, 19), (299, 20), (300, 0), (300, 1), (300, 2), (300, 3), (300, 4), (300, 5), (300, 6), (300, 7), (300, 8)], [], [(20, [0], [60, 0, 1, 648, 17])], []))
abbrev f0La : List Value := [.null, .null, .int 0, .int 0, .null, .null, .null, .null, .null, .null, .null, .null, .null, .null, .null, .null, .null, .null, .null, .null, .null]
set_option maxRecDepth 20000 in
theorem f0La_ok : ∀ j, j < 21 → defaultValue (t_La j) = vp_V f0La j := by decide +kernel
def e_Ne_init_nw : en_T := ([], some (2, 0, 0, [294]), false, 6, 11, 1461, [], [], (0, [(305, 0), (305, 1), (305, 2), (305, 3), (305, 4), (305, 5), (305, 6), (305, 7), (305, 8), (305, 9), (305, 10), (305, 11), (305, 12), (305, 13), (305, 14), (305, 15), (305, 16)], [], [], []))
abbrev f0Ne : List Value := [.int 0, .int 0, .int 0, .int 0, .null, .int 0, .int 0, .null, .null, .null, .null, .null, .null, .int 0, .null, .null, .null]
set_option maxRecDepth 20000 in
theorem f0Ne_ok : ∀ j, j < 17 → defaultValue (t_Ne j) = vp_V f0Ne j := by decide +kernel
def e_Pl_init_nw : en_T := ([], some (2, 0, 0, [6]), false, 6, 14, 327, [], [], (0, [(302, 0), (302, 1), (302, 2), (302, 3), (302, 4), (302, 5), (302, 6), (302, 7), (302, 8), (302, 9), (302, 10), (302, 11), (302, 12), (302, 13), (302, 14), (302, 15), (302, 16), (302, 17), (302, 18)], [], [], []))
abbrev f0Pl : List Value := [.null, .null, .null, .null, .null, .null, .null, .null, .int 0, .null, .null, .int 0, .null, .long 0, .long 0, .null, .null, .null, .null]
set_option maxRecDepth 20000 in
theorem f0Pl_ok : ∀ j, j < 19 → defaultValue (t_Pl j) = vp_V f0Pl j := by decide +kernel
def e_Pn_init_nw : en_T := ([], some (2, 0, 0, [7]), false, 7, 19, 1787, [], [], (0, [(301, 0), (301, 1), (301, 2), (301, 3), (301, 4), (301, 5), (301, 6), (301, 7), (301, 8), (305, 0), (305, 1), (305, 2), (305, 3), (305, 4), (305, 5), (305, 6), (305, 7), (305, 8), (305, 9), (305, 10), (305, 11), (305, 12), (305, 13), (305, 14), (305, 15), (305, 16)], [], [], []))
abbrev f0Pn : List Value := [.null, .null, .null, .int 0, .null, .null, .null, .null, .null]
set_option maxRecDepth 20000 in
theorem f0Pn_ok : ∀ j, j < 9 → defaultValue (t_Pn j) = vp_V f0Pn j := by decide +kernel
def e_Ro_init_nw : en_T := ([], some (2, 0, 0, [9]), false, 6, 8, 126078, [], [], (0, [(303, 0), (303, 1), (303, 2), (303, 3), (303, 4), (303, 5), (303, 6), (303, 7), (303, 8), (303, 9), (303, 10), (303, 11), (303, 12), (303, 13), (303, 14), (303, 15), (303, 16), (303, 17)], [], [], []))
abbrev f0Ro : List Value := [.null, .null, .int 0, .int 0, .int 0, .int 0, .int 0, .int 0, .int 0, .null, .null, .null, .null, .null, .int 0, .null, .null, .int 0]
set_option maxRecDepth 20000 in
theorem f0Ro_ok : ∀ j, j < 18 → defaultValue (t_Ro j) = vp_V f0Ro j := by decide +kernel
def e_St_init_nw : en_T := ([], some (2, 0, 0, [10]), false, 6, 8, 1761, [], [], (0, [(300, 0), (300, 1), (300, 2), (300, 3), (300, 4), (300, 5), (300, 6), (300, 7), (300, 8)], [], [], []))
abbrev f0St : List Value := [.int 0, .int 0, .null, .null, .null, .null, .null, .null, .null]
set_option maxRecDepth 20000 in
theorem f0St_ok : ∀ j, j < 9 → defaultValue (t_St j) = vp_V f0St j := by decide +kernel
def e_Sy_init_nw : en_T := ([], some (2, 0, 0, [11]), false, 6, 6, 2444, [], [], (0, [(304, 0), (304, 1), (304, 2), (304, 3), (304, 4), (304, 5), (304, 6), (304, 7), (304, 8), (304, 9), (304, 10), (304, 11), (304, 12), (304, 13), (304, 14), (304, 15), (304, 16)], [], [], []))
abbrev f0Sy : List Value := [.int 0, .int 0, .int 0, .null, .int 0, .int 0, .int 0, .int 0, .int 0, .null, .null, .int 0, .null, .null, .null, .int 0, .null]
set_option maxRecDepth 20000 in
theorem f0Sy_ok : ∀ j, j < 17 → defaultValue (t_Sy j) = vp_V f0Sy j := by decide +kernel
abbrev b_jStr_checkIndex : ByteArray := prog_20_method_155_code
def y_jStr_checkIndex : MethodName := ⟨"java/lang/String", "checkIndex", "(II)V"⟩
abbrev z_jStr_checkIndex : List Cond := Cond.code y_jStr_checkIndex b_jStr_checkIndex 2 none :: lw_g
abbrev b_jPre_checkIndex : ByteArray := prog_25_method_11_code
def y_jPre_checkIndex : MethodName := ⟨"jdk/internal/util/Preconditions", "checkIndex", "(IILjava/util/function/BiFunction;)I"⟩
abbrev z_jPre_checkIndex : List Cond := Cond.code y_jPre_checkIndex b_jPre_checkIndex 3 (some .int) :: lw_g
theorem d_jStr_checkIndex_0 : decode b_jStr_checkIndex 0 = .ok (.iload_n 0, 1) := by decide +kernel
theorem d_jStr_checkIndex_1 : decode b_jStr_checkIndex 1 = .ok (.iload_n 1, 1) := by decide +kernel
theorem d_jStr_checkIndex_2 : decode b_jStr_checkIndex 2 = .ok (.getstatic 1053, 3) := by decide +kernel
theorem d_jStr_checkIndex_5 : decode b_jStr_checkIndex 5 = .ok (.invokestatic 1059, 3) := by decide +kernel
theorem d_jStr_checkIndex_8 : decode b_jStr_checkIndex 8 = .ok (.pop, 1) := by decide +kernel
theorem d_jStr_checkIndex_9 : decode b_jStr_checkIndex 9 = .ok (.return_, 1) := by decide +kernel
theorem d_jPre_checkIndex_0 : decode b_jPre_checkIndex 0 = .ok (.iload_n 0, 1) := by decide +kernel
theorem d_jPre_checkIndex_1 : decode b_jPre_checkIndex 1 = .ok (.ifCond .lt 8, 3) := by decide +kernel
theorem d_jPre_checkIndex_4 : decode b_jPre_checkIndex 4 = .ok (.iload_n 0, 1) := by decide +kernel
theorem d_jPre_checkIndex_5 : decode b_jPre_checkIndex 5 = .ok (.iload_n 1, 1) := by decide +kernel
theorem d_jPre_checkIndex_6 : decode b_jPre_checkIndex 6 = .ok (.if_icmp .lt 10, 3) := by decide +kernel
theorem d_jPre_checkIndex_16 : decode b_jPre_checkIndex 16 = .ok (.iload_n 0, 1) := by decide +kernel
theorem d_jPre_checkIndex_17 : decode b_jPre_checkIndex 17 = .ok (.ireturn, 1) := by decide +kernel
def en_pc : en_T := ([], some (0, -2147483648, 2147483647, []), true, 0, 0, 0, [], [], (0, [], [], [], []))
theorem tv_any {ta : Nat → Option Nat} {x : Int32} : tv_ok ta (0, -2147483648, 2147483647, []) (.int x) := Or.inl ⟨rfl, x, rfl, Int32.le_toInt x, by have := Int32.toInt_lt x; show x.toInt ≤ 2147483647; omega⟩
set_option maxRecDepth 100000 in
theorem pc_met {PQ : pq_T} {l : Launch} {D : va_G} {kA : Nat → ClassId} {G : List rg_T} {sz : Nat} {ta : Nat → Option Nat} {ws : va_W} (hth : th_ok kA G ta ws) {x y : Int32} {v : Value} (hv : v = .null ∨ ∃ a : Nat, v = .ref a) (h0 : 0 ≤ x.toInt) (h1 : x.toInt < y.toInt) : Met l y_jPre_checkIndex z_jPre_checkIndex (rm_of 0 0 0) (va_Pc [.int x, .int y, v] (wpr kA D sz ws)) (qc_of PQ D kA G en_pc ta ws sz [.int x, .int y, v]) 0 0 (va_A ws sz) := by
  have hlen : (lg_sl [.int x, .int y, v]).length ≤ 3 := by rcases hv with rfl | ⟨a, rfl⟩ <;> exact Nat.le_of_ble_eq_true rfl
  refine k_metF (by decide +kernel) rfl hlen (fun p e s m below meth c ls X hl hB => ?_)
  obtain ⟨⟨hsz, hP, hK, hD, hN0⟩, hro⟩ := hB
  obtain ⟨hx, hb, hml, hown, hts, hr, hlk, hnm⟩ := id X
  have hl2 : lv_has ls 3 [(0, .int x), (1, .int y), (2, v)] := by rcases hv with rfl | ⟨a, rfl⟩ <;> exact hl
  refine lv_iload_n (pc := 0) hx hb d_jPre_checkIndex_0 rfl (lv_at hl2 0 rfl) ?_
  refine lv_if_lt (pc := 1) (tgt := 9) hx hb d_jPre_checkIndex_1 (by decide) (fun c1 => absurd c1 (by rw [Int32.lt_iff_toInt_lt]; show ¬ x.toInt < 0; omega)) (fun _ => ?_)
  refine lv_iload_n (pc := 4) hx hb d_jPre_checkIndex_4 rfl (lv_at hl2 0 rfl) ?_
  refine lv_iload_n (pc := 5) hx hb d_jPre_checkIndex_5 rfl (lv_at hl2 1 rfl) ?_
  refine lv_icmp_lt (pc := 6) (tgt := 16) hx hb d_jPre_checkIndex_6 (by decide) (fun _ => ?_) (fun c1 => absurd (by rw [Int32.lt_iff_toInt_lt]; exact h1) c1)
  refine lv_iload_n (pc := 16) hx hb d_jPre_checkIndex_16 rfl (lv_at hl2 0 rfl) ?_
  have hS : va_S (va_A ws sz) s.heap s.heap [] := va_S.rf
  have hD2 : va_D (va_A ws sz) ws := hD.self
  exact W.iret (v := x) hx hb hr (fun t ht hW => ⟨⟨x, (ta, ws), rfl, ⟨⟨fun _ _ q => q, hth, fun _ => rfl, kp_refl⟩, tv_any, ⟨fun f hf => (by cases hf), Or.inl rfl⟩⟩, by rw [ht]; exact hP, va_K.moved hW.alike hK, hD2⟩, hS.F ht⟩) hS.2.2 d_jPre_checkIndex_17
set_option maxRecDepth 100000 in
theorem c_hand_jStr_checkIndex {PQ : pq_T} {l : Launch} {D : va_G} {kA : Nat → ClassId} {G : List rg_T} {lo1 hi1 lo2 hi2 : Int} {rk : Nat} (h0 : 0 ≤ lo1) (h1 : hi1 < lo2) (hrk : 1 ≤ rk) : ct_ok PQ l D kA G y_jStr_checkIndex z_jStr_checkIndex ([(0, lo1, hi1, []), (0, lo2, hi2, [])], none, true, rk, 0, 0, [], [], (0, [], [], [], [])) := by
  intro sz ta ws av gv hv hth hag hgv hhv hpr
  match av, hag with
  | [v1, v2], ⟨t1, t2, _⟩ =>
    match gv, hgv with
    | [], _ =>
      match hv, hhv with
      | [], _ =>
        obtain ⟨x, rfl, a1, b1⟩ := tv_int t1 rfl
        obtain ⟨y, rfl, a2, b2⟩ := tv_int t2 rfl
        have a1 : lo1 ≤ x.toInt := a1
        have b1 : x.toInt ≤ hi1 := b1
        have a2 : lo2 ≤ y.toInt := a2
        refine k_metF (by decide +kernel) rfl (Nat.le_of_ble_eq_true rfl) (fun p e s m below meth c ls X hl hB => ?_)
        obtain ⟨⟨hsz, hP, hK, hD, hN0⟩, hro⟩ := hB
        obtain ⟨hx, hb, hml, hown, hts, hr, hlk, hnm⟩ := id X
        have hl2 : lv_has ls 2 [(0, .int x), (1, .int y)] := hl
        have hN : nsr kA (va_A ws sz) s := ⟨hN0, hro⟩
        have hA : ∀ q, s.heap.size ≤ q → va_A ws sz q := fun q hq => Or.inr (by omega)
        have hS : va_S (va_A ws sz) s.heap s.heap [] := va_S.rf
        have hD2 : va_D (va_A ws sz) ws := hD.self
        obtain ⟨v, hv, hz⟩ := hro.2.2.2.2.2.2.2
        refine lv_iload_n (pc := 0) hx hb d_jStr_checkIndex_0 rfl (lv_at hl2 0 rfl) ?_
        refine lv_iload_n (pc := 1) hx hb d_jStr_checkIndex_1 rfl (lv_at hl2 1 rfl) ?_
        refine va_gets (pc := 2) hx hb hz hS hown (hts _ wm_695) (fun _ q => q) d_jStr_checkIndex_2 ?_
        refine W.eq (g2 := F0 m 5 ls (List.reverse [.int x, .int y, v] ++ [])) rfl ?_
        refine m_go (PQ := PQ) (G := G) (en := en_pc) (av := [.int x, .int y, v]) (gv := []) (hv := []) (k_rS16 X (pc_met hth hv (by omega) (by omega)) rfl wm_699 wm_13 wm_697 wm_698 3 ⟨by decide, by decide, by decide +kernel⟩ ⟨by show 0 + 1 ≤ rk; omega, by show 16 + (3 + 11) + 64 * 0 ≤ 64 * rk; omega⟩ rfl rfl (m_pre hN hA hS hK hP hD2) rfl hl2.1 rfl (by decide) d_jStr_checkIndex_5 ⟨Nat.le_of_ble_eq_true rfl, Nat.le_of_ble_eq_true rfl⟩) hP hD2 hS hA (fun tb w1 H1 locs1 r hle hth1 hP1 hD1 hS1 hrt hpo hpu hkp => ?_)
        obtain ⟨e1, e2⟩ := Prod.mk.inj (hpu rfl)
        subst e1; subst e2
        cases r with
        | none => exact hrt.elim
        | some r =>
          obtain ⟨z, rfl, _⟩ := tv_int (show tv_ok _ (0, -2147483648, 2147483647, []) r from hrt) rfl
          refine lv_pop (pc := 8) hx hb d_jStr_checkIndex_8 rfl ?_
          exact W.vret hx hb hr (fun t ht hW => ⟨⟨(_, _), rfl, ⟨⟨fun _ _ q => q, hth1, fun _ => rfl, kp_refl⟩, ⟨fun f hf => (by cases hf), Or.inl rfl⟩⟩, by rw [ht]; exact hP1, va_K.moved hW.alike hK, hD1⟩, hS1.F ht⟩) hS1.2.2 d_jStr_checkIndex_9
abbrev b_jInt_bitCount : ByteArray := prog_17_method_49_code
def y_jInt_bitCount : MethodName := ⟨"java/lang/Integer", "bitCount", "(I)I"⟩
abbrev z_jInt_bitCount : List Cond := Cond.code y_jInt_bitCount b_jInt_bitCount 1 (some .int) :: lw_g
abbrev b_jLong_bitCount : ByteArray := prog_18_method_50_code
def y_jLong_bitCount : MethodName := ⟨"java/lang/Long", "bitCount", "(J)I"⟩
abbrev z_jLong_bitCount : List Cond := Cond.code y_jLong_bitCount b_jLong_bitCount 2 (some .int) :: lw_g
abbrev b_jMath_abs1 : ByteArray := prog_19_method_59_code
def y_jMath_abs1 : MethodName := ⟨"java/lang/Math", "abs", "(I)I"⟩
abbrev z_jMath_abs1 : List Cond := Cond.code y_jMath_abs1 b_jMath_abs1 1 (some .int) :: lw_g
abbrev b_jMath_abs2 : ByteArray := prog_19_method_61_code
def y_jMath_abs2 : MethodName := ⟨"java/lang/Math", "abs", "(J)J"⟩
abbrev z_jMath_abs2 : List Cond := Cond.code y_jMath_abs2 b_jMath_abs2 2 (some .long) :: lw_g
abbrev b_jMath_floorDiv1 : ByteArray := prog_19_method_47_code
def y_jMath_floorDiv1 : MethodName := ⟨"java/lang/Math", "floorDiv", "(II)I"⟩
abbrev z_jMath_floorDiv1 : List Cond := Cond.code y_jMath_floorDiv1 b_jMath_floorDiv1 3 (some .int) :: lw_g
abbrev b_jMath_floorDiv2 : ByteArray := prog_19_method_49_code
def y_jMath_floorDiv2 : MethodName := ⟨"java/lang/Math", "floorDiv", "(JJ)J"⟩
abbrev z_jMath_floorDiv2 : List Cond := Cond.code y_jMath_floorDiv2 b_jMath_floorDiv2 6 (some .long) :: lw_g
abbrev b_jMath_max1 : ByteArray := prog_19_method_65_code
def y_jMath_max1 : MethodName := ⟨"java/lang/Math", "max", "(II)I"⟩
abbrev z_jMath_max1 : List Cond := Cond.code y_jMath_max1 b_jMath_max1 2 (some .int) :: lw_g
abbrev b_jMath_max2 : ByteArray := prog_19_method_66_code
def y_jMath_max2 : MethodName := ⟨"java/lang/Math", "max", "(JJ)J"⟩
abbrev z_jMath_max2 : List Cond := Cond.code y_jMath_max2 b_jMath_max2 4 (some .long) :: lw_g
abbrev b_jMath_min1 : ByteArray := prog_19_method_69_code
def y_jMath_min1 : MethodName := ⟨"java/lang/Math", "min", "(II)I"⟩
abbrev z_jMath_min1 : List Cond := Cond.code y_jMath_min1 b_jMath_min1 2 (some .int) :: lw_g
abbrev b_jMath_min2 : ByteArray := prog_19_method_70_code
def y_jMath_min2 : MethodName := ⟨"java/lang/Math", "min", "(JJ)J"⟩
abbrev z_jMath_min2 : List Cond := Cond.code y_jMath_min2 b_jMath_min2 4 (some .long) :: lw_g
abbrev b_jStr_charAt : ByteArray := prog_20_method_56_code
def y_jStr_charAt : MethodName := ⟨"java/lang/String", "charAt", "(I)C"⟩
abbrev z_jStr_charAt : List Cond := Cond.code y_jStr_charAt b_jStr_charAt 2 (some .char) :: lw_g
abbrev b_jStr_coder : ByteArray := prog_20_method_152_code
def y_jStr_coder : MethodName := ⟨"java/lang/String", "coder", "()B"⟩
abbrev z_jStr_coder : List Cond := Cond.code y_jStr_coder b_jStr_coder 1 (some .byte) :: lw_g
abbrev b_jStr_indexOf1 : ByteArray := prog_20_method_79_code
def y_jStr_indexOf1 : MethodName := ⟨"java/lang/String", "indexOf", "(I)I"⟩
abbrev z_jStr_indexOf1 : List Cond := Cond.code y_jStr_indexOf1 b_jStr_indexOf1 2 (some .int) :: lw_g
abbrev b_jStr_indexOf2 : ByteArray := prog_20_method_80_code
def y_jStr_indexOf2 : MethodName := ⟨"java/lang/String", "indexOf", "(II)I"⟩
abbrev z_jStr_indexOf2 : List Cond := Cond.code y_jStr_indexOf2 b_jStr_indexOf2 3 (some .int) :: lw_g
abbrev b_jStr_isLatin1 : ByteArray := prog_20_method_154_code
def y_jStr_isLatin1 : MethodName := ⟨"java/lang/String", "isLatin1", "()Z"⟩
abbrev z_jStr_isLatin1 : List Cond := Cond.code y_jStr_isLatin1 b_jStr_isLatin1 1 (some .boolean) :: lw_g
abbrev b_jStr_length : ByteArray := prog_20_method_54_code
def y_jStr_length : MethodName := ⟨"java/lang/String", "length", "()I"⟩
abbrev z_jStr_length : List Cond := Cond.code y_jStr_length b_jStr_length 1 (some .int) :: lw_g
abbrev b_jLat_canEncode : ByteArray := prog_21_method_4_code
def y_jLat_canEncode : MethodName := ⟨"java/lang/StringLatin1", "canEncode", "(I)Z"⟩
abbrev z_jLat_canEncode : List Cond := Cond.code y_jLat_canEncode b_jLat_canEncode 1 (some .boolean) :: lw_g
abbrev b_jLat_charAt : ByteArray := prog_21_method_2_code
def y_jLat_charAt : MethodName := ⟨"java/lang/StringLatin1", "charAt", "([BI)C"⟩
abbrev z_jLat_charAt : List Cond := Cond.code y_jLat_charAt b_jLat_charAt 2 (some .char) :: lw_g
abbrev b_jLat_indexOf : ByteArray := prog_21_method_22_code
def y_jLat_indexOf : MethodName := ⟨"java/lang/StringLatin1", "indexOf", "([BIII)I"⟩
abbrev z_jLat_indexOf : List Cond := Cond.code y_jLat_indexOf b_jLat_indexOf 4 (some .int) :: lw_g
abbrev b_jLat_indexOfChar : ByteArray := prog_21_method_23_code
def y_jLat_indexOfChar : MethodName := ⟨"java/lang/StringLatin1", "indexOfChar", "([BIII)I"⟩
abbrev z_jLat_indexOfChar : List Cond := Cond.code y_jLat_indexOfChar b_jLat_indexOfChar 6 (some .int) :: lw_g
abbrev b_jArr_fill1 : ByteArray := prog_24_method_103_code
def y_jArr_fill1 : MethodName := ⟨"java/util/Arrays", "fill", "([II)V"⟩
abbrev z_jArr_fill1 : List Cond := Cond.code y_jArr_fill1 b_jArr_fill1 4 none :: lw_g
abbrev b_jArr_fill2 : ByteArray := prog_24_method_101_code
def y_jArr_fill2 : MethodName := ⟨"java/util/Arrays", "fill", "([JJ)V"⟩
abbrev z_jArr_fill2 : List Cond := Cond.code y_jArr_fill2 b_jArr_fill2 5 none :: lw_g
def e_jArr_fill1_v0 : en_T := ([(2, 0, 0, [16]), (0, 0, 0, [])], none, false, 1, 0, 0, [], [], (65536, [], [], [(20, [0, 1], [8, 0, 0, 48])], []))
def o_jArr_fill1_v0_0 : or_T := (5, 4, [(2, (0, 0, 0, []))], [], [], [], [(20, [0, 2], [8, 0, 0, 0])], [], [])
theorem oo_jArr_fill1_v0_0 {kA : Nat → ClassId} : or_ok PRD kA GG o_jArr_fill1_v0_0 := by
  refine or_mk fun A ta ws vs hD hth hl => ?_
  intro t2 k2
  have nf0 : fc_1 PRD (20, [0, 2], [8, 0, 0, 0]) ws (vs) := by
    refine ⟨nf_in hl rfl, sgq_0 ?_⟩
    · show ∀ j : Nat, (j : Int) < v_iv (n_v vs 2) + 0 → 0 ≤ w_el ws (v_ad (n_v vs 0)) j ∧ w_el ws (v_ad (n_v vs 0)) j ≤ 0
      intro j hj
      exfalso; omega
  refine ⟨(fun _ h => (by cases h)), [], trivial, ?_, (fun _ h => (by cases h))⟩
  rw [List.append_nil]
  exact List.forall_mem_cons.mpr ⟨⟨show (20 : Nat) < 100 from by decide, nf0⟩, (fun _ h => (by cases h))⟩
def o_jArr_fill1_v0_1 : or_T := (5, 4, [], [], [], [], [(24, [0, 0], [])], [], [])
theorem oo_jArr_fill1_v0_1 {kA : Nat → ClassId} : or_ok PRD kA GG o_jArr_fill1_v0_1 := by
  refine or_mk fun A ta ws vs hD hth hl => ?_
  have nf0 : fc_1 PRD (24, [0, 0], []) ws (vs) := by
    refine ⟨nf_in hl rfl, sgq_1 ?_⟩
    · show n_v vs 0 = n_v vs 0
      first | rfl | simp only [true_and]
  refine ⟨(fun _ h => (by cases h)), [], trivial, ?_, (fun _ h => (by cases h))⟩
  rw [List.append_nil]
  exact List.forall_mem_cons.mpr ⟨⟨show (24 : Nat) < 100 from by decide, nf0⟩, (fun _ h => (by cases h))⟩
def o_jArr_fill1_v0_2 : or_T := (20, 6, [(1, (0, 0, 0, [])), (4, (0, 48, 48, [])), (5, (0, 48, 48, []))], [(7, [4, 5], [3]), (20, [0, 4], [8, 0, 0, 0])], [], [], [(20, [0, 1], [8, 0, 0, 48])], [], [])
theorem oo_jArr_fill1_v0_2 {kA : Nat → ClassId} : or_ok PRD kA GG o_jArr_fill1_v0_2 := by
  refine or_mk fun A ta ws vs hD hth hl => ?_
  intro t1 k1 t4 k4 t5 k5 f0 f1
  replace f0 := shm_2 f0
  replace f1 := shm_0 f1
  have nf0 : fc_1 PRD (20, [0, 1], [8, 0, 0, 48]) ws (vs) := by
    refine ⟨nf_in hl rfl, sgq_3 ?_⟩
    · show ∀ j : Nat, (j : Int) < v_iv (n_v vs 1) + 48 → 0 ≤ w_el ws (v_ad (n_v vs 0)) j ∧ w_el ws (v_ad (n_v vs 0)) j ≤ 0
      intro j hj
      exact f1 j (by omega)
  refine ⟨(fun _ h => (by cases h)), [], trivial, ?_, (fun _ h => (by cases h))⟩
  rw [List.append_nil]
  exact List.forall_mem_cons.mpr ⟨⟨show (20 : Nat) < 100 from by decide, nf0⟩, (fun _ h => (by cases h))⟩
def o_jArr_fill1_v0_3 : or_T := (5, 7, [(3, (0, 0, 0, [])), (4, (0, 0, 47, [])), (5, (0, 48, 48, [])), (6, (0, 1, 48, []))], [(6, [6, 4], [1]), (24, [0, 2], []), (100, [2, 4, 3], []), (7, [4, 5], [2]), (20, [0, 4], [8, 0, 0, 0])], [], [], [(20, [0, 6], [8, 0, 0, 0])], [], [(6, 4, 1, 1)])
theorem oo_jArr_fill1_v0_3 {kA : Nat → ClassId} : or_ok PRD kA GG o_jArr_fill1_v0_3 := by
  refine or_mk fun A ta ws vs hD hth hl => ?_
  intro t3 k3 t4 k4 t5 k5 t6 k6 d0 f0 f1 ta1 w1 le1 s1 f3 f4
  replace f0 := shm_4 f0
  replace f1 := shm_5 f1
  have s1 : (∀ b j, w_el ws b j = if b = v_ad (n_v vs 2) ∧ j = (v_iv (n_v vs 4)).toNat then v_iv (n_v vs 3) else w_el w1 b j) ∧ ∀ b k, w_fd ws b k = w_fd w1 b k := s1.2
  replace f3 := shm_6 f3
  replace f4 := shm_0 f4
  rw [← f1] at s1
  have nf0 : fc_1 PRD (20, [0, 6], [8, 0, 0, 0]) ws (vs) := by
    refine ⟨nf_in hl rfl, sgq_0 ?_⟩
    · show ∀ j : Nat, (j : Int) < v_iv (n_v vs 6) + 0 → 0 ≤ w_el ws (v_ad (n_v vs 0)) j ∧ w_el ws (v_ad (n_v vs 0)) j ≤ 0
      intro j hj
      by_cases hji : j = (v_iv (n_v vs 4)).toNat
      · rw [s1.1, if_pos ⟨rfl, hji⟩]; first | (constructor <;> omega) | (exfalso; omega)
      · rw [s1.1, if_neg (fun e => hji e.2)]; exact f4 j (by omega)
  refine ⟨(fun _ h => (by cases h)), [], trivial, ?_, (fun _ h => (by cases h))⟩
  rw [List.append_nil]
  exact List.forall_mem_cons.mpr ⟨⟨show (20 : Nat) < 100 from by decide, nf0⟩, (fun _ h => (by cases h))⟩
def n_jArr_fill1_v0_an : List an_T := [(5, [(0, (2, 0, 0, [16])), (1, (0, 0, 0, [])), (2, (0, 0, 48, [])), (3, (0, 48, 48, []))], [], (0, 0), [(0, 0, 99995), (1, 4, 48), (0, 0, 100000)], [], [], [(2, 0, 0, [16]), (0, 0, 0, [])], 0, [], [(20, [0, 4], [8, 0, 0, 0]), (24, [0, 2], [])])]
def t_jArr_fill1_v0_ct : ct_L := []
set_option maxRecDepth 100000 in
theorem c_jArr_fill1_v0 {l : Launch} {D : va_G} {kA : Nat → ClassId} : ct_ok PRD l D kA GG y_jArr_fill1 z_jArr_fill1 e_jArr_fill1_v0 := chk_all_ok (FT := []) (PT := []) (CT := t_jArr_fill1_v0_ct) (KT := []) (NT := []) (AN := n_jArr_fill1_v0_an) (OT := [o_jArr_fill1_v0_0, o_jArr_fill1_v0_1, o_jArr_fill1_v0_2, o_jArr_fill1_v0_3]) 3 200 (List.forall_mem_cons.mpr ⟨oo_jArr_fill1_v0_0, List.forall_mem_cons.mpr ⟨oo_jArr_fill1_v0_1, List.forall_mem_cons.mpr ⟨oo_jArr_fill1_v0_2, List.forall_mem_cons.mpr ⟨oo_jArr_fill1_v0_3, List.forall_mem_nil _⟩⟩⟩⟩) (by decide +kernel) ⟨List.forall_mem_nil _, List.forall_mem_nil _, List.forall_mem_nil _, List.forall_mem_nil _, List.forall_mem_nil _, GG_pl⟩ (by decide +kernel)
def e_jMath_max1_v1 : en_T := ([(0, 1, 1, []), (0, -730000000, 1042000000, [])], some (0, 1, 1042000000, []), true, 1, 0, 0, [], [], (0, [], [], [(23, [0, 2], [0, 1, -1]), (23, [1, 2], [0, 1, -1])], []))
def o_jMath_max1_v1_0 : or_T := (10, 2, [(0, (0, 1, 1, [])), (1, (0, 2, 1042000000, []))], [(7, [0, 1], [2])], [], [], [(23, [0, 1], [0, 1, -1]), (23, [1, 1], [0, 1, -1])], [], [])
theorem oo_jMath_max1_v1_0 {kA : Nat → ClassId} : or_ok PRD kA GG o_jMath_max1_v1_0 := by
  refine or_mk fun A ta ws vs hD hth hl => ?_
  intro t0 k0 t1 k1 f0
  replace f0 := shm_6 f0
  have nf0 : fc_1 PRD (23, [0, 1], [0, 1, -1]) ws (vs) := by
    refine ⟨nf_in hl rfl, sgq_7 ?_⟩
    · show 1 * v_iv (n_v vs 0) + ((-1) * v_iv (n_v vs 1) + 0) ≤ 0
      omega
  have nf1 : fc_1 PRD (23, [1, 1], [0, 1, -1]) ws (vs) := by
    refine ⟨nf_in hl rfl, sgq_8 ?_⟩
    · show 1 * v_iv (n_v vs 1) + ((-1) * v_iv (n_v vs 1) + 0) ≤ 0
      omega
  refine ⟨(fun _ h => (by cases h)), [], trivial, ?_, (fun _ h => (by cases h))⟩
  rw [List.append_nil]
  exact List.forall_mem_cons.mpr ⟨⟨show (23 : Nat) < 100 from by decide, nf0⟩, List.forall_mem_cons.mpr ⟨⟨show (23 : Nat) < 100 from by decide, nf1⟩, (fun _ h => (by cases h))⟩⟩
def o_jMath_max1_v1_1 : or_T := (10, 2, [(0, (0, 1, 1, [])), (1, (0, -730000000, 1, []))], [(7, [0, 1], [3])], [], [], [(23, [0, 0], [0, 1, -1]), (23, [1, 0], [0, 1, -1])], [], [])
theorem oo_jMath_max1_v1_1 {kA : Nat → ClassId} : or_ok PRD kA GG o_jMath_max1_v1_1 := by
  refine or_mk fun A ta ws vs hD hth hl => ?_
  intro t0 k0 t1 k1 f0
  replace f0 := shm_2 f0
  have nf0 : fc_1 PRD (23, [0, 0], [0, 1, -1]) ws (vs) := by
    refine ⟨nf_in hl rfl, sgq_8 ?_⟩
    · show 1 * v_iv (n_v vs 0) + ((-1) * v_iv (n_v vs 0) + 0) ≤ 0
      omega
  have nf1 : fc_1 PRD (23, [1, 0], [0, 1, -1]) ws (vs) := by
    refine ⟨nf_in hl rfl, sgq_7 ?_⟩
    · show 1 * v_iv (n_v vs 1) + ((-1) * v_iv (n_v vs 0) + 0) ≤ 0
      omega
  refine ⟨(fun _ h => (by cases h)), [], trivial, ?_, (fun _ h => (by cases h))⟩
  rw [List.append_nil]
  exact List.forall_mem_cons.mpr ⟨⟨show (23 : Nat) < 100 from by decide, nf0⟩, List.forall_mem_cons.mpr ⟨⟨show (23 : Nat) < 100 from by decide, nf1⟩, (fun _ h => (by cases h))⟩⟩
def n_jMath_max1_v1_an : List an_T := []
def t_jMath_max1_v1_ct : ct_L := []
set_option maxRecDepth 100000 in
theorem c_jMath_max1_v1 {l : Launch} {D : va_G} {kA : Nat → ClassId} : ct_ok PRD l D kA GG y_jMath_max1 z_jMath_max1 e_jMath_max1_v1 := chk_all_ok (FT := []) (PT := []) (CT := t_jMath_max1_v1_ct) (KT := []) (NT := []) (AN := n_jMath_max1_v1_an) (OT := [o_jMath_max1_v1_0, o_jMath_max1_v1_1]) 0 200 (List.forall_mem_cons.mpr ⟨oo_jMath_max1_v1_0, List.forall_mem_cons.mpr ⟨oo_jMath_max1_v1_1, List.forall_mem_nil _⟩⟩) (pl_Math rfl (by decide)) ⟨List.forall_mem_nil _, List.forall_mem_nil _, List.forall_mem_nil _, List.forall_mem_nil _, List.forall_mem_nil _, GG_pl⟩ (by decide +kernel)
def e_jArr_fill1_v2 : en_T := ([(2, 0, 0, [23]), (0, 0, 0, [])], none, false, 1, 0, 0, [], [], (8388608, [], [], [(20, [0, 1], [8, 0, 0, 216])], []))
def o_jArr_fill1_v2_0 : or_T := (5, 4, [(2, (0, 0, 0, []))], [], [], [], [(20, [0, 2], [8, 0, 0, 0])], [], [])
theorem oo_jArr_fill1_v2_0 {kA : Nat → ClassId} : or_ok PRD kA GG o_jArr_fill1_v2_0 := by
  refine or_mk fun A ta ws vs hD hth hl => ?_
  intro t2 k2
  have nf0 : fc_1 PRD (20, [0, 2], [8, 0, 0, 0]) ws (vs) := by
    refine ⟨nf_in hl rfl, sgq_0 ?_⟩
    · show ∀ j : Nat, (j : Int) < v_iv (n_v vs 2) + 0 → 0 ≤ w_el ws (v_ad (n_v vs 0)) j ∧ w_el ws (v_ad (n_v vs 0)) j ≤ 0
      intro j hj
      exfalso; omega
  refine ⟨(fun _ h => (by cases h)), [], trivial, ?_, (fun _ h => (by cases h))⟩
  rw [List.append_nil]
  exact List.forall_mem_cons.mpr ⟨⟨show (20 : Nat) < 100 from by decide, nf0⟩, (fun _ h => (by cases h))⟩
def o_jArr_fill1_v2_1 : or_T := (5, 4, [], [], [], [], [(24, [0, 0], [])], [], [])
theorem oo_jArr_fill1_v2_1 {kA : Nat → ClassId} : or_ok PRD kA GG o_jArr_fill1_v2_1 := by
  refine or_mk fun A ta ws vs hD hth hl => ?_
  have nf0 : fc_1 PRD (24, [0, 0], []) ws (vs) := by
    refine ⟨nf_in hl rfl, sgq_1 ?_⟩
    · show n_v vs 0 = n_v vs 0
      first | rfl | simp only [true_and]
  refine ⟨(fun _ h => (by cases h)), [], trivial, ?_, (fun _ h => (by cases h))⟩
  rw [List.append_nil]
  exact List.forall_mem_cons.mpr ⟨⟨show (24 : Nat) < 100 from by decide, nf0⟩, (fun _ h => (by cases h))⟩
def o_jArr_fill1_v2_2 : or_T := (20, 6, [(1, (0, 0, 0, [])), (4, (0, 216, 216, [])), (5, (0, 216, 216, []))], [(7, [4, 5], [3]), (20, [0, 4], [8, 0, 0, 0])], [], [], [(20, [0, 1], [8, 0, 0, 216])], [], [])
theorem oo_jArr_fill1_v2_2 {kA : Nat → ClassId} : or_ok PRD kA GG o_jArr_fill1_v2_2 := by
  refine or_mk fun A ta ws vs hD hth hl => ?_
  intro t1 k1 t4 k4 t5 k5 f0 f1
  replace f0 := shm_2 f0
  replace f1 := shm_0 f1
  have nf0 : fc_1 PRD (20, [0, 1], [8, 0, 0, 216]) ws (vs) := by
    refine ⟨nf_in hl rfl, sgq_9 ?_⟩
    · show ∀ j : Nat, (j : Int) < v_iv (n_v vs 1) + 216 → 0 ≤ w_el ws (v_ad (n_v vs 0)) j ∧ w_el ws (v_ad (n_v vs 0)) j ≤ 0
      intro j hj
      exact f1 j (by omega)
  refine ⟨(fun _ h => (by cases h)), [], trivial, ?_, (fun _ h => (by cases h))⟩
  rw [List.append_nil]
  exact List.forall_mem_cons.mpr ⟨⟨show (20 : Nat) < 100 from by decide, nf0⟩, (fun _ h => (by cases h))⟩
def o_jArr_fill1_v2_3 : or_T := (5, 7, [(3, (0, 0, 0, [])), (4, (0, 0, 215, [])), (5, (0, 216, 216, [])), (6, (0, 1, 216, []))], [(6, [6, 4], [1]), (24, [0, 2], []), (100, [2, 4, 3], []), (7, [4, 5], [2]), (20, [0, 4], [8, 0, 0, 0])], [], [], [(20, [0, 6], [8, 0, 0, 0])], [], [(6, 4, 1, 1)])
theorem oo_jArr_fill1_v2_3 {kA : Nat → ClassId} : or_ok PRD kA GG o_jArr_fill1_v2_3 := by
  refine or_mk fun A ta ws vs hD hth hl => ?_
  intro t3 k3 t4 k4 t5 k5 t6 k6 d0 f0 f1 ta1 w1 le1 s1 f3 f4
  replace f0 := shm_4 f0
  replace f1 := shm_5 f1
  have s1 : (∀ b j, w_el ws b j = if b = v_ad (n_v vs 2) ∧ j = (v_iv (n_v vs 4)).toNat then v_iv (n_v vs 3) else w_el w1 b j) ∧ ∀ b k, w_fd ws b k = w_fd w1 b k := s1.2
  replace f3 := shm_6 f3
  replace f4 := shm_0 f4
  rw [← f1] at s1
  have nf0 : fc_1 PRD (20, [0, 6], [8, 0, 0, 0]) ws (vs) := by
    refine ⟨nf_in hl rfl, sgq_0 ?_⟩
    · show ∀ j : Nat, (j : Int) < v_iv (n_v vs 6) + 0 → 0 ≤ w_el ws (v_ad (n_v vs 0)) j ∧ w_el ws (v_ad (n_v vs 0)) j ≤ 0
      intro j hj
      by_cases hji : j = (v_iv (n_v vs 4)).toNat
      · rw [s1.1, if_pos ⟨rfl, hji⟩]; first | (constructor <;> omega) | (exfalso; omega)
      · rw [s1.1, if_neg (fun e => hji e.2)]; exact f4 j (by omega)
  refine ⟨(fun _ h => (by cases h)), [], trivial, ?_, (fun _ h => (by cases h))⟩
  rw [List.append_nil]
  exact List.forall_mem_cons.mpr ⟨⟨show (20 : Nat) < 100 from by decide, nf0⟩, (fun _ h => (by cases h))⟩
def n_jArr_fill1_v2_an : List an_T := [(5, [(0, (2, 0, 0, [23])), (1, (0, 0, 0, [])), (2, (0, 0, 216, [])), (3, (0, 216, 216, []))], [], (0, 0), [(0, 0, 99995), (1, 4, 216), (0, 0, 100000)], [], [], [(2, 0, 0, [23]), (0, 0, 0, [])], 0, [], [(20, [0, 4], [8, 0, 0, 0]), (24, [0, 2], [])])]
def t_jArr_fill1_v2_ct : ct_L := []
set_option maxRecDepth 100000 in
theorem c_jArr_fill1_v2 {l : Launch} {D : va_G} {kA : Nat → ClassId} : ct_ok PRD l D kA GG y_jArr_fill1 z_jArr_fill1 e_jArr_fill1_v2 := chk_all_ok (FT := []) (PT := []) (CT := t_jArr_fill1_v2_ct) (KT := []) (NT := []) (AN := n_jArr_fill1_v2_an) (OT := [o_jArr_fill1_v2_0, o_jArr_fill1_v2_1, o_jArr_fill1_v2_2, o_jArr_fill1_v2_3]) 3 200 (List.forall_mem_cons.mpr ⟨oo_jArr_fill1_v2_0, List.forall_mem_cons.mpr ⟨oo_jArr_fill1_v2_1, List.forall_mem_cons.mpr ⟨oo_jArr_fill1_v2_2, List.forall_mem_cons.mpr ⟨oo_jArr_fill1_v2_3, List.forall_mem_nil _⟩⟩⟩⟩) (by decide +kernel) ⟨List.forall_mem_nil _, List.forall_mem_nil _, List.forall_mem_nil _, List.forall_mem_nil _, List.forall_mem_nil _, GG_pl⟩ (by decide +kernel)
def e_jLong_bitCount_v3 : en_T := ([(1, 0, 0, [])], some (0, 0, 127, []), true, 1, 0, 0, [], [], (0, [], [], [], []))
def n_jLong_bitCount_v3_an : List an_T := []
def t_jLong_bitCount_v3_ct : ct_L := []
set_option maxRecDepth 100000 in
theorem c_jLong_bitCount_v3 {l : Launch} {D : va_G} {kA : Nat → ClassId} : ct_ok PRD l D kA GG y_jLong_bitCount z_jLong_bitCount e_jLong_bitCount_v3 := chk_all_ok (FT := []) (PT := []) (CT := t_jLong_bitCount_v3_ct) (KT := [(2, 314, .long (6148914691236517205), (1, 6148914691236517205, 6148914691236517205, [])), (2, 316, .long (3689348814741910323), (1, 3689348814741910323, 3689348814741910323, [])), (2, 318, .long (1085102592571150095), (1, 1085102592571150095, 1085102592571150095, []))]) (NT := []) (AN := n_jLong_bitCount_v3_an) (OT := []) 0 200 (List.forall_mem_nil _) (by decide +kernel) ⟨List.forall_mem_nil _, List.forall_mem_nil _, List.forall_mem_nil _, List.forall_mem_cons.mpr ⟨⟨kt_mk2 wm_848, fun _ => Or.inr (Or.inl ⟨rfl, _, rfl, by decide, by decide⟩)⟩, List.forall_mem_cons.mpr ⟨⟨kt_mk2 wm_849, fun _ => Or.inr (Or.inl ⟨rfl, _, rfl, by decide, by decide⟩)⟩, List.forall_mem_cons.mpr ⟨⟨kt_mk2 wm_850, fun _ => Or.inr (Or.inl ⟨rfl, _, rfl, by decide, by decide⟩)⟩, List.forall_mem_nil _⟩⟩⟩, List.forall_mem_nil _, GG_pl⟩ (by decide +kernel)
def e_jLong_bitCount_v4 : en_T := ([(1, -9223372036854775808, 9223372036854775807, [])], some (0, 0, 127, []), true, 1, 0, 0, [], [], (0, [], [], [], []))
def n_jLong_bitCount_v4_an : List an_T := []
def t_jLong_bitCount_v4_ct : ct_L := []
set_option maxRecDepth 100000 in
theorem c_jLong_bitCount_v4 {l : Launch} {D : va_G} {kA : Nat → ClassId} : ct_ok PRD l D kA GG y_jLong_bitCount z_jLong_bitCount e_jLong_bitCount_v4 := chk_all_ok (FT := []) (PT := []) (CT := t_jLong_bitCount_v4_ct) (KT := [(2, 314, .long (6148914691236517205), (1, 6148914691236517205, 6148914691236517205, [])), (2, 316, .long (3689348814741910323), (1, 3689348814741910323, 3689348814741910323, [])), (2, 318, .long (1085102592571150095), (1, 1085102592571150095, 1085102592571150095, []))]) (NT := []) (AN := n_jLong_bitCount_v4_an) (OT := []) 0 200 (List.forall_mem_nil _) (by decide +kernel) ⟨List.forall_mem_nil _, List.forall_mem_nil _, List.forall_mem_nil _, List.forall_mem_cons.mpr ⟨⟨kt_mk2 wm_848, fun _ => Or.inr (Or.inl ⟨rfl, _, rfl, by decide, by decide⟩)⟩, List.forall_mem_cons.mpr ⟨⟨kt_mk2 wm_849, fun _ => Or.inr (Or.inl ⟨rfl, _, rfl, by decide, by decide⟩)⟩, List.forall_mem_cons.mpr ⟨⟨kt_mk2 wm_850, fun _ => Or.inr (Or.inl ⟨rfl, _, rfl, by decide, by decide⟩)⟩, List.forall_mem_nil _⟩⟩⟩, List.forall_mem_nil _, GG_pl⟩ (by decide +kernel)
def e_jInt_bitCount_v5 : en_T := ([(0, -1, 33554430, [])], some (0, 0, 63, []), true, 1, 0, 0, [], [], (0, [], [], [(20, [0, 1], [61, 0, 554])], []))
def o_jInt_bitCount_v5_0 : or_T := (52, 26, [(0, (0, -1, 33554430, [])), (1, (0, 1, 1, [])), (2, (0, -2147483648, 2147483647, [])), (3, (0, 1431655765, 1431655765, [])), (4, (0, 0, 1431655765, [])), (5, (0, -1431655766, 33554430, [])), (6, (0, 858993459, 858993459, [])), (7, (0, 0, 858993459, [])), (8, (0, 2, 2, [])), (9, (0, -2147483648, 2147483647, [])), (10, (0, 858993459, 858993459, [])), (11, (0, 0, 858993459, [])), (12, (0, 0, 1717986918, [])), (13, (0, 4, 4, [])), (14, (0, 0, 107374182, [])), (15, (0, 0, 1825361100, [])), (16, (0, 252645135, 252645135, [])), (17, (0, 0, 252645135, [])), (18, (0, 8, 8, [])), (19, (0, 0, 986895, [])), (20, (0, 0, 253632030, [])), (21, (0, 16, 16, [])), (22, (0, 0, 3870, [])), (23, (0, 0, 253635900, [])), (24, (0, 63, 63, [])), (25, (0, 0, 63, []))], [(12, [25, 23], [64]), (16, [25, 23, 24], [0]), (1, [23, 20, 22], []), (16, [22, 20, 21], [4]), (1, [20, 17, 19], []), (16, [19, 17, 18], [4]), (16, [17, 15, 16], [0]), (1, [15, 12, 14], []), (16, [14, 12, 13], [4]), (1, [12, 7, 11], []), (16, [11, 9, 10], [0]), (16, [9, 5, 8], [4]), (16, [7, 5, 6], [0]), (2, [5, 0, 4], []), (16, [4, 2, 3], [0]), (16, [2, 0, 1], [4])], [], [], [(20, [0, 25], [61, 0, 554])], [], [(23, 22, 0, 253632030), (23, 20, 0, 3870), (23, 19, 0, 252649005), (23, 17, 0, 990765), (20, 19, 0, 252645135), (20, 17, 0, 986895), (15, 14, 0, 1717986918), (15, 12, 0, 107374182), (15, 11, 0, 966367641), (15, 7, 0, 966367641), (12, 11, 0, 858993459), (12, 7, 0, 858993459), (5, 0, -1431655765, 0)])
theorem oo_jInt_bitCount_v5_0 {kA : Nat → ClassId} : or_ok PRD kA GG o_jInt_bitCount_v5_0 := by
  refine or_mk fun A ta ws vs hD hth hl => ?_
  intro t0 k0 t1 k1 t2 k2 t3 k3 t4 k4 t5 k5 t6 k6 t7 k7 t8 k8 t9 k9 t10 k10 t11 k11 t12 k12 t13 k13 t14 k14 t15 k15 t16 k16 t17 k17 t18 k18 t19 k19 t20 k20 t21 k21 t22 k22 t23 k23 t24 k24 t25 k25 d0 d1 d2 d3 d4 d5 d6 d7 d8 d9 d10 d11 d12 f0 f1 f2 f3 f4 f5 f6 f7 f8 f9 f10 f11 f12 f13 f14 f15
  replace f0 := shm_10 f0
  replace f1 := shm_11 f1
  replace f2 := shm_12 f2
  replace f3 := shm_13 f3
  replace f4 := shm_12 f4
  replace f5 := shm_13 f5
  replace f6 := shm_11 f6
  replace f7 := shm_12 f7
  replace f8 := shm_13 f8
  replace f9 := shm_12 f9
  replace f10 := shm_11 f10
  replace f11 := shm_13 f11
  replace f12 := shm_11 f12
  replace f13 := shm_14 f13
  replace f14 := shm_11 f14
  replace f15 := shm_13 f15
  have nf0 : fc_1 PRD (20, [0, 25], [61, 0, 554]) ws (vs) := by
    refine ⟨nf_in hl rfl, sgq_15 ?_⟩
    · show BCT (v_iv (n_v vs 0)) (v_iv (n_v vs 25))
      exact bct_of (by assumption) (by assumption) (by assumption) (by assumption) (by assumption) (by assumption) (by assumption) (by assumption) (by assumption) (by assumption) (by assumption) (by assumption) (by assumption) (by assumption) (by assumption) (by omega) (by omega) (by omega) (by omega) (by omega) (by omega) (by omega) (by omega) (by omega) (by omega) (by omega) (by omega)
  refine ⟨(fun _ h => (by cases h)), [], trivial, ?_, (fun _ h => (by cases h))⟩
  rw [List.append_nil]
  exact List.forall_mem_cons.mpr ⟨⟨show (20 : Nat) < 100 from by decide, nf0⟩, (fun _ h => (by cases h))⟩
def n_jInt_bitCount_v5_an : List an_T := []
def t_jInt_bitCount_v5_ct : ct_L := []
set_option maxRecDepth 100000 in
theorem c_jInt_bitCount_v5 {l : Launch} {D : va_G} {kA : Nat → ClassId} : ct_ok PRD l D kA GG y_jInt_bitCount z_jInt_bitCount e_jInt_bitCount_v5 := chk_all_ok (FT := []) (PT := []) (CT := t_jInt_bitCount_v5_ct) (KT := [(1, 265, .int (1431655765), (0, 1431655765, 1431655765, [])), (1, 266, .int (858993459), (0, 858993459, 858993459, [])), (1, 267, .int (252645135), (0, 252645135, 252645135, []))]) (NT := []) (AN := n_jInt_bitCount_v5_an) (OT := [o_jInt_bitCount_v5_0]) 0 200 (List.forall_mem_cons.mpr ⟨oo_jInt_bitCount_v5_0, List.forall_mem_nil _⟩) (by decide +kernel) ⟨List.forall_mem_nil _, List.forall_mem_nil _, List.forall_mem_nil _, List.forall_mem_cons.mpr ⟨kx_jInt_1_265, List.forall_mem_cons.mpr ⟨kx_jInt_1_266, List.forall_mem_cons.mpr ⟨kx_jInt_1_267, List.forall_mem_nil _⟩⟩⟩, List.forall_mem_nil _, GG_pl⟩ (by decide +kernel)
def e_jArr_fill1_v6 : en_T := ([(2, 0, 0, [44]), (0, -1, -1, [])], none, false, 1, 0, 0, [], [], (17592186044416, [], [], [(20, [0, 1], [8, -1, -1, 25])], []))
def o_jArr_fill1_v6_0 : or_T := (5, 4, [(2, (0, 0, 0, []))], [], [], [], [(20, [0, 2], [8, -1, -1, 0])], [], [])
theorem oo_jArr_fill1_v6_0 {kA : Nat → ClassId} : or_ok PRD kA GG o_jArr_fill1_v6_0 := by
  refine or_mk fun A ta ws vs hD hth hl => ?_
  intro t2 k2
  have nf0 : fc_1 PRD (20, [0, 2], [8, -1, -1, 0]) ws (vs) := by
    refine ⟨nf_in hl rfl, sgq_16 ?_⟩
    · show ∀ j : Nat, (j : Int) < v_iv (n_v vs 2) + 0 → (-1) ≤ w_el ws (v_ad (n_v vs 0)) j ∧ w_el ws (v_ad (n_v vs 0)) j ≤ (-1)
      intro j hj
      exfalso; omega
  refine ⟨(fun _ h => (by cases h)), [], trivial, ?_, (fun _ h => (by cases h))⟩
  rw [List.append_nil]
  exact List.forall_mem_cons.mpr ⟨⟨show (20 : Nat) < 100 from by decide, nf0⟩, (fun _ h => (by cases h))⟩
def o_jArr_fill1_v6_1 : or_T := (5, 4, [], [], [], [], [(24, [0, 0], [])], [], [])
theorem oo_jArr_fill1_v6_1 {kA : Nat → ClassId} : or_ok PRD kA GG o_jArr_fill1_v6_1 := by
  refine or_mk fun A ta ws vs hD hth hl => ?_
  have nf0 : fc_1 PRD (24, [0, 0], []) ws (vs) := by
    refine ⟨nf_in hl rfl, sgq_1 ?_⟩
    · show n_v vs 0 = n_v vs 0
      first | rfl | simp only [true_and]
  refine ⟨(fun _ h => (by cases h)), [], trivial, ?_, (fun _ h => (by cases h))⟩
  rw [List.append_nil]
  exact List.forall_mem_cons.mpr ⟨⟨show (24 : Nat) < 100 from by decide, nf0⟩, (fun _ h => (by cases h))⟩
def o_jArr_fill1_v6_2 : or_T := (20, 6, [(1, (0, -1, -1, [])), (4, (0, 24, 24, [])), (5, (0, 24, 24, []))], [(7, [4, 5], [3]), (20, [0, 4], [8, -1, -1, 0])], [], [], [(20, [0, 1], [8, -1, -1, 25])], [], [])
theorem oo_jArr_fill1_v6_2 {kA : Nat → ClassId} : or_ok PRD kA GG o_jArr_fill1_v6_2 := by
  refine or_mk fun A ta ws vs hD hth hl => ?_
  intro t1 k1 t4 k4 t5 k5 f0 f1
  replace f0 := shm_2 f0
  replace f1 := shm_16 f1
  have nf0 : fc_1 PRD (20, [0, 1], [8, -1, -1, 25]) ws (vs) := by
    refine ⟨nf_in hl rfl, sgq_17 ?_⟩
    · show ∀ j : Nat, (j : Int) < v_iv (n_v vs 1) + 25 → (-1) ≤ w_el ws (v_ad (n_v vs 0)) j ∧ w_el ws (v_ad (n_v vs 0)) j ≤ (-1)
      intro j hj
      exact f1 j (by omega)
  refine ⟨(fun _ h => (by cases h)), [], trivial, ?_, (fun _ h => (by cases h))⟩
  rw [List.append_nil]
  exact List.forall_mem_cons.mpr ⟨⟨show (20 : Nat) < 100 from by decide, nf0⟩, (fun _ h => (by cases h))⟩
def o_jArr_fill1_v6_3 : or_T := (5, 7, [(3, (0, -1, -1, [])), (4, (0, 0, 23, [])), (5, (0, 24, 24, [])), (6, (0, 1, 24, []))], [(6, [6, 4], [1]), (24, [0, 2], []), (100, [2, 4, 3], []), (7, [4, 5], [2]), (20, [0, 4], [8, -1, -1, 0])], [], [], [(20, [0, 6], [8, -1, -1, 0])], [], [(6, 4, 1, 1)])
theorem oo_jArr_fill1_v6_3 {kA : Nat → ClassId} : or_ok PRD kA GG o_jArr_fill1_v6_3 := by
  refine or_mk fun A ta ws vs hD hth hl => ?_
  intro t3 k3 t4 k4 t5 k5 t6 k6 d0 f0 f1 ta1 w1 le1 s1 f3 f4
  replace f0 := shm_4 f0
  replace f1 := shm_5 f1
  have s1 : (∀ b j, w_el ws b j = if b = v_ad (n_v vs 2) ∧ j = (v_iv (n_v vs 4)).toNat then v_iv (n_v vs 3) else w_el w1 b j) ∧ ∀ b k, w_fd ws b k = w_fd w1 b k := s1.2
  replace f3 := shm_6 f3
  replace f4 := shm_16 f4
  rw [← f1] at s1
  have nf0 : fc_1 PRD (20, [0, 6], [8, -1, -1, 0]) ws (vs) := by
    refine ⟨nf_in hl rfl, sgq_16 ?_⟩
    · show ∀ j : Nat, (j : Int) < v_iv (n_v vs 6) + 0 → (-1) ≤ w_el ws (v_ad (n_v vs 0)) j ∧ w_el ws (v_ad (n_v vs 0)) j ≤ (-1)
      intro j hj
      by_cases hji : j = (v_iv (n_v vs 4)).toNat
      · rw [s1.1, if_pos ⟨rfl, hji⟩]; first | (constructor <;> omega) | (exfalso; omega)
      · rw [s1.1, if_neg (fun e => hji e.2)]; exact f4 j (by omega)
  refine ⟨(fun _ h => (by cases h)), [], trivial, ?_, (fun _ h => (by cases h))⟩
  rw [List.append_nil]
  exact List.forall_mem_cons.mpr ⟨⟨show (20 : Nat) < 100 from by decide, nf0⟩, (fun _ h => (by cases h))⟩
def n_jArr_fill1_v6_an : List an_T := [(5, [(0, (2, 0, 0, [44])), (1, (0, -1, -1, [])), (2, (0, 0, 24, [])), (3, (0, 24, 24, []))], [], (0, 0), [(0, 0, 99995), (1, 4, 24), (0, 0, 100000)], [], [], [(2, 0, 0, [44]), (0, -1, -1, [])], 0, [], [(20, [0, 4], [8, -1, -1, 0]), (24, [0, 2], [])])]
def t_jArr_fill1_v6_ct : ct_L := []
set_option maxRecDepth 100000 in
theorem c_jArr_fill1_v6 {l : Launch} {D : va_G} {kA : Nat → ClassId} : ct_ok PRD l D kA GG y_jArr_fill1 z_jArr_fill1 e_jArr_fill1_v6 := chk_all_ok (FT := []) (PT := []) (CT := t_jArr_fill1_v6_ct) (KT := []) (NT := []) (AN := n_jArr_fill1_v6_an) (OT := [o_jArr_fill1_v6_0, o_jArr_fill1_v6_1, o_jArr_fill1_v6_2, o_jArr_fill1_v6_3]) 3 200 (List.forall_mem_cons.mpr ⟨oo_jArr_fill1_v6_0, List.forall_mem_cons.mpr ⟨oo_jArr_fill1_v6_1, List.forall_mem_cons.mpr ⟨oo_jArr_fill1_v6_2, List.forall_mem_cons.mpr ⟨oo_jArr_fill1_v6_3, List.forall_mem_nil _⟩⟩⟩⟩) (by decide +kernel) ⟨List.forall_mem_nil _, List.forall_mem_nil _, List.forall_mem_nil _, List.forall_mem_nil _, List.forall_mem_nil _, GG_pl⟩ (by decide +kernel)
def e_jArr_fill1_v7 : en_T := ([(2, 0, 0, [39]), (0, -1, -1, [])], none, false, 1, 0, 0, [], [], (549755813888, [], [], [(20, [0, 1], [8, -1, -1, 25])], []))
def o_jArr_fill1_v7_0 : or_T := (5, 4, [(2, (0, 0, 0, []))], [], [], [], [(20, [0, 2], [8, -1, -1, 0])], [], [])
theorem oo_jArr_fill1_v7_0 {kA : Nat → ClassId} : or_ok PRD kA GG o_jArr_fill1_v7_0 := by
  refine or_mk fun A ta ws vs hD hth hl => ?_
  intro t2 k2
  have nf0 : fc_1 PRD (20, [0, 2], [8, -1, -1, 0]) ws (vs) := by
    refine ⟨nf_in hl rfl, sgq_16 ?_⟩
    · show ∀ j : Nat, (j : Int) < v_iv (n_v vs 2) + 0 → (-1) ≤ w_el ws (v_ad (n_v vs 0)) j ∧ w_el ws (v_ad (n_v vs 0)) j ≤ (-1)
      intro j hj
      exfalso; omega
  refine ⟨(fun _ h => (by cases h)), [], trivial, ?_, (fun _ h => (by cases h))⟩
  rw [List.append_nil]
  exact List.forall_mem_cons.mpr ⟨⟨show (20 : Nat) < 100 from by decide, nf0⟩, (fun _ h => (by cases h))⟩
def o_jArr_fill1_v7_1 : or_T := (5, 4, [], [], [], [], [(24, [0, 0], [])], [], [])
theorem oo_jArr_fill1_v7_1 {kA : Nat → ClassId} : or_ok PRD kA GG o_jArr_fill1_v7_1 := by
  refine or_mk fun A ta ws vs hD hth hl => ?_
  have nf0 : fc_1 PRD (24, [0, 0], []) ws (vs) := by
    refine ⟨nf_in hl rfl, sgq_1 ?_⟩
    · show n_v vs 0 = n_v vs 0
      first | rfl | simp only [true_and]
  refine ⟨(fun _ h => (by cases h)), [], trivial, ?_, (fun _ h => (by cases h))⟩
  rw [List.append_nil]
  exact List.forall_mem_cons.mpr ⟨⟨show (24 : Nat) < 100 from by decide, nf0⟩, (fun _ h => (by cases h))⟩
def o_jArr_fill1_v7_2 : or_T := (20, 6, [(1, (0, -1, -1, [])), (4, (0, 24, 24, [])), (5, (0, 24, 24, []))], [(7, [4, 5], [3]), (20, [0, 4], [8, -1, -1, 0])], [], [], [(20, [0, 1], [8, -1, -1, 25])], [], [])
theorem oo_jArr_fill1_v7_2 {kA : Nat → ClassId} : or_ok PRD kA GG o_jArr_fill1_v7_2 := by
  refine or_mk fun A ta ws vs hD hth hl => ?_
  intro t1 k1 t4 k4 t5 k5 f0 f1
  replace f0 := shm_2 f0
  replace f1 := shm_16 f1
  have nf0 : fc_1 PRD (20, [0, 1], [8, -1, -1, 25]) ws (vs) := by
    refine ⟨nf_in hl rfl, sgq_17 ?_⟩
    · show ∀ j : Nat, (j : Int) < v_iv (n_v vs 1) + 25 → (-1) ≤ w_el ws (v_ad (n_v vs 0)) j ∧ w_el ws (v_ad (n_v vs 0)) j ≤ (-1)
      intro j hj
      exact f1 j (by omega)
  refine ⟨(fun _ h => (by cases h)), [], trivial, ?_, (fun _ h => (by cases h))⟩
  rw [List.append_nil]
  exact List.forall_mem_cons.mpr ⟨⟨show (20 : Nat) < 100 from by decide, nf0⟩, (fun _ h => (by cases h))⟩
def o_jArr_fill1_v7_3 : or_T := (5, 7, [(3, (0, -1, -1, [])), (4, (0, 0, 23, [])), (5, (0, 24, 24, [])), (6, (0, 1, 24, []))], [(6, [6, 4], [1]), (24, [0, 2], []), (100, [2, 4, 3], []), (7, [4, 5], [2]), (20, [0, 4], [8, -1, -1, 0])], [], [], [(20, [0, 6], [8, -1, -1, 0])], [], [(6, 4, 1, 1)])
theorem oo_jArr_fill1_v7_3 {kA : Nat → ClassId} : or_ok PRD kA GG o_jArr_fill1_v7_3 := by
  refine or_mk fun A ta ws vs hD hth hl => ?_
  intro t3 k3 t4 k4 t5 k5 t6 k6 d0 f0 f1 ta1 w1 le1 s1 f3 f4
  replace f0 := shm_4 f0
  replace f1 := shm_5 f1
  have s1 : (∀ b j, w_el ws b j = if b = v_ad (n_v vs 2) ∧ j = (v_iv (n_v vs 4)).toNat then v_iv (n_v vs 3) else w_el w1 b j) ∧ ∀ b k, w_fd ws b k = w_fd w1 b k := s1.2
  replace f3 := shm_6 f3
  replace f4 := shm_16 f4
  rw [← f1] at s1
  have nf0 : fc_1 PRD (20, [0, 6], [8, -1, -1, 0]) ws (vs) := by
    refine ⟨nf_in hl rfl, sgq_16 ?_⟩
    · show ∀ j : Nat, (j : Int) < v_iv (n_v vs 6) + 0 → (-1) ≤ w_el ws (v_ad (n_v vs 0)) j ∧ w_el ws (v_ad (n_v vs 0)) j ≤ (-1)
      intro j hj
      by_cases hji : j = (v_iv (n_v vs 4)).toNat
      · rw [s1.1, if_pos ⟨rfl, hji⟩]; first | (constructor <;> omega) | (exfalso; omega)
      · rw [s1.1, if_neg (fun e => hji e.2)]; exact f4 j (by omega)
  refine ⟨(fun _ h => (by cases h)), [], trivial, ?_, (fun _ h => (by cases h))⟩
  rw [List.append_nil]
  exact List.forall_mem_cons.mpr ⟨⟨show (20 : Nat) < 100 from by decide, nf0⟩, (fun _ h => (by cases h))⟩
def n_jArr_fill1_v7_an : List an_T := [(5, [(0, (2, 0, 0, [39])), (1, (0, -1, -1, [])), (2, (0, 0, 24, [])), (3, (0, 24, 24, []))], [], (0, 0), [(0, 0, 99995), (1, 4, 24), (0, 0, 100000)], [], [], [(2, 0, 0, [39]), (0, -1, -1, [])], 0, [], [(20, [0, 4], [8, -1, -1, 0]), (24, [0, 2], [])])]
def t_jArr_fill1_v7_ct : ct_L := []
set_option maxRecDepth 100000 in
theorem c_jArr_fill1_v7 {l : Launch} {D : va_G} {kA : Nat → ClassId} : ct_ok PRD l D kA GG y_jArr_fill1 z_jArr_fill1 e_jArr_fill1_v7 := chk_all_ok (FT := []) (PT := []) (CT := t_jArr_fill1_v7_ct) (KT := []) (NT := []) (AN := n_jArr_fill1_v7_an) (OT := [o_jArr_fill1_v7_0, o_jArr_fill1_v7_1, o_jArr_fill1_v7_2, o_jArr_fill1_v7_3]) 3 200 (List.forall_mem_cons.mpr ⟨oo_jArr_fill1_v7_0, List.forall_mem_cons.mpr ⟨oo_jArr_fill1_v7_1, List.forall_mem_cons.mpr ⟨oo_jArr_fill1_v7_2, List.forall_mem_cons.mpr ⟨oo_jArr_fill1_v7_3, List.forall_mem_nil _⟩⟩⟩⟩) (by decide +kernel) ⟨List.forall_mem_nil _, List.forall_mem_nil _, List.forall_mem_nil _, List.forall_mem_nil _, List.forall_mem_nil _, GG_pl⟩ (by decide +kernel)
def e_jInt_bitCount_v8 : en_T := ([(0, 0, 16777215, [])], some (0, 0, 63, []), true, 1, 0, 0, [], [], (0, [], [], [(20, [0, 1], [61, 0, 554])], []))
def o_jInt_bitCount_v8_0 : or_T := (52, 26, [(0, (0, 0, 16777215, [])), (1, (0, 1, 1, [])), (2, (0, 0, 8388607, [])), (3, (0, 1431655765, 1431655765, [])), (4, (0, 0, 8388607, [])), (5, (0, -8388607, 16777215, [])), (6, (0, 858993459, 858993459, [])), (7, (0, 0, 858993459, [])), (8, (0, 2, 2, [])), (9, (0, -2147483648, 2147483647, [])), (10, (0, 858993459, 858993459, [])), (11, (0, 0, 858993459, [])), (12, (0, 0, 1717986918, [])), (13, (0, 4, 4, [])), (14, (0, 0, 107374182, [])), (15, (0, 0, 1825361100, [])), (16, (0, 252645135, 252645135, [])), (17, (0, 0, 252645135, [])), (18, (0, 8, 8, [])), (19, (0, 0, 986895, [])), (20, (0, 0, 253632030, [])), (21, (0, 16, 16, [])), (22, (0, 0, 3870, [])), (23, (0, 0, 253635900, [])), (24, (0, 63, 63, [])), (25, (0, 0, 63, []))], [(12, [25, 23], [64]), (16, [25, 23, 24], [0]), (1, [23, 20, 22], []), (16, [22, 20, 21], [4]), (1, [20, 17, 19], []), (16, [19, 17, 18], [4]), (16, [17, 15, 16], [0]), (1, [15, 12, 14], []), (16, [14, 12, 13], [4]), (1, [12, 7, 11], []), (16, [11, 9, 10], [0]), (16, [9, 5, 8], [4]), (16, [7, 5, 6], [0]), (2, [5, 0, 4], []), (16, [4, 2, 3], [0]), (16, [2, 0, 1], [4])], [], [], [(20, [0, 25], [61, 0, 554])], [], [(23, 22, 0, 253632030), (23, 20, 0, 3870), (23, 19, 0, 252649005), (23, 17, 0, 990765), (20, 19, 0, 252645135), (20, 17, 0, 986895), (15, 14, 0, 1717986918), (15, 12, 0, 107374182), (15, 11, 0, 966367641), (15, 7, 0, 966367641), (12, 11, 0, 858993459), (12, 7, 0, 858993459), (5, 0, -8388607, 0)])
theorem oo_jInt_bitCount_v8_0 {kA : Nat → ClassId} : or_ok PRD kA GG o_jInt_bitCount_v8_0 := by
  refine or_mk fun A ta ws vs hD hth hl => ?_
  intro t0 k0 t1 k1 t2 k2 t3 k3 t4 k4 t5 k5 t6 k6 t7 k7 t8 k8 t9 k9 t10 k10 t11 k11 t12 k12 t13 k13 t14 k14 t15 k15 t16 k16 t17 k17 t18 k18 t19 k19 t20 k20 t21 k21 t22 k22 t23 k23 t24 k24 t25 k25 d0 d1 d2 d3 d4 d5 d6 d7 d8 d9 d10 d11 d12 f0 f1 f2 f3 f4 f5 f6 f7 f8 f9 f10 f11 f12 f13 f14 f15
  replace f0 := shm_10 f0
  replace f1 := shm_11 f1
  replace f2 := shm_12 f2
  replace f3 := shm_13 f3
  replace f4 := shm_12 f4
  replace f5 := shm_13 f5
  replace f6 := shm_11 f6
  replace f7 := shm_12 f7
  replace f8 := shm_13 f8
  replace f9 := shm_12 f9
  replace f10 := shm_11 f10
  replace f11 := shm_13 f11
  replace f12 := shm_11 f12
  replace f13 := shm_14 f13
  replace f14 := shm_11 f14
  replace f15 := shm_13 f15
  have nf0 : fc_1 PRD (20, [0, 25], [61, 0, 554]) ws (vs) := by
    refine ⟨nf_in hl rfl, sgq_15 ?_⟩
    · show BCT (v_iv (n_v vs 0)) (v_iv (n_v vs 25))
      exact bct_of (by assumption) (by assumption) (by assumption) (by assumption) (by assumption) (by assumption) (by assumption) (by assumption) (by assumption) (by assumption) (by assumption) (by assumption) (by assumption) (by assumption) (by assumption) (by omega) (by omega) (by omega) (by omega) (by omega) (by omega) (by omega) (by omega) (by omega) (by omega) (by omega) (by omega)
  refine ⟨(fun _ h => (by cases h)), [], trivial, ?_, (fun _ h => (by cases h))⟩
  rw [List.append_nil]
  exact List.forall_mem_cons.mpr ⟨⟨show (20 : Nat) < 100 from by decide, nf0⟩, (fun _ h => (by cases h))⟩
def n_jInt_bitCount_v8_an : List an_T := []
def t_jInt_bitCount_v8_ct : ct_L := []
set_option maxRecDepth 100000 in
theorem c_jInt_bitCount_v8 {l : Launch} {D : va_G} {kA : Nat → ClassId} : ct_ok PRD l D kA GG y_jInt_bitCount z_jInt_bitCount e_jInt_bitCount_v8 := chk_all_ok (FT := []) (PT := []) (CT := t_jInt_bitCount_v8_ct) (KT := [(1, 265, .int (1431655765), (0, 1431655765, 1431655765, [])), (1, 266, .int (858993459), (0, 858993459, 858993459, [])), (1, 267, .int (252645135), (0, 252645135, 252645135, []))]) (NT := []) (AN := n_jInt_bitCount_v8_an) (OT := [o_jInt_bitCount_v8_0]) 0 200 (List.forall_mem_cons.mpr ⟨oo_jInt_bitCount_v8_0, List.forall_mem_nil _⟩) (by decide +kernel) ⟨List.forall_mem_nil _, List.forall_mem_nil _, List.forall_mem_nil _, List.forall_mem_cons.mpr ⟨kx_jInt_1_265, List.forall_mem_cons.mpr ⟨kx_jInt_1_266, List.forall_mem_cons.mpr ⟨kx_jInt_1_267, List.forall_mem_nil _⟩⟩⟩, List.forall_mem_nil _, GG_pl⟩ (by decide +kernel)
def e_jArr_fill1_v9 : en_T := ([(2, 0, 0, [161]), (0, 0, 0, [])], none, false, 1, 0, 0, [], [], (2923003274661805836407369665432566039311865085952, [], [], [(20, [0, 1], [8, 0, 0, 24])], []))
def o_jArr_fill1_v9_0 : or_T := (5, 4, [(2, (0, 0, 0, []))], [], [], [], [(20, [0, 2], [8, 0, 0, 0])], [], [])
theorem oo_jArr_fill1_v9_0 {kA : Nat → ClassId} : or_ok PRD kA GG o_jArr_fill1_v9_0 := by
  refine or_mk fun A ta ws vs hD hth hl => ?_
  intro t2 k2
  have nf0 : fc_1 PRD (20, [0, 2], [8, 0, 0, 0]) ws (vs) := by
    refine ⟨nf_in hl rfl, sgq_0 ?_⟩
    · show ∀ j : Nat, (j : Int) < v_iv (n_v vs 2) + 0 → 0 ≤ w_el ws (v_ad (n_v vs 0)) j ∧ w_el ws (v_ad (n_v vs 0)) j ≤ 0
      intro j hj
      exfalso; omega
  refine ⟨(fun _ h => (by cases h)), [], trivial, ?_, (fun _ h => (by cases h))⟩
  rw [List.append_nil]
  exact List.forall_mem_cons.mpr ⟨⟨show (20 : Nat) < 100 from by decide, nf0⟩, (fun _ h => (by cases h))⟩
def o_jArr_fill1_v9_1 : or_T := (5, 4, [], [], [], [], [(24, [0, 0], [])], [], [])
theorem oo_jArr_fill1_v9_1 {kA : Nat → ClassId} : or_ok PRD kA GG o_jArr_fill1_v9_1 := by
  refine or_mk fun A ta ws vs hD hth hl => ?_
  have nf0 : fc_1 PRD (24, [0, 0], []) ws (vs) := by
    refine ⟨nf_in hl rfl, sgq_1 ?_⟩
    · show n_v vs 0 = n_v vs 0
      first | rfl | simp only [true_and]
  refine ⟨(fun _ h => (by cases h)), [], trivial, ?_, (fun _ h => (by cases h))⟩
  rw [List.append_nil]
  exact List.forall_mem_cons.mpr ⟨⟨show (24 : Nat) < 100 from by decide, nf0⟩, (fun _ h => (by cases h))⟩
def o_jArr_fill1_v9_2 : or_T := (20, 6, [(1, (0, 0, 0, [])), (4, (0, 24, 24, [])), (5, (0, 24, 24, []))], [(7, [4, 5], [3]), (20, [0, 4], [8, 0, 0, 0])], [], [], [(20, [0, 1], [8, 0, 0, 24])], [], [])
theorem oo_jArr_fill1_v9_2 {kA : Nat → ClassId} : or_ok PRD kA GG o_jArr_fill1_v9_2 := by
  refine or_mk fun A ta ws vs hD hth hl => ?_
  intro t1 k1 t4 k4 t5 k5 f0 f1
  replace f0 := shm_2 f0
  replace f1 := shm_0 f1
  have nf0 : fc_1 PRD (20, [0, 1], [8, 0, 0, 24]) ws (vs) := by
    refine ⟨nf_in hl rfl, sgq_18 ?_⟩
    · show ∀ j : Nat, (j : Int) < v_iv (n_v vs 1) + 24 → 0 ≤ w_el ws (v_ad (n_v vs 0)) j ∧ w_el ws (v_ad (n_v vs 0)) j ≤ 0
      intro j hj
      exact f1 j (by omega)
  refine ⟨(fun _ h => (by cases h)), [], trivial, ?_, (fun _ h => (by cases h))⟩
  rw [List.append_nil]
  exact List.forall_mem_cons.mpr ⟨⟨show (20 : Nat) < 100 from by decide, nf0⟩, (fun _ h => (by cases h))⟩
def o_jArr_fill1_v9_3 : or_T := (5, 7, [(3, (0, 0, 0, [])), (4, (0, 0, 23, [])), (5, (0, 24, 24, [])), (6, (0, 1, 24, []))], [(6, [6, 4], [1]), (24, [0, 2], []), (100, [2, 4, 3], []), (7, [4, 5], [2]), (20, [0, 4], [8, 0, 0, 0])], [], [], [(20, [0, 6], [8, 0, 0, 0])], [], [(6, 4, 1, 1)])
theorem oo_jArr_fill1_v9_3 {kA : Nat → ClassId} : or_ok PRD kA GG o_jArr_fill1_v9_3 := by
  refine or_mk fun A ta ws vs hD hth hl => ?_
  intro t3 k3 t4 k4 t5 k5 t6 k6 d0 f0 f1 ta1 w1 le1 s1 f3 f4
  replace f0 := shm_4 f0
  replace f1 := shm_5 f1
  have s1 : (∀ b j, w_el ws b j = if b = v_ad (n_v vs 2) ∧ j = (v_iv (n_v vs 4)).toNat then v_iv (n_v vs 3) else w_el w1 b j) ∧ ∀ b k, w_fd ws b k = w_fd w1 b k := s1.2
  replace f3 := shm_6 f3
  replace f4 := shm_0 f4
  rw [← f1] at s1
  have nf0 : fc_1 PRD (20, [0, 6], [8, 0, 0, 0]) ws (vs) := by
    refine ⟨nf_in hl rfl, sgq_0 ?_⟩
    · show ∀ j : Nat, (j : Int) < v_iv (n_v vs 6) + 0 → 0 ≤ w_el ws (v_ad (n_v vs 0)) j ∧ w_el ws (v_ad (n_v vs 0)) j ≤ 0
      intro j hj
      by_cases hji : j = (v_iv (n_v vs 4)).toNat
      · rw [s1.1, if_pos ⟨rfl, hji⟩]; first | (constructor <;> omega) | (exfalso; omega)
      · rw [s1.1, if_neg (fun e => hji e.2)]; exact f4 j (by omega)
  refine ⟨(fun _ h => (by cases h)), [], trivial, ?_, (fun _ h => (by cases h))⟩
  rw [List.append_nil]
  exact List.forall_mem_cons.mpr ⟨⟨show (20 : Nat) < 100 from by decide, nf0⟩, (fun _ h => (by cases h))⟩
def n_jArr_fill1_v9_an : List an_T := [(5, [(0, (2, 0, 0, [161])), (1, (0, 0, 0, [])), (2, (0, 0, 24, [])), (3, (0, 24, 24, []))], [], (0, 0), [(0, 0, 99995), (1, 4, 24), (0, 0, 100000)], [], [], [(2, 0, 0, [161]), (0, 0, 0, [])], 0, [], [(20, [0, 4], [8, 0, 0, 0]), (24, [0, 2], [])])]
def t_jArr_fill1_v9_ct : ct_L := []
set_option maxRecDepth 100000 in
theorem c_jArr_fill1_v9 {l : Launch} {D : va_G} {kA : Nat → ClassId} : ct_ok PRD l D kA GG y_jArr_fill1 z_jArr_fill1 e_jArr_fill1_v9 := chk_all_ok (FT := []) (PT := []) (CT := t_jArr_fill1_v9_ct) (KT := []) (NT := []) (AN := n_jArr_fill1_v9_an) (OT := [o_jArr_fill1_v9_0, o_jArr_fill1_v9_1, o_jArr_fill1_v9_2, o_jArr_fill1_v9_3]) 3 200 (List.forall_mem_cons.mpr ⟨oo_jArr_fill1_v9_0, List.forall_mem_cons.mpr ⟨oo_jArr_fill1_v9_1, List.forall_mem_cons.mpr ⟨oo_jArr_fill1_v9_2, List.forall_mem_cons.mpr ⟨oo_jArr_fill1_v9_3, List.forall_mem_nil _⟩⟩⟩⟩) (by decide +kernel) ⟨List.forall_mem_nil _, List.forall_mem_nil _, List.forall_mem_nil _, List.forall_mem_nil _, List.forall_mem_nil _, GG_pl⟩ (by decide +kernel)
def e_jArr_fill1_v10 : en_T := ([(2, 0, 0, [162]), (0, -1, -1, [])], none, false, 1, 0, 0, [], [], (5846006549323611672814739330865132078623730171904, [], [], [(20, [0, 1], [8, -1, -1, 577])], []))
def o_jArr_fill1_v10_0 : or_T := (5, 4, [(2, (0, 0, 0, []))], [], [], [], [(20, [0, 2], [8, -1, -1, 0])], [], [])
theorem oo_jArr_fill1_v10_0 {kA : Nat → ClassId} : or_ok PRD kA GG o_jArr_fill1_v10_0 := by
  refine or_mk fun A ta ws vs hD hth hl => ?_
  intro t2 k2
  have nf0 : fc_1 PRD (20, [0, 2], [8, -1, -1, 0]) ws (vs) := by
    refine ⟨nf_in hl rfl, sgq_16 ?_⟩
    · show ∀ j : Nat, (j : Int) < v_iv (n_v vs 2) + 0 → (-1) ≤ w_el ws (v_ad (n_v vs 0)) j ∧ w_el ws (v_ad (n_v vs 0)) j ≤ (-1)
      intro j hj
      exfalso; omega
  refine ⟨(fun _ h => (by cases h)), [], trivial, ?_, (fun _ h => (by cases h))⟩
  rw [List.append_nil]
  exact List.forall_mem_cons.mpr ⟨⟨show (20 : Nat) < 100 from by decide, nf0⟩, (fun _ h => (by cases h))⟩
def o_jArr_fill1_v10_1 : or_T := (5, 4, [], [], [], [], [(24, [0, 0], [])], [], [])
theorem oo_jArr_fill1_v10_1 {kA : Nat → ClassId} : or_ok PRD kA GG o_jArr_fill1_v10_1 := by
  refine or_mk fun A ta ws vs hD hth hl => ?_
  have nf0 : fc_1 PRD (24, [0, 0], []) ws (vs) := by
    refine ⟨nf_in hl rfl, sgq_1 ?_⟩
    · show n_v vs 0 = n_v vs 0
      first | rfl | simp only [true_and]
  refine ⟨(fun _ h => (by cases h)), [], trivial, ?_, (fun _ h => (by cases h))⟩
  rw [List.append_nil]
  exact List.forall_mem_cons.mpr ⟨⟨show (24 : Nat) < 100 from by decide, nf0⟩, (fun _ h => (by cases h))⟩
def o_jArr_fill1_v10_2 : or_T := (20, 6, [(1, (0, -1, -1, [])), (4, (0, 576, 576, [])), (5, (0, 576, 576, []))], [(7, [4, 5], [3]), (20, [0, 4], [8, -1, -1, 0])], [], [], [(20, [0, 1], [8, -1, -1, 577])], [], [])
theorem oo_jArr_fill1_v10_2 {kA : Nat → ClassId} : or_ok PRD kA GG o_jArr_fill1_v10_2 := by
  refine or_mk fun A ta ws vs hD hth hl => ?_
  intro t1 k1 t4 k4 t5 k5 f0 f1
  replace f0 := shm_2 f0
  replace f1 := shm_16 f1
  have nf0 : fc_1 PRD (20, [0, 1], [8, -1, -1, 577]) ws (vs) := by
    refine ⟨nf_in hl rfl, sgq_19 ?_⟩
    · show ∀ j : Nat, (j : Int) < v_iv (n_v vs 1) + 577 → (-1) ≤ w_el ws (v_ad (n_v vs 0)) j ∧ w_el ws (v_ad (n_v vs 0)) j ≤ (-1)
      intro j hj
      exact f1 j (by omega)
  refine ⟨(fun _ h => (by cases h)), [], trivial, ?_, (fun _ h => (by cases h))⟩
  rw [List.append_nil]
  exact List.forall_mem_cons.mpr ⟨⟨show (20 : Nat) < 100 from by decide, nf0⟩, (fun _ h => (by cases h))⟩
def o_jArr_fill1_v10_3 : or_T := (5, 7, [(3, (0, -1, -1, [])), (4, (0, 0, 575, [])), (5, (0, 576, 576, [])), (6, (0, 1, 576, []))], [(6, [6, 4], [1]), (24, [0, 2], []), (100, [2, 4, 3], []), (7, [4, 5], [2]), (20, [0, 4], [8, -1, -1, 0])], [], [], [(20, [0, 6], [8, -1, -1, 0])], [], [(6, 4, 1, 1)])
theorem oo_jArr_fill1_v10_3 {kA : Nat → ClassId} : or_ok PRD kA GG o_jArr_fill1_v10_3 := by
  refine or_mk fun A ta ws vs hD hth hl => ?_
  intro t3 k3 t4 k4 t5 k5 t6 k6 d0 f0 f1 ta1 w1 le1 s1 f3 f4
  replace f0 := shm_4 f0
  replace f1 := shm_5 f1
  have s1 : (∀ b j, w_el ws b j = if b = v_ad (n_v vs 2) ∧ j = (v_iv (n_v vs 4)).toNat then v_iv (n_v vs 3) else w_el w1 b j) ∧ ∀ b k, w_fd ws b k = w_fd w1 b k := s1.2
  replace f3 := shm_6 f3
  replace f4 := shm_16 f4
  rw [← f1] at s1
  have nf0 : fc_1 PRD (20, [0, 6], [8, -1, -1, 0]) ws (vs) := by
    refine ⟨nf_in hl rfl, sgq_16 ?_⟩
    · show ∀ j : Nat, (j : Int) < v_iv (n_v vs 6) + 0 → (-1) ≤ w_el ws (v_ad (n_v vs 0)) j ∧ w_el ws (v_ad (n_v vs 0)) j ≤ (-1)
      intro j hj
      by_cases hji : j = (v_iv (n_v vs 4)).toNat
      · rw [s1.1, if_pos ⟨rfl, hji⟩]; first | (constructor <;> omega) | (exfalso; omega)
      · rw [s1.1, if_neg (fun e => hji e.2)]; exact f4 j (by omega)
  refine ⟨(fun _ h => (by cases h)), [], trivial, ?_, (fun _ h => (by cases h))⟩
  rw [List.append_nil]
  exact List.forall_mem_cons.mpr ⟨⟨show (20 : Nat) < 100 from by decide, nf0⟩, (fun _ h => (by cases h))⟩
def n_jArr_fill1_v10_an : List an_T := [(5, [(0, (2, 0, 0, [162])), (1, (0, -1, -1, [])), (2, (0, 0, 576, [])), (3, (0, 576, 576, []))], [], (0, 0), [(0, 0, 99995), (1, 4, 576), (0, 0, 100000)], [], [], [(2, 0, 0, [162]), (0, -1, -1, [])], 0, [], [(20, [0, 4], [8, -1, -1, 0]), (24, [0, 2], [])])]
def t_jArr_fill1_v10_ct : ct_L := []
set_option maxRecDepth 100000 in
theorem c_jArr_fill1_v10 {l : Launch} {D : va_G} {kA : Nat → ClassId} : ct_ok PRD l D kA GG y_jArr_fill1 z_jArr_fill1 e_jArr_fill1_v10 := chk_all_ok (FT := []) (PT := []) (CT := t_jArr_fill1_v10_ct) (KT := []) (NT := []) (AN := n_jArr_fill1_v10_an) (OT := [o_jArr_fill1_v10_0, o_jArr_fill1_v10_1, o_jArr_fill1_v10_2, o_jArr_fill1_v10_3]) 3 200 (List.forall_mem_cons.mpr ⟨oo_jArr_fill1_v10_0, List.forall_mem_cons.mpr ⟨oo_jArr_fill1_v10_1, List.forall_mem_cons.mpr ⟨oo_jArr_fill1_v10_2, List.forall_mem_cons.mpr ⟨oo_jArr_fill1_v10_3, List.forall_mem_nil _⟩⟩⟩⟩) (by decide +kernel) ⟨List.forall_mem_nil _, List.forall_mem_nil _, List.forall_mem_nil _, List.forall_mem_nil _, List.forall_mem_nil _, GG_pl⟩ (by decide +kernel)
def e_jArr_fill1_v11 : en_T := ([(2, 0, 0, [78]), (0, 0, 0, [])], none, false, 1, 0, 0, [], [], (302231454903657293676544, [], [], [(20, [0, 1], [8, 0, 0, 36])], []))
def o_jArr_fill1_v11_0 : or_T := (5, 4, [(2, (0, 0, 0, []))], [], [], [], [(20, [0, 2], [8, 0, 0, 0])], [], [])
theorem oo_jArr_fill1_v11_0 {kA : Nat → ClassId} : or_ok PRD kA GG o_jArr_fill1_v11_0 := by
  refine or_mk fun A ta ws vs hD hth hl => ?_
  intro t2 k2
  have nf0 : fc_1 PRD (20, [0, 2], [8, 0, 0, 0]) ws (vs) := by
    refine ⟨nf_in hl rfl, sgq_0 ?_⟩
    · show ∀ j : Nat, (j : Int) < v_iv (n_v vs 2) + 0 → 0 ≤ w_el ws (v_ad (n_v vs 0)) j ∧ w_el ws (v_ad (n_v vs 0)) j ≤ 0
      intro j hj
      exfalso; omega
  refine ⟨(fun _ h => (by cases h)), [], trivial, ?_, (fun _ h => (by cases h))⟩
  rw [List.append_nil]
  exact List.forall_mem_cons.mpr ⟨⟨show (20 : Nat) < 100 from by decide, nf0⟩, (fun _ h => (by cases h))⟩
def o_jArr_fill1_v11_1 : or_T := (5, 4, [], [], [], [], [(24, [0, 0], [])], [], [])
theorem oo_jArr_fill1_v11_1 {kA : Nat → ClassId} : or_ok PRD kA GG o_jArr_fill1_v11_1 := by
  refine or_mk fun A ta ws vs hD hth hl => ?_
  have nf0 : fc_1 PRD (24, [0, 0], []) ws (vs) := by
    refine ⟨nf_in hl rfl, sgq_1 ?_⟩
    · show n_v vs 0 = n_v vs 0
      first | rfl | simp only [true_and]
  refine ⟨(fun _ h => (by cases h)), [], trivial, ?_, (fun _ h => (by cases h))⟩
  rw [List.append_nil]
  exact List.forall_mem_cons.mpr ⟨⟨show (24 : Nat) < 100 from by decide, nf0⟩, (fun _ h => (by cases h))⟩
def o_jArr_fill1_v11_2 : or_T := (20, 6, [(1, (0, 0, 0, [])), (4, (0, 36, 36, [])), (5, (0, 36, 36, []))], [(7, [4, 5], [3]), (20, [0, 4], [8, 0, 0, 0])], [], [], [(20, [0, 1], [8, 0, 0, 36])], [], [])
theorem oo_jArr_fill1_v11_2 {kA : Nat → ClassId} : or_ok PRD kA GG o_jArr_fill1_v11_2 := by
  refine or_mk fun A ta ws vs hD hth hl => ?_
  intro t1 k1 t4 k4 t5 k5 f0 f1
  replace f0 := shm_2 f0
  replace f1 := shm_0 f1
  have nf0 : fc_1 PRD (20, [0, 1], [8, 0, 0, 36]) ws (vs) := by
    refine ⟨nf_in hl rfl, sgq_20 ?_⟩
    · show ∀ j : Nat, (j : Int) < v_iv (n_v vs 1) + 36 → 0 ≤ w_el ws (v_ad (n_v vs 0)) j ∧ w_el ws (v_ad (n_v vs 0)) j ≤ 0
      intro j hj
      exact f1 j (by omega)
  refine ⟨(fun _ h => (by cases h)), [], trivial, ?_, (fun _ h => (by cases h))⟩
  rw [List.append_nil]
  exact List.forall_mem_cons.mpr ⟨⟨show (20 : Nat) < 100 from by decide, nf0⟩, (fun _ h => (by cases h))⟩
def o_jArr_fill1_v11_3 : or_T := (5, 7, [(3, (0, 0, 0, [])), (4, (0, 0, 35, [])), (5, (0, 36, 36, [])), (6, (0, 1, 36, []))], [(6, [6, 4], [1]), (24, [0, 2], []), (100, [2, 4, 3], []), (7, [4, 5], [2]), (20, [0, 4], [8, 0, 0, 0])], [], [], [(20, [0, 6], [8, 0, 0, 0])], [], [(6, 4, 1, 1)])
theorem oo_jArr_fill1_v11_3 {kA : Nat → ClassId} : or_ok PRD kA GG o_jArr_fill1_v11_3 := by
  refine or_mk fun A ta ws vs hD hth hl => ?_
  intro t3 k3 t4 k4 t5 k5 t6 k6 d0 f0 f1 ta1 w1 le1 s1 f3 f4
  replace f0 := shm_4 f0
  replace f1 := shm_5 f1
  have s1 : (∀ b j, w_el ws b j = if b = v_ad (n_v vs 2) ∧ j = (v_iv (n_v vs 4)).toNat then v_iv (n_v vs 3) else w_el w1 b j) ∧ ∀ b k, w_fd ws b k = w_fd w1 b k := s1.2
  replace f3 := shm_6 f3
  replace f4 := shm_0 f4
  rw [← f1] at s1
  have nf0 : fc_1 PRD (20, [0, 6], [8, 0, 0, 0]) ws (vs) := by
    refine ⟨nf_in hl rfl, sgq_0 ?_⟩
    · show ∀ j : Nat, (j : Int) < v_iv (n_v vs 6) + 0 → 0 ≤ w_el ws (v_ad (n_v vs 0)) j ∧ w_el ws (v_ad (n_v vs 0)) j ≤ 0
      intro j hj
      by_cases hji : j = (v_iv (n_v vs 4)).toNat
      · rw [s1.1, if_pos ⟨rfl, hji⟩]; first | (constructor <;> omega) | (exfalso; omega)
      · rw [s1.1, if_neg (fun e => hji e.2)]; exact f4 j (by omega)
  refine ⟨(fun _ h => (by cases h)), [], trivial, ?_, (fun _ h => (by cases h))⟩
  rw [List.append_nil]
  exact List.forall_mem_cons.mpr ⟨⟨show (20 : Nat) < 100 from by decide, nf0⟩, (fun _ h => (by cases h))⟩
def n_jArr_fill1_v11_an : List an_T := [(5, [(0, (2, 0, 0, [78])), (1, (0, 0, 0, [])), (2, (0, 0, 36, [])), (3, (0, 36, 36, []))], [], (0, 0), [(0, 0, 99995), (1, 4, 36), (0, 0, 100000)], [], [], [(2, 0, 0, [78]), (0, 0, 0, [])], 0, [], [(20, [0, 4], [8, 0, 0, 0]), (24, [0, 2], [])])]
def t_jArr_fill1_v11_ct : ct_L := []
set_option maxRecDepth 100000 in
theorem c_jArr_fill1_v11 {l : Launch} {D : va_G} {kA : Nat → ClassId} : ct_ok PRD l D kA GG y_jArr_fill1 z_jArr_fill1 e_jArr_fill1_v11 := chk_all_ok (FT := []) (PT := []) (CT := t_jArr_fill1_v11_ct) (KT := []) (NT := []) (AN := n_jArr_fill1_v11_an) (OT := [o_jArr_fill1_v11_0, o_jArr_fill1_v11_1, o_jArr_fill1_v11_2, o_jArr_fill1_v11_3]) 3 200 (List.forall_mem_cons.mpr ⟨oo_jArr_fill1_v11_0, List.forall_mem_cons.mpr ⟨oo_jArr_fill1_v11_1, List.forall_mem_cons.mpr ⟨oo_jArr_fill1_v11_2, List.forall_mem_cons.mpr ⟨oo_jArr_fill1_v11_3, List.forall_mem_nil _⟩⟩⟩⟩) (by decide +kernel) ⟨List.forall_mem_nil _, List.forall_mem_nil _, List.forall_mem_nil _, List.forall_mem_nil _, List.forall_mem_nil _, GG_pl⟩ (by decide +kernel)
def e_jMath_max1_v12 : en_T := ([(0, 0, 0, []), (0, -72, 0, [])], some (0, 0, 0, []), true, 1, 0, 0, [], [], (0, [], [], [(23, [0, 2], [0, 1, -1]), (23, [1, 2], [0, 1, -1])], []))
def o_jMath_max1_v12_0 : or_T := (10, 2, [(0, (0, 0, 0, [])), (1, (0, -72, 0, []))], [(7, [0, 1], [3])], [], [], [(23, [0, 0], [0, 1, -1]), (23, [1, 0], [0, 1, -1])], [], [])
theorem oo_jMath_max1_v12_0 {kA : Nat → ClassId} : or_ok PRD kA GG o_jMath_max1_v12_0 := by
  refine or_mk fun A ta ws vs hD hth hl => ?_
  intro t0 k0 t1 k1 f0
  replace f0 := shm_2 f0
  have nf0 : fc_1 PRD (23, [0, 0], [0, 1, -1]) ws (vs) := by
    refine ⟨nf_in hl rfl, sgq_8 ?_⟩
    · show 1 * v_iv (n_v vs 0) + ((-1) * v_iv (n_v vs 0) + 0) ≤ 0
      omega
  have nf1 : fc_1 PRD (23, [1, 0], [0, 1, -1]) ws (vs) := by
    refine ⟨nf_in hl rfl, sgq_7 ?_⟩
    · show 1 * v_iv (n_v vs 1) + ((-1) * v_iv (n_v vs 0) + 0) ≤ 0
      omega
  refine ⟨(fun _ h => (by cases h)), [], trivial, ?_, (fun _ h => (by cases h))⟩
  rw [List.append_nil]
  exact List.forall_mem_cons.mpr ⟨⟨show (23 : Nat) < 100 from by decide, nf0⟩, List.forall_mem_cons.mpr ⟨⟨show (23 : Nat) < 100 from by decide, nf1⟩, (fun _ h => (by cases h))⟩⟩
def n_jMath_max1_v12_an : List an_T := []
def t_jMath_max1_v12_ct : ct_L := []
set_option maxRecDepth 100000 in
theorem c_jMath_max1_v12 {l : Launch} {D : va_G} {kA : Nat → ClassId} : ct_ok PRD l D kA GG y_jMath_max1 z_jMath_max1 e_jMath_max1_v12 := chk_all_ok (FT := []) (PT := []) (CT := t_jMath_max1_v12_ct) (KT := []) (NT := []) (AN := n_jMath_max1_v12_an) (OT := [o_jMath_max1_v12_0]) 0 200 (List.forall_mem_cons.mpr ⟨oo_jMath_max1_v12_0, List.forall_mem_nil _⟩) (pl_Math rfl (by decide)) ⟨List.forall_mem_nil _, List.forall_mem_nil _, List.forall_mem_nil _, List.forall_mem_nil _, List.forall_mem_nil _, GG_pl⟩ (by decide +kernel)
def e_jMath_max1_v13 : en_T := ([(0, 0, 0, []), (0, -72, 1, [])], some (0, 0, 1, []), true, 1, 0, 0, [], [], (0, [], [], [(23, [0, 2], [0, 1, -1]), (23, [1, 2], [0, 1, -1])], []))
def o_jMath_max1_v13_0 : or_T := (10, 2, [(0, (0, 0, 0, [])), (1, (0, 1, 1, []))], [(7, [0, 1], [2])], [], [], [(23, [0, 1], [0, 1, -1]), (23, [1, 1], [0, 1, -1])], [], [])
theorem oo_jMath_max1_v13_0 {kA : Nat → ClassId} : or_ok PRD kA GG o_jMath_max1_v13_0 := by
  refine or_mk fun A ta ws vs hD hth hl => ?_
  intro t0 k0 t1 k1 f0
  replace f0 := shm_6 f0
  have nf0 : fc_1 PRD (23, [0, 1], [0, 1, -1]) ws (vs) := by
    refine ⟨nf_in hl rfl, sgq_7 ?_⟩
    · show 1 * v_iv (n_v vs 0) + ((-1) * v_iv (n_v vs 1) + 0) ≤ 0
      omega
  have nf1 : fc_1 PRD (23, [1, 1], [0, 1, -1]) ws (vs) := by
    refine ⟨nf_in hl rfl, sgq_8 ?_⟩
    · show 1 * v_iv (n_v vs 1) + ((-1) * v_iv (n_v vs 1) + 0) ≤ 0
      omega
  refine ⟨(fun _ h => (by cases h)), [], trivial, ?_, (fun _ h => (by cases h))⟩
  rw [List.append_nil]
  exact List.forall_mem_cons.mpr ⟨⟨show (23 : Nat) < 100 from by decide, nf0⟩, List.forall_mem_cons.mpr ⟨⟨show (23 : Nat) < 100 from by decide, nf1⟩, (fun _ h => (by cases h))⟩⟩
def o_jMath_max1_v13_1 : or_T := (10, 2, [(0, (0, 0, 0, [])), (1, (0, -72, 0, []))], [(7, [0, 1], [3])], [], [], [(23, [0, 0], [0, 1, -1]), (23, [1, 0], [0, 1, -1])], [], [])
theorem oo_jMath_max1_v13_1 {kA : Nat → ClassId} : or_ok PRD kA GG o_jMath_max1_v13_1 := by
  refine or_mk fun A ta ws vs hD hth hl => ?_
  intro t0 k0 t1 k1 f0
  replace f0 := shm_2 f0
  have nf0 : fc_1 PRD (23, [0, 0], [0, 1, -1]) ws (vs) := by
    refine ⟨nf_in hl rfl, sgq_8 ?_⟩
    · show 1 * v_iv (n_v vs 0) + ((-1) * v_iv (n_v vs 0) + 0) ≤ 0
      omega
  have nf1 : fc_1 PRD (23, [1, 0], [0, 1, -1]) ws (vs) := by
    refine ⟨nf_in hl rfl, sgq_7 ?_⟩
    · show 1 * v_iv (n_v vs 1) + ((-1) * v_iv (n_v vs 0) + 0) ≤ 0
      omega
  refine ⟨(fun _ h => (by cases h)), [], trivial, ?_, (fun _ h => (by cases h))⟩
  rw [List.append_nil]
  exact List.forall_mem_cons.mpr ⟨⟨show (23 : Nat) < 100 from by decide, nf0⟩, List.forall_mem_cons.mpr ⟨⟨show (23 : Nat) < 100 from by decide, nf1⟩, (fun _ h => (by cases h))⟩⟩
def n_jMath_max1_v13_an : List an_T := []
def t_jMath_max1_v13_ct : ct_L := []
set_option maxRecDepth 100000 in
theorem c_jMath_max1_v13 {l : Launch} {D : va_G} {kA : Nat → ClassId} : ct_ok PRD l D kA GG y_jMath_max1 z_jMath_max1 e_jMath_max1_v13 := chk_all_ok (FT := []) (PT := []) (CT := t_jMath_max1_v13_ct) (KT := []) (NT := []) (AN := n_jMath_max1_v13_an) (OT := [o_jMath_max1_v13_0, o_jMath_max1_v13_1]) 0 200 (List.forall_mem_cons.mpr ⟨oo_jMath_max1_v13_0, List.forall_mem_cons.mpr ⟨oo_jMath_max1_v13_1, List.forall_mem_nil _⟩⟩) (pl_Math rfl (by decide)) ⟨List.forall_mem_nil _, List.forall_mem_nil _, List.forall_mem_nil _, List.forall_mem_nil _, List.forall_mem_nil _, GG_pl⟩ (by decide +kernel)
def e_jMath_max1_v14 : en_T := ([(0, 0, 1, []), (0, -72, 2, [])], some (0, 0, 2, []), true, 1, 0, 0, [], [], (0, [], [], [(23, [0, 2], [0, 1, -1]), (23, [1, 2], [0, 1, -1])], []))
def o_jMath_max1_v14_0 : or_T := (10, 2, [(0, (0, 0, 1, [])), (1, (0, 1, 2, []))], [(7, [0, 1], [2])], [], [], [(23, [0, 1], [0, 1, -1]), (23, [1, 1], [0, 1, -1])], [], [(0, 1, -4294967296, -1)])
theorem oo_jMath_max1_v14_0 {kA : Nat → ClassId} : or_ok PRD kA GG o_jMath_max1_v14_0 := by
  refine or_mk fun A ta ws vs hD hth hl => ?_
  intro t0 k0 t1 k1 d0 f0
  replace f0 := shm_6 f0
  have nf0 : fc_1 PRD (23, [0, 1], [0, 1, -1]) ws (vs) := by
    refine ⟨nf_in hl rfl, sgq_7 ?_⟩
    · show 1 * v_iv (n_v vs 0) + ((-1) * v_iv (n_v vs 1) + 0) ≤ 0
      omega
  have nf1 : fc_1 PRD (23, [1, 1], [0, 1, -1]) ws (vs) := by
    refine ⟨nf_in hl rfl, sgq_8 ?_⟩
    · show 1 * v_iv (n_v vs 1) + ((-1) * v_iv (n_v vs 1) + 0) ≤ 0
      omega
  refine ⟨(fun _ h => (by cases h)), [], trivial, ?_, (fun _ h => (by cases h))⟩
  rw [List.append_nil]
  exact List.forall_mem_cons.mpr ⟨⟨show (23 : Nat) < 100 from by decide, nf0⟩, List.forall_mem_cons.mpr ⟨⟨show (23 : Nat) < 100 from by decide, nf1⟩, (fun _ h => (by cases h))⟩⟩
def o_jMath_max1_v14_1 : or_T := (10, 2, [(0, (0, 0, 1, [])), (1, (0, -72, 1, []))], [(7, [0, 1], [3])], [], [], [(23, [0, 0], [0, 1, -1]), (23, [1, 0], [0, 1, -1])], [], [(0, 1, 0, 4294967296)])
theorem oo_jMath_max1_v14_1 {kA : Nat → ClassId} : or_ok PRD kA GG o_jMath_max1_v14_1 := by
  refine or_mk fun A ta ws vs hD hth hl => ?_
  intro t0 k0 t1 k1 d0 f0
  replace f0 := shm_2 f0
  have nf0 : fc_1 PRD (23, [0, 0], [0, 1, -1]) ws (vs) := by
    refine ⟨nf_in hl rfl, sgq_8 ?_⟩
    · show 1 * v_iv (n_v vs 0) + ((-1) * v_iv (n_v vs 0) + 0) ≤ 0
      omega
  have nf1 : fc_1 PRD (23, [1, 0], [0, 1, -1]) ws (vs) := by
    refine ⟨nf_in hl rfl, sgq_7 ?_⟩
    · show 1 * v_iv (n_v vs 1) + ((-1) * v_iv (n_v vs 0) + 0) ≤ 0
      omega
  refine ⟨(fun _ h => (by cases h)), [], trivial, ?_, (fun _ h => (by cases h))⟩
  rw [List.append_nil]
  exact List.forall_mem_cons.mpr ⟨⟨show (23 : Nat) < 100 from by decide, nf0⟩, List.forall_mem_cons.mpr ⟨⟨show (23 : Nat) < 100 from by decide, nf1⟩, (fun _ h => (by cases h))⟩⟩
def n_jMath_max1_v14_an : List an_T := []
def t_jMath_max1_v14_ct : ct_L := []
set_option maxRecDepth 100000 in
theorem c_jMath_max1_v14 {l : Launch} {D : va_G} {kA : Nat → ClassId} : ct_ok PRD l D kA GG y_jMath_max1 z_jMath_max1 e_jMath_max1_v14 := chk_all_ok (FT := []) (PT := []) (CT := t_jMath_max1_v14_ct) (KT := []) (NT := []) (AN := n_jMath_max1_v14_an) (OT := [o_jMath_max1_v14_0, o_jMath_max1_v14_1]) 0 200 (List.forall_mem_cons.mpr ⟨oo_jMath_max1_v14_0, List.forall_mem_cons.mpr ⟨oo_jMath_max1_v14_1, List.forall_mem_nil _⟩⟩) (pl_Math rfl (by decide)) ⟨List.forall_mem_nil _, List.forall_mem_nil _, List.forall_mem_nil _, List.forall_mem_nil _, List.forall_mem_nil _, GG_pl⟩ (by decide +kernel)
def e_jMath_max1_v15 : en_T := ([(0, 0, 2, []), (0, -72, 3, [])], some (0, 0, 3, []), true, 1, 0, 0, [], [], (0, [], [], [(23, [0, 2], [0, 1, -1]), (23, [1, 2], [0, 1, -1])], []))
def o_jMath_max1_v15_0 : or_T := (10, 2, [(0, (0, 0, 2, [])), (1, (0, 1, 3, []))], [(7, [0, 1], [2])], [], [], [(23, [0, 1], [0, 1, -1]), (23, [1, 1], [0, 1, -1])], [], [(0, 1, -4294967296, -1)])
theorem oo_jMath_max1_v15_0 {kA : Nat → ClassId} : or_ok PRD kA GG o_jMath_max1_v15_0 := by
  refine or_mk fun A ta ws vs hD hth hl => ?_
  intro t0 k0 t1 k1 d0 f0
  replace f0 := shm_6 f0
  have nf0 : fc_1 PRD (23, [0, 1], [0, 1, -1]) ws (vs) := by
    refine ⟨nf_in hl rfl, sgq_7 ?_⟩
    · show 1 * v_iv (n_v vs 0) + ((-1) * v_iv (n_v vs 1) + 0) ≤ 0
      omega
  have nf1 : fc_1 PRD (23, [1, 1], [0, 1, -1]) ws (vs) := by
    refine ⟨nf_in hl rfl, sgq_8 ?_⟩
    · show 1 * v_iv (n_v vs 1) + ((-1) * v_iv (n_v vs 1) + 0) ≤ 0
      omega
  refine ⟨(fun _ h => (by cases h)), [], trivial, ?_, (fun _ h => (by cases h))⟩
  rw [List.append_nil]
  exact List.forall_mem_cons.mpr ⟨⟨show (23 : Nat) < 100 from by decide, nf0⟩, List.forall_mem_cons.mpr ⟨⟨show (23 : Nat) < 100 from by decide, nf1⟩, (fun _ h => (by cases h))⟩⟩
def o_jMath_max1_v15_1 : or_T := (10, 2, [(0, (0, 0, 2, [])), (1, (0, -72, 2, []))], [(7, [0, 1], [3])], [], [], [(23, [0, 0], [0, 1, -1]), (23, [1, 0], [0, 1, -1])], [], [(0, 1, 0, 4294967296)])
theorem oo_jMath_max1_v15_1 {kA : Nat → ClassId} : or_ok PRD kA GG o_jMath_max1_v15_1 := by
  refine or_mk fun A ta ws vs hD hth hl => ?_
  intro t0 k0 t1 k1 d0 f0
  replace f0 := shm_2 f0
  have nf0 : fc_1 PRD (23, [0, 0], [0, 1, -1]) ws (vs) := by
    refine ⟨nf_in hl rfl, sgq_8 ?_⟩
    · show 1 * v_iv (n_v vs 0) + ((-1) * v_iv (n_v vs 0) + 0) ≤ 0
      omega
  have nf1 : fc_1 PRD (23, [1, 0], [0, 1, -1]) ws (vs) := by
    refine ⟨nf_in hl rfl, sgq_7 ?_⟩
    · show 1 * v_iv (n_v vs 1) + ((-1) * v_iv (n_v vs 0) + 0) ≤ 0
      omega
  refine ⟨(fun _ h => (by cases h)), [], trivial, ?_, (fun _ h => (by cases h))⟩
  rw [List.append_nil]
  exact List.forall_mem_cons.mpr ⟨⟨show (23 : Nat) < 100 from by decide, nf0⟩, List.forall_mem_cons.mpr ⟨⟨show (23 : Nat) < 100 from by decide, nf1⟩, (fun _ h => (by cases h))⟩⟩
def n_jMath_max1_v15_an : List an_T := []
def t_jMath_max1_v15_ct : ct_L := []
set_option maxRecDepth 100000 in
theorem c_jMath_max1_v15 {l : Launch} {D : va_G} {kA : Nat → ClassId} : ct_ok PRD l D kA GG y_jMath_max1 z_jMath_max1 e_jMath_max1_v15 := chk_all_ok (FT := []) (PT := []) (CT := t_jMath_max1_v15_ct) (KT := []) (NT := []) (AN := n_jMath_max1_v15_an) (OT := [o_jMath_max1_v15_0, o_jMath_max1_v15_1]) 0 200 (List.forall_mem_cons.mpr ⟨oo_jMath_max1_v15_0, List.forall_mem_cons.mpr ⟨oo_jMath_max1_v15_1, List.forall_mem_nil _⟩⟩) (pl_Math rfl (by decide)) ⟨List.forall_mem_nil _, List.forall_mem_nil _, List.forall_mem_nil _, List.forall_mem_nil _, List.forall_mem_nil _, GG_pl⟩ (by decide +kernel)
def e_jMath_max1_v16 : en_T := ([(0, 0, 3, []), (0, -72, 4, [])], some (0, 0, 4, []), true, 1, 0, 0, [], [], (0, [], [], [(23, [0, 2], [0, 1, -1]), (23, [1, 2], [0, 1, -1])], []))
def o_jMath_max1_v16_0 : or_T := (10, 2, [(0, (0, 0, 3, [])), (1, (0, 1, 4, []))], [(7, [0, 1], [2])], [], [], [(23, [0, 1], [0, 1, -1]), (23, [1, 1], [0, 1, -1])], [], [(0, 1, -4294967296, -1)])
theorem oo_jMath_max1_v16_0 {kA : Nat → ClassId} : or_ok PRD kA GG o_jMath_max1_v16_0 := by
  refine or_mk fun A ta ws vs hD hth hl => ?_
  intro t0 k0 t1 k1 d0 f0
  replace f0 := shm_6 f0
  have nf0 : fc_1 PRD (23, [0, 1], [0, 1, -1]) ws (vs) := by
    refine ⟨nf_in hl rfl, sgq_7 ?_⟩
    · show 1 * v_iv (n_v vs 0) + ((-1) * v_iv (n_v vs 1) + 0) ≤ 0
      omega
  have nf1 : fc_1 PRD (23, [1, 1], [0, 1, -1]) ws (vs) := by
    refine ⟨nf_in hl rfl, sgq_8 ?_⟩
    · show 1 * v_iv (n_v vs 1) + ((-1) * v_iv (n_v vs 1) + 0) ≤ 0
      omega
  refine ⟨(fun _ h => (by cases h)), [], trivial, ?_, (fun _ h => (by cases h))⟩
  rw [List.append_nil]
  exact List.forall_mem_cons.mpr ⟨⟨show (23 : Nat) < 100 from by decide, nf0⟩, List.forall_mem_cons.mpr ⟨⟨show (23 : Nat) < 100 from by decide, nf1⟩, (fun _ h => (by cases h))⟩⟩
def o_jMath_max1_v16_1 : or_T := (10, 2, [(0, (0, 0, 3, [])), (1, (0, -72, 3, []))], [(7, [0, 1], [3])], [], [], [(23, [0, 0], [0, 1, -1]), (23, [1, 0], [0, 1, -1])], [], [(0, 1, 0, 4294967296)])
theorem oo_jMath_max1_v16_1 {kA : Nat → ClassId} : or_ok PRD kA GG o_jMath_max1_v16_1 := by
  refine or_mk fun A ta ws vs hD hth hl => ?_
  intro t0 k0 t1 k1 d0 f0
  replace f0 := shm_2 f0
  have nf0 : fc_1 PRD (23, [0, 0], [0, 1, -1]) ws (vs) := by
    refine ⟨nf_in hl rfl, sgq_8 ?_⟩
    · show 1 * v_iv (n_v vs 0) + ((-1) * v_iv (n_v vs 0) + 0) ≤ 0
      omega
  have nf1 : fc_1 PRD (23, [1, 0], [0, 1, -1]) ws (vs) := by
    refine ⟨nf_in hl rfl, sgq_7 ?_⟩
    · show 1 * v_iv (n_v vs 1) + ((-1) * v_iv (n_v vs 0) + 0) ≤ 0
      omega
  refine ⟨(fun _ h => (by cases h)), [], trivial, ?_, (fun _ h => (by cases h))⟩
  rw [List.append_nil]
  exact List.forall_mem_cons.mpr ⟨⟨show (23 : Nat) < 100 from by decide, nf0⟩, List.forall_mem_cons.mpr ⟨⟨show (23 : Nat) < 100 from by decide, nf1⟩, (fun _ h => (by cases h))⟩⟩
def n_jMath_max1_v16_an : List an_T := []
def t_jMath_max1_v16_ct : ct_L := []
set_option maxRecDepth 100000 in
theorem c_jMath_max1_v16 {l : Launch} {D : va_G} {kA : Nat → ClassId} : ct_ok PRD l D kA GG y_jMath_max1 z_jMath_max1 e_jMath_max1_v16 := chk_all_ok (FT := []) (PT := []) (CT := t_jMath_max1_v16_ct) (KT := []) (NT := []) (AN := n_jMath_max1_v16_an) (OT := [o_jMath_max1_v16_0, o_jMath_max1_v16_1]) 0 200 (List.forall_mem_cons.mpr ⟨oo_jMath_max1_v16_0, List.forall_mem_cons.mpr ⟨oo_jMath_max1_v16_1, List.forall_mem_nil _⟩⟩) (pl_Math rfl (by decide)) ⟨List.forall_mem_nil _, List.forall_mem_nil _, List.forall_mem_nil _, List.forall_mem_nil _, List.forall_mem_nil _, GG_pl⟩ (by decide +kernel)
def e_jMath_max1_v17 : en_T := ([(0, 0, 4, []), (0, -72, 7, [])], some (0, 0, 7, []), true, 1, 0, 0, [], [], (0, [], [], [(23, [0, 2], [0, 1, -1]), (23, [1, 2], [0, 1, -1])], []))
def o_jMath_max1_v17_0 : or_T := (10, 2, [(0, (0, 0, 4, [])), (1, (0, 1, 7, []))], [(7, [0, 1], [2])], [], [], [(23, [0, 1], [0, 1, -1]), (23, [1, 1], [0, 1, -1])], [], [(0, 1, -4294967296, -1)])
theorem oo_jMath_max1_v17_0 {kA : Nat → ClassId} : or_ok PRD kA GG o_jMath_max1_v17_0 := by
  refine or_mk fun A ta ws vs hD hth hl => ?_
  intro t0 k0 t1 k1 d0 f0
  replace f0 := shm_6 f0
  have nf0 : fc_1 PRD (23, [0, 1], [0, 1, -1]) ws (vs) := by
    refine ⟨nf_in hl rfl, sgq_7 ?_⟩
    · show 1 * v_iv (n_v vs 0) + ((-1) * v_iv (n_v vs 1) + 0) ≤ 0
      omega
  have nf1 : fc_1 PRD (23, [1, 1], [0, 1, -1]) ws (vs) := by
    refine ⟨nf_in hl rfl, sgq_8 ?_⟩
    · show 1 * v_iv (n_v vs 1) + ((-1) * v_iv (n_v vs 1) + 0) ≤ 0
      omega
  refine ⟨(fun _ h => (by cases h)), [], trivial, ?_, (fun _ h => (by cases h))⟩
  rw [List.append_nil]
  exact List.forall_mem_cons.mpr ⟨⟨show (23 : Nat) < 100 from by decide, nf0⟩, List.forall_mem_cons.mpr ⟨⟨show (23 : Nat) < 100 from by decide, nf1⟩, (fun _ h => (by cases h))⟩⟩
def o_jMath_max1_v17_1 : or_T := (10, 2, [(0, (0, 0, 4, [])), (1, (0, -72, 4, []))], [(7, [0, 1], [3])], [], [], [(23, [0, 0], [0, 1, -1]), (23, [1, 0], [0, 1, -1])], [], [(0, 1, 0, 4294967296)])
theorem oo_jMath_max1_v17_1 {kA : Nat → ClassId} : or_ok PRD kA GG o_jMath_max1_v17_1 := by
  refine or_mk fun A ta ws vs hD hth hl => ?_
  intro t0 k0 t1 k1 d0 f0
  replace f0 := shm_2 f0
  have nf0 : fc_1 PRD (23, [0, 0], [0, 1, -1]) ws (vs) := by
    refine ⟨nf_in hl rfl, sgq_8 ?_⟩
    · show 1 * v_iv (n_v vs 0) + ((-1) * v_iv (n_v vs 0) + 0) ≤ 0
      omega
  have nf1 : fc_1 PRD (23, [1, 0], [0, 1, -1]) ws (vs) := by
    refine ⟨nf_in hl rfl, sgq_7 ?_⟩
    · show 1 * v_iv (n_v vs 1) + ((-1) * v_iv (n_v vs 0) + 0) ≤ 0
      omega
  refine ⟨(fun _ h => (by cases h)), [], trivial, ?_, (fun _ h => (by cases h))⟩
  rw [List.append_nil]
  exact List.forall_mem_cons.mpr ⟨⟨show (23 : Nat) < 100 from by decide, nf0⟩, List.forall_mem_cons.mpr ⟨⟨show (23 : Nat) < 100 from by decide, nf1⟩, (fun _ h => (by cases h))⟩⟩
def n_jMath_max1_v17_an : List an_T := []
def t_jMath_max1_v17_ct : ct_L := []
set_option maxRecDepth 100000 in
theorem c_jMath_max1_v17 {l : Launch} {D : va_G} {kA : Nat → ClassId} : ct_ok PRD l D kA GG y_jMath_max1 z_jMath_max1 e_jMath_max1_v17 := chk_all_ok (FT := []) (PT := []) (CT := t_jMath_max1_v17_ct) (KT := []) (NT := []) (AN := n_jMath_max1_v17_an) (OT := [o_jMath_max1_v17_0, o_jMath_max1_v17_1]) 0 200 (List.forall_mem_cons.mpr ⟨oo_jMath_max1_v17_0, List.forall_mem_cons.mpr ⟨oo_jMath_max1_v17_1, List.forall_mem_nil _⟩⟩) (pl_Math rfl (by decide)) ⟨List.forall_mem_nil _, List.forall_mem_nil _, List.forall_mem_nil _, List.forall_mem_nil _, List.forall_mem_nil _, GG_pl⟩ (by decide +kernel)
def e_jMath_max1_v18 : en_T := ([(0, 0, 7, []), (0, -72, 8, [])], some (0, 0, 8, []), true, 1, 0, 0, [], [], (0, [], [], [(23, [0, 2], [0, 1, -1]), (23, [1, 2], [0, 1, -1])], []))
def o_jMath_max1_v18_0 : or_T := (10, 2, [(0, (0, 0, 7, [])), (1, (0, 1, 8, []))], [(7, [0, 1], [2])], [], [], [(23, [0, 1], [0, 1, -1]), (23, [1, 1], [0, 1, -1])], [], [(0, 1, -4294967296, -1)])
theorem oo_jMath_max1_v18_0 {kA : Nat → ClassId} : or_ok PRD kA GG o_jMath_max1_v18_0 := by
  refine or_mk fun A ta ws vs hD hth hl => ?_
  intro t0 k0 t1 k1 d0 f0
  replace f0 := shm_6 f0
  have nf0 : fc_1 PRD (23, [0, 1], [0, 1, -1]) ws (vs) := by
    refine ⟨nf_in hl rfl, sgq_7 ?_⟩
    · show 1 * v_iv (n_v vs 0) + ((-1) * v_iv (n_v vs 1) + 0) ≤ 0
      omega
  have nf1 : fc_1 PRD (23, [1, 1], [0, 1, -1]) ws (vs) := by
    refine ⟨nf_in hl rfl, sgq_8 ?_⟩
    · show 1 * v_iv (n_v vs 1) + ((-1) * v_iv (n_v vs 1) + 0) ≤ 0
      omega
  refine ⟨(fun _ h => (by cases h)), [], trivial, ?_, (fun _ h => (by cases h))⟩
  rw [List.append_nil]
  exact List.forall_mem_cons.mpr ⟨⟨show (23 : Nat) < 100 from by decide, nf0⟩, List.forall_mem_cons.mpr ⟨⟨show (23 : Nat) < 100 from by decide, nf1⟩, (fun _ h => (by cases h))⟩⟩
def o_jMath_max1_v18_1 : or_T := (10, 2, [(0, (0, 0, 7, [])), (1, (0, -72, 7, []))], [(7, [0, 1], [3])], [], [], [(23, [0, 0], [0, 1, -1]), (23, [1, 0], [0, 1, -1])], [], [(0, 1, 0, 4294967296)])
theorem oo_jMath_max1_v18_1 {kA : Nat → ClassId} : or_ok PRD kA GG o_jMath_max1_v18_1 := by
  refine or_mk fun A ta ws vs hD hth hl => ?_
  intro t0 k0 t1 k1 d0 f0
  replace f0 := shm_2 f0
  have nf0 : fc_1 PRD (23, [0, 0], [0, 1, -1]) ws (vs) := by
    refine ⟨nf_in hl rfl, sgq_8 ?_⟩
    · show 1 * v_iv (n_v vs 0) + ((-1) * v_iv (n_v vs 0) + 0) ≤ 0
      omega
  have nf1 : fc_1 PRD (23, [1, 0], [0, 1, -1]) ws (vs) := by
    refine ⟨nf_in hl rfl, sgq_7 ?_⟩
    · show 1 * v_iv (n_v vs 1) + ((-1) * v_iv (n_v vs 0) + 0) ≤ 0
      omega
  refine ⟨(fun _ h => (by cases h)), [], trivial, ?_, (fun _ h => (by cases h))⟩
  rw [List.append_nil]
  exact List.forall_mem_cons.mpr ⟨⟨show (23 : Nat) < 100 from by decide, nf0⟩, List.forall_mem_cons.mpr ⟨⟨show (23 : Nat) < 100 from by decide, nf1⟩, (fun _ h => (by cases h))⟩⟩
def n_jMath_max1_v18_an : List an_T := []
def t_jMath_max1_v18_ct : ct_L := []
set_option maxRecDepth 100000 in
theorem c_jMath_max1_v18 {l : Launch} {D : va_G} {kA : Nat → ClassId} : ct_ok PRD l D kA GG y_jMath_max1 z_jMath_max1 e_jMath_max1_v18 := chk_all_ok (FT := []) (PT := []) (CT := t_jMath_max1_v18_ct) (KT := []) (NT := []) (AN := n_jMath_max1_v18_an) (OT := [o_jMath_max1_v18_0, o_jMath_max1_v18_1]) 0 200 (List.forall_mem_cons.mpr ⟨oo_jMath_max1_v18_0, List.forall_mem_cons.mpr ⟨oo_jMath_max1_v18_1, List.forall_mem_nil _⟩⟩) (pl_Math rfl (by decide)) ⟨List.forall_mem_nil _, List.forall_mem_nil _, List.forall_mem_nil _, List.forall_mem_nil _, List.forall_mem_nil _, GG_pl⟩ (by decide +kernel)
def e_jMath_max1_v19 : en_T := ([(0, 0, 8, []), (0, -72, 15, [])], some (0, 0, 15, []), true, 1, 0, 0, [], [], (0, [], [], [(23, [0, 2], [0, 1, -1]), (23, [1, 2], [0, 1, -1])], []))
def o_jMath_max1_v19_0 : or_T := (10, 2, [(0, (0, 0, 8, [])), (1, (0, 1, 15, []))], [(7, [0, 1], [2])], [], [], [(23, [0, 1], [0, 1, -1]), (23, [1, 1], [0, 1, -1])], [], [(0, 1, -4294967296, -1)])
theorem oo_jMath_max1_v19_0 {kA : Nat → ClassId} : or_ok PRD kA GG o_jMath_max1_v19_0 := by
  refine or_mk fun A ta ws vs hD hth hl => ?_
  intro t0 k0 t1 k1 d0 f0
  replace f0 := shm_6 f0
  have nf0 : fc_1 PRD (23, [0, 1], [0, 1, -1]) ws (vs) := by
    refine ⟨nf_in hl rfl, sgq_7 ?_⟩
    · show 1 * v_iv (n_v vs 0) + ((-1) * v_iv (n_v vs 1) + 0) ≤ 0
      omega
  have nf1 : fc_1 PRD (23, [1, 1], [0, 1, -1]) ws (vs) := by
    refine ⟨nf_in hl rfl, sgq_8 ?_⟩
    · show 1 * v_iv (n_v vs 1) + ((-1) * v_iv (n_v vs 1) + 0) ≤ 0
      omega
  refine ⟨(fun _ h => (by cases h)), [], trivial, ?_, (fun _ h => (by cases h))⟩
  rw [List.append_nil]
  exact List.forall_mem_cons.mpr ⟨⟨show (23 : Nat) < 100 from by decide, nf0⟩, List.forall_mem_cons.mpr ⟨⟨show (23 : Nat) < 100 from by decide, nf1⟩, (fun _ h => (by cases h))⟩⟩
def o_jMath_max1_v19_1 : or_T := (10, 2, [(0, (0, 0, 8, [])), (1, (0, -72, 8, []))], [(7, [0, 1], [3])], [], [], [(23, [0, 0], [0, 1, -1]), (23, [1, 0], [0, 1, -1])], [], [(0, 1, 0, 4294967296)])
theorem oo_jMath_max1_v19_1 {kA : Nat → ClassId} : or_ok PRD kA GG o_jMath_max1_v19_1 := by
  refine or_mk fun A ta ws vs hD hth hl => ?_
  intro t0 k0 t1 k1 d0 f0
  replace f0 := shm_2 f0
  have nf0 : fc_1 PRD (23, [0, 0], [0, 1, -1]) ws (vs) := by
    refine ⟨nf_in hl rfl, sgq_8 ?_⟩
    · show 1 * v_iv (n_v vs 0) + ((-1) * v_iv (n_v vs 0) + 0) ≤ 0
      omega
  have nf1 : fc_1 PRD (23, [1, 0], [0, 1, -1]) ws (vs) := by
    refine ⟨nf_in hl rfl, sgq_7 ?_⟩
    · show 1 * v_iv (n_v vs 1) + ((-1) * v_iv (n_v vs 0) + 0) ≤ 0
      omega
  refine ⟨(fun _ h => (by cases h)), [], trivial, ?_, (fun _ h => (by cases h))⟩
  rw [List.append_nil]
  exact List.forall_mem_cons.mpr ⟨⟨show (23 : Nat) < 100 from by decide, nf0⟩, List.forall_mem_cons.mpr ⟨⟨show (23 : Nat) < 100 from by decide, nf1⟩, (fun _ h => (by cases h))⟩⟩
def n_jMath_max1_v19_an : List an_T := []
def t_jMath_max1_v19_ct : ct_L := []
set_option maxRecDepth 100000 in
theorem c_jMath_max1_v19 {l : Launch} {D : va_G} {kA : Nat → ClassId} : ct_ok PRD l D kA GG y_jMath_max1 z_jMath_max1 e_jMath_max1_v19 := chk_all_ok (FT := []) (PT := []) (CT := t_jMath_max1_v19_ct) (KT := []) (NT := []) (AN := n_jMath_max1_v19_an) (OT := [o_jMath_max1_v19_0, o_jMath_max1_v19_1]) 0 200 (List.forall_mem_cons.mpr ⟨oo_jMath_max1_v19_0, List.forall_mem_cons.mpr ⟨oo_jMath_max1_v19_1, List.forall_mem_nil _⟩⟩) (pl_Math rfl (by decide)) ⟨List.forall_mem_nil _, List.forall_mem_nil _, List.forall_mem_nil _, List.forall_mem_nil _, List.forall_mem_nil _, GG_pl⟩ (by decide +kernel)
def e_jMath_max1_v20 : en_T := ([(0, 0, 15, []), (0, -72, 16, [])], some (0, 0, 16, []), true, 1, 0, 0, [], [], (0, [], [], [(23, [0, 2], [0, 1, -1]), (23, [1, 2], [0, 1, -1])], []))
def o_jMath_max1_v20_0 : or_T := (10, 2, [(0, (0, 0, 15, [])), (1, (0, 1, 16, []))], [(7, [0, 1], [2])], [], [], [(23, [0, 1], [0, 1, -1]), (23, [1, 1], [0, 1, -1])], [], [(0, 1, -4294967296, -1)])
theorem oo_jMath_max1_v20_0 {kA : Nat → ClassId} : or_ok PRD kA GG o_jMath_max1_v20_0 := by
  refine or_mk fun A ta ws vs hD hth hl => ?_
  intro t0 k0 t1 k1 d0 f0
  replace f0 := shm_6 f0
  have nf0 : fc_1 PRD (23, [0, 1], [0, 1, -1]) ws (vs) := by
    refine ⟨nf_in hl rfl, sgq_7 ?_⟩
    · show 1 * v_iv (n_v vs 0) + ((-1) * v_iv (n_v vs 1) + 0) ≤ 0
      omega
  have nf1 : fc_1 PRD (23, [1, 1], [0, 1, -1]) ws (vs) := by
    refine ⟨nf_in hl rfl, sgq_8 ?_⟩
    · show 1 * v_iv (n_v vs 1) + ((-1) * v_iv (n_v vs 1) + 0) ≤ 0
      omega
  refine ⟨(fun _ h => (by cases h)), [], trivial, ?_, (fun _ h => (by cases h))⟩
  rw [List.append_nil]
  exact List.forall_mem_cons.mpr ⟨⟨show (23 : Nat) < 100 from by decide, nf0⟩, List.forall_mem_cons.mpr ⟨⟨show (23 : Nat) < 100 from by decide, nf1⟩, (fun _ h => (by cases h))⟩⟩
def o_jMath_max1_v20_1 : or_T := (10, 2, [(0, (0, 0, 15, [])), (1, (0, -72, 15, []))], [(7, [0, 1], [3])], [], [], [(23, [0, 0], [0, 1, -1]), (23, [1, 0], [0, 1, -1])], [], [(0, 1, 0, 4294967296)])
theorem oo_jMath_max1_v20_1 {kA : Nat → ClassId} : or_ok PRD kA GG o_jMath_max1_v20_1 := by
  refine or_mk fun A ta ws vs hD hth hl => ?_
  intro t0 k0 t1 k1 d0 f0
  replace f0 := shm_2 f0
  have nf0 : fc_1 PRD (23, [0, 0], [0, 1, -1]) ws (vs) := by
    refine ⟨nf_in hl rfl, sgq_8 ?_⟩
    · show 1 * v_iv (n_v vs 0) + ((-1) * v_iv (n_v vs 0) + 0) ≤ 0
      omega
  have nf1 : fc_1 PRD (23, [1, 0], [0, 1, -1]) ws (vs) := by
    refine ⟨nf_in hl rfl, sgq_7 ?_⟩
    · show 1 * v_iv (n_v vs 1) + ((-1) * v_iv (n_v vs 0) + 0) ≤ 0
      omega
  refine ⟨(fun _ h => (by cases h)), [], trivial, ?_, (fun _ h => (by cases h))⟩
  rw [List.append_nil]
  exact List.forall_mem_cons.mpr ⟨⟨show (23 : Nat) < 100 from by decide, nf0⟩, List.forall_mem_cons.mpr ⟨⟨show (23 : Nat) < 100 from by decide, nf1⟩, (fun _ h => (by cases h))⟩⟩
def n_jMath_max1_v20_an : List an_T := []
def t_jMath_max1_v20_ct : ct_L := []
set_option maxRecDepth 100000 in
theorem c_jMath_max1_v20 {l : Launch} {D : va_G} {kA : Nat → ClassId} : ct_ok PRD l D kA GG y_jMath_max1 z_jMath_max1 e_jMath_max1_v20 := chk_all_ok (FT := []) (PT := []) (CT := t_jMath_max1_v20_ct) (KT := []) (NT := []) (AN := n_jMath_max1_v20_an) (OT := [o_jMath_max1_v20_0, o_jMath_max1_v20_1]) 0 200 (List.forall_mem_cons.mpr ⟨oo_jMath_max1_v20_0, List.forall_mem_cons.mpr ⟨oo_jMath_max1_v20_1, List.forall_mem_nil _⟩⟩) (pl_Math rfl (by decide)) ⟨List.forall_mem_nil _, List.forall_mem_nil _, List.forall_mem_nil _, List.forall_mem_nil _, List.forall_mem_nil _, GG_pl⟩ (by decide +kernel)
def e_jMath_max1_v21 : en_T := ([(0, 0, 16, []), (0, -72, 23, [])], some (0, 0, 23, []), true, 1, 0, 0, [], [], (0, [], [], [(23, [0, 2], [0, 1, -1]), (23, [1, 2], [0, 1, -1])], []))
def o_jMath_max1_v21_0 : or_T := (10, 2, [(0, (0, 0, 16, [])), (1, (0, 1, 23, []))], [(7, [0, 1], [2])], [], [], [(23, [0, 1], [0, 1, -1]), (23, [1, 1], [0, 1, -1])], [], [(0, 1, -4294967296, -1)])
theorem oo_jMath_max1_v21_0 {kA : Nat → ClassId} : or_ok PRD kA GG o_jMath_max1_v21_0 := by
  refine or_mk fun A ta ws vs hD hth hl => ?_
  intro t0 k0 t1 k1 d0 f0
  replace f0 := shm_6 f0
  have nf0 : fc_1 PRD (23, [0, 1], [0, 1, -1]) ws (vs) := by
    refine ⟨nf_in hl rfl, sgq_7 ?_⟩
    · show 1 * v_iv (n_v vs 0) + ((-1) * v_iv (n_v vs 1) + 0) ≤ 0
      omega
  have nf1 : fc_1 PRD (23, [1, 1], [0, 1, -1]) ws (vs) := by
    refine ⟨nf_in hl rfl, sgq_8 ?_⟩
    · show 1 * v_iv (n_v vs 1) + ((-1) * v_iv (n_v vs 1) + 0) ≤ 0
      omega
  refine ⟨(fun _ h => (by cases h)), [], trivial, ?_, (fun _ h => (by cases h))⟩
  rw [List.append_nil]
  exact List.forall_mem_cons.mpr ⟨⟨show (23 : Nat) < 100 from by decide, nf0⟩, List.forall_mem_cons.mpr ⟨⟨show (23 : Nat) < 100 from by decide, nf1⟩, (fun _ h => (by cases h))⟩⟩
def o_jMath_max1_v21_1 : or_T := (10, 2, [(0, (0, 0, 16, [])), (1, (0, -72, 16, []))], [(7, [0, 1], [3])], [], [], [(23, [0, 0], [0, 1, -1]), (23, [1, 0], [0, 1, -1])], [], [(0, 1, 0, 4294967296)])
theorem oo_jMath_max1_v21_1 {kA : Nat → ClassId} : or_ok PRD kA GG o_jMath_max1_v21_1 := by
  refine or_mk fun A ta ws vs hD hth hl => ?_
  intro t0 k0 t1 k1 d0 f0
  replace f0 := shm_2 f0
  have nf0 : fc_1 PRD (23, [0, 0], [0, 1, -1]) ws (vs) := by
    refine ⟨nf_in hl rfl, sgq_8 ?_⟩
    · show 1 * v_iv (n_v vs 0) + ((-1) * v_iv (n_v vs 0) + 0) ≤ 0
      omega
  have nf1 : fc_1 PRD (23, [1, 0], [0, 1, -1]) ws (vs) := by
    refine ⟨nf_in hl rfl, sgq_7 ?_⟩
    · show 1 * v_iv (n_v vs 1) + ((-1) * v_iv (n_v vs 0) + 0) ≤ 0
      omega
  refine ⟨(fun _ h => (by cases h)), [], trivial, ?_, (fun _ h => (by cases h))⟩
  rw [List.append_nil]
  exact List.forall_mem_cons.mpr ⟨⟨show (23 : Nat) < 100 from by decide, nf0⟩, List.forall_mem_cons.mpr ⟨⟨show (23 : Nat) < 100 from by decide, nf1⟩, (fun _ h => (by cases h))⟩⟩
def n_jMath_max1_v21_an : List an_T := []
def t_jMath_max1_v21_ct : ct_L := []
set_option maxRecDepth 100000 in
theorem c_jMath_max1_v21 {l : Launch} {D : va_G} {kA : Nat → ClassId} : ct_ok PRD l D kA GG y_jMath_max1 z_jMath_max1 e_jMath_max1_v21 := chk_all_ok (FT := []) (PT := []) (CT := t_jMath_max1_v21_ct) (KT := []) (NT := []) (AN := n_jMath_max1_v21_an) (OT := [o_jMath_max1_v21_0, o_jMath_max1_v21_1]) 0 200 (List.forall_mem_cons.mpr ⟨oo_jMath_max1_v21_0, List.forall_mem_cons.mpr ⟨oo_jMath_max1_v21_1, List.forall_mem_nil _⟩⟩) (pl_Math rfl (by decide)) ⟨List.forall_mem_nil _, List.forall_mem_nil _, List.forall_mem_nil _, List.forall_mem_nil _, List.forall_mem_nil _, GG_pl⟩ (by decide +kernel)
def e_jMath_max1_v22 : en_T := ([(0, 0, 23, []), (0, -72, 24, [])], some (0, 0, 24, []), true, 1, 0, 0, [], [], (0, [], [], [(23, [0, 2], [0, 1, -1]), (23, [1, 2], [0, 1, -1])], []))
def o_jMath_max1_v22_0 : or_T := (10, 2, [(0, (0, 0, 23, [])), (1, (0, 1, 24, []))], [(7, [0, 1], [2])], [], [], [(23, [0, 1], [0, 1, -1]), (23, [1, 1], [0, 1, -1])], [], [(0, 1, -4294967296, -1)])
theorem oo_jMath_max1_v22_0 {kA : Nat → ClassId} : or_ok PRD kA GG o_jMath_max1_v22_0 := by
  refine or_mk fun A ta ws vs hD hth hl => ?_
  intro t0 k0 t1 k1 d0 f0
  replace f0 := shm_6 f0
  have nf0 : fc_1 PRD (23, [0, 1], [0, 1, -1]) ws (vs) := by
    refine ⟨nf_in hl rfl, sgq_7 ?_⟩
    · show 1 * v_iv (n_v vs 0) + ((-1) * v_iv (n_v vs 1) + 0) ≤ 0
      omega
  have nf1 : fc_1 PRD (23, [1, 1], [0, 1, -1]) ws (vs) := by
    refine ⟨nf_in hl rfl, sgq_8 ?_⟩
    · show 1 * v_iv (n_v vs 1) + ((-1) * v_iv (n_v vs 1) + 0) ≤ 0
      omega
  refine ⟨(fun _ h => (by cases h)), [], trivial, ?_, (fun _ h => (by cases h))⟩
  rw [List.append_nil]
  exact List.forall_mem_cons.mpr ⟨⟨show (23 : Nat) < 100 from by decide, nf0⟩, List.forall_mem_cons.mpr ⟨⟨show (23 : Nat) < 100 from by decide, nf1⟩, (fun _ h => (by cases h))⟩⟩
def o_jMath_max1_v22_1 : or_T := (10, 2, [(0, (0, 0, 23, [])), (1, (0, -72, 23, []))], [(7, [0, 1], [3])], [], [], [(23, [0, 0], [0, 1, -1]), (23, [1, 0], [0, 1, -1])], [], [(0, 1, 0, 4294967296)])
theorem oo_jMath_max1_v22_1 {kA : Nat → ClassId} : or_ok PRD kA GG o_jMath_max1_v22_1 := by
  refine or_mk fun A ta ws vs hD hth hl => ?_
  intro t0 k0 t1 k1 d0 f0
  replace f0 := shm_2 f0
  have nf0 : fc_1 PRD (23, [0, 0], [0, 1, -1]) ws (vs) := by
    refine ⟨nf_in hl rfl, sgq_8 ?_⟩
    · show 1 * v_iv (n_v vs 0) + ((-1) * v_iv (n_v vs 0) + 0) ≤ 0
      omega
  have nf1 : fc_1 PRD (23, [1, 0], [0, 1, -1]) ws (vs) := by
    refine ⟨nf_in hl rfl, sgq_7 ?_⟩
    · show 1 * v_iv (n_v vs 1) + ((-1) * v_iv (n_v vs 0) + 0) ≤ 0
      omega
  refine ⟨(fun _ h => (by cases h)), [], trivial, ?_, (fun _ h => (by cases h))⟩
  rw [List.append_nil]
  exact List.forall_mem_cons.mpr ⟨⟨show (23 : Nat) < 100 from by decide, nf0⟩, List.forall_mem_cons.mpr ⟨⟨show (23 : Nat) < 100 from by decide, nf1⟩, (fun _ h => (by cases h))⟩⟩
def n_jMath_max1_v22_an : List an_T := []
def t_jMath_max1_v22_ct : ct_L := []
set_option maxRecDepth 100000 in
theorem c_jMath_max1_v22 {l : Launch} {D : va_G} {kA : Nat → ClassId} : ct_ok PRD l D kA GG y_jMath_max1 z_jMath_max1 e_jMath_max1_v22 := chk_all_ok (FT := []) (PT := []) (CT := t_jMath_max1_v22_ct) (KT := []) (NT := []) (AN := n_jMath_max1_v22_an) (OT := [o_jMath_max1_v22_0, o_jMath_max1_v22_1]) 0 200 (List.forall_mem_cons.mpr ⟨oo_jMath_max1_v22_0, List.forall_mem_cons.mpr ⟨oo_jMath_max1_v22_1, List.forall_mem_nil _⟩⟩) (pl_Math rfl (by decide)) ⟨List.forall_mem_nil _, List.forall_mem_nil _, List.forall_mem_nil _, List.forall_mem_nil _, List.forall_mem_nil _, GG_pl⟩ (by decide +kernel)
def e_jMath_max1_v23 : en_T := ([(0, 0, 24, []), (0, -72, 25, [])], some (0, 0, 25, []), true, 1, 0, 0, [], [], (0, [], [], [(23, [0, 2], [0, 1, -1]), (23, [1, 2], [0, 1, -1])], []))
def o_jMath_max1_v23_0 : or_T := (10, 2, [(0, (0, 0, 24, [])), (1, (0, 1, 25, []))], [(7, [0, 1], [2])], [], [], [(23, [0, 1], [0, 1, -1]), (23, [1, 1], [0, 1, -1])], [], [(0, 1, -4294967296, -1)])
theorem oo_jMath_max1_v23_0 {kA : Nat → ClassId} : or_ok PRD kA GG o_jMath_max1_v23_0 := by
  refine or_mk fun A ta ws vs hD hth hl => ?_
  intro t0 k0 t1 k1 d0 f0
  replace f0 := shm_6 f0
  have nf0 : fc_1 PRD (23, [0, 1], [0, 1, -1]) ws (vs) := by
    refine ⟨nf_in hl rfl, sgq_7 ?_⟩
    · show 1 * v_iv (n_v vs 0) + ((-1) * v_iv (n_v vs 1) + 0) ≤ 0
      omega
  have nf1 : fc_1 PRD (23, [1, 1], [0, 1, -1]) ws (vs) := by
    refine ⟨nf_in hl rfl, sgq_8 ?_⟩
    · show 1 * v_iv (n_v vs 1) + ((-1) * v_iv (n_v vs 1) + 0) ≤ 0
      omega
  refine ⟨(fun _ h => (by cases h)), [], trivial, ?_, (fun _ h => (by cases h))⟩
  rw [List.append_nil]
  exact List.forall_mem_cons.mpr ⟨⟨show (23 : Nat) < 100 from by decide, nf0⟩, List.forall_mem_cons.mpr ⟨⟨show (23 : Nat) < 100 from by decide, nf1⟩, (fun _ h => (by cases h))⟩⟩
def o_jMath_max1_v23_1 : or_T := (10, 2, [(0, (0, 0, 24, [])), (1, (0, -72, 24, []))], [(7, [0, 1], [3])], [], [], [(23, [0, 0], [0, 1, -1]), (23, [1, 0], [0, 1, -1])], [], [(0, 1, 0, 4294967296)])
theorem oo_jMath_max1_v23_1 {kA : Nat → ClassId} : or_ok PRD kA GG o_jMath_max1_v23_1 := by
  refine or_mk fun A ta ws vs hD hth hl => ?_
  intro t0 k0 t1 k1 d0 f0
  replace f0 := shm_2 f0
  have nf0 : fc_1 PRD (23, [0, 0], [0, 1, -1]) ws (vs) := by
    refine ⟨nf_in hl rfl, sgq_8 ?_⟩
    · show 1 * v_iv (n_v vs 0) + ((-1) * v_iv (n_v vs 0) + 0) ≤ 0
      omega
  have nf1 : fc_1 PRD (23, [1, 0], [0, 1, -1]) ws (vs) := by
    refine ⟨nf_in hl rfl, sgq_7 ?_⟩
    · show 1 * v_iv (n_v vs 1) + ((-1) * v_iv (n_v vs 0) + 0) ≤ 0
      omega
  refine ⟨(fun _ h => (by cases h)), [], trivial, ?_, (fun _ h => (by cases h))⟩
  rw [List.append_nil]
  exact List.forall_mem_cons.mpr ⟨⟨show (23 : Nat) < 100 from by decide, nf0⟩, List.forall_mem_cons.mpr ⟨⟨show (23 : Nat) < 100 from by decide, nf1⟩, (fun _ h => (by cases h))⟩⟩
def n_jMath_max1_v23_an : List an_T := []
def t_jMath_max1_v23_ct : ct_L := []
set_option maxRecDepth 100000 in
theorem c_jMath_max1_v23 {l : Launch} {D : va_G} {kA : Nat → ClassId} : ct_ok PRD l D kA GG y_jMath_max1 z_jMath_max1 e_jMath_max1_v23 := chk_all_ok (FT := []) (PT := []) (CT := t_jMath_max1_v23_ct) (KT := []) (NT := []) (AN := n_jMath_max1_v23_an) (OT := [o_jMath_max1_v23_0, o_jMath_max1_v23_1]) 0 200 (List.forall_mem_cons.mpr ⟨oo_jMath_max1_v23_0, List.forall_mem_cons.mpr ⟨oo_jMath_max1_v23_1, List.forall_mem_nil _⟩⟩) (pl_Math rfl (by decide)) ⟨List.forall_mem_nil _, List.forall_mem_nil _, List.forall_mem_nil _, List.forall_mem_nil _, List.forall_mem_nil _, GG_pl⟩ (by decide +kernel)
def e_jMath_max1_v24 : en_T := ([(0, 0, 25, []), (0, -72, 26, [])], some (0, 0, 26, []), true, 1, 0, 0, [], [], (0, [], [], [(23, [0, 2], [0, 1, -1]), (23, [1, 2], [0, 1, -1])], []))
def o_jMath_max1_v24_0 : or_T := (10, 2, [(0, (0, 0, 25, [])), (1, (0, 1, 26, []))], [(7, [0, 1], [2])], [], [], [(23, [0, 1], [0, 1, -1]), (23, [1, 1], [0, 1, -1])], [], [(0, 1, -4294967296, -1)])
theorem oo_jMath_max1_v24_0 {kA : Nat → ClassId} : or_ok PRD kA GG o_jMath_max1_v24_0 := by
  refine or_mk fun A ta ws vs hD hth hl => ?_
  intro t0 k0 t1 k1 d0 f0
  replace f0 := shm_6 f0
  have nf0 : fc_1 PRD (23, [0, 1], [0, 1, -1]) ws (vs) := by
    refine ⟨nf_in hl rfl, sgq_7 ?_⟩
    · show 1 * v_iv (n_v vs 0) + ((-1) * v_iv (n_v vs 1) + 0) ≤ 0
      omega
  have nf1 : fc_1 PRD (23, [1, 1], [0, 1, -1]) ws (vs) := by
    refine ⟨nf_in hl rfl, sgq_8 ?_⟩
    · show 1 * v_iv (n_v vs 1) + ((-1) * v_iv (n_v vs 1) + 0) ≤ 0
      omega
  refine ⟨(fun _ h => (by cases h)), [], trivial, ?_, (fun _ h => (by cases h))⟩
  rw [List.append_nil]
  exact List.forall_mem_cons.mpr ⟨⟨show (23 : Nat) < 100 from by decide, nf0⟩, List.forall_mem_cons.mpr ⟨⟨show (23 : Nat) < 100 from by decide, nf1⟩, (fun _ h => (by cases h))⟩⟩
def o_jMath_max1_v24_1 : or_T := (10, 2, [(0, (0, 0, 25, [])), (1, (0, -72, 25, []))], [(7, [0, 1], [3])], [], [], [(23, [0, 0], [0, 1, -1]), (23, [1, 0], [0, 1, -1])], [], [(0, 1, 0, 4294967296)])
theorem oo_jMath_max1_v24_1 {kA : Nat → ClassId} : or_ok PRD kA GG o_jMath_max1_v24_1 := by
  refine or_mk fun A ta ws vs hD hth hl => ?_
  intro t0 k0 t1 k1 d0 f0
  replace f0 := shm_2 f0
  have nf0 : fc_1 PRD (23, [0, 0], [0, 1, -1]) ws (vs) := by
    refine ⟨nf_in hl rfl, sgq_8 ?_⟩
    · show 1 * v_iv (n_v vs 0) + ((-1) * v_iv (n_v vs 0) + 0) ≤ 0
      omega
  have nf1 : fc_1 PRD (23, [1, 0], [0, 1, -1]) ws (vs) := by
    refine ⟨nf_in hl rfl, sgq_7 ?_⟩
    · show 1 * v_iv (n_v vs 1) + ((-1) * v_iv (n_v vs 0) + 0) ≤ 0
      omega
  refine ⟨(fun _ h => (by cases h)), [], trivial, ?_, (fun _ h => (by cases h))⟩
  rw [List.append_nil]
  exact List.forall_mem_cons.mpr ⟨⟨show (23 : Nat) < 100 from by decide, nf0⟩, List.forall_mem_cons.mpr ⟨⟨show (23 : Nat) < 100 from by decide, nf1⟩, (fun _ h => (by cases h))⟩⟩
def n_jMath_max1_v24_an : List an_T := []
def t_jMath_max1_v24_ct : ct_L := []
set_option maxRecDepth 100000 in
theorem c_jMath_max1_v24 {l : Launch} {D : va_G} {kA : Nat → ClassId} : ct_ok PRD l D kA GG y_jMath_max1 z_jMath_max1 e_jMath_max1_v24 := chk_all_ok (FT := []) (PT := []) (CT := t_jMath_max1_v24_ct) (KT := []) (NT := []) (AN := n_jMath_max1_v24_an) (OT := [o_jMath_max1_v24_0, o_jMath_max1_v24_1]) 0 200 (List.forall_mem_cons.mpr ⟨oo_jMath_max1_v24_0, List.forall_mem_cons.mpr ⟨oo_jMath_max1_v24_1, List.forall_mem_nil _⟩⟩) (pl_Math rfl (by decide)) ⟨List.forall_mem_nil _, List.forall_mem_nil _, List.forall_mem_nil _, List.forall_mem_nil _, List.forall_mem_nil _, GG_pl⟩ (by decide +kernel)
def e_jMath_max1_v25 : en_T := ([(0, 0, 26, []), (0, -72, 31, [])], some (0, 0, 31, []), true, 1, 0, 0, [], [], (0, [], [], [(23, [0, 2], [0, 1, -1]), (23, [1, 2], [0, 1, -1])], []))
def o_jMath_max1_v25_0 : or_T := (10, 2, [(0, (0, 0, 26, [])), (1, (0, 1, 31, []))], [(7, [0, 1], [2])], [], [], [(23, [0, 1], [0, 1, -1]), (23, [1, 1], [0, 1, -1])], [], [(0, 1, -4294967296, -1)])
theorem oo_jMath_max1_v25_0 {kA : Nat → ClassId} : or_ok PRD kA GG o_jMath_max1_v25_0 := by
  refine or_mk fun A ta ws vs hD hth hl => ?_
  intro t0 k0 t1 k1 d0 f0
  replace f0 := shm_6 f0
  have nf0 : fc_1 PRD (23, [0, 1], [0, 1, -1]) ws (vs) := by
    refine ⟨nf_in hl rfl, sgq_7 ?_⟩
    · show 1 * v_iv (n_v vs 0) + ((-1) * v_iv (n_v vs 1) + 0) ≤ 0
      omega
  have nf1 : fc_1 PRD (23, [1, 1], [0, 1, -1]) ws (vs) := by
    refine ⟨nf_in hl rfl, sgq_8 ?_⟩
    · show 1 * v_iv (n_v vs 1) + ((-1) * v_iv (n_v vs 1) + 0) ≤ 0
      omega
  refine ⟨(fun _ h => (by cases h)), [], trivial, ?_, (fun _ h => (by cases h))⟩
  rw [List.append_nil]
  exact List.forall_mem_cons.mpr ⟨⟨show (23 : Nat) < 100 from by decide, nf0⟩, List.forall_mem_cons.mpr ⟨⟨show (23 : Nat) < 100 from by decide, nf1⟩, (fun _ h => (by cases h))⟩⟩
def o_jMath_max1_v25_1 : or_T := (10, 2, [(0, (0, 0, 26, [])), (1, (0, -72, 26, []))], [(7, [0, 1], [3])], [], [], [(23, [0, 0], [0, 1, -1]), (23, [1, 0], [0, 1, -1])], [], [(0, 1, 0, 4294967296)])
theorem oo_jMath_max1_v25_1 {kA : Nat → ClassId} : or_ok PRD kA GG o_jMath_max1_v25_1 := by
  refine or_mk fun A ta ws vs hD hth hl => ?_
  intro t0 k0 t1 k1 d0 f0
  replace f0 := shm_2 f0
  have nf0 : fc_1 PRD (23, [0, 0], [0, 1, -1]) ws (vs) := by
    refine ⟨nf_in hl rfl, sgq_8 ?_⟩
    · show 1 * v_iv (n_v vs 0) + ((-1) * v_iv (n_v vs 0) + 0) ≤ 0
      omega
  have nf1 : fc_1 PRD (23, [1, 0], [0, 1, -1]) ws (vs) := by
    refine ⟨nf_in hl rfl, sgq_7 ?_⟩
    · show 1 * v_iv (n_v vs 1) + ((-1) * v_iv (n_v vs 0) + 0) ≤ 0
      omega
  refine ⟨(fun _ h => (by cases h)), [], trivial, ?_, (fun _ h => (by cases h))⟩
  rw [List.append_nil]
  exact List.forall_mem_cons.mpr ⟨⟨show (23 : Nat) < 100 from by decide, nf0⟩, List.forall_mem_cons.mpr ⟨⟨show (23 : Nat) < 100 from by decide, nf1⟩, (fun _ h => (by cases h))⟩⟩
def n_jMath_max1_v25_an : List an_T := []
def t_jMath_max1_v25_ct : ct_L := []
set_option maxRecDepth 100000 in
theorem c_jMath_max1_v25 {l : Launch} {D : va_G} {kA : Nat → ClassId} : ct_ok PRD l D kA GG y_jMath_max1 z_jMath_max1 e_jMath_max1_v25 := chk_all_ok (FT := []) (PT := []) (CT := t_jMath_max1_v25_ct) (KT := []) (NT := []) (AN := n_jMath_max1_v25_an) (OT := [o_jMath_max1_v25_0, o_jMath_max1_v25_1]) 0 200 (List.forall_mem_cons.mpr ⟨oo_jMath_max1_v25_0, List.forall_mem_cons.mpr ⟨oo_jMath_max1_v25_1, List.forall_mem_nil _⟩⟩) (pl_Math rfl (by decide)) ⟨List.forall_mem_nil _, List.forall_mem_nil _, List.forall_mem_nil _, List.forall_mem_nil _, List.forall_mem_nil _, GG_pl⟩ (by decide +kernel)
def e_jMath_max1_v26 : en_T := ([(0, 0, 31, []), (0, -72, 32, [])], some (0, 0, 32, []), true, 1, 0, 0, [], [], (0, [], [], [(23, [0, 2], [0, 1, -1]), (23, [1, 2], [0, 1, -1])], []))
def o_jMath_max1_v26_0 : or_T := (10, 2, [(0, (0, 0, 31, [])), (1, (0, 1, 32, []))], [(7, [0, 1], [2])], [], [], [(23, [0, 1], [0, 1, -1]), (23, [1, 1], [0, 1, -1])], [], [(0, 1, -4294967296, -1)])
theorem oo_jMath_max1_v26_0 {kA : Nat → ClassId} : or_ok PRD kA GG o_jMath_max1_v26_0 := by
  refine or_mk fun A ta ws vs hD hth hl => ?_
  intro t0 k0 t1 k1 d0 f0
  replace f0 := shm_6 f0
  have nf0 : fc_1 PRD (23, [0, 1], [0, 1, -1]) ws (vs) := by
    refine ⟨nf_in hl rfl, sgq_7 ?_⟩
    · show 1 * v_iv (n_v vs 0) + ((-1) * v_iv (n_v vs 1) + 0) ≤ 0
      omega
  have nf1 : fc_1 PRD (23, [1, 1], [0, 1, -1]) ws (vs) := by
    refine ⟨nf_in hl rfl, sgq_8 ?_⟩
    · show 1 * v_iv (n_v vs 1) + ((-1) * v_iv (n_v vs 1) + 0) ≤ 0
      omega
  refine ⟨(fun _ h => (by cases h)), [], trivial, ?_, (fun _ h => (by cases h))⟩
  rw [List.append_nil]
  exact List.forall_mem_cons.mpr ⟨⟨show (23 : Nat) < 100 from by decide, nf0⟩, List.forall_mem_cons.mpr ⟨⟨show (23 : Nat) < 100 from by decide, nf1⟩, (fun _ h => (by cases h))⟩⟩
def o_jMath_max1_v26_1 : or_T := (10, 2, [(0, (0, 0, 31, [])), (1, (0, -72, 31, []))], [(7, [0, 1], [3])], [], [], [(23, [0, 0], [0, 1, -1]), (23, [1, 0], [0, 1, -1])], [], [(0, 1, 0, 4294967296)])
theorem oo_jMath_max1_v26_1 {kA : Nat → ClassId} : or_ok PRD kA GG o_jMath_max1_v26_1 := by
  refine or_mk fun A ta ws vs hD hth hl => ?_
  intro t0 k0 t1 k1 d0 f0
  replace f0 := shm_2 f0
  have nf0 : fc_1 PRD (23, [0, 0], [0, 1, -1]) ws (vs) := by
    refine ⟨nf_in hl rfl, sgq_8 ?_⟩
    · show 1 * v_iv (n_v vs 0) + ((-1) * v_iv (n_v vs 0) + 0) ≤ 0
      omega
  have nf1 : fc_1 PRD (23, [1, 0], [0, 1, -1]) ws (vs) := by
    refine ⟨nf_in hl rfl, sgq_7 ?_⟩
    · show 1 * v_iv (n_v vs 1) + ((-1) * v_iv (n_v vs 0) + 0) ≤ 0
      omega
  refine ⟨(fun _ h => (by cases h)), [], trivial, ?_, (fun _ h => (by cases h))⟩
  rw [List.append_nil]
  exact List.forall_mem_cons.mpr ⟨⟨show (23 : Nat) < 100 from by decide, nf0⟩, List.forall_mem_cons.mpr ⟨⟨show (23 : Nat) < 100 from by decide, nf1⟩, (fun _ h => (by cases h))⟩⟩
def n_jMath_max1_v26_an : List an_T := []
def t_jMath_max1_v26_ct : ct_L := []
set_option maxRecDepth 100000 in
theorem c_jMath_max1_v26 {l : Launch} {D : va_G} {kA : Nat → ClassId} : ct_ok PRD l D kA GG y_jMath_max1 z_jMath_max1 e_jMath_max1_v26 := chk_all_ok (FT := []) (PT := []) (CT := t_jMath_max1_v26_ct) (KT := []) (NT := []) (AN := n_jMath_max1_v26_an) (OT := [o_jMath_max1_v26_0, o_jMath_max1_v26_1]) 0 200 (List.forall_mem_cons.mpr ⟨oo_jMath_max1_v26_0, List.forall_mem_cons.mpr ⟨oo_jMath_max1_v26_1, List.forall_mem_nil _⟩⟩) (pl_Math rfl (by decide)) ⟨List.forall_mem_nil _, List.forall_mem_nil _, List.forall_mem_nil _, List.forall_mem_nil _, List.forall_mem_nil _, GG_pl⟩ (by decide +kernel)
def e_jMath_max1_v27 : en_T := ([(0, 0, 32, []), (0, -72, 47, [])], some (0, 0, 47, []), true, 1, 0, 0, [], [], (0, [], [], [(23, [0, 2], [0, 1, -1]), (23, [1, 2], [0, 1, -1])], []))
def o_jMath_max1_v27_0 : or_T := (10, 2, [(0, (0, 0, 32, [])), (1, (0, 1, 47, []))], [(7, [0, 1], [2])], [], [], [(23, [0, 1], [0, 1, -1]), (23, [1, 1], [0, 1, -1])], [], [(0, 1, -4294967296, -1)])
theorem oo_jMath_max1_v27_0 {kA : Nat → ClassId} : or_ok PRD kA GG o_jMath_max1_v27_0 := by
  refine or_mk fun A ta ws vs hD hth hl => ?_
  intro t0 k0 t1 k1 d0 f0
  replace f0 := shm_6 f0
  have nf0 : fc_1 PRD (23, [0, 1], [0, 1, -1]) ws (vs) := by
    refine ⟨nf_in hl rfl, sgq_7 ?_⟩
    · show 1 * v_iv (n_v vs 0) + ((-1) * v_iv (n_v vs 1) + 0) ≤ 0
      omega
  have nf1 : fc_1 PRD (23, [1, 1], [0, 1, -1]) ws (vs) := by
    refine ⟨nf_in hl rfl, sgq_8 ?_⟩
    · show 1 * v_iv (n_v vs 1) + ((-1) * v_iv (n_v vs 1) + 0) ≤ 0
      omega
  refine ⟨(fun _ h => (by cases h)), [], trivial, ?_, (fun _ h => (by cases h))⟩
  rw [List.append_nil]
  exact List.forall_mem_cons.mpr ⟨⟨show (23 : Nat) < 100 from by decide, nf0⟩, List.forall_mem_cons.mpr ⟨⟨show (23 : Nat) < 100 from by decide, nf1⟩, (fun _ h => (by cases h))⟩⟩
def o_jMath_max1_v27_1 : or_T := (10, 2, [(0, (0, 0, 32, [])), (1, (0, -72, 32, []))], [(7, [0, 1], [3])], [], [], [(23, [0, 0], [0, 1, -1]), (23, [1, 0], [0, 1, -1])], [], [(0, 1, 0, 4294967296)])
theorem oo_jMath_max1_v27_1 {kA : Nat → ClassId} : or_ok PRD kA GG o_jMath_max1_v27_1 := by
  refine or_mk fun A ta ws vs hD hth hl => ?_
  intro t0 k0 t1 k1 d0 f0
  replace f0 := shm_2 f0
  have nf0 : fc_1 PRD (23, [0, 0], [0, 1, -1]) ws (vs) := by
    refine ⟨nf_in hl rfl, sgq_8 ?_⟩
    · show 1 * v_iv (n_v vs 0) + ((-1) * v_iv (n_v vs 0) + 0) ≤ 0
      omega
  have nf1 : fc_1 PRD (23, [1, 0], [0, 1, -1]) ws (vs) := by
    refine ⟨nf_in hl rfl, sgq_7 ?_⟩
    · show 1 * v_iv (n_v vs 1) + ((-1) * v_iv (n_v vs 0) + 0) ≤ 0
      omega
  refine ⟨(fun _ h => (by cases h)), [], trivial, ?_, (fun _ h => (by cases h))⟩
  rw [List.append_nil]
  exact List.forall_mem_cons.mpr ⟨⟨show (23 : Nat) < 100 from by decide, nf0⟩, List.forall_mem_cons.mpr ⟨⟨show (23 : Nat) < 100 from by decide, nf1⟩, (fun _ h => (by cases h))⟩⟩
def n_jMath_max1_v27_an : List an_T := []
def t_jMath_max1_v27_ct : ct_L := []
set_option maxRecDepth 100000 in
theorem c_jMath_max1_v27 {l : Launch} {D : va_G} {kA : Nat → ClassId} : ct_ok PRD l D kA GG y_jMath_max1 z_jMath_max1 e_jMath_max1_v27 := chk_all_ok (FT := []) (PT := []) (CT := t_jMath_max1_v27_ct) (KT := []) (NT := []) (AN := n_jMath_max1_v27_an) (OT := [o_jMath_max1_v27_0, o_jMath_max1_v27_1]) 0 200 (List.forall_mem_cons.mpr ⟨oo_jMath_max1_v27_0, List.forall_mem_cons.mpr ⟨oo_jMath_max1_v27_1, List.forall_mem_nil _⟩⟩) (pl_Math rfl (by decide)) ⟨List.forall_mem_nil _, List.forall_mem_nil _, List.forall_mem_nil _, List.forall_mem_nil _, List.forall_mem_nil _, GG_pl⟩ (by decide +kernel)
def e_jMath_max1_v28 : en_T := ([(0, 0, 47, []), (0, -72, 48, [])], some (0, 0, 48, []), true, 1, 0, 0, [], [], (0, [], [], [(23, [0, 2], [0, 1, -1]), (23, [1, 2], [0, 1, -1])], []))
def o_jMath_max1_v28_0 : or_T := (10, 2, [(0, (0, 0, 47, [])), (1, (0, 1, 48, []))], [(7, [0, 1], [2])], [], [], [(23, [0, 1], [0, 1, -1]), (23, [1, 1], [0, 1, -1])], [], [(0, 1, -4294967296, -1)])
theorem oo_jMath_max1_v28_0 {kA : Nat → ClassId} : or_ok PRD kA GG o_jMath_max1_v28_0 := by
  refine or_mk fun A ta ws vs hD hth hl => ?_
  intro t0 k0 t1 k1 d0 f0
  replace f0 := shm_6 f0
  have nf0 : fc_1 PRD (23, [0, 1], [0, 1, -1]) ws (vs) := by
    refine ⟨nf_in hl rfl, sgq_7 ?_⟩
    · show 1 * v_iv (n_v vs 0) + ((-1) * v_iv (n_v vs 1) + 0) ≤ 0
      omega
  have nf1 : fc_1 PRD (23, [1, 1], [0, 1, -1]) ws (vs) := by
    refine ⟨nf_in hl rfl, sgq_8 ?_⟩
    · show 1 * v_iv (n_v vs 1) + ((-1) * v_iv (n_v vs 1) + 0) ≤ 0
      omega
  refine ⟨(fun _ h => (by cases h)), [], trivial, ?_, (fun _ h => (by cases h))⟩
  rw [List.append_nil]
  exact List.forall_mem_cons.mpr ⟨⟨show (23 : Nat) < 100 from by decide, nf0⟩, List.forall_mem_cons.mpr ⟨⟨show (23 : Nat) < 100 from by decide, nf1⟩, (fun _ h => (by cases h))⟩⟩
def o_jMath_max1_v28_1 : or_T := (10, 2, [(0, (0, 0, 47, [])), (1, (0, -72, 47, []))], [(7, [0, 1], [3])], [], [], [(23, [0, 0], [0, 1, -1]), (23, [1, 0], [0, 1, -1])], [], [(0, 1, 0, 4294967296)])
theorem oo_jMath_max1_v28_1 {kA : Nat → ClassId} : or_ok PRD kA GG o_jMath_max1_v28_1 := by
  refine or_mk fun A ta ws vs hD hth hl => ?_
  intro t0 k0 t1 k1 d0 f0
  replace f0 := shm_2 f0
  have nf0 : fc_1 PRD (23, [0, 0], [0, 1, -1]) ws (vs) := by
    refine ⟨nf_in hl rfl, sgq_8 ?_⟩
    · show 1 * v_iv (n_v vs 0) + ((-1) * v_iv (n_v vs 0) + 0) ≤ 0
      omega
  have nf1 : fc_1 PRD (23, [1, 0], [0, 1, -1]) ws (vs) := by
    refine ⟨nf_in hl rfl, sgq_7 ?_⟩
    · show 1 * v_iv (n_v vs 1) + ((-1) * v_iv (n_v vs 0) + 0) ≤ 0
      omega
  refine ⟨(fun _ h => (by cases h)), [], trivial, ?_, (fun _ h => (by cases h))⟩
  rw [List.append_nil]
  exact List.forall_mem_cons.mpr ⟨⟨show (23 : Nat) < 100 from by decide, nf0⟩, List.forall_mem_cons.mpr ⟨⟨show (23 : Nat) < 100 from by decide, nf1⟩, (fun _ h => (by cases h))⟩⟩
def n_jMath_max1_v28_an : List an_T := []
def t_jMath_max1_v28_ct : ct_L := []
set_option maxRecDepth 100000 in
theorem c_jMath_max1_v28 {l : Launch} {D : va_G} {kA : Nat → ClassId} : ct_ok PRD l D kA GG y_jMath_max1 z_jMath_max1 e_jMath_max1_v28 := chk_all_ok (FT := []) (PT := []) (CT := t_jMath_max1_v28_ct) (KT := []) (NT := []) (AN := n_jMath_max1_v28_an) (OT := [o_jMath_max1_v28_0, o_jMath_max1_v28_1]) 0 200 (List.forall_mem_cons.mpr ⟨oo_jMath_max1_v28_0, List.forall_mem_cons.mpr ⟨oo_jMath_max1_v28_1, List.forall_mem_nil _⟩⟩) (pl_Math rfl (by decide)) ⟨List.forall_mem_nil _, List.forall_mem_nil _, List.forall_mem_nil _, List.forall_mem_nil _, List.forall_mem_nil _, GG_pl⟩ (by decide +kernel)
def e_jMath_max1_v29 : en_T := ([(0, 0, 48, []), (0, -72, 63, [])], some (0, 0, 63, []), true, 1, 0, 0, [], [], (0, [], [], [(23, [0, 2], [0, 1, -1]), (23, [1, 2], [0, 1, -1])], []))
def o_jMath_max1_v29_0 : or_T := (10, 2, [(0, (0, 0, 48, [])), (1, (0, 1, 63, []))], [(7, [0, 1], [2])], [], [], [(23, [0, 1], [0, 1, -1]), (23, [1, 1], [0, 1, -1])], [], [(0, 1, -4294967296, -1)])
theorem oo_jMath_max1_v29_0 {kA : Nat → ClassId} : or_ok PRD kA GG o_jMath_max1_v29_0 := by
  refine or_mk fun A ta ws vs hD hth hl => ?_
  intro t0 k0 t1 k1 d0 f0
  replace f0 := shm_6 f0
  have nf0 : fc_1 PRD (23, [0, 1], [0, 1, -1]) ws (vs) := by
    refine ⟨nf_in hl rfl, sgq_7 ?_⟩
    · show 1 * v_iv (n_v vs 0) + ((-1) * v_iv (n_v vs 1) + 0) ≤ 0
      omega
  have nf1 : fc_1 PRD (23, [1, 1], [0, 1, -1]) ws (vs) := by
    refine ⟨nf_in hl rfl, sgq_8 ?_⟩
    · show 1 * v_iv (n_v vs 1) + ((-1) * v_iv (n_v vs 1) + 0) ≤ 0
      omega
  refine ⟨(fun _ h => (by cases h)), [], trivial, ?_, (fun _ h => (by cases h))⟩
  rw [List.append_nil]
  exact List.forall_mem_cons.mpr ⟨⟨show (23 : Nat) < 100 from by decide, nf0⟩, List.forall_mem_cons.mpr ⟨⟨show (23 : Nat) < 100 from by decide, nf1⟩, (fun _ h => (by cases h))⟩⟩
def o_jMath_max1_v29_1 : or_T := (10, 2, [(0, (0, 0, 48, [])), (1, (0, -72, 48, []))], [(7, [0, 1], [3])], [], [], [(23, [0, 0], [0, 1, -1]), (23, [1, 0], [0, 1, -1])], [], [(0, 1, 0, 4294967296)])
theorem oo_jMath_max1_v29_1 {kA : Nat → ClassId} : or_ok PRD kA GG o_jMath_max1_v29_1 := by
  refine or_mk fun A ta ws vs hD hth hl => ?_
  intro t0 k0 t1 k1 d0 f0
  replace f0 := shm_2 f0
  have nf0 : fc_1 PRD (23, [0, 0], [0, 1, -1]) ws (vs) := by
    refine ⟨nf_in hl rfl, sgq_8 ?_⟩
    · show 1 * v_iv (n_v vs 0) + ((-1) * v_iv (n_v vs 0) + 0) ≤ 0
      omega
  have nf1 : fc_1 PRD (23, [1, 0], [0, 1, -1]) ws (vs) := by
    refine ⟨nf_in hl rfl, sgq_7 ?_⟩
    · show 1 * v_iv (n_v vs 1) + ((-1) * v_iv (n_v vs 0) + 0) ≤ 0
      omega
  refine ⟨(fun _ h => (by cases h)), [], trivial, ?_, (fun _ h => (by cases h))⟩
  rw [List.append_nil]
  exact List.forall_mem_cons.mpr ⟨⟨show (23 : Nat) < 100 from by decide, nf0⟩, List.forall_mem_cons.mpr ⟨⟨show (23 : Nat) < 100 from by decide, nf1⟩, (fun _ h => (by cases h))⟩⟩
def n_jMath_max1_v29_an : List an_T := []
def t_jMath_max1_v29_ct : ct_L := []
set_option maxRecDepth 100000 in
theorem c_jMath_max1_v29 {l : Launch} {D : va_G} {kA : Nat → ClassId} : ct_ok PRD l D kA GG y_jMath_max1 z_jMath_max1 e_jMath_max1_v29 := chk_all_ok (FT := []) (PT := []) (CT := t_jMath_max1_v29_ct) (KT := []) (NT := []) (AN := n_jMath_max1_v29_an) (OT := [o_jMath_max1_v29_0, o_jMath_max1_v29_1]) 0 200 (List.forall_mem_cons.mpr ⟨oo_jMath_max1_v29_0, List.forall_mem_cons.mpr ⟨oo_jMath_max1_v29_1, List.forall_mem_nil _⟩⟩) (pl_Math rfl (by decide)) ⟨List.forall_mem_nil _, List.forall_mem_nil _, List.forall_mem_nil _, List.forall_mem_nil _, List.forall_mem_nil _, GG_pl⟩ (by decide +kernel)
def e_jMath_max1_v30 : en_T := ([(0, 0, 63, []), (0, -72, 64, [])], some (0, 0, 64, []), true, 1, 0, 0, [], [], (0, [], [], [(23, [0, 2], [0, 1, -1]), (23, [1, 2], [0, 1, -1])], []))
def o_jMath_max1_v30_0 : or_T := (10, 2, [(0, (0, 0, 63, [])), (1, (0, 1, 64, []))], [(7, [0, 1], [2])], [], [], [(23, [0, 1], [0, 1, -1]), (23, [1, 1], [0, 1, -1])], [], [(0, 1, -4294967296, -1)])
theorem oo_jMath_max1_v30_0 {kA : Nat → ClassId} : or_ok PRD kA GG o_jMath_max1_v30_0 := by
  refine or_mk fun A ta ws vs hD hth hl => ?_
  intro t0 k0 t1 k1 d0 f0
  replace f0 := shm_6 f0
  have nf0 : fc_1 PRD (23, [0, 1], [0, 1, -1]) ws (vs) := by
    refine ⟨nf_in hl rfl, sgq_7 ?_⟩
    · show 1 * v_iv (n_v vs 0) + ((-1) * v_iv (n_v vs 1) + 0) ≤ 0
      omega
  have nf1 : fc_1 PRD (23, [1, 1], [0, 1, -1]) ws (vs) := by
    refine ⟨nf_in hl rfl, sgq_8 ?_⟩
    · show 1 * v_iv (n_v vs 1) + ((-1) * v_iv (n_v vs 1) + 0) ≤ 0
      omega
  refine ⟨(fun _ h => (by cases h)), [], trivial, ?_, (fun _ h => (by cases h))⟩
  rw [List.append_nil]
  exact List.forall_mem_cons.mpr ⟨⟨show (23 : Nat) < 100 from by decide, nf0⟩, List.forall_mem_cons.mpr ⟨⟨show (23 : Nat) < 100 from by decide, nf1⟩, (fun _ h => (by cases h))⟩⟩
def o_jMath_max1_v30_1 : or_T := (10, 2, [(0, (0, 0, 63, [])), (1, (0, -72, 63, []))], [(7, [0, 1], [3])], [], [], [(23, [0, 0], [0, 1, -1]), (23, [1, 0], [0, 1, -1])], [], [(0, 1, 0, 4294967296)])
theorem oo_jMath_max1_v30_1 {kA : Nat → ClassId} : or_ok PRD kA GG o_jMath_max1_v30_1 := by
  refine or_mk fun A ta ws vs hD hth hl => ?_
  intro t0 k0 t1 k1 d0 f0
  replace f0 := shm_2 f0
  have nf0 : fc_1 PRD (23, [0, 0], [0, 1, -1]) ws (vs) := by
    refine ⟨nf_in hl rfl, sgq_8 ?_⟩
    · show 1 * v_iv (n_v vs 0) + ((-1) * v_iv (n_v vs 0) + 0) ≤ 0
      omega
  have nf1 : fc_1 PRD (23, [1, 0], [0, 1, -1]) ws (vs) := by
    refine ⟨nf_in hl rfl, sgq_7 ?_⟩
    · show 1 * v_iv (n_v vs 1) + ((-1) * v_iv (n_v vs 0) + 0) ≤ 0
      omega
  refine ⟨(fun _ h => (by cases h)), [], trivial, ?_, (fun _ h => (by cases h))⟩
  rw [List.append_nil]
  exact List.forall_mem_cons.mpr ⟨⟨show (23 : Nat) < 100 from by decide, nf0⟩, List.forall_mem_cons.mpr ⟨⟨show (23 : Nat) < 100 from by decide, nf1⟩, (fun _ h => (by cases h))⟩⟩
def n_jMath_max1_v30_an : List an_T := []
def t_jMath_max1_v30_ct : ct_L := []
set_option maxRecDepth 100000 in
theorem c_jMath_max1_v30 {l : Launch} {D : va_G} {kA : Nat → ClassId} : ct_ok PRD l D kA GG y_jMath_max1 z_jMath_max1 e_jMath_max1_v30 := chk_all_ok (FT := []) (PT := []) (CT := t_jMath_max1_v30_ct) (KT := []) (NT := []) (AN := n_jMath_max1_v30_an) (OT := [o_jMath_max1_v30_0, o_jMath_max1_v30_1]) 0 200 (List.forall_mem_cons.mpr ⟨oo_jMath_max1_v30_0, List.forall_mem_cons.mpr ⟨oo_jMath_max1_v30_1, List.forall_mem_nil _⟩⟩) (pl_Math rfl (by decide)) ⟨List.forall_mem_nil _, List.forall_mem_nil _, List.forall_mem_nil _, List.forall_mem_nil _, List.forall_mem_nil _, GG_pl⟩ (by decide +kernel)
def e_jMath_max1_v31 : en_T := ([(0, 0, 64, []), (0, -72, 71, [])], some (0, 0, 71, []), true, 1, 0, 0, [], [], (0, [], [], [(23, [0, 2], [0, 1, -1]), (23, [1, 2], [0, 1, -1])], []))
def o_jMath_max1_v31_0 : or_T := (10, 2, [(0, (0, 0, 64, [])), (1, (0, 1, 71, []))], [(7, [0, 1], [2])], [], [], [(23, [0, 1], [0, 1, -1]), (23, [1, 1], [0, 1, -1])], [], [(0, 1, -4294967296, -1)])
theorem oo_jMath_max1_v31_0 {kA : Nat → ClassId} : or_ok PRD kA GG o_jMath_max1_v31_0 := by
  refine or_mk fun A ta ws vs hD hth hl => ?_
  intro t0 k0 t1 k1 d0 f0
  replace f0 := shm_6 f0
  have nf0 : fc_1 PRD (23, [0, 1], [0, 1, -1]) ws (vs) := by
    refine ⟨nf_in hl rfl, sgq_7 ?_⟩
    · show 1 * v_iv (n_v vs 0) + ((-1) * v_iv (n_v vs 1) + 0) ≤ 0
      omega
  have nf1 : fc_1 PRD (23, [1, 1], [0, 1, -1]) ws (vs) := by
    refine ⟨nf_in hl rfl, sgq_8 ?_⟩
    · show 1 * v_iv (n_v vs 1) + ((-1) * v_iv (n_v vs 1) + 0) ≤ 0
      omega
  refine ⟨(fun _ h => (by cases h)), [], trivial, ?_, (fun _ h => (by cases h))⟩
  rw [List.append_nil]
  exact List.forall_mem_cons.mpr ⟨⟨show (23 : Nat) < 100 from by decide, nf0⟩, List.forall_mem_cons.mpr ⟨⟨show (23 : Nat) < 100 from by decide, nf1⟩, (fun _ h => (by cases h))⟩⟩
def o_jMath_max1_v31_1 : or_T := (10, 2, [(0, (0, 0, 64, [])), (1, (0, -72, 64, []))], [(7, [0, 1], [3])], [], [], [(23, [0, 0], [0, 1, -1]), (23, [1, 0], [0, 1, -1])], [], [(0, 1, 0, 4294967296)])
theorem oo_jMath_max1_v31_1 {kA : Nat → ClassId} : or_ok PRD kA GG o_jMath_max1_v31_1 := by
  refine or_mk fun A ta ws vs hD hth hl => ?_
  intro t0 k0 t1 k1 d0 f0
  replace f0 := shm_2 f0
  have nf0 : fc_1 PRD (23, [0, 0], [0, 1, -1]) ws (vs) := by
    refine ⟨nf_in hl rfl, sgq_8 ?_⟩
    · show 1 * v_iv (n_v vs 0) + ((-1) * v_iv (n_v vs 0) + 0) ≤ 0
      omega
  have nf1 : fc_1 PRD (23, [1, 0], [0, 1, -1]) ws (vs) := by
    refine ⟨nf_in hl rfl, sgq_7 ?_⟩
    · show 1 * v_iv (n_v vs 1) + ((-1) * v_iv (n_v vs 0) + 0) ≤ 0
      omega
  refine ⟨(fun _ h => (by cases h)), [], trivial, ?_, (fun _ h => (by cases h))⟩
  rw [List.append_nil]
  exact List.forall_mem_cons.mpr ⟨⟨show (23 : Nat) < 100 from by decide, nf0⟩, List.forall_mem_cons.mpr ⟨⟨show (23 : Nat) < 100 from by decide, nf1⟩, (fun _ h => (by cases h))⟩⟩
def n_jMath_max1_v31_an : List an_T := []
def t_jMath_max1_v31_ct : ct_L := []
set_option maxRecDepth 100000 in
theorem c_jMath_max1_v31 {l : Launch} {D : va_G} {kA : Nat → ClassId} : ct_ok PRD l D kA GG y_jMath_max1 z_jMath_max1 e_jMath_max1_v31 := chk_all_ok (FT := []) (PT := []) (CT := t_jMath_max1_v31_ct) (KT := []) (NT := []) (AN := n_jMath_max1_v31_an) (OT := [o_jMath_max1_v31_0, o_jMath_max1_v31_1]) 0 200 (List.forall_mem_cons.mpr ⟨oo_jMath_max1_v31_0, List.forall_mem_cons.mpr ⟨oo_jMath_max1_v31_1, List.forall_mem_nil _⟩⟩) (pl_Math rfl (by decide)) ⟨List.forall_mem_nil _, List.forall_mem_nil _, List.forall_mem_nil _, List.forall_mem_nil _, List.forall_mem_nil _, GG_pl⟩ (by decide +kernel)
def e_jMath_max1_v32 : en_T := ([(0, 0, 71, []), (0, -72, 72, [])], some (0, 0, 72, []), true, 1, 0, 0, [], [], (0, [], [], [(23, [0, 2], [0, 1, -1]), (23, [1, 2], [0, 1, -1])], []))
def o_jMath_max1_v32_0 : or_T := (10, 2, [(0, (0, 0, 71, [])), (1, (0, 1, 72, []))], [(7, [0, 1], [2])], [], [], [(23, [0, 1], [0, 1, -1]), (23, [1, 1], [0, 1, -1])], [], [(0, 1, -4294967296, -1)])
theorem oo_jMath_max1_v32_0 {kA : Nat → ClassId} : or_ok PRD kA GG o_jMath_max1_v32_0 := by
  refine or_mk fun A ta ws vs hD hth hl => ?_
  intro t0 k0 t1 k1 d0 f0
  replace f0 := shm_6 f0
  have nf0 : fc_1 PRD (23, [0, 1], [0, 1, -1]) ws (vs) := by
    refine ⟨nf_in hl rfl, sgq_7 ?_⟩
    · show 1 * v_iv (n_v vs 0) + ((-1) * v_iv (n_v vs 1) + 0) ≤ 0
      omega
  have nf1 : fc_1 PRD (23, [1, 1], [0, 1, -1]) ws (vs) := by
    refine ⟨nf_in hl rfl, sgq_8 ?_⟩
    · show 1 * v_iv (n_v vs 1) + ((-1) * v_iv (n_v vs 1) + 0) ≤ 0
      omega
  refine ⟨(fun _ h => (by cases h)), [], trivial, ?_, (fun _ h => (by cases h))⟩
  rw [List.append_nil]
  exact List.forall_mem_cons.mpr ⟨⟨show (23 : Nat) < 100 from by decide, nf0⟩, List.forall_mem_cons.mpr ⟨⟨show (23 : Nat) < 100 from by decide, nf1⟩, (fun _ h => (by cases h))⟩⟩
def o_jMath_max1_v32_1 : or_T := (10, 2, [(0, (0, 0, 71, [])), (1, (0, -72, 71, []))], [(7, [0, 1], [3])], [], [], [(23, [0, 0], [0, 1, -1]), (23, [1, 0], [0, 1, -1])], [], [(0, 1, 0, 4294967296)])
theorem oo_jMath_max1_v32_1 {kA : Nat → ClassId} : or_ok PRD kA GG o_jMath_max1_v32_1 := by
  refine or_mk fun A ta ws vs hD hth hl => ?_
  intro t0 k0 t1 k1 d0 f0
  replace f0 := shm_2 f0
  have nf0 : fc_1 PRD (23, [0, 0], [0, 1, -1]) ws (vs) := by
    refine ⟨nf_in hl rfl, sgq_8 ?_⟩
    · show 1 * v_iv (n_v vs 0) + ((-1) * v_iv (n_v vs 0) + 0) ≤ 0
      omega
  have nf1 : fc_1 PRD (23, [1, 0], [0, 1, -1]) ws (vs) := by
    refine ⟨nf_in hl rfl, sgq_7 ?_⟩
    · show 1 * v_iv (n_v vs 1) + ((-1) * v_iv (n_v vs 0) + 0) ≤ 0
      omega
  refine ⟨(fun _ h => (by cases h)), [], trivial, ?_, (fun _ h => (by cases h))⟩
  rw [List.append_nil]
  exact List.forall_mem_cons.mpr ⟨⟨show (23 : Nat) < 100 from by decide, nf0⟩, List.forall_mem_cons.mpr ⟨⟨show (23 : Nat) < 100 from by decide, nf1⟩, (fun _ h => (by cases h))⟩⟩
def n_jMath_max1_v32_an : List an_T := []
def t_jMath_max1_v32_ct : ct_L := []
set_option maxRecDepth 100000 in
theorem c_jMath_max1_v32 {l : Launch} {D : va_G} {kA : Nat → ClassId} : ct_ok PRD l D kA GG y_jMath_max1 z_jMath_max1 e_jMath_max1_v32 := chk_all_ok (FT := []) (PT := []) (CT := t_jMath_max1_v32_ct) (KT := []) (NT := []) (AN := n_jMath_max1_v32_an) (OT := [o_jMath_max1_v32_0, o_jMath_max1_v32_1]) 0 200 (List.forall_mem_cons.mpr ⟨oo_jMath_max1_v32_0, List.forall_mem_cons.mpr ⟨oo_jMath_max1_v32_1, List.forall_mem_nil _⟩⟩) (pl_Math rfl (by decide)) ⟨List.forall_mem_nil _, List.forall_mem_nil _, List.forall_mem_nil _, List.forall_mem_nil _, List.forall_mem_nil _, GG_pl⟩ (by decide +kernel)
def e_jMath_max1_v33 : en_T := ([(0, 0, 72, []), (0, -72, 72, [])], some (0, 0, 72, []), true, 1, 0, 0, [], [], (0, [], [], [(23, [0, 2], [0, 1, -1]), (23, [1, 2], [0, 1, -1])], []))
def o_jMath_max1_v33_0 : or_T := (10, 2, [(0, (0, 0, 71, [])), (1, (0, 1, 72, []))], [(7, [0, 1], [2])], [], [], [(23, [0, 1], [0, 1, -1]), (23, [1, 1], [0, 1, -1])], [], [(0, 1, -4294967296, -1)])
theorem oo_jMath_max1_v33_0 {kA : Nat → ClassId} : or_ok PRD kA GG o_jMath_max1_v33_0 := by
  refine or_mk fun A ta ws vs hD hth hl => ?_
  intro t0 k0 t1 k1 d0 f0
  replace f0 := shm_6 f0
  have nf0 : fc_1 PRD (23, [0, 1], [0, 1, -1]) ws (vs) := by
    refine ⟨nf_in hl rfl, sgq_7 ?_⟩
    · show 1 * v_iv (n_v vs 0) + ((-1) * v_iv (n_v vs 1) + 0) ≤ 0
      omega
  have nf1 : fc_1 PRD (23, [1, 1], [0, 1, -1]) ws (vs) := by
    refine ⟨nf_in hl rfl, sgq_8 ?_⟩
    · show 1 * v_iv (n_v vs 1) + ((-1) * v_iv (n_v vs 1) + 0) ≤ 0
      omega
  refine ⟨(fun _ h => (by cases h)), [], trivial, ?_, (fun _ h => (by cases h))⟩
  rw [List.append_nil]
  exact List.forall_mem_cons.mpr ⟨⟨show (23 : Nat) < 100 from by decide, nf0⟩, List.forall_mem_cons.mpr ⟨⟨show (23 : Nat) < 100 from by decide, nf1⟩, (fun _ h => (by cases h))⟩⟩
def o_jMath_max1_v33_1 : or_T := (10, 2, [(0, (0, 0, 72, [])), (1, (0, -72, 72, []))], [(7, [0, 1], [3])], [], [], [(23, [0, 0], [0, 1, -1]), (23, [1, 0], [0, 1, -1])], [], [(0, 1, 0, 4294967296)])
theorem oo_jMath_max1_v33_1 {kA : Nat → ClassId} : or_ok PRD kA GG o_jMath_max1_v33_1 := by
  refine or_mk fun A ta ws vs hD hth hl => ?_
  intro t0 k0 t1 k1 d0 f0
  replace f0 := shm_2 f0
  have nf0 : fc_1 PRD (23, [0, 0], [0, 1, -1]) ws (vs) := by
    refine ⟨nf_in hl rfl, sgq_8 ?_⟩
    · show 1 * v_iv (n_v vs 0) + ((-1) * v_iv (n_v vs 0) + 0) ≤ 0
      omega
  have nf1 : fc_1 PRD (23, [1, 0], [0, 1, -1]) ws (vs) := by
    refine ⟨nf_in hl rfl, sgq_7 ?_⟩
    · show 1 * v_iv (n_v vs 1) + ((-1) * v_iv (n_v vs 0) + 0) ≤ 0
      omega
  refine ⟨(fun _ h => (by cases h)), [], trivial, ?_, (fun _ h => (by cases h))⟩
  rw [List.append_nil]
  exact List.forall_mem_cons.mpr ⟨⟨show (23 : Nat) < 100 from by decide, nf0⟩, List.forall_mem_cons.mpr ⟨⟨show (23 : Nat) < 100 from by decide, nf1⟩, (fun _ h => (by cases h))⟩⟩
def n_jMath_max1_v33_an : List an_T := []
def t_jMath_max1_v33_ct : ct_L := []
set_option maxRecDepth 100000 in
theorem c_jMath_max1_v33 {l : Launch} {D : va_G} {kA : Nat → ClassId} : ct_ok PRD l D kA GG y_jMath_max1 z_jMath_max1 e_jMath_max1_v33 := chk_all_ok (FT := []) (PT := []) (CT := t_jMath_max1_v33_ct) (KT := []) (NT := []) (AN := n_jMath_max1_v33_an) (OT := [o_jMath_max1_v33_0, o_jMath_max1_v33_1]) 0 200 (List.forall_mem_cons.mpr ⟨oo_jMath_max1_v33_0, List.forall_mem_cons.mpr ⟨oo_jMath_max1_v33_1, List.forall_mem_nil _⟩⟩) (pl_Math rfl (by decide)) ⟨List.forall_mem_nil _, List.forall_mem_nil _, List.forall_mem_nil _, List.forall_mem_nil _, List.forall_mem_nil _, GG_pl⟩ (by decide +kernel)
def e_jMath_min1_v34 : en_T := ([(0, -2147483648, 2147483647, []), (0, -2147483648, 2147483647, [])], some (0, -2147483648, 2147483647, []), true, 1, 0, 0, [], [], (0, [], [], [(23, [0, 2], [0, -1, 1]), (23, [1, 2], [0, -1, 1])], []))
def o_jMath_min1_v34_0 : or_T := (10, 2, [(0, (0, -2147483647, 2147483647, [])), (1, (0, -2147483648, 2147483646, []))], [(7, [0, 1], [4])], [], [], [(23, [0, 1], [0, -1, 1]), (23, [1, 1], [0, -1, 1])], [], [(0, 1, 1, 4294967296)])
theorem oo_jMath_min1_v34_0 {kA : Nat → ClassId} : or_ok PRD kA GG o_jMath_min1_v34_0 := by
  refine or_mk fun A ta ws vs hD hth hl => ?_
  intro t0 k0 t1 k1 d0 f0
  replace f0 := shm_21 f0
  have nf0 : fc_1 PRD (23, [0, 1], [0, -1, 1]) ws (vs) := by
    refine ⟨nf_in hl rfl, sgq_22 ?_⟩
    · show (-1) * v_iv (n_v vs 0) + (1 * v_iv (n_v vs 1) + 0) ≤ 0
      omega
  have nf1 : fc_1 PRD (23, [1, 1], [0, -1, 1]) ws (vs) := by
    refine ⟨nf_in hl rfl, sgq_23 ?_⟩
    · show (-1) * v_iv (n_v vs 1) + (1 * v_iv (n_v vs 1) + 0) ≤ 0
      omega
  refine ⟨(fun _ h => (by cases h)), [], trivial, ?_, (fun _ h => (by cases h))⟩
  rw [List.append_nil]
  exact List.forall_mem_cons.mpr ⟨⟨show (23 : Nat) < 100 from by decide, nf0⟩, List.forall_mem_cons.mpr ⟨⟨show (23 : Nat) < 100 from by decide, nf1⟩, (fun _ h => (by cases h))⟩⟩
def o_jMath_min1_v34_1 : or_T := (10, 2, [(0, (0, -2147483648, 2147483647, [])), (1, (0, -2147483648, 2147483647, []))], [(7, [0, 1], [5])], [], [], [(23, [0, 0], [0, -1, 1]), (23, [1, 0], [0, -1, 1])], [], [(0, 1, -4294967296, 0)])
theorem oo_jMath_min1_v34_1 {kA : Nat → ClassId} : or_ok PRD kA GG o_jMath_min1_v34_1 := by
  refine or_mk fun A ta ws vs hD hth hl => ?_
  intro t0 k0 t1 k1 d0 f0
  replace f0 := shm_24 f0
  have nf0 : fc_1 PRD (23, [0, 0], [0, -1, 1]) ws (vs) := by
    refine ⟨nf_in hl rfl, sgq_23 ?_⟩
    · show (-1) * v_iv (n_v vs 0) + (1 * v_iv (n_v vs 0) + 0) ≤ 0
      omega
  have nf1 : fc_1 PRD (23, [1, 0], [0, -1, 1]) ws (vs) := by
    refine ⟨nf_in hl rfl, sgq_22 ?_⟩
    · show (-1) * v_iv (n_v vs 1) + (1 * v_iv (n_v vs 0) + 0) ≤ 0
      omega
  refine ⟨(fun _ h => (by cases h)), [], trivial, ?_, (fun _ h => (by cases h))⟩
  rw [List.append_nil]
  exact List.forall_mem_cons.mpr ⟨⟨show (23 : Nat) < 100 from by decide, nf0⟩, List.forall_mem_cons.mpr ⟨⟨show (23 : Nat) < 100 from by decide, nf1⟩, (fun _ h => (by cases h))⟩⟩
def n_jMath_min1_v34_an : List an_T := []
def t_jMath_min1_v34_ct : ct_L := []
set_option maxRecDepth 100000 in
theorem c_jMath_min1_v34 {l : Launch} {D : va_G} {kA : Nat → ClassId} : ct_ok PRD l D kA GG y_jMath_min1 z_jMath_min1 e_jMath_min1_v34 := chk_all_ok (FT := []) (PT := []) (CT := t_jMath_min1_v34_ct) (KT := []) (NT := []) (AN := n_jMath_min1_v34_an) (OT := [o_jMath_min1_v34_0, o_jMath_min1_v34_1]) 0 200 (List.forall_mem_cons.mpr ⟨oo_jMath_min1_v34_0, List.forall_mem_cons.mpr ⟨oo_jMath_min1_v34_1, List.forall_mem_nil _⟩⟩) (pl_Math rfl (by decide)) ⟨List.forall_mem_nil _, List.forall_mem_nil _, List.forall_mem_nil _, List.forall_mem_nil _, List.forall_mem_nil _, GG_pl⟩ (by decide +kernel)
def e_jArr_fill1_v35 : en_T := ([(2, 0, 0, [82]), (0, 0, 0, [])], none, false, 1, 0, 0, [], [], (4835703278458516698824704, [], [], [(20, [0, 1], [8, 0, 0, 25])], []))
def o_jArr_fill1_v35_0 : or_T := (5, 4, [(2, (0, 0, 0, []))], [], [], [], [(20, [0, 2], [8, 0, 0, 0])], [], [])
theorem oo_jArr_fill1_v35_0 {kA : Nat → ClassId} : or_ok PRD kA GG o_jArr_fill1_v35_0 := by
  refine or_mk fun A ta ws vs hD hth hl => ?_
  intro t2 k2
  have nf0 : fc_1 PRD (20, [0, 2], [8, 0, 0, 0]) ws (vs) := by
    refine ⟨nf_in hl rfl, sgq_0 ?_⟩
    · show ∀ j : Nat, (j : Int) < v_iv (n_v vs 2) + 0 → 0 ≤ w_el ws (v_ad (n_v vs 0)) j ∧ w_el ws (v_ad (n_v vs 0)) j ≤ 0
      intro j hj
      exfalso; omega
  refine ⟨(fun _ h => (by cases h)), [], trivial, ?_, (fun _ h => (by cases h))⟩
  rw [List.append_nil]
  exact List.forall_mem_cons.mpr ⟨⟨show (20 : Nat) < 100 from by decide, nf0⟩, (fun _ h => (by cases h))⟩
def o_jArr_fill1_v35_1 : or_T := (5, 4, [], [], [], [], [(24, [0, 0], [])], [], [])
theorem oo_jArr_fill1_v35_1 {kA : Nat → ClassId} : or_ok PRD kA GG o_jArr_fill1_v35_1 := by
  refine or_mk fun A ta ws vs hD hth hl => ?_
  have nf0 : fc_1 PRD (24, [0, 0], []) ws (vs) := by
    refine ⟨nf_in hl rfl, sgq_1 ?_⟩
    · show n_v vs 0 = n_v vs 0
      first | rfl | simp only [true_and]
  refine ⟨(fun _ h => (by cases h)), [], trivial, ?_, (fun _ h => (by cases h))⟩
  rw [List.append_nil]
  exact List.forall_mem_cons.mpr ⟨⟨show (24 : Nat) < 100 from by decide, nf0⟩, (fun _ h => (by cases h))⟩
def o_jArr_fill1_v35_2 : or_T := (20, 6, [(1, (0, 0, 0, [])), (4, (0, 25, 25, [])), (5, (0, 25, 25, []))], [(7, [4, 5], [3]), (20, [0, 4], [8, 0, 0, 0])], [], [], [(20, [0, 1], [8, 0, 0, 25])], [], [])
theorem oo_jArr_fill1_v35_2 {kA : Nat → ClassId} : or_ok PRD kA GG o_jArr_fill1_v35_2 := by
  refine or_mk fun A ta ws vs hD hth hl => ?_
  intro t1 k1 t4 k4 t5 k5 f0 f1
  replace f0 := shm_2 f0
  replace f1 := shm_0 f1
  have nf0 : fc_1 PRD (20, [0, 1], [8, 0, 0, 25]) ws (vs) := by
    refine ⟨nf_in hl rfl, sgq_25 ?_⟩
    · show ∀ j : Nat, (j : Int) < v_iv (n_v vs 1) + 25 → 0 ≤ w_el ws (v_ad (n_v vs 0)) j ∧ w_el ws (v_ad (n_v vs 0)) j ≤ 0
      intro j hj
      exact f1 j (by omega)
  refine ⟨(fun _ h => (by cases h)), [], trivial, ?_, (fun _ h => (by cases h))⟩
  rw [List.append_nil]
  exact List.forall_mem_cons.mpr ⟨⟨show (20 : Nat) < 100 from by decide, nf0⟩, (fun _ h => (by cases h))⟩
def o_jArr_fill1_v35_3 : or_T := (5, 7, [(3, (0, 0, 0, [])), (4, (0, 0, 24, [])), (5, (0, 25, 25, [])), (6, (0, 1, 25, []))], [(6, [6, 4], [1]), (24, [0, 2], []), (100, [2, 4, 3], []), (7, [4, 5], [2]), (20, [0, 4], [8, 0, 0, 0])], [], [], [(20, [0, 6], [8, 0, 0, 0])], [], [(6, 4, 1, 1)])
theorem oo_jArr_fill1_v35_3 {kA : Nat → ClassId} : or_ok PRD kA GG o_jArr_fill1_v35_3 := by
  refine or_mk fun A ta ws vs hD hth hl => ?_
  intro t3 k3 t4 k4 t5 k5 t6 k6 d0 f0 f1 ta1 w1 le1 s1 f3 f4
  replace f0 := shm_4 f0
  replace f1 := shm_5 f1
  have s1 : (∀ b j, w_el ws b j = if b = v_ad (n_v vs 2) ∧ j = (v_iv (n_v vs 4)).toNat then v_iv (n_v vs 3) else w_el w1 b j) ∧ ∀ b k, w_fd ws b k = w_fd w1 b k := s1.2
  replace f3 := shm_6 f3
  replace f4 := shm_0 f4
  rw [← f1] at s1
  have nf0 : fc_1 PRD (20, [0, 6], [8, 0, 0, 0]) ws (vs) := by
    refine ⟨nf_in hl rfl, sgq_0 ?_⟩
    · show ∀ j : Nat, (j : Int) < v_iv (n_v vs 6) + 0 → 0 ≤ w_el ws (v_ad (n_v vs 0)) j ∧ w_el ws (v_ad (n_v vs 0)) j ≤ 0
      intro j hj
      by_cases hji : j = (v_iv (n_v vs 4)).toNat
      · rw [s1.1, if_pos ⟨rfl, hji⟩]; first | (constructor <;> omega) | (exfalso; omega)
      · rw [s1.1, if_neg (fun e => hji e.2)]; exact f4 j (by omega)
  refine ⟨(fun _ h => (by cases h)), [], trivial, ?_, (fun _ h => (by cases h))⟩
  rw [List.append_nil]
  exact List.forall_mem_cons.mpr ⟨⟨show (20 : Nat) < 100 from by decide, nf0⟩, (fun _ h => (by cases h))⟩
def n_jArr_fill1_v35_an : List an_T := [(5, [(0, (2, 0, 0, [82])), (1, (0, 0, 0, [])), (2, (0, 0, 25, [])), (3, (0, 25, 25, []))], [], (0, 0), [(0, 0, 99995), (1, 4, 25), (0, 0, 100000)], [], [], [(2, 0, 0, [82]), (0, 0, 0, [])], 0, [], [(20, [0, 4], [8, 0, 0, 0]), (24, [0, 2], [])])]
def t_jArr_fill1_v35_ct : ct_L := []
set_option maxRecDepth 100000 in
theorem c_jArr_fill1_v35 {l : Launch} {D : va_G} {kA : Nat → ClassId} : ct_ok PRD l D kA GG y_jArr_fill1 z_jArr_fill1 e_jArr_fill1_v35 := chk_all_ok (FT := []) (PT := []) (CT := t_jArr_fill1_v35_ct) (KT := []) (NT := []) (AN := n_jArr_fill1_v35_an) (OT := [o_jArr_fill1_v35_0, o_jArr_fill1_v35_1, o_jArr_fill1_v35_2, o_jArr_fill1_v35_3]) 3 200 (List.forall_mem_cons.mpr ⟨oo_jArr_fill1_v35_0, List.forall_mem_cons.mpr ⟨oo_jArr_fill1_v35_1, List.forall_mem_cons.mpr ⟨oo_jArr_fill1_v35_2, List.forall_mem_cons.mpr ⟨oo_jArr_fill1_v35_3, List.forall_mem_nil _⟩⟩⟩⟩) (by decide +kernel) ⟨List.forall_mem_nil _, List.forall_mem_nil _, List.forall_mem_nil _, List.forall_mem_nil _, List.forall_mem_nil _, GG_pl⟩ (by decide +kernel)
def e_jArr_fill1_v36 : en_T := ([(2, 0, 0, [83]), (0, -1, -1, [])], none, false, 1, 0, 0, [], [], (9671406556917033397649408, [], [], [(20, [0, 1], [8, -1, -1, 626])], []))
def o_jArr_fill1_v36_0 : or_T := (5, 4, [(2, (0, 0, 0, []))], [], [], [], [(20, [0, 2], [8, -1, -1, 0])], [], [])
theorem oo_jArr_fill1_v36_0 {kA : Nat → ClassId} : or_ok PRD kA GG o_jArr_fill1_v36_0 := by
  refine or_mk fun A ta ws vs hD hth hl => ?_
  intro t2 k2
  have nf0 : fc_1 PRD (20, [0, 2], [8, -1, -1, 0]) ws (vs) := by
    refine ⟨nf_in hl rfl, sgq_16 ?_⟩
    · show ∀ j : Nat, (j : Int) < v_iv (n_v vs 2) + 0 → (-1) ≤ w_el ws (v_ad (n_v vs 0)) j ∧ w_el ws (v_ad (n_v vs 0)) j ≤ (-1)
      intro j hj
      exfalso; omega
  refine ⟨(fun _ h => (by cases h)), [], trivial, ?_, (fun _ h => (by cases h))⟩
  rw [List.append_nil]
  exact List.forall_mem_cons.mpr ⟨⟨show (20 : Nat) < 100 from by decide, nf0⟩, (fun _ h => (by cases h))⟩
def o_jArr_fill1_v36_1 : or_T := (5, 4, [], [], [], [], [(24, [0, 0], [])], [], [])
theorem oo_jArr_fill1_v36_1 {kA : Nat → ClassId} : or_ok PRD kA GG o_jArr_fill1_v36_1 := by
  refine or_mk fun A ta ws vs hD hth hl => ?_
  have nf0 : fc_1 PRD (24, [0, 0], []) ws (vs) := by
    refine ⟨nf_in hl rfl, sgq_1 ?_⟩
    · show n_v vs 0 = n_v vs 0
      first | rfl | simp only [true_and]
  refine ⟨(fun _ h => (by cases h)), [], trivial, ?_, (fun _ h => (by cases h))⟩
  rw [List.append_nil]
  exact List.forall_mem_cons.mpr ⟨⟨show (24 : Nat) < 100 from by decide, nf0⟩, (fun _ h => (by cases h))⟩
def o_jArr_fill1_v36_2 : or_T := (20, 6, [(1, (0, -1, -1, [])), (4, (0, 625, 625, [])), (5, (0, 625, 625, []))], [(7, [4, 5], [3]), (20, [0, 4], [8, -1, -1, 0])], [], [], [(20, [0, 1], [8, -1, -1, 626])], [], [])
theorem oo_jArr_fill1_v36_2 {kA : Nat → ClassId} : or_ok PRD kA GG o_jArr_fill1_v36_2 := by
  refine or_mk fun A ta ws vs hD hth hl => ?_
  intro t1 k1 t4 k4 t5 k5 f0 f1
  replace f0 := shm_2 f0
  replace f1 := shm_16 f1
  have nf0 : fc_1 PRD (20, [0, 1], [8, -1, -1, 626]) ws (vs) := by
    refine ⟨nf_in hl rfl, sgq_26 ?_⟩
    · show ∀ j : Nat, (j : Int) < v_iv (n_v vs 1) + 626 → (-1) ≤ w_el ws (v_ad (n_v vs 0)) j ∧ w_el ws (v_ad (n_v vs 0)) j ≤ (-1)
      intro j hj
      exact f1 j (by omega)
  refine ⟨(fun _ h => (by cases h)), [], trivial, ?_, (fun _ h => (by cases h))⟩
  rw [List.append_nil]
  exact List.forall_mem_cons.mpr ⟨⟨show (20 : Nat) < 100 from by decide, nf0⟩, (fun _ h => (by cases h))⟩
def o_jArr_fill1_v36_3 : or_T := (5, 7, [(3, (0, -1, -1, [])), (4, (0, 0, 624, [])), (5, (0, 625, 625, [])), (6, (0, 1, 625, []))], [(6, [6, 4], [1]), (24, [0, 2], []), (100, [2, 4, 3], []), (7, [4, 5], [2]), (20, [0, 4], [8, -1, -1, 0])], [], [], [(20, [0, 6], [8, -1, -1, 0])], [], [(6, 4, 1, 1)])
theorem oo_jArr_fill1_v36_3 {kA : Nat → ClassId} : or_ok PRD kA GG o_jArr_fill1_v36_3 := by
  refine or_mk fun A ta ws vs hD hth hl => ?_
  intro t3 k3 t4 k4 t5 k5 t6 k6 d0 f0 f1 ta1 w1 le1 s1 f3 f4
  replace f0 := shm_4 f0
  replace f1 := shm_5 f1
  have s1 : (∀ b j, w_el ws b j = if b = v_ad (n_v vs 2) ∧ j = (v_iv (n_v vs 4)).toNat then v_iv (n_v vs 3) else w_el w1 b j) ∧ ∀ b k, w_fd ws b k = w_fd w1 b k := s1.2
  replace f3 := shm_6 f3
  replace f4 := shm_16 f4
  rw [← f1] at s1
  have nf0 : fc_1 PRD (20, [0, 6], [8, -1, -1, 0]) ws (vs) := by
    refine ⟨nf_in hl rfl, sgq_16 ?_⟩
    · show ∀ j : Nat, (j : Int) < v_iv (n_v vs 6) + 0 → (-1) ≤ w_el ws (v_ad (n_v vs 0)) j ∧ w_el ws (v_ad (n_v vs 0)) j ≤ (-1)
      intro j hj
      by_cases hji : j = (v_iv (n_v vs 4)).toNat
      · rw [s1.1, if_pos ⟨rfl, hji⟩]; first | (constructor <;> omega) | (exfalso; omega)
      · rw [s1.1, if_neg (fun e => hji e.2)]; exact f4 j (by omega)
  refine ⟨(fun _ h => (by cases h)), [], trivial, ?_, (fun _ h => (by cases h))⟩
  rw [List.append_nil]
  exact List.forall_mem_cons.mpr ⟨⟨show (20 : Nat) < 100 from by decide, nf0⟩, (fun _ h => (by cases h))⟩
def n_jArr_fill1_v36_an : List an_T := [(5, [(0, (2, 0, 0, [83])), (1, (0, -1, -1, [])), (2, (0, 0, 625, [])), (3, (0, 625, 625, []))], [], (0, 0), [(0, 0, 99995), (1, 4, 625), (0, 0, 100000)], [], [], [(2, 0, 0, [83]), (0, -1, -1, [])], 0, [], [(20, [0, 4], [8, -1, -1, 0]), (24, [0, 2], [])])]
def t_jArr_fill1_v36_ct : ct_L := []
set_option maxRecDepth 100000 in
theorem c_jArr_fill1_v36 {l : Launch} {D : va_G} {kA : Nat → ClassId} : ct_ok PRD l D kA GG y_jArr_fill1 z_jArr_fill1 e_jArr_fill1_v36 := chk_all_ok (FT := []) (PT := []) (CT := t_jArr_fill1_v36_ct) (KT := []) (NT := []) (AN := n_jArr_fill1_v36_an) (OT := [o_jArr_fill1_v36_0, o_jArr_fill1_v36_1, o_jArr_fill1_v36_2, o_jArr_fill1_v36_3]) 3 200 (List.forall_mem_cons.mpr ⟨oo_jArr_fill1_v36_0, List.forall_mem_cons.mpr ⟨oo_jArr_fill1_v36_1, List.forall_mem_cons.mpr ⟨oo_jArr_fill1_v36_2, List.forall_mem_cons.mpr ⟨oo_jArr_fill1_v36_3, List.forall_mem_nil _⟩⟩⟩⟩) (by decide +kernel) ⟨List.forall_mem_nil _, List.forall_mem_nil _, List.forall_mem_nil _, List.forall_mem_nil _, List.forall_mem_nil _, GG_pl⟩ (by decide +kernel)
def e_jArr_fill1_v37 : en_T := ([(2, 0, 0, [85]), (0, -1, -1, [])], none, false, 1, 0, 0, [], [], (38685626227668133590597632, [], [], [(20, [0, 1], [8, -1, -1, 26])], []))
def o_jArr_fill1_v37_0 : or_T := (5, 4, [(2, (0, 0, 0, []))], [], [], [], [(20, [0, 2], [8, -1, -1, 0])], [], [])
theorem oo_jArr_fill1_v37_0 {kA : Nat → ClassId} : or_ok PRD kA GG o_jArr_fill1_v37_0 := by
  refine or_mk fun A ta ws vs hD hth hl => ?_
  intro t2 k2
  have nf0 : fc_1 PRD (20, [0, 2], [8, -1, -1, 0]) ws (vs) := by
    refine ⟨nf_in hl rfl, sgq_16 ?_⟩
    · show ∀ j : Nat, (j : Int) < v_iv (n_v vs 2) + 0 → (-1) ≤ w_el ws (v_ad (n_v vs 0)) j ∧ w_el ws (v_ad (n_v vs 0)) j ≤ (-1)
      intro j hj
      exfalso; omega
  refine ⟨(fun _ h => (by cases h)), [], trivial, ?_, (fun _ h => (by cases h))⟩
  rw [List.append_nil]
  exact List.forall_mem_cons.mpr ⟨⟨show (20 : Nat) < 100 from by decide, nf0⟩, (fun _ h => (by cases h))⟩
def o_jArr_fill1_v37_1 : or_T := (5, 4, [], [], [], [], [(24, [0, 0], [])], [], [])
theorem oo_jArr_fill1_v37_1 {kA : Nat → ClassId} : or_ok PRD kA GG o_jArr_fill1_v37_1 := by
  refine or_mk fun A ta ws vs hD hth hl => ?_
  have nf0 : fc_1 PRD (24, [0, 0], []) ws (vs) := by
    refine ⟨nf_in hl rfl, sgq_1 ?_⟩
    · show n_v vs 0 = n_v vs 0
      first | rfl | simp only [true_and]
  refine ⟨(fun _ h => (by cases h)), [], trivial, ?_, (fun _ h => (by cases h))⟩
  rw [List.append_nil]
  exact List.forall_mem_cons.mpr ⟨⟨show (24 : Nat) < 100 from by decide, nf0⟩, (fun _ h => (by cases h))⟩
def o_jArr_fill1_v37_2 : or_T := (20, 6, [(1, (0, -1, -1, [])), (4, (0, 25, 25, [])), (5, (0, 25, 25, []))], [(7, [4, 5], [3]), (20, [0, 4], [8, -1, -1, 0])], [], [], [(20, [0, 1], [8, -1, -1, 26])], [], [])
theorem oo_jArr_fill1_v37_2 {kA : Nat → ClassId} : or_ok PRD kA GG o_jArr_fill1_v37_2 := by
  refine or_mk fun A ta ws vs hD hth hl => ?_
  intro t1 k1 t4 k4 t5 k5 f0 f1
  replace f0 := shm_2 f0
  replace f1 := shm_16 f1
  have nf0 : fc_1 PRD (20, [0, 1], [8, -1, -1, 26]) ws (vs) := by
    refine ⟨nf_in hl rfl, sgq_27 ?_⟩
    · show ∀ j : Nat, (j : Int) < v_iv (n_v vs 1) + 26 → (-1) ≤ w_el ws (v_ad (n_v vs 0)) j ∧ w_el ws (v_ad (n_v vs 0)) j ≤ (-1)
      intro j hj
      exact f1 j (by omega)
  refine ⟨(fun _ h => (by cases h)), [], trivial, ?_, (fun _ h => (by cases h))⟩
  rw [List.append_nil]
  exact List.forall_mem_cons.mpr ⟨⟨show (20 : Nat) < 100 from by decide, nf0⟩, (fun _ h => (by cases h))⟩
def o_jArr_fill1_v37_3 : or_T := (5, 7, [(3, (0, -1, -1, [])), (4, (0, 0, 24, [])), (5, (0, 25, 25, [])), (6, (0, 1, 25, []))], [(6, [6, 4], [1]), (24, [0, 2], []), (100, [2, 4, 3], []), (7, [4, 5], [2]), (20, [0, 4], [8, -1, -1, 0])], [], [], [(20, [0, 6], [8, -1, -1, 0])], [], [(6, 4, 1, 1)])
theorem oo_jArr_fill1_v37_3 {kA : Nat → ClassId} : or_ok PRD kA GG o_jArr_fill1_v37_3 := by
  refine or_mk fun A ta ws vs hD hth hl => ?_
  intro t3 k3 t4 k4 t5 k5 t6 k6 d0 f0 f1 ta1 w1 le1 s1 f3 f4
  replace f0 := shm_4 f0
  replace f1 := shm_5 f1
  have s1 : (∀ b j, w_el ws b j = if b = v_ad (n_v vs 2) ∧ j = (v_iv (n_v vs 4)).toNat then v_iv (n_v vs 3) else w_el w1 b j) ∧ ∀ b k, w_fd ws b k = w_fd w1 b k := s1.2
  replace f3 := shm_6 f3
  replace f4 := shm_16 f4
  rw [← f1] at s1
  have nf0 : fc_1 PRD (20, [0, 6], [8, -1, -1, 0]) ws (vs) := by
    refine ⟨nf_in hl rfl, sgq_16 ?_⟩
    · show ∀ j : Nat, (j : Int) < v_iv (n_v vs 6) + 0 → (-1) ≤ w_el ws (v_ad (n_v vs 0)) j ∧ w_el ws (v_ad (n_v vs 0)) j ≤ (-1)
      intro j hj
      by_cases hji : j = (v_iv (n_v vs 4)).toNat
      · rw [s1.1, if_pos ⟨rfl, hji⟩]; first | (constructor <;> omega) | (exfalso; omega)
      · rw [s1.1, if_neg (fun e => hji e.2)]; exact f4 j (by omega)
  refine ⟨(fun _ h => (by cases h)), [], trivial, ?_, (fun _ h => (by cases h))⟩
  rw [List.append_nil]
  exact List.forall_mem_cons.mpr ⟨⟨show (20 : Nat) < 100 from by decide, nf0⟩, (fun _ h => (by cases h))⟩
def n_jArr_fill1_v37_an : List an_T := [(5, [(0, (2, 0, 0, [85])), (1, (0, -1, -1, [])), (2, (0, 0, 25, [])), (3, (0, 25, 25, []))], [], (0, 0), [(0, 0, 99995), (1, 4, 25), (0, 0, 100000)], [], [], [(2, 0, 0, [85]), (0, -1, -1, [])], 0, [], [(20, [0, 4], [8, -1, -1, 0]), (24, [0, 2], [])])]
def t_jArr_fill1_v37_ct : ct_L := []
set_option maxRecDepth 100000 in
theorem c_jArr_fill1_v37 {l : Launch} {D : va_G} {kA : Nat → ClassId} : ct_ok PRD l D kA GG y_jArr_fill1 z_jArr_fill1 e_jArr_fill1_v37 := chk_all_ok (FT := []) (PT := []) (CT := t_jArr_fill1_v37_ct) (KT := []) (NT := []) (AN := n_jArr_fill1_v37_an) (OT := [o_jArr_fill1_v37_0, o_jArr_fill1_v37_1, o_jArr_fill1_v37_2, o_jArr_fill1_v37_3]) 3 200 (List.forall_mem_cons.mpr ⟨oo_jArr_fill1_v37_0, List.forall_mem_cons.mpr ⟨oo_jArr_fill1_v37_1, List.forall_mem_cons.mpr ⟨oo_jArr_fill1_v37_2, List.forall_mem_cons.mpr ⟨oo_jArr_fill1_v37_3, List.forall_mem_nil _⟩⟩⟩⟩) (by decide +kernel) ⟨List.forall_mem_nil _, List.forall_mem_nil _, List.forall_mem_nil _, List.forall_mem_nil _, List.forall_mem_nil _, GG_pl⟩ (by decide +kernel)
def e_jArr_fill1_v38 : en_T := ([(2, 0, 0, [142]), (0, 0, 0, [])], none, false, 1, 0, 0, [], [], (5575186299632655785383929568162090376495104, [], [], [(20, [0, 1], [8, 0, 0, 25])], []))
def o_jArr_fill1_v38_0 : or_T := (5, 4, [(2, (0, 0, 0, []))], [], [], [], [(20, [0, 2], [8, 0, 0, 0])], [], [])
theorem oo_jArr_fill1_v38_0 {kA : Nat → ClassId} : or_ok PRD kA GG o_jArr_fill1_v38_0 := by
  refine or_mk fun A ta ws vs hD hth hl => ?_
  intro t2 k2
  have nf0 : fc_1 PRD (20, [0, 2], [8, 0, 0, 0]) ws (vs) := by
    refine ⟨nf_in hl rfl, sgq_0 ?_⟩
    · show ∀ j : Nat, (j : Int) < v_iv (n_v vs 2) + 0 → 0 ≤ w_el ws (v_ad (n_v vs 0)) j ∧ w_el ws (v_ad (n_v vs 0)) j ≤ 0
      intro j hj
      exfalso; omega
  refine ⟨(fun _ h => (by cases h)), [], trivial, ?_, (fun _ h => (by cases h))⟩
  rw [List.append_nil]
  exact List.forall_mem_cons.mpr ⟨⟨show (20 : Nat) < 100 from by decide, nf0⟩, (fun _ h => (by cases h))⟩
def o_jArr_fill1_v38_1 : or_T := (5, 4, [], [], [], [], [(24, [0, 0], [])], [], [])
theorem oo_jArr_fill1_v38_1 {kA : Nat → ClassId} : or_ok PRD kA GG o_jArr_fill1_v38_1 := by
  refine or_mk fun A ta ws vs hD hth hl => ?_
  have nf0 : fc_1 PRD (24, [0, 0], []) ws (vs) := by
    refine ⟨nf_in hl rfl, sgq_1 ?_⟩
    · show n_v vs 0 = n_v vs 0
      first | rfl | simp only [true_and]
  refine ⟨(fun _ h => (by cases h)), [], trivial, ?_, (fun _ h => (by cases h))⟩
  rw [List.append_nil]
  exact List.forall_mem_cons.mpr ⟨⟨show (24 : Nat) < 100 from by decide, nf0⟩, (fun _ h => (by cases h))⟩
def o_jArr_fill1_v38_2 : or_T := (20, 6, [(1, (0, 0, 0, [])), (4, (0, 25, 25, [])), (5, (0, 25, 25, []))], [(7, [4, 5], [3]), (20, [0, 4], [8, 0, 0, 0])], [], [], [(20, [0, 1], [8, 0, 0, 25])], [], [])
theorem oo_jArr_fill1_v38_2 {kA : Nat → ClassId} : or_ok PRD kA GG o_jArr_fill1_v38_2 := by
  refine or_mk fun A ta ws vs hD hth hl => ?_
  intro t1 k1 t4 k4 t5 k5 f0 f1
  replace f0 := shm_2 f0
  replace f1 := shm_0 f1
  have nf0 : fc_1 PRD (20, [0, 1], [8, 0, 0, 25]) ws (vs) := by
    refine ⟨nf_in hl rfl, sgq_25 ?_⟩
    · show ∀ j : Nat, (j : Int) < v_iv (n_v vs 1) + 25 → 0 ≤ w_el ws (v_ad (n_v vs 0)) j ∧ w_el ws (v_ad (n_v vs 0)) j ≤ 0
      intro j hj
      exact f1 j (by omega)
  refine ⟨(fun _ h => (by cases h)), [], trivial, ?_, (fun _ h => (by cases h))⟩
  rw [List.append_nil]
  exact List.forall_mem_cons.mpr ⟨⟨show (20 : Nat) < 100 from by decide, nf0⟩, (fun _ h => (by cases h))⟩
def o_jArr_fill1_v38_3 : or_T := (5, 7, [(3, (0, 0, 0, [])), (4, (0, 0, 24, [])), (5, (0, 25, 25, [])), (6, (0, 1, 25, []))], [(6, [6, 4], [1]), (24, [0, 2], []), (100, [2, 4, 3], []), (7, [4, 5], [2]), (20, [0, 4], [8, 0, 0, 0])], [], [], [(20, [0, 6], [8, 0, 0, 0])], [], [(6, 4, 1, 1)])
theorem oo_jArr_fill1_v38_3 {kA : Nat → ClassId} : or_ok PRD kA GG o_jArr_fill1_v38_3 := by
  refine or_mk fun A ta ws vs hD hth hl => ?_
  intro t3 k3 t4 k4 t5 k5 t6 k6 d0 f0 f1 ta1 w1 le1 s1 f3 f4
  replace f0 := shm_4 f0
  replace f1 := shm_5 f1
  have s1 : (∀ b j, w_el ws b j = if b = v_ad (n_v vs 2) ∧ j = (v_iv (n_v vs 4)).toNat then v_iv (n_v vs 3) else w_el w1 b j) ∧ ∀ b k, w_fd ws b k = w_fd w1 b k := s1.2
  replace f3 := shm_6 f3
  replace f4 := shm_0 f4
  rw [← f1] at s1
  have nf0 : fc_1 PRD (20, [0, 6], [8, 0, 0, 0]) ws (vs) := by
    refine ⟨nf_in hl rfl, sgq_0 ?_⟩
    · show ∀ j : Nat, (j : Int) < v_iv (n_v vs 6) + 0 → 0 ≤ w_el ws (v_ad (n_v vs 0)) j ∧ w_el ws (v_ad (n_v vs 0)) j ≤ 0
      intro j hj
      by_cases hji : j = (v_iv (n_v vs 4)).toNat
      · rw [s1.1, if_pos ⟨rfl, hji⟩]; first | (constructor <;> omega) | (exfalso; omega)
      · rw [s1.1, if_neg (fun e => hji e.2)]; exact f4 j (by omega)
  refine ⟨(fun _ h => (by cases h)), [], trivial, ?_, (fun _ h => (by cases h))⟩
  rw [List.append_nil]
  exact List.forall_mem_cons.mpr ⟨⟨show (20 : Nat) < 100 from by decide, nf0⟩, (fun _ h => (by cases h))⟩
def n_jArr_fill1_v38_an : List an_T := [(5, [(0, (2, 0, 0, [142])), (1, (0, 0, 0, [])), (2, (0, 0, 25, [])), (3, (0, 25, 25, []))], [], (0, 0), [(0, 0, 99995), (1, 4, 25), (0, 0, 100000)], [], [], [(2, 0, 0, [142]), (0, 0, 0, [])], 0, [], [(20, [0, 4], [8, 0, 0, 0]), (24, [0, 2], [])])]
def t_jArr_fill1_v38_ct : ct_L := []
set_option maxRecDepth 100000 in
theorem c_jArr_fill1_v38 {l : Launch} {D : va_G} {kA : Nat → ClassId} : ct_ok PRD l D kA GG y_jArr_fill1 z_jArr_fill1 e_jArr_fill1_v38 := chk_all_ok (FT := []) (PT := []) (CT := t_jArr_fill1_v38_ct) (KT := []) (NT := []) (AN := n_jArr_fill1_v38_an) (OT := [o_jArr_fill1_v38_0, o_jArr_fill1_v38_1, o_jArr_fill1_v38_2, o_jArr_fill1_v38_3]) 3 200 (List.forall_mem_cons.mpr ⟨oo_jArr_fill1_v38_0, List.forall_mem_cons.mpr ⟨oo_jArr_fill1_v38_1, List.forall_mem_cons.mpr ⟨oo_jArr_fill1_v38_2, List.forall_mem_cons.mpr ⟨oo_jArr_fill1_v38_3, List.forall_mem_nil _⟩⟩⟩⟩) (by decide +kernel) ⟨List.forall_mem_nil _, List.forall_mem_nil _, List.forall_mem_nil _, List.forall_mem_nil _, List.forall_mem_nil _, GG_pl⟩ (by decide +kernel)
def e_jArr_fill1_v39 : en_T := ([(2, 0, 0, [143]), (0, -1, -1, [])], none, false, 1, 0, 0, [], [], (11150372599265311570767859136324180752990208, [], [], [(20, [0, 1], [8, -1, -1, 626])], []))
def o_jArr_fill1_v39_0 : or_T := (5, 4, [(2, (0, 0, 0, []))], [], [], [], [(20, [0, 2], [8, -1, -1, 0])], [], [])
theorem oo_jArr_fill1_v39_0 {kA : Nat → ClassId} : or_ok PRD kA GG o_jArr_fill1_v39_0 := by
  refine or_mk fun A ta ws vs hD hth hl => ?_
  intro t2 k2
  have nf0 : fc_1 PRD (20, [0, 2], [8, -1, -1, 0]) ws (vs) := by
    refine ⟨nf_in hl rfl, sgq_16 ?_⟩
    · show ∀ j : Nat, (j : Int) < v_iv (n_v vs 2) + 0 → (-1) ≤ w_el ws (v_ad (n_v vs 0)) j ∧ w_el ws (v_ad (n_v vs 0)) j ≤ (-1)
      intro j hj
      exfalso; omega
  refine ⟨(fun _ h => (by cases h)), [], trivial, ?_, (fun _ h => (by cases h))⟩
  rw [List.append_nil]
  exact List.forall_mem_cons.mpr ⟨⟨show (20 : Nat) < 100 from by decide, nf0⟩, (fun _ h => (by cases h))⟩
def o_jArr_fill1_v39_1 : or_T := (5, 4, [], [], [], [], [(24, [0, 0], [])], [], [])
theorem oo_jArr_fill1_v39_1 {kA : Nat → ClassId} : or_ok PRD kA GG o_jArr_fill1_v39_1 := by
  refine or_mk fun A ta ws vs hD hth hl => ?_
  have nf0 : fc_1 PRD (24, [0, 0], []) ws (vs) := by
    refine ⟨nf_in hl rfl, sgq_1 ?_⟩
    · show n_v vs 0 = n_v vs 0
      first | rfl | simp only [true_and]
  refine ⟨(fun _ h => (by cases h)), [], trivial, ?_, (fun _ h => (by cases h))⟩
  rw [List.append_nil]
  exact List.forall_mem_cons.mpr ⟨⟨show (24 : Nat) < 100 from by decide, nf0⟩, (fun _ h => (by cases h))⟩
def o_jArr_fill1_v39_2 : or_T := (20, 6, [(1, (0, -1, -1, [])), (4, (0, 625, 625, [])), (5, (0, 625, 625, []))], [(7, [4, 5], [3]), (20, [0, 4], [8, -1, -1, 0])], [], [], [(20, [0, 1], [8, -1, -1, 626])], [], [])
theorem oo_jArr_fill1_v39_2 {kA : Nat → ClassId} : or_ok PRD kA GG o_jArr_fill1_v39_2 := by
  refine or_mk fun A ta ws vs hD hth hl => ?_
  intro t1 k1 t4 k4 t5 k5 f0 f1
  replace f0 := shm_2 f0
  replace f1 := shm_16 f1
  have nf0 : fc_1 PRD (20, [0, 1], [8, -1, -1, 626]) ws (vs) := by
    refine ⟨nf_in hl rfl, sgq_26 ?_⟩
    · show ∀ j : Nat, (j : Int) < v_iv (n_v vs 1) + 626 → (-1) ≤ w_el ws (v_ad (n_v vs 0)) j ∧ w_el ws (v_ad (n_v vs 0)) j ≤ (-1)
      intro j hj
      exact f1 j (by omega)
  refine ⟨(fun _ h => (by cases h)), [], trivial, ?_, (fun _ h => (by cases h))⟩
  rw [List.append_nil]
  exact List.forall_mem_cons.mpr ⟨⟨show (20 : Nat) < 100 from by decide, nf0⟩, (fun _ h => (by cases h))⟩
def o_jArr_fill1_v39_3 : or_T := (5, 7, [(3, (0, -1, -1, [])), (4, (0, 0, 624, [])), (5, (0, 625, 625, [])), (6, (0, 1, 625, []))], [(6, [6, 4], [1]), (24, [0, 2], []), (100, [2, 4, 3], []), (7, [4, 5], [2]), (20, [0, 4], [8, -1, -1, 0])], [], [], [(20, [0, 6], [8, -1, -1, 0])], [], [(6, 4, 1, 1)])
theorem oo_jArr_fill1_v39_3 {kA : Nat → ClassId} : or_ok PRD kA GG o_jArr_fill1_v39_3 := by
  refine or_mk fun A ta ws vs hD hth hl => ?_
  intro t3 k3 t4 k4 t5 k5 t6 k6 d0 f0 f1 ta1 w1 le1 s1 f3 f4
  replace f0 := shm_4 f0
  replace f1 := shm_5 f1
  have s1 : (∀ b j, w_el ws b j = if b = v_ad (n_v vs 2) ∧ j = (v_iv (n_v vs 4)).toNat then v_iv (n_v vs 3) else w_el w1 b j) ∧ ∀ b k, w_fd ws b k = w_fd w1 b k := s1.2
  replace f3 := shm_6 f3
  replace f4 := shm_16 f4
  rw [← f1] at s1
  have nf0 : fc_1 PRD (20, [0, 6], [8, -1, -1, 0]) ws (vs) := by
    refine ⟨nf_in hl rfl, sgq_16 ?_⟩
    · show ∀ j : Nat, (j : Int) < v_iv (n_v vs 6) + 0 → (-1) ≤ w_el ws (v_ad (n_v vs 0)) j ∧ w_el ws (v_ad (n_v vs 0)) j ≤ (-1)
      intro j hj
      by_cases hji : j = (v_iv (n_v vs 4)).toNat
      · rw [s1.1, if_pos ⟨rfl, hji⟩]; first | (constructor <;> omega) | (exfalso; omega)
      · rw [s1.1, if_neg (fun e => hji e.2)]; exact f4 j (by omega)
  refine ⟨(fun _ h => (by cases h)), [], trivial, ?_, (fun _ h => (by cases h))⟩
  rw [List.append_nil]
  exact List.forall_mem_cons.mpr ⟨⟨show (20 : Nat) < 100 from by decide, nf0⟩, (fun _ h => (by cases h))⟩
def n_jArr_fill1_v39_an : List an_T := [(5, [(0, (2, 0, 0, [143])), (1, (0, -1, -1, [])), (2, (0, 0, 625, [])), (3, (0, 625, 625, []))], [], (0, 0), [(0, 0, 99995), (1, 4, 625), (0, 0, 100000)], [], [], [(2, 0, 0, [143]), (0, -1, -1, [])], 0, [], [(20, [0, 4], [8, -1, -1, 0]), (24, [0, 2], [])])]
def t_jArr_fill1_v39_ct : ct_L := []
set_option maxRecDepth 100000 in
theorem c_jArr_fill1_v39 {l : Launch} {D : va_G} {kA : Nat → ClassId} : ct_ok PRD l D kA GG y_jArr_fill1 z_jArr_fill1 e_jArr_fill1_v39 := chk_all_ok (FT := []) (PT := []) (CT := t_jArr_fill1_v39_ct) (KT := []) (NT := []) (AN := n_jArr_fill1_v39_an) (OT := [o_jArr_fill1_v39_0, o_jArr_fill1_v39_1, o_jArr_fill1_v39_2, o_jArr_fill1_v39_3]) 3 200 (List.forall_mem_cons.mpr ⟨oo_jArr_fill1_v39_0, List.forall_mem_cons.mpr ⟨oo_jArr_fill1_v39_1, List.forall_mem_cons.mpr ⟨oo_jArr_fill1_v39_2, List.forall_mem_cons.mpr ⟨oo_jArr_fill1_v39_3, List.forall_mem_nil _⟩⟩⟩⟩) (by decide +kernel) ⟨List.forall_mem_nil _, List.forall_mem_nil _, List.forall_mem_nil _, List.forall_mem_nil _, List.forall_mem_nil _, GG_pl⟩ (by decide +kernel)
def e_jArr_fill1_v40 : en_T := ([(2, 0, 0, [145]), (0, -1, -1, [])], none, false, 1, 0, 0, [], [], (44601490397061246283071436545296723011960832, [], [], [(20, [0, 1], [8, -1, -1, 26])], []))
def o_jArr_fill1_v40_0 : or_T := (5, 4, [(2, (0, 0, 0, []))], [], [], [], [(20, [0, 2], [8, -1, -1, 0])], [], [])
theorem oo_jArr_fill1_v40_0 {kA : Nat → ClassId} : or_ok PRD kA GG o_jArr_fill1_v40_0 := by
  refine or_mk fun A ta ws vs hD hth hl => ?_
  intro t2 k2
  have nf0 : fc_1 PRD (20, [0, 2], [8, -1, -1, 0]) ws (vs) := by
    refine ⟨nf_in hl rfl, sgq_16 ?_⟩
    · show ∀ j : Nat, (j : Int) < v_iv (n_v vs 2) + 0 → (-1) ≤ w_el ws (v_ad (n_v vs 0)) j ∧ w_el ws (v_ad (n_v vs 0)) j ≤ (-1)
      intro j hj
      exfalso; omega
  refine ⟨(fun _ h => (by cases h)), [], trivial, ?_, (fun _ h => (by cases h))⟩
  rw [List.append_nil]
  exact List.forall_mem_cons.mpr ⟨⟨show (20 : Nat) < 100 from by decide, nf0⟩, (fun _ h => (by cases h))⟩
def o_jArr_fill1_v40_1 : or_T := (5, 4, [], [], [], [], [(24, [0, 0], [])], [], [])
theorem oo_jArr_fill1_v40_1 {kA : Nat → ClassId} : or_ok PRD kA GG o_jArr_fill1_v40_1 := by
  refine or_mk fun A ta ws vs hD hth hl => ?_
  have nf0 : fc_1 PRD (24, [0, 0], []) ws (vs) := by
    refine ⟨nf_in hl rfl, sgq_1 ?_⟩
    · show n_v vs 0 = n_v vs 0
      first | rfl | simp only [true_and]
  refine ⟨(fun _ h => (by cases h)), [], trivial, ?_, (fun _ h => (by cases h))⟩
  rw [List.append_nil]
  exact List.forall_mem_cons.mpr ⟨⟨show (24 : Nat) < 100 from by decide, nf0⟩, (fun _ h => (by cases h))⟩
def o_jArr_fill1_v40_2 : or_T := (20, 6, [(1, (0, -1, -1, [])), (4, (0, 25, 25, [])), (5, (0, 25, 25, []))], [(7, [4, 5], [3]), (20, [0, 4], [8, -1, -1, 0])], [], [], [(20, [0, 1], [8, -1, -1, 26])], [], [])
theorem oo_jArr_fill1_v40_2 {kA : Nat → ClassId} : or_ok PRD kA GG o_jArr_fill1_v40_2 := by
  refine or_mk fun A ta ws vs hD hth hl => ?_
  intro t1 k1 t4 k4 t5 k5 f0 f1
  replace f0 := shm_2 f0
  replace f1 := shm_16 f1
  have nf0 : fc_1 PRD (20, [0, 1], [8, -1, -1, 26]) ws (vs) := by
    refine ⟨nf_in hl rfl, sgq_27 ?_⟩
    · show ∀ j : Nat, (j : Int) < v_iv (n_v vs 1) + 26 → (-1) ≤ w_el ws (v_ad (n_v vs 0)) j ∧ w_el ws (v_ad (n_v vs 0)) j ≤ (-1)
      intro j hj
      exact f1 j (by omega)
  refine ⟨(fun _ h => (by cases h)), [], trivial, ?_, (fun _ h => (by cases h))⟩
  rw [List.append_nil]
  exact List.forall_mem_cons.mpr ⟨⟨show (20 : Nat) < 100 from by decide, nf0⟩, (fun _ h => (by cases h))⟩
def o_jArr_fill1_v40_3 : or_T := (5, 7, [(3, (0, -1, -1, [])), (4, (0, 0, 24, [])), (5, (0, 25, 25, [])), (6, (0, 1, 25, []))], [(6, [6, 4], [1]), (24, [0, 2], []), (100, [2, 4, 3], []), (7, [4, 5], [2]), (20, [0, 4], [8, -1, -1, 0])], [], [], [(20, [0, 6], [8, -1, -1, 0])], [], [(6, 4, 1, 1)])
theorem oo_jArr_fill1_v40_3 {kA : Nat → ClassId} : or_ok PRD kA GG o_jArr_fill1_v40_3 := by
  refine or_mk fun A ta ws vs hD hth hl => ?_
  intro t3 k3 t4 k4 t5 k5 t6 k6 d0 f0 f1 ta1 w1 le1 s1 f3 f4
  replace f0 := shm_4 f0
  replace f1 := shm_5 f1
  have s1 : (∀ b j, w_el ws b j = if b = v_ad (n_v vs 2) ∧ j = (v_iv (n_v vs 4)).toNat then v_iv (n_v vs 3) else w_el w1 b j) ∧ ∀ b k, w_fd ws b k = w_fd w1 b k := s1.2
  replace f3 := shm_6 f3
  replace f4 := shm_16 f4
  rw [← f1] at s1
  have nf0 : fc_1 PRD (20, [0, 6], [8, -1, -1, 0]) ws (vs) := by
    refine ⟨nf_in hl rfl, sgq_16 ?_⟩
    · show ∀ j : Nat, (j : Int) < v_iv (n_v vs 6) + 0 → (-1) ≤ w_el ws (v_ad (n_v vs 0)) j ∧ w_el ws (v_ad (n_v vs 0)) j ≤ (-1)
      intro j hj
      by_cases hji : j = (v_iv (n_v vs 4)).toNat
      · rw [s1.1, if_pos ⟨rfl, hji⟩]; first | (constructor <;> omega) | (exfalso; omega)
      · rw [s1.1, if_neg (fun e => hji e.2)]; exact f4 j (by omega)
  refine ⟨(fun _ h => (by cases h)), [], trivial, ?_, (fun _ h => (by cases h))⟩
  rw [List.append_nil]
  exact List.forall_mem_cons.mpr ⟨⟨show (20 : Nat) < 100 from by decide, nf0⟩, (fun _ h => (by cases h))⟩
def n_jArr_fill1_v40_an : List an_T := [(5, [(0, (2, 0, 0, [145])), (1, (0, -1, -1, [])), (2, (0, 0, 25, [])), (3, (0, 25, 25, []))], [], (0, 0), [(0, 0, 99995), (1, 4, 25), (0, 0, 100000)], [], [], [(2, 0, 0, [145]), (0, -1, -1, [])], 0, [], [(20, [0, 4], [8, -1, -1, 0]), (24, [0, 2], [])])]
def t_jArr_fill1_v40_ct : ct_L := []
set_option maxRecDepth 100000 in
theorem c_jArr_fill1_v40 {l : Launch} {D : va_G} {kA : Nat → ClassId} : ct_ok PRD l D kA GG y_jArr_fill1 z_jArr_fill1 e_jArr_fill1_v40 := chk_all_ok (FT := []) (PT := []) (CT := t_jArr_fill1_v40_ct) (KT := []) (NT := []) (AN := n_jArr_fill1_v40_an) (OT := [o_jArr_fill1_v40_0, o_jArr_fill1_v40_1, o_jArr_fill1_v40_2, o_jArr_fill1_v40_3]) 3 200 (List.forall_mem_cons.mpr ⟨oo_jArr_fill1_v40_0, List.forall_mem_cons.mpr ⟨oo_jArr_fill1_v40_1, List.forall_mem_cons.mpr ⟨oo_jArr_fill1_v40_2, List.forall_mem_cons.mpr ⟨oo_jArr_fill1_v40_3, List.forall_mem_nil _⟩⟩⟩⟩) (by decide +kernel) ⟨List.forall_mem_nil _, List.forall_mem_nil _, List.forall_mem_nil _, List.forall_mem_nil _, List.forall_mem_nil _, GG_pl⟩ (by decide +kernel)
def e_jArr_fill1_v41 : en_T := ([(2, 0, 0, [287]), (0, 0, 0, [])], none, false, 1, 0, 0, [], [], (248661618204893321077691124073410420050228075398673858720231988446579748506266687766528, [], [], [(20, [0, 1], [8, 0, 0, 25])], []))
def o_jArr_fill1_v41_0 : or_T := (5, 4, [(2, (0, 0, 0, []))], [], [], [], [(20, [0, 2], [8, 0, 0, 0])], [], [])
theorem oo_jArr_fill1_v41_0 {kA : Nat → ClassId} : or_ok PRD kA GG o_jArr_fill1_v41_0 := by
  refine or_mk fun A ta ws vs hD hth hl => ?_
  intro t2 k2
  have nf0 : fc_1 PRD (20, [0, 2], [8, 0, 0, 0]) ws (vs) := by
    refine ⟨nf_in hl rfl, sgq_0 ?_⟩
    · show ∀ j : Nat, (j : Int) < v_iv (n_v vs 2) + 0 → 0 ≤ w_el ws (v_ad (n_v vs 0)) j ∧ w_el ws (v_ad (n_v vs 0)) j ≤ 0
      intro j hj
      exfalso; omega
  refine ⟨(fun _ h => (by cases h)), [], trivial, ?_, (fun _ h => (by cases h))⟩
  rw [List.append_nil]
  exact List.forall_mem_cons.mpr ⟨⟨show (20 : Nat) < 100 from by decide, nf0⟩, (fun _ h => (by cases h))⟩
def o_jArr_fill1_v41_1 : or_T := (5, 4, [], [], [], [], [(24, [0, 0], [])], [], [])
theorem oo_jArr_fill1_v41_1 {kA : Nat → ClassId} : or_ok PRD kA GG o_jArr_fill1_v41_1 := by
  refine or_mk fun A ta ws vs hD hth hl => ?_
  have nf0 : fc_1 PRD (24, [0, 0], []) ws (vs) := by
    refine ⟨nf_in hl rfl, sgq_1 ?_⟩
    · show n_v vs 0 = n_v vs 0
      first | rfl | simp only [true_and]
  refine ⟨(fun _ h => (by cases h)), [], trivial, ?_, (fun _ h => (by cases h))⟩
  rw [List.append_nil]
  exact List.forall_mem_cons.mpr ⟨⟨show (24 : Nat) < 100 from by decide, nf0⟩, (fun _ h => (by cases h))⟩
def o_jArr_fill1_v41_2 : or_T := (20, 6, [(1, (0, 0, 0, [])), (4, (0, 25, 25, [])), (5, (0, 25, 25, []))], [(7, [4, 5], [3]), (20, [0, 4], [8, 0, 0, 0])], [], [], [(20, [0, 1], [8, 0, 0, 25])], [], [])
theorem oo_jArr_fill1_v41_2 {kA : Nat → ClassId} : or_ok PRD kA GG o_jArr_fill1_v41_2 := by
  refine or_mk fun A ta ws vs hD hth hl => ?_
  intro t1 k1 t4 k4 t5 k5 f0 f1
  replace f0 := shm_2 f0
  replace f1 := shm_0 f1
  have nf0 : fc_1 PRD (20, [0, 1], [8, 0, 0, 25]) ws (vs) := by
    refine ⟨nf_in hl rfl, sgq_25 ?_⟩
    · show ∀ j : Nat, (j : Int) < v_iv (n_v vs 1) + 25 → 0 ≤ w_el ws (v_ad (n_v vs 0)) j ∧ w_el ws (v_ad (n_v vs 0)) j ≤ 0
      intro j hj
      exact f1 j (by omega)
  refine ⟨(fun _ h => (by cases h)), [], trivial, ?_, (fun _ h => (by cases h))⟩
  rw [List.append_nil]
  exact List.forall_mem_cons.mpr ⟨⟨show (20 : Nat) < 100 from by decide, nf0⟩, (fun _ h => (by cases h))⟩
def o_jArr_fill1_v41_3 : or_T := (5, 7, [(3, (0, 0, 0, [])), (4, (0, 0, 24, [])), (5, (0, 25, 25, [])), (6, (0, 1, 25, []))], [(6, [6, 4], [1]), (24, [0, 2], []), (100, [2, 4, 3], []), (7, [4, 5], [2]), (20, [0, 4], [8, 0, 0, 0])], [], [], [(20, [0, 6], [8, 0, 0, 0])], [], [(6, 4, 1, 1)])
theorem oo_jArr_fill1_v41_3 {kA : Nat → ClassId} : or_ok PRD kA GG o_jArr_fill1_v41_3 := by
  refine or_mk fun A ta ws vs hD hth hl => ?_
  intro t3 k3 t4 k4 t5 k5 t6 k6 d0 f0 f1 ta1 w1 le1 s1 f3 f4
  replace f0 := shm_4 f0
  replace f1 := shm_5 f1
  have s1 : (∀ b j, w_el ws b j = if b = v_ad (n_v vs 2) ∧ j = (v_iv (n_v vs 4)).toNat then v_iv (n_v vs 3) else w_el w1 b j) ∧ ∀ b k, w_fd ws b k = w_fd w1 b k := s1.2
  replace f3 := shm_6 f3
  replace f4 := shm_0 f4
  rw [← f1] at s1
  have nf0 : fc_1 PRD (20, [0, 6], [8, 0, 0, 0]) ws (vs) := by
    refine ⟨nf_in hl rfl, sgq_0 ?_⟩
    · show ∀ j : Nat, (j : Int) < v_iv (n_v vs 6) + 0 → 0 ≤ w_el ws (v_ad (n_v vs 0)) j ∧ w_el ws (v_ad (n_v vs 0)) j ≤ 0
      intro j hj
      by_cases hji : j = (v_iv (n_v vs 4)).toNat
      · rw [s1.1, if_pos ⟨rfl, hji⟩]; first | (constructor <;> omega) | (exfalso; omega)
      · rw [s1.1, if_neg (fun e => hji e.2)]; exact f4 j (by omega)
  refine ⟨(fun _ h => (by cases h)), [], trivial, ?_, (fun _ h => (by cases h))⟩
  rw [List.append_nil]
  exact List.forall_mem_cons.mpr ⟨⟨show (20 : Nat) < 100 from by decide, nf0⟩, (fun _ h => (by cases h))⟩
def n_jArr_fill1_v41_an : List an_T := [(5, [(0, (2, 0, 0, [287])), (1, (0, 0, 0, [])), (2, (0, 0, 25, [])), (3, (0, 25, 25, []))], [], (0, 0), [(0, 0, 99995), (1, 4, 25), (0, 0, 100000)], [], [], [(2, 0, 0, [287]), (0, 0, 0, [])], 0, [], [(20, [0, 4], [8, 0, 0, 0]), (24, [0, 2], [])])]
def t_jArr_fill1_v41_ct : ct_L := []
set_option maxRecDepth 100000 in
theorem c_jArr_fill1_v41 {l : Launch} {D : va_G} {kA : Nat → ClassId} : ct_ok PRD l D kA GG y_jArr_fill1 z_jArr_fill1 e_jArr_fill1_v41 := chk_all_ok (FT := []) (PT := []) (CT := t_jArr_fill1_v41_ct) (KT := []) (NT := []) (AN := n_jArr_fill1_v41_an) (OT := [o_jArr_fill1_v41_0, o_jArr_fill1_v41_1, o_jArr_fill1_v41_2, o_jArr_fill1_v41_3]) 3 200 (List.forall_mem_cons.mpr ⟨oo_jArr_fill1_v41_0, List.forall_mem_cons.mpr ⟨oo_jArr_fill1_v41_1, List.forall_mem_cons.mpr ⟨oo_jArr_fill1_v41_2, List.forall_mem_cons.mpr ⟨oo_jArr_fill1_v41_3, List.forall_mem_nil _⟩⟩⟩⟩) (by decide +kernel) ⟨List.forall_mem_nil _, List.forall_mem_nil _, List.forall_mem_nil _, List.forall_mem_nil _, List.forall_mem_nil _, GG_pl⟩ (by decide +kernel)
def e_jArr_fill1_v42 : en_T := ([(2, 0, 0, [288]), (0, -1, -1, [])], none, false, 1, 0, 0, [], [], (497323236409786642155382248146820840100456150797347717440463976893159497012533375533056, [], [], [(20, [0, 1], [8, -1, -1, 626])], []))
def o_jArr_fill1_v42_0 : or_T := (5, 4, [(2, (0, 0, 0, []))], [], [], [], [(20, [0, 2], [8, -1, -1, 0])], [], [])
theorem oo_jArr_fill1_v42_0 {kA : Nat → ClassId} : or_ok PRD kA GG o_jArr_fill1_v42_0 := by
  refine or_mk fun A ta ws vs hD hth hl => ?_
  intro t2 k2
  have nf0 : fc_1 PRD (20, [0, 2], [8, -1, -1, 0]) ws (vs) := by
    refine ⟨nf_in hl rfl, sgq_16 ?_⟩
    · show ∀ j : Nat, (j : Int) < v_iv (n_v vs 2) + 0 → (-1) ≤ w_el ws (v_ad (n_v vs 0)) j ∧ w_el ws (v_ad (n_v vs 0)) j ≤ (-1)
      intro j hj
      exfalso; omega
  refine ⟨(fun _ h => (by cases h)), [], trivial, ?_, (fun _ h => (by cases h))⟩
  rw [List.append_nil]
  exact List.forall_mem_cons.mpr ⟨⟨show (20 : Nat) < 100 from by decide, nf0⟩, (fun _ h => (by cases h))⟩
def o_jArr_fill1_v42_1 : or_T := (5, 4, [], [], [], [], [(24, [0, 0], [])], [], [])
theorem oo_jArr_fill1_v42_1 {kA : Nat → ClassId} : or_ok PRD kA GG o_jArr_fill1_v42_1 := by
  refine or_mk fun A ta ws vs hD hth hl => ?_
  have nf0 : fc_1 PRD (24, [0, 0], []) ws (vs) := by
    refine ⟨nf_in hl rfl, sgq_1 ?_⟩
    · show n_v vs 0 = n_v vs 0
      first | rfl | simp only [true_and]
  refine ⟨(fun _ h => (by cases h)), [], trivial, ?_, (fun _ h => (by cases h))⟩
  rw [List.append_nil]
  exact List.forall_mem_cons.mpr ⟨⟨show (24 : Nat) < 100 from by decide, nf0⟩, (fun _ h => (by cases h))⟩
def o_jArr_fill1_v42_2 : or_T := (20, 6, [(1, (0, -1, -1, [])), (4, (0, 625, 625, [])), (5, (0, 625, 625, []))], [(7, [4, 5], [3]), (20, [0, 4], [8, -1, -1, 0])], [], [], [(20, [0, 1], [8, -1, -1, 626])], [], [])
theorem oo_jArr_fill1_v42_2 {kA : Nat → ClassId} : or_ok PRD kA GG o_jArr_fill1_v42_2 := by
  refine or_mk fun A ta ws vs hD hth hl => ?_
  intro t1 k1 t4 k4 t5 k5 f0 f1
  replace f0 := shm_2 f0
  replace f1 := shm_16 f1
  have nf0 : fc_1 PRD (20, [0, 1], [8, -1, -1, 626]) ws (vs) := by
    refine ⟨nf_in hl rfl, sgq_26 ?_⟩
    · show ∀ j : Nat, (j : Int) < v_iv (n_v vs 1) + 626 → (-1) ≤ w_el ws (v_ad (n_v vs 0)) j ∧ w_el ws (v_ad (n_v vs 0)) j ≤ (-1)
      intro j hj
      exact f1 j (by omega)
  refine ⟨(fun _ h => (by cases h)), [], trivial, ?_, (fun _ h => (by cases h))⟩
  rw [List.append_nil]
  exact List.forall_mem_cons.mpr ⟨⟨show (20 : Nat) < 100 from by decide, nf0⟩, (fun _ h => (by cases h))⟩
def o_jArr_fill1_v42_3 : or_T := (5, 7, [(3, (0, -1, -1, [])), (4, (0, 0, 624, [])), (5, (0, 625, 625, [])), (6, (0, 1, 625, []))], [(6, [6, 4], [1]), (24, [0, 2], []), (100, [2, 4, 3], []), (7, [4, 5], [2]), (20, [0, 4], [8, -1, -1, 0])], [], [], [(20, [0, 6], [8, -1, -1, 0])], [], [(6, 4, 1, 1)])
theorem oo_jArr_fill1_v42_3 {kA : Nat → ClassId} : or_ok PRD kA GG o_jArr_fill1_v42_3 := by
  refine or_mk fun A ta ws vs hD hth hl => ?_
  intro t3 k3 t4 k4 t5 k5 t6 k6 d0 f0 f1 ta1 w1 le1 s1 f3 f4
  replace f0 := shm_4 f0
  replace f1 := shm_5 f1
  have s1 : (∀ b j, w_el ws b j = if b = v_ad (n_v vs 2) ∧ j = (v_iv (n_v vs 4)).toNat then v_iv (n_v vs 3) else w_el w1 b j) ∧ ∀ b k, w_fd ws b k = w_fd w1 b k := s1.2
  replace f3 := shm_6 f3
  replace f4 := shm_16 f4
  rw [← f1] at s1
  have nf0 : fc_1 PRD (20, [0, 6], [8, -1, -1, 0]) ws (vs) := by
    refine ⟨nf_in hl rfl, sgq_16 ?_⟩
    · show ∀ j : Nat, (j : Int) < v_iv (n_v vs 6) + 0 → (-1) ≤ w_el ws (v_ad (n_v vs 0)) j ∧ w_el ws (v_ad (n_v vs 0)) j ≤ (-1)
      intro j hj
      by_cases hji : j = (v_iv (n_v vs 4)).toNat
      · rw [s1.1, if_pos ⟨rfl, hji⟩]; first | (constructor <;> omega) | (exfalso; omega)
      · rw [s1.1, if_neg (fun e => hji e.2)]; exact f4 j (by omega)
  refine ⟨(fun _ h => (by cases h)), [], trivial, ?_, (fun _ h => (by cases h))⟩
  rw [List.append_nil]
  exact List.forall_mem_cons.mpr ⟨⟨show (20 : Nat) < 100 from by decide, nf0⟩, (fun _ h => (by cases h))⟩
def n_jArr_fill1_v42_an : List an_T := [(5, [(0, (2, 0, 0, [288])), (1, (0, -1, -1, [])), (2, (0, 0, 625, [])), (3, (0, 625, 625, []))], [], (0, 0), [(0, 0, 99995), (1, 4, 625), (0, 0, 100000)], [], [], [(2, 0, 0, [288]), (0, -1, -1, [])], 0, [], [(20, [0, 4], [8, -1, -1, 0]), (24, [0, 2], [])])]
def t_jArr_fill1_v42_ct : ct_L := []
set_option maxRecDepth 100000 in
theorem c_jArr_fill1_v42 {l : Launch} {D : va_G} {kA : Nat → ClassId} : ct_ok PRD l D kA GG y_jArr_fill1 z_jArr_fill1 e_jArr_fill1_v42 := chk_all_ok (FT := []) (PT := []) (CT := t_jArr_fill1_v42_ct) (KT := []) (NT := []) (AN := n_jArr_fill1_v42_an) (OT := [o_jArr_fill1_v42_0, o_jArr_fill1_v42_1, o_jArr_fill1_v42_2, o_jArr_fill1_v42_3]) 3 200 (List.forall_mem_cons.mpr ⟨oo_jArr_fill1_v42_0, List.forall_mem_cons.mpr ⟨oo_jArr_fill1_v42_1, List.forall_mem_cons.mpr ⟨oo_jArr_fill1_v42_2, List.forall_mem_cons.mpr ⟨oo_jArr_fill1_v42_3, List.forall_mem_nil _⟩⟩⟩⟩) (by decide +kernel) ⟨List.forall_mem_nil _, List.forall_mem_nil _, List.forall_mem_nil _, List.forall_mem_nil _, List.forall_mem_nil _, GG_pl⟩ (by decide +kernel)
def e_jArr_fill1_v43 : en_T := ([(2, 0, 0, [290]), (0, -1, -1, [])], none, false, 1, 0, 0, [], [], (1989292945639146568621528992587283360401824603189390869761855907572637988050133502132224, [], [], [(20, [0, 1], [8, -1, -1, 26])], []))
def o_jArr_fill1_v43_0 : or_T := (5, 4, [(2, (0, 0, 0, []))], [], [], [], [(20, [0, 2], [8, -1, -1, 0])], [], [])
theorem oo_jArr_fill1_v43_0 {kA : Nat → ClassId} : or_ok PRD kA GG o_jArr_fill1_v43_0 := by
  refine or_mk fun A ta ws vs hD hth hl => ?_
  intro t2 k2
  have nf0 : fc_1 PRD (20, [0, 2], [8, -1, -1, 0]) ws (vs) := by
    refine ⟨nf_in hl rfl, sgq_16 ?_⟩
    · show ∀ j : Nat, (j : Int) < v_iv (n_v vs 2) + 0 → (-1) ≤ w_el ws (v_ad (n_v vs 0)) j ∧ w_el ws (v_ad (n_v vs 0)) j ≤ (-1)
      intro j hj
      exfalso; omega
  refine ⟨(fun _ h => (by cases h)), [], trivial, ?_, (fun _ h => (by cases h))⟩
  rw [List.append_nil]
  exact List.forall_mem_cons.mpr ⟨⟨show (20 : Nat) < 100 from by decide, nf0⟩, (fun _ h => (by cases h))⟩
def o_jArr_fill1_v43_1 : or_T := (5, 4, [], [], [], [], [(24, [0, 0], [])], [], [])
theorem oo_jArr_fill1_v43_1 {kA : Nat → ClassId} : or_ok PRD kA GG o_jArr_fill1_v43_1 := by
  refine or_mk fun A ta ws vs hD hth hl => ?_
  have nf0 : fc_1 PRD (24, [0, 0], []) ws (vs) := by
    refine ⟨nf_in hl rfl, sgq_1 ?_⟩
    · show n_v vs 0 = n_v vs 0
      first | rfl | simp only [true_and]
  refine ⟨(fun _ h => (by cases h)), [], trivial, ?_, (fun _ h => (by cases h))⟩
  rw [List.append_nil]
  exact List.forall_mem_cons.mpr ⟨⟨show (24 : Nat) < 100 from by decide, nf0⟩, (fun _ h => (by cases h))⟩
def o_jArr_fill1_v43_2 : or_T := (20, 6, [(1, (0, -1, -1, [])), (4, (0, 25, 25, [])), (5, (0, 25, 25, []))], [(7, [4, 5], [3]), (20, [0, 4], [8, -1, -1, 0])], [], [], [(20, [0, 1], [8, -1, -1, 26])], [], [])
theorem oo_jArr_fill1_v43_2 {kA : Nat → ClassId} : or_ok PRD kA GG o_jArr_fill1_v43_2 := by
  refine or_mk fun A ta ws vs hD hth hl => ?_
  intro t1 k1 t4 k4 t5 k5 f0 f1
  replace f0 := shm_2 f0
  replace f1 := shm_16 f1
  have nf0 : fc_1 PRD (20, [0, 1], [8, -1, -1, 26]) ws (vs) := by
    refine ⟨nf_in hl rfl, sgq_27 ?_⟩
    · show ∀ j : Nat, (j : Int) < v_iv (n_v vs 1) + 26 → (-1) ≤ w_el ws (v_ad (n_v vs 0)) j ∧ w_el ws (v_ad (n_v vs 0)) j ≤ (-1)
      intro j hj
      exact f1 j (by omega)
  refine ⟨(fun _ h => (by cases h)), [], trivial, ?_, (fun _ h => (by cases h))⟩
  rw [List.append_nil]
  exact List.forall_mem_cons.mpr ⟨⟨show (20 : Nat) < 100 from by decide, nf0⟩, (fun _ h => (by cases h))⟩
def o_jArr_fill1_v43_3 : or_T := (5, 7, [(3, (0, -1, -1, [])), (4, (0, 0, 24, [])), (5, (0, 25, 25, [])), (6, (0, 1, 25, []))], [(6, [6, 4], [1]), (24, [0, 2], []), (100, [2, 4, 3], []), (7, [4, 5], [2]), (20, [0, 4], [8, -1, -1, 0])], [], [], [(20, [0, 6], [8, -1, -1, 0])], [], [(6, 4, 1, 1)])
theorem oo_jArr_fill1_v43_3 {kA : Nat → ClassId} : or_ok PRD kA GG o_jArr_fill1_v43_3 := by
  refine or_mk fun A ta ws vs hD hth hl => ?_
  intro t3 k3 t4 k4 t5 k5 t6 k6 d0 f0 f1 ta1 w1 le1 s1 f3 f4
  replace f0 := shm_4 f0
  replace f1 := shm_5 f1
  have s1 : (∀ b j, w_el ws b j = if b = v_ad (n_v vs 2) ∧ j = (v_iv (n_v vs 4)).toNat then v_iv (n_v vs 3) else w_el w1 b j) ∧ ∀ b k, w_fd ws b k = w_fd w1 b k := s1.2
  replace f3 := shm_6 f3
  replace f4 := shm_16 f4
  rw [← f1] at s1
  have nf0 : fc_1 PRD (20, [0, 6], [8, -1, -1, 0]) ws (vs) := by
    refine ⟨nf_in hl rfl, sgq_16 ?_⟩
    · show ∀ j : Nat, (j : Int) < v_iv (n_v vs 6) + 0 → (-1) ≤ w_el ws (v_ad (n_v vs 0)) j ∧ w_el ws (v_ad (n_v vs 0)) j ≤ (-1)
      intro j hj
      by_cases hji : j = (v_iv (n_v vs 4)).toNat
      · rw [s1.1, if_pos ⟨rfl, hji⟩]; first | (constructor <;> omega) | (exfalso; omega)
      · rw [s1.1, if_neg (fun e => hji e.2)]; exact f4 j (by omega)
  refine ⟨(fun _ h => (by cases h)), [], trivial, ?_, (fun _ h => (by cases h))⟩
  rw [List.append_nil]
  exact List.forall_mem_cons.mpr ⟨⟨show (20 : Nat) < 100 from by decide, nf0⟩, (fun _ h => (by cases h))⟩
def n_jArr_fill1_v43_an : List an_T := [(5, [(0, (2, 0, 0, [290])), (1, (0, -1, -1, [])), (2, (0, 0, 25, [])), (3, (0, 25, 25, []))], [], (0, 0), [(0, 0, 99995), (1, 4, 25), (0, 0, 100000)], [], [], [(2, 0, 0, [290]), (0, -1, -1, [])], 0, [], [(20, [0, 4], [8, -1, -1, 0]), (24, [0, 2], [])])]
def t_jArr_fill1_v43_ct : ct_L := []
set_option maxRecDepth 100000 in
theorem c_jArr_fill1_v43 {l : Launch} {D : va_G} {kA : Nat → ClassId} : ct_ok PRD l D kA GG y_jArr_fill1 z_jArr_fill1 e_jArr_fill1_v43 := chk_all_ok (FT := []) (PT := []) (CT := t_jArr_fill1_v43_ct) (KT := []) (NT := []) (AN := n_jArr_fill1_v43_an) (OT := [o_jArr_fill1_v43_0, o_jArr_fill1_v43_1, o_jArr_fill1_v43_2, o_jArr_fill1_v43_3]) 3 200 (List.forall_mem_cons.mpr ⟨oo_jArr_fill1_v43_0, List.forall_mem_cons.mpr ⟨oo_jArr_fill1_v43_1, List.forall_mem_cons.mpr ⟨oo_jArr_fill1_v43_2, List.forall_mem_cons.mpr ⟨oo_jArr_fill1_v43_3, List.forall_mem_nil _⟩⟩⟩⟩) (by decide +kernel) ⟨List.forall_mem_nil _, List.forall_mem_nil _, List.forall_mem_nil _, List.forall_mem_nil _, List.forall_mem_nil _, GG_pl⟩ (by decide +kernel)
def e_jInt_bitCount_v44 : en_T := ([(0, 0, 0, [])], some (0, 0, 0, []), true, 1, 0, 0, [], [], (0, [], [], [(20, [0, 1], [61, 0, 554])], []))
def o_jInt_bitCount_v44_0 : or_T := (52, 26, [(0, (0, 0, 0, [])), (1, (0, 1, 1, [])), (2, (0, 0, 0, [])), (3, (0, 1431655765, 1431655765, [])), (4, (0, 0, 0, [])), (5, (0, 0, 0, [])), (6, (0, 858993459, 858993459, [])), (7, (0, 0, 0, [])), (8, (0, 2, 2, [])), (9, (0, 0, 0, [])), (10, (0, 858993459, 858993459, [])), (11, (0, 0, 0, [])), (12, (0, 0, 0, [])), (13, (0, 4, 4, [])), (14, (0, 0, 0, [])), (15, (0, 0, 0, [])), (16, (0, 252645135, 252645135, [])), (17, (0, 0, 0, [])), (18, (0, 8, 8, [])), (19, (0, 0, 0, [])), (20, (0, 0, 0, [])), (21, (0, 16, 16, [])), (22, (0, 0, 0, [])), (23, (0, 0, 0, [])), (24, (0, 63, 63, [])), (25, (0, 0, 0, []))], [(12, [25, 23], [64]), (16, [25, 23, 24], [0]), (1, [23, 20, 22], []), (16, [22, 20, 21], [4]), (1, [20, 17, 19], []), (16, [19, 17, 18], [4]), (16, [17, 15, 16], [0]), (1, [15, 12, 14], []), (16, [14, 12, 13], [4]), (1, [12, 7, 11], []), (16, [11, 9, 10], [0]), (16, [9, 5, 8], [4]), (16, [7, 5, 6], [0]), (2, [5, 0, 4], []), (16, [4, 2, 3], [0]), (16, [2, 0, 1], [4])], [], [], [(20, [0, 25], [61, 0, 554])], [], [])
theorem oo_jInt_bitCount_v44_0 {kA : Nat → ClassId} : or_ok PRD kA GG o_jInt_bitCount_v44_0 := by
  refine or_mk fun A ta ws vs hD hth hl => ?_
  intro t0 k0 t1 k1 t2 k2 t3 k3 t4 k4 t5 k5 t6 k6 t7 k7 t8 k8 t9 k9 t10 k10 t11 k11 t12 k12 t13 k13 t14 k14 t15 k15 t16 k16 t17 k17 t18 k18 t19 k19 t20 k20 t21 k21 t22 k22 t23 k23 t24 k24 t25 k25 f0 f1 f2 f3 f4 f5 f6 f7 f8 f9 f10 f11 f12 f13 f14 f15
  replace f0 := shm_10 f0
  replace f1 := shm_11 f1
  replace f2 := shm_12 f2
  replace f3 := shm_13 f3
  replace f4 := shm_12 f4
  replace f5 := shm_13 f5
  replace f6 := shm_11 f6
  replace f7 := shm_12 f7
  replace f8 := shm_13 f8
  replace f9 := shm_12 f9
  replace f10 := shm_11 f10
  replace f11 := shm_13 f11
  replace f12 := shm_11 f12
  replace f13 := shm_14 f13
  replace f14 := shm_11 f14
  replace f15 := shm_13 f15
  have nf0 : fc_1 PRD (20, [0, 25], [61, 0, 554]) ws (vs) := by
    refine ⟨nf_in hl rfl, sgq_15 ?_⟩
    · show BCT (v_iv (n_v vs 0)) (v_iv (n_v vs 25))
      exact bct_of (by assumption) (by assumption) (by assumption) (by assumption) (by assumption) (by assumption) (by assumption) (by assumption) (by assumption) (by assumption) (by assumption) (by assumption) (by assumption) (by assumption) (by assumption) (by omega) (by omega) (by omega) (by omega) (by omega) (by omega) (by omega) (by omega) (by omega) (by omega) (by omega) (by omega)
  refine ⟨(fun _ h => (by cases h)), [], trivial, ?_, (fun _ h => (by cases h))⟩
  rw [List.append_nil]
  exact List.forall_mem_cons.mpr ⟨⟨show (20 : Nat) < 100 from by decide, nf0⟩, (fun _ h => (by cases h))⟩
def n_jInt_bitCount_v44_an : List an_T := []
def t_jInt_bitCount_v44_ct : ct_L := []
set_option maxRecDepth 100000 in
theorem c_jInt_bitCount_v44 {l : Launch} {D : va_G} {kA : Nat → ClassId} : ct_ok PRD l D kA GG y_jInt_bitCount z_jInt_bitCount e_jInt_bitCount_v44 := chk_all_ok (FT := []) (PT := []) (CT := t_jInt_bitCount_v44_ct) (KT := [(1, 265, .int (1431655765), (0, 1431655765, 1431655765, [])), (1, 266, .int (858993459), (0, 858993459, 858993459, [])), (1, 267, .int (252645135), (0, 252645135, 252645135, []))]) (NT := []) (AN := n_jInt_bitCount_v44_an) (OT := [o_jInt_bitCount_v44_0]) 0 200 (List.forall_mem_cons.mpr ⟨oo_jInt_bitCount_v44_0, List.forall_mem_nil _⟩) (by decide +kernel) ⟨List.forall_mem_nil _, List.forall_mem_nil _, List.forall_mem_nil _, List.forall_mem_cons.mpr ⟨kx_jInt_1_265, List.forall_mem_cons.mpr ⟨kx_jInt_1_266, List.forall_mem_cons.mpr ⟨kx_jInt_1_267, List.forall_mem_nil _⟩⟩⟩, List.forall_mem_nil _, GG_pl⟩ (by decide +kernel)
def e_jMath_max1_v45 : en_T := ([(0, -40000000, 690000000, []), (0, -39999999, 690000001, [])], some (0, -39999999, 690000001, []), true, 1, 0, 0, [], [], (0, [], [], [(23, [0, 2], [0, 1, -1]), (23, [1, 2], [0, 1, -1]), (20, [2, 0, 1], [50, 0, 0, 3, 6, 1, 2, 1, 0, 1, 1, 1, 2, 1, 0, 1, 2])], []))
set_option maxHeartbeats 4000000 in
theorem vc_jMath_max1_v45_0_0 (x0 : Int) (x1 : Int) (k0 : (-40000000) ≤ x0 ∧ x0 ≤ 690000000) (k1 : (-39999999) ≤ x1 ∧ x1 ≤ 690000001) (d0 : x1 + (-4294967296) ≤ x0 ∧ x0 ≤ x1 + (-1)) (f0 : x0 < x1) : 1 * x0 + ((-1) * x1 + 0) ≤ 0 := by
  first | assumption | omega | grind
set_option maxHeartbeats 4000000 in
theorem vc_jMath_max1_v45_0_1 (x0 : Int) (x1 : Int) (k0 : (-40000000) ≤ x0 ∧ x0 ≤ 690000000) (k1 : (-39999999) ≤ x1 ∧ x1 ≤ 690000001) (d0 : x1 + (-4294967296) ≤ x0 ∧ x0 ≤ x1 + (-1)) (f0 : x0 < x1) : 1 * x1 + ((-1) * x1 + 0) ≤ 0 := by
  first | assumption | omega | grind
set_option maxHeartbeats 4000000 in
theorem vc_jMath_max1_v45_0_2 (x0 : Int) (x1 : Int) (k0 : (-40000000) ≤ x0 ∧ x0 ≤ 690000000) (k1 : (-39999999) ≤ x1 ∧ x1 ≤ 690000001) (d0 : x1 + (-4294967296) ≤ x0 ∧ x0 ≤ x1 + (-1)) (f0 : x0 < x1) : (x1 = x0) ∨ (x1 = x1) := by
  first | assumption | omega | grind
def o_jMath_max1_v45_0 : or_T := (10, 2, [(0, (0, -40000000, 690000000, [])), (1, (0, -39999999, 690000001, []))], [(7, [0, 1], [2])], [], [], [(23, [0, 1], [0, 1, -1]), (23, [1, 1], [0, 1, -1]), (20, [1, 0, 1], [50, 0, 0, 3, 6, 1, 2, 1, 0, 1, 1, 1, 2, 1, 0, 1, 2])], [], [(0, 1, -4294967296, -1)])
theorem oo_jMath_max1_v45_0 {kA : Nat → ClassId} : or_ok PRD kA GG o_jMath_max1_v45_0 := by
  refine or_mk fun A ta ws vs hD hth hl => ?_
  intro t0 k0 t1 k1 d0 f0
  have nf0 : fc_1 PRD (23, [0, 1], [0, 1, -1]) ws (vs) := ⟨nf_in hl rfl, sgq_7 (vc_jMath_max1_v45_0_0 (v_iv (n_v vs 0)) (v_iv (n_v vs 1)) k0 k1 d0 (shm_6 f0))⟩
  have nf1 : fc_1 PRD (23, [1, 1], [0, 1, -1]) ws (vs) := ⟨nf_in hl rfl, sgq_8 (vc_jMath_max1_v45_0_1 (v_iv (n_v vs 0)) (v_iv (n_v vs 1)) k0 k1 d0 (shm_6 f0))⟩
  have nf2 : fc_1 PRD (20, [1, 0, 1], [50, 0, 0, 3, 6, 1, 2, 1, 0, 1, 1, 1, 2, 1, 0, 1, 2]) ws (vs) := ⟨nf_in hl rfl, sgq_28 (vc_jMath_max1_v45_0_2 (v_iv (n_v vs 0)) (v_iv (n_v vs 1)) k0 k1 d0 (shm_6 f0))⟩
  refine ⟨(fun _ h => (by cases h)), [], trivial, ?_, (fun _ h => (by cases h))⟩
  rw [List.append_nil]
  exact List.forall_mem_cons.mpr ⟨⟨show (23 : Nat) < 100 from by decide, nf0⟩, List.forall_mem_cons.mpr ⟨⟨show (23 : Nat) < 100 from by decide, nf1⟩, List.forall_mem_cons.mpr ⟨⟨show (20 : Nat) < 100 from by decide, nf2⟩, (fun _ h => (by cases h))⟩⟩⟩
set_option maxHeartbeats 4000000 in
theorem vc_jMath_max1_v45_1_0 (x0 : Int) (x1 : Int) (k0 : (-39999999) ≤ x0 ∧ x0 ≤ 690000000) (k1 : (-39999999) ≤ x1 ∧ x1 ≤ 690000000) (d0 : x1 + 0 ≤ x0 ∧ x0 ≤ x1 + 4294967296) (f0 : x1 ≤ x0) : 1 * x0 + ((-1) * x0 + 0) ≤ 0 := by
  first | assumption | omega | grind
set_option maxHeartbeats 4000000 in
theorem vc_jMath_max1_v45_1_1 (x0 : Int) (x1 : Int) (k0 : (-39999999) ≤ x0 ∧ x0 ≤ 690000000) (k1 : (-39999999) ≤ x1 ∧ x1 ≤ 690000000) (d0 : x1 + 0 ≤ x0 ∧ x0 ≤ x1 + 4294967296) (f0 : x1 ≤ x0) : 1 * x1 + ((-1) * x0 + 0) ≤ 0 := by
  first | assumption | omega | grind
set_option maxHeartbeats 4000000 in
theorem vc_jMath_max1_v45_1_2 (x0 : Int) (x1 : Int) (k0 : (-39999999) ≤ x0 ∧ x0 ≤ 690000000) (k1 : (-39999999) ≤ x1 ∧ x1 ≤ 690000000) (d0 : x1 + 0 ≤ x0 ∧ x0 ≤ x1 + 4294967296) (f0 : x1 ≤ x0) : (x0 = x0) ∨ (x0 = x1) := by
  first | assumption | omega | grind
def o_jMath_max1_v45_1 : or_T := (10, 2, [(0, (0, -39999999, 690000000, [])), (1, (0, -39999999, 690000000, []))], [(7, [0, 1], [3])], [], [], [(23, [0, 0], [0, 1, -1]), (23, [1, 0], [0, 1, -1]), (20, [0, 0, 1], [50, 0, 0, 3, 6, 1, 2, 1, 0, 1, 1, 1, 2, 1, 0, 1, 2])], [], [(0, 1, 0, 4294967296)])
theorem oo_jMath_max1_v45_1 {kA : Nat → ClassId} : or_ok PRD kA GG o_jMath_max1_v45_1 := by
  refine or_mk fun A ta ws vs hD hth hl => ?_
  intro t0 k0 t1 k1 d0 f0
  have nf0 : fc_1 PRD (23, [0, 0], [0, 1, -1]) ws (vs) := ⟨nf_in hl rfl, sgq_8 (vc_jMath_max1_v45_1_0 (v_iv (n_v vs 0)) (v_iv (n_v vs 1)) k0 k1 d0 (shm_2 f0))⟩
  have nf1 : fc_1 PRD (23, [1, 0], [0, 1, -1]) ws (vs) := ⟨nf_in hl rfl, sgq_7 (vc_jMath_max1_v45_1_1 (v_iv (n_v vs 0)) (v_iv (n_v vs 1)) k0 k1 d0 (shm_2 f0))⟩
  have nf2 : fc_1 PRD (20, [0, 0, 1], [50, 0, 0, 3, 6, 1, 2, 1, 0, 1, 1, 1, 2, 1, 0, 1, 2]) ws (vs) := ⟨nf_in hl rfl, sgq_29 (vc_jMath_max1_v45_1_2 (v_iv (n_v vs 0)) (v_iv (n_v vs 1)) k0 k1 d0 (shm_2 f0))⟩
  refine ⟨(fun _ h => (by cases h)), [], trivial, ?_, (fun _ h => (by cases h))⟩
  rw [List.append_nil]
  exact List.forall_mem_cons.mpr ⟨⟨show (23 : Nat) < 100 from by decide, nf0⟩, List.forall_mem_cons.mpr ⟨⟨show (23 : Nat) < 100 from by decide, nf1⟩, List.forall_mem_cons.mpr ⟨⟨show (20 : Nat) < 100 from by decide, nf2⟩, (fun _ h => (by cases h))⟩⟩⟩
def n_jMath_max1_v45_an : List an_T := []
def t_jMath_max1_v45_ct : ct_L := []
set_option maxRecDepth 100000 in
theorem c_jMath_max1_v45 {l : Launch} {D : va_G} {kA : Nat → ClassId} : ct_ok PRD l D kA GG y_jMath_max1 z_jMath_max1 e_jMath_max1_v45 := chk_all_ok (FT := []) (PT := []) (CT := t_jMath_max1_v45_ct) (KT := []) (NT := []) (AN := n_jMath_max1_v45_an) (OT := [o_jMath_max1_v45_0, o_jMath_max1_v45_1]) 0 200 (List.forall_mem_cons.mpr ⟨oo_jMath_max1_v45_0, List.forall_mem_cons.mpr ⟨oo_jMath_max1_v45_1, List.forall_mem_nil _⟩⟩) (pl_Math rfl (by decide)) ⟨List.forall_mem_nil _, List.forall_mem_nil _, List.forall_mem_nil _, List.forall_mem_nil _, List.forall_mem_nil _, GG_pl⟩ (by decide +kernel)
def e_jArr_fill1_v46 : en_T := ([(2, 0, 0, [124]), (0, -1, -1, [])], none, false, 1, 0, 0, [], [], (21267647932558653966460912964485513216, [], [], [(20, [0, 1], [8, -1, -1, 73])], []))
def o_jArr_fill1_v46_0 : or_T := (5, 4, [(2, (0, 0, 0, []))], [], [], [], [(20, [0, 2], [8, -1, -1, 0])], [], [])
theorem oo_jArr_fill1_v46_0 {kA : Nat → ClassId} : or_ok PRD kA GG o_jArr_fill1_v46_0 := by
  refine or_mk fun A ta ws vs hD hth hl => ?_
  intro t2 k2
  have nf0 : fc_1 PRD (20, [0, 2], [8, -1, -1, 0]) ws (vs) := by
    refine ⟨nf_in hl rfl, sgq_16 ?_⟩
    · show ∀ j : Nat, (j : Int) < v_iv (n_v vs 2) + 0 → (-1) ≤ w_el ws (v_ad (n_v vs 0)) j ∧ w_el ws (v_ad (n_v vs 0)) j ≤ (-1)
      intro j hj
      exfalso; omega
  refine ⟨(fun _ h => (by cases h)), [], trivial, ?_, (fun _ h => (by cases h))⟩
  rw [List.append_nil]
  exact List.forall_mem_cons.mpr ⟨⟨show (20 : Nat) < 100 from by decide, nf0⟩, (fun _ h => (by cases h))⟩
def o_jArr_fill1_v46_1 : or_T := (5, 4, [], [], [], [], [(24, [0, 0], [])], [], [])
theorem oo_jArr_fill1_v46_1 {kA : Nat → ClassId} : or_ok PRD kA GG o_jArr_fill1_v46_1 := by
  refine or_mk fun A ta ws vs hD hth hl => ?_
  have nf0 : fc_1 PRD (24, [0, 0], []) ws (vs) := by
    refine ⟨nf_in hl rfl, sgq_1 ?_⟩
    · show n_v vs 0 = n_v vs 0
      first | rfl | simp only [true_and]
  refine ⟨(fun _ h => (by cases h)), [], trivial, ?_, (fun _ h => (by cases h))⟩
  rw [List.append_nil]
  exact List.forall_mem_cons.mpr ⟨⟨show (24 : Nat) < 100 from by decide, nf0⟩, (fun _ h => (by cases h))⟩
def o_jArr_fill1_v46_2 : or_T := (20, 6, [(1, (0, -1, -1, [])), (4, (0, 72, 72, [])), (5, (0, 72, 72, []))], [(7, [4, 5], [3]), (20, [0, 4], [8, -1, -1, 0])], [], [], [(20, [0, 1], [8, -1, -1, 73])], [], [])
theorem oo_jArr_fill1_v46_2 {kA : Nat → ClassId} : or_ok PRD kA GG o_jArr_fill1_v46_2 := by
  refine or_mk fun A ta ws vs hD hth hl => ?_
  intro t1 k1 t4 k4 t5 k5 f0 f1
  replace f0 := shm_2 f0
  replace f1 := shm_16 f1
  have nf0 : fc_1 PRD (20, [0, 1], [8, -1, -1, 73]) ws (vs) := by
    refine ⟨nf_in hl rfl, sgq_30 ?_⟩
    · show ∀ j : Nat, (j : Int) < v_iv (n_v vs 1) + 73 → (-1) ≤ w_el ws (v_ad (n_v vs 0)) j ∧ w_el ws (v_ad (n_v vs 0)) j ≤ (-1)
      intro j hj
      exact f1 j (by omega)
  refine ⟨(fun _ h => (by cases h)), [], trivial, ?_, (fun _ h => (by cases h))⟩
  rw [List.append_nil]
  exact List.forall_mem_cons.mpr ⟨⟨show (20 : Nat) < 100 from by decide, nf0⟩, (fun _ h => (by cases h))⟩
def o_jArr_fill1_v46_3 : or_T := (5, 7, [(3, (0, -1, -1, [])), (4, (0, 0, 71, [])), (5, (0, 72, 72, [])), (6, (0, 1, 72, []))], [(6, [6, 4], [1]), (24, [0, 2], []), (100, [2, 4, 3], []), (7, [4, 5], [2]), (20, [0, 4], [8, -1, -1, 0])], [], [], [(20, [0, 6], [8, -1, -1, 0])], [], [(6, 4, 1, 1)])
theorem oo_jArr_fill1_v46_3 {kA : Nat → ClassId} : or_ok PRD kA GG o_jArr_fill1_v46_3 := by
  refine or_mk fun A ta ws vs hD hth hl => ?_
  intro t3 k3 t4 k4 t5 k5 t6 k6 d0 f0 f1 ta1 w1 le1 s1 f3 f4
  replace f0 := shm_4 f0
  replace f1 := shm_5 f1
  have s1 : (∀ b j, w_el ws b j = if b = v_ad (n_v vs 2) ∧ j = (v_iv (n_v vs 4)).toNat then v_iv (n_v vs 3) else w_el w1 b j) ∧ ∀ b k, w_fd ws b k = w_fd w1 b k := s1.2
  replace f3 := shm_6 f3
  replace f4 := shm_16 f4
  rw [← f1] at s1
  have nf0 : fc_1 PRD (20, [0, 6], [8, -1, -1, 0]) ws (vs) := by
    refine ⟨nf_in hl rfl, sgq_16 ?_⟩
    · show ∀ j : Nat, (j : Int) < v_iv (n_v vs 6) + 0 → (-1) ≤ w_el ws (v_ad (n_v vs 0)) j ∧ w_el ws (v_ad (n_v vs 0)) j ≤ (-1)
      intro j hj
      by_cases hji : j = (v_iv (n_v vs 4)).toNat
      · rw [s1.1, if_pos ⟨rfl, hji⟩]; first | (constructor <;> omega) | (exfalso; omega)
      · rw [s1.1, if_neg (fun e => hji e.2)]; exact f4 j (by omega)
  refine ⟨(fun _ h => (by cases h)), [], trivial, ?_, (fun _ h => (by cases h))⟩
  rw [List.append_nil]
  exact List.forall_mem_cons.mpr ⟨⟨show (20 : Nat) < 100 from by decide, nf0⟩, (fun _ h => (by cases h))⟩
def n_jArr_fill1_v46_an : List an_T := [(5, [(0, (2, 0, 0, [124])), (1, (0, -1, -1, [])), (2, (0, 0, 72, [])), (3, (0, 72, 72, []))], [], (0, 0), [(0, 0, 99995), (1, 4, 72), (0, 0, 100000)], [], [], [(2, 0, 0, [124]), (0, -1, -1, [])], 0, [], [(20, [0, 4], [8, -1, -1, 0]), (24, [0, 2], [])])]
def t_jArr_fill1_v46_ct : ct_L := []
set_option maxRecDepth 100000 in
theorem c_jArr_fill1_v46 {l : Launch} {D : va_G} {kA : Nat → ClassId} : ct_ok PRD l D kA GG y_jArr_fill1 z_jArr_fill1 e_jArr_fill1_v46 := chk_all_ok (FT := []) (PT := []) (CT := t_jArr_fill1_v46_ct) (KT := []) (NT := []) (AN := n_jArr_fill1_v46_an) (OT := [o_jArr_fill1_v46_0, o_jArr_fill1_v46_1, o_jArr_fill1_v46_2, o_jArr_fill1_v46_3]) 3 200 (List.forall_mem_cons.mpr ⟨oo_jArr_fill1_v46_0, List.forall_mem_cons.mpr ⟨oo_jArr_fill1_v46_1, List.forall_mem_cons.mpr ⟨oo_jArr_fill1_v46_2, List.forall_mem_cons.mpr ⟨oo_jArr_fill1_v46_3, List.forall_mem_nil _⟩⟩⟩⟩) (by decide +kernel) ⟨List.forall_mem_nil _, List.forall_mem_nil _, List.forall_mem_nil _, List.forall_mem_nil _, List.forall_mem_nil _, GG_pl⟩ (by decide +kernel)
def e_jMath_min1_v47 : en_T := ([(0, 1000000000, 1000000000, []), (0, 1, 1000000000, [])], some (0, 1, 1000000000, []), true, 1, 0, 0, [], [], (0, [], [], [(23, [0, 2], [0, -1, 1]), (23, [1, 2], [0, -1, 1])], []))
def o_jMath_min1_v47_0 : or_T := (10, 2, [(0, (0, 1000000000, 1000000000, [])), (1, (0, 1, 999999999, []))], [(7, [0, 1], [4])], [], [], [(23, [0, 1], [0, -1, 1]), (23, [1, 1], [0, -1, 1])], [], [])
theorem oo_jMath_min1_v47_0 {kA : Nat → ClassId} : or_ok PRD kA GG o_jMath_min1_v47_0 := by
  refine or_mk fun A ta ws vs hD hth hl => ?_
  intro t0 k0 t1 k1 f0
  replace f0 := shm_21 f0
  have nf0 : fc_1 PRD (23, [0, 1], [0, -1, 1]) ws (vs) := by
    refine ⟨nf_in hl rfl, sgq_22 ?_⟩
    · show (-1) * v_iv (n_v vs 0) + (1 * v_iv (n_v vs 1) + 0) ≤ 0
      omega
  have nf1 : fc_1 PRD (23, [1, 1], [0, -1, 1]) ws (vs) := by
    refine ⟨nf_in hl rfl, sgq_23 ?_⟩
    · show (-1) * v_iv (n_v vs 1) + (1 * v_iv (n_v vs 1) + 0) ≤ 0
      omega
  refine ⟨(fun _ h => (by cases h)), [], trivial, ?_, (fun _ h => (by cases h))⟩
  rw [List.append_nil]
  exact List.forall_mem_cons.mpr ⟨⟨show (23 : Nat) < 100 from by decide, nf0⟩, List.forall_mem_cons.mpr ⟨⟨show (23 : Nat) < 100 from by decide, nf1⟩, (fun _ h => (by cases h))⟩⟩
def o_jMath_min1_v47_1 : or_T := (10, 2, [(0, (0, 1000000000, 1000000000, [])), (1, (0, 1000000000, 1000000000, []))], [(7, [0, 1], [5])], [], [], [(23, [0, 0], [0, -1, 1]), (23, [1, 0], [0, -1, 1])], [], [])
theorem oo_jMath_min1_v47_1 {kA : Nat → ClassId} : or_ok PRD kA GG o_jMath_min1_v47_1 := by
  refine or_mk fun A ta ws vs hD hth hl => ?_
  intro t0 k0 t1 k1 f0
  replace f0 := shm_24 f0
  have nf0 : fc_1 PRD (23, [0, 0], [0, -1, 1]) ws (vs) := by
    refine ⟨nf_in hl rfl, sgq_23 ?_⟩
    · show (-1) * v_iv (n_v vs 0) + (1 * v_iv (n_v vs 0) + 0) ≤ 0
      omega
  have nf1 : fc_1 PRD (23, [1, 0], [0, -1, 1]) ws (vs) := by
    refine ⟨nf_in hl rfl, sgq_22 ?_⟩
    · show (-1) * v_iv (n_v vs 1) + (1 * v_iv (n_v vs 0) + 0) ≤ 0
      omega
  refine ⟨(fun _ h => (by cases h)), [], trivial, ?_, (fun _ h => (by cases h))⟩
  rw [List.append_nil]
  exact List.forall_mem_cons.mpr ⟨⟨show (23 : Nat) < 100 from by decide, nf0⟩, List.forall_mem_cons.mpr ⟨⟨show (23 : Nat) < 100 from by decide, nf1⟩, (fun _ h => (by cases h))⟩⟩
def n_jMath_min1_v47_an : List an_T := []
def t_jMath_min1_v47_ct : ct_L := []
set_option maxRecDepth 100000 in
theorem c_jMath_min1_v47 {l : Launch} {D : va_G} {kA : Nat → ClassId} : ct_ok PRD l D kA GG y_jMath_min1 z_jMath_min1 e_jMath_min1_v47 := chk_all_ok (FT := []) (PT := []) (CT := t_jMath_min1_v47_ct) (KT := []) (NT := []) (AN := n_jMath_min1_v47_an) (OT := [o_jMath_min1_v47_0, o_jMath_min1_v47_1]) 0 200 (List.forall_mem_cons.mpr ⟨oo_jMath_min1_v47_0, List.forall_mem_cons.mpr ⟨oo_jMath_min1_v47_1, List.forall_mem_nil _⟩⟩) (pl_Math rfl (by decide)) ⟨List.forall_mem_nil _, List.forall_mem_nil _, List.forall_mem_nil _, List.forall_mem_nil _, List.forall_mem_nil _, GG_pl⟩ (by decide +kernel)
def e_jMath_min1_v48 : en_T := ([(0, 1, 1000000000, []), (0, 1, 1000000000, [])], some (0, 1, 1000000000, []), true, 1, 0, 0, [], [], (0, [], [], [(23, [0, 2], [0, -1, 1]), (23, [1, 2], [0, -1, 1])], []))
def o_jMath_min1_v48_0 : or_T := (10, 2, [(0, (0, 2, 1000000000, [])), (1, (0, 1, 999999999, []))], [(7, [0, 1], [4])], [], [], [(23, [0, 1], [0, -1, 1]), (23, [1, 1], [0, -1, 1])], [], [(0, 1, 1, 4294967296)])
theorem oo_jMath_min1_v48_0 {kA : Nat → ClassId} : or_ok PRD kA GG o_jMath_min1_v48_0 := by
  refine or_mk fun A ta ws vs hD hth hl => ?_
  intro t0 k0 t1 k1 d0 f0
  replace f0 := shm_21 f0
  have nf0 : fc_1 PRD (23, [0, 1], [0, -1, 1]) ws (vs) := by
    refine ⟨nf_in hl rfl, sgq_22 ?_⟩
    · show (-1) * v_iv (n_v vs 0) + (1 * v_iv (n_v vs 1) + 0) ≤ 0
      omega
  have nf1 : fc_1 PRD (23, [1, 1], [0, -1, 1]) ws (vs) := by
    refine ⟨nf_in hl rfl, sgq_23 ?_⟩
    · show (-1) * v_iv (n_v vs 1) + (1 * v_iv (n_v vs 1) + 0) ≤ 0
      omega
  refine ⟨(fun _ h => (by cases h)), [], trivial, ?_, (fun _ h => (by cases h))⟩
  rw [List.append_nil]
  exact List.forall_mem_cons.mpr ⟨⟨show (23 : Nat) < 100 from by decide, nf0⟩, List.forall_mem_cons.mpr ⟨⟨show (23 : Nat) < 100 from by decide, nf1⟩, (fun _ h => (by cases h))⟩⟩
def o_jMath_min1_v48_1 : or_T := (10, 2, [(0, (0, 1, 1000000000, [])), (1, (0, 1, 1000000000, []))], [(7, [0, 1], [5])], [], [], [(23, [0, 0], [0, -1, 1]), (23, [1, 0], [0, -1, 1])], [], [(0, 1, -4294967296, 0)])
theorem oo_jMath_min1_v48_1 {kA : Nat → ClassId} : or_ok PRD kA GG o_jMath_min1_v48_1 := by
  refine or_mk fun A ta ws vs hD hth hl => ?_
  intro t0 k0 t1 k1 d0 f0
  replace f0 := shm_24 f0
  have nf0 : fc_1 PRD (23, [0, 0], [0, -1, 1]) ws (vs) := by
    refine ⟨nf_in hl rfl, sgq_23 ?_⟩
    · show (-1) * v_iv (n_v vs 0) + (1 * v_iv (n_v vs 0) + 0) ≤ 0
      omega
  have nf1 : fc_1 PRD (23, [1, 0], [0, -1, 1]) ws (vs) := by
    refine ⟨nf_in hl rfl, sgq_22 ?_⟩
    · show (-1) * v_iv (n_v vs 1) + (1 * v_iv (n_v vs 0) + 0) ≤ 0
      omega
  refine ⟨(fun _ h => (by cases h)), [], trivial, ?_, (fun _ h => (by cases h))⟩
  rw [List.append_nil]
  exact List.forall_mem_cons.mpr ⟨⟨show (23 : Nat) < 100 from by decide, nf0⟩, List.forall_mem_cons.mpr ⟨⟨show (23 : Nat) < 100 from by decide, nf1⟩, (fun _ h => (by cases h))⟩⟩
def n_jMath_min1_v48_an : List an_T := []
def t_jMath_min1_v48_ct : ct_L := []
set_option maxRecDepth 100000 in
theorem c_jMath_min1_v48 {l : Launch} {D : va_G} {kA : Nat → ClassId} : ct_ok PRD l D kA GG y_jMath_min1 z_jMath_min1 e_jMath_min1_v48 := chk_all_ok (FT := []) (PT := []) (CT := t_jMath_min1_v48_ct) (KT := []) (NT := []) (AN := n_jMath_min1_v48_an) (OT := [o_jMath_min1_v48_0, o_jMath_min1_v48_1]) 0 200 (List.forall_mem_cons.mpr ⟨oo_jMath_min1_v48_0, List.forall_mem_cons.mpr ⟨oo_jMath_min1_v48_1, List.forall_mem_nil _⟩⟩) (pl_Math rfl (by decide)) ⟨List.forall_mem_nil _, List.forall_mem_nil _, List.forall_mem_nil _, List.forall_mem_nil _, List.forall_mem_nil _, GG_pl⟩ (by decide +kernel)
def e_jMath_min1_v49 : en_T := ([(0, 1000000000, 1000000000, []), (0, -2147483648, 2147483647, [])], some (0, -2147483648, 1000000000, []), true, 1, 0, 0, [], [], (0, [], [], [(23, [0, 2], [0, -1, 1]), (23, [1, 2], [0, -1, 1])], []))
def o_jMath_min1_v49_0 : or_T := (10, 2, [(0, (0, 1000000000, 1000000000, [])), (1, (0, -2147483648, 999999999, []))], [(7, [0, 1], [4])], [], [], [(23, [0, 1], [0, -1, 1]), (23, [1, 1], [0, -1, 1])], [], [])
theorem oo_jMath_min1_v49_0 {kA : Nat → ClassId} : or_ok PRD kA GG o_jMath_min1_v49_0 := by
  refine or_mk fun A ta ws vs hD hth hl => ?_
  intro t0 k0 t1 k1 f0
  replace f0 := shm_21 f0
  have nf0 : fc_1 PRD (23, [0, 1], [0, -1, 1]) ws (vs) := by
    refine ⟨nf_in hl rfl, sgq_22 ?_⟩
    · show (-1) * v_iv (n_v vs 0) + (1 * v_iv (n_v vs 1) + 0) ≤ 0
      omega
  have nf1 : fc_1 PRD (23, [1, 1], [0, -1, 1]) ws (vs) := by
    refine ⟨nf_in hl rfl, sgq_23 ?_⟩
    · show (-1) * v_iv (n_v vs 1) + (1 * v_iv (n_v vs 1) + 0) ≤ 0
      omega
  refine ⟨(fun _ h => (by cases h)), [], trivial, ?_, (fun _ h => (by cases h))⟩
  rw [List.append_nil]
  exact List.forall_mem_cons.mpr ⟨⟨show (23 : Nat) < 100 from by decide, nf0⟩, List.forall_mem_cons.mpr ⟨⟨show (23 : Nat) < 100 from by decide, nf1⟩, (fun _ h => (by cases h))⟩⟩
def o_jMath_min1_v49_1 : or_T := (10, 2, [(0, (0, 1000000000, 1000000000, [])), (1, (0, 1000000000, 2147483647, []))], [(7, [0, 1], [5])], [], [], [(23, [0, 0], [0, -1, 1]), (23, [1, 0], [0, -1, 1])], [], [])
theorem oo_jMath_min1_v49_1 {kA : Nat → ClassId} : or_ok PRD kA GG o_jMath_min1_v49_1 := by
  refine or_mk fun A ta ws vs hD hth hl => ?_
  intro t0 k0 t1 k1 f0
  replace f0 := shm_24 f0
  have nf0 : fc_1 PRD (23, [0, 0], [0, -1, 1]) ws (vs) := by
    refine ⟨nf_in hl rfl, sgq_23 ?_⟩
    · show (-1) * v_iv (n_v vs 0) + (1 * v_iv (n_v vs 0) + 0) ≤ 0
      omega
  have nf1 : fc_1 PRD (23, [1, 0], [0, -1, 1]) ws (vs) := by
    refine ⟨nf_in hl rfl, sgq_22 ?_⟩
    · show (-1) * v_iv (n_v vs 1) + (1 * v_iv (n_v vs 0) + 0) ≤ 0
      omega
  refine ⟨(fun _ h => (by cases h)), [], trivial, ?_, (fun _ h => (by cases h))⟩
  rw [List.append_nil]
  exact List.forall_mem_cons.mpr ⟨⟨show (23 : Nat) < 100 from by decide, nf0⟩, List.forall_mem_cons.mpr ⟨⟨show (23 : Nat) < 100 from by decide, nf1⟩, (fun _ h => (by cases h))⟩⟩
def n_jMath_min1_v49_an : List an_T := []
def t_jMath_min1_v49_ct : ct_L := []
set_option maxRecDepth 100000 in
theorem c_jMath_min1_v49 {l : Launch} {D : va_G} {kA : Nat → ClassId} : ct_ok PRD l D kA GG y_jMath_min1 z_jMath_min1 e_jMath_min1_v49 := chk_all_ok (FT := []) (PT := []) (CT := t_jMath_min1_v49_ct) (KT := []) (NT := []) (AN := n_jMath_min1_v49_an) (OT := [o_jMath_min1_v49_0, o_jMath_min1_v49_1]) 0 200 (List.forall_mem_cons.mpr ⟨oo_jMath_min1_v49_0, List.forall_mem_cons.mpr ⟨oo_jMath_min1_v49_1, List.forall_mem_nil _⟩⟩) (pl_Math rfl (by decide)) ⟨List.forall_mem_nil _, List.forall_mem_nil _, List.forall_mem_nil _, List.forall_mem_nil _, List.forall_mem_nil _, GG_pl⟩ (by decide +kernel)
def e_jMath_min1_v50 : en_T := ([(0, -2147483648, 1000000000, []), (0, -2147483648, 2147483647, [])], some (0, -2147483648, 1000000000, []), true, 1, 0, 0, [], [], (0, [], [], [(23, [0, 2], [0, -1, 1]), (23, [1, 2], [0, -1, 1])], []))
def o_jMath_min1_v50_0 : or_T := (10, 2, [(0, (0, -2147483647, 1000000000, [])), (1, (0, -2147483648, 999999999, []))], [(7, [0, 1], [4])], [], [], [(23, [0, 1], [0, -1, 1]), (23, [1, 1], [0, -1, 1])], [], [(0, 1, 1, 4294967296)])
theorem oo_jMath_min1_v50_0 {kA : Nat → ClassId} : or_ok PRD kA GG o_jMath_min1_v50_0 := by
  refine or_mk fun A ta ws vs hD hth hl => ?_
  intro t0 k0 t1 k1 d0 f0
  replace f0 := shm_21 f0
  have nf0 : fc_1 PRD (23, [0, 1], [0, -1, 1]) ws (vs) := by
    refine ⟨nf_in hl rfl, sgq_22 ?_⟩
    · show (-1) * v_iv (n_v vs 0) + (1 * v_iv (n_v vs 1) + 0) ≤ 0
      omega
  have nf1 : fc_1 PRD (23, [1, 1], [0, -1, 1]) ws (vs) := by
    refine ⟨nf_in hl rfl, sgq_23 ?_⟩
    · show (-1) * v_iv (n_v vs 1) + (1 * v_iv (n_v vs 1) + 0) ≤ 0
      omega
  refine ⟨(fun _ h => (by cases h)), [], trivial, ?_, (fun _ h => (by cases h))⟩
  rw [List.append_nil]
  exact List.forall_mem_cons.mpr ⟨⟨show (23 : Nat) < 100 from by decide, nf0⟩, List.forall_mem_cons.mpr ⟨⟨show (23 : Nat) < 100 from by decide, nf1⟩, (fun _ h => (by cases h))⟩⟩
def o_jMath_min1_v50_1 : or_T := (10, 2, [(0, (0, -2147483648, 1000000000, [])), (1, (0, -2147483648, 2147483647, []))], [(7, [0, 1], [5])], [], [], [(23, [0, 0], [0, -1, 1]), (23, [1, 0], [0, -1, 1])], [], [(0, 1, -4294967296, 0)])
theorem oo_jMath_min1_v50_1 {kA : Nat → ClassId} : or_ok PRD kA GG o_jMath_min1_v50_1 := by
  refine or_mk fun A ta ws vs hD hth hl => ?_
  intro t0 k0 t1 k1 d0 f0
  replace f0 := shm_24 f0
  have nf0 : fc_1 PRD (23, [0, 0], [0, -1, 1]) ws (vs) := by
    refine ⟨nf_in hl rfl, sgq_23 ?_⟩
    · show (-1) * v_iv (n_v vs 0) + (1 * v_iv (n_v vs 0) + 0) ≤ 0
      omega
  have nf1 : fc_1 PRD (23, [1, 0], [0, -1, 1]) ws (vs) := by
    refine ⟨nf_in hl rfl, sgq_22 ?_⟩
    · show (-1) * v_iv (n_v vs 1) + (1 * v_iv (n_v vs 0) + 0) ≤ 0
      omega
  refine ⟨(fun _ h => (by cases h)), [], trivial, ?_, (fun _ h => (by cases h))⟩
  rw [List.append_nil]
  exact List.forall_mem_cons.mpr ⟨⟨show (23 : Nat) < 100 from by decide, nf0⟩, List.forall_mem_cons.mpr ⟨⟨show (23 : Nat) < 100 from by decide, nf1⟩, (fun _ h => (by cases h))⟩⟩
def n_jMath_min1_v50_an : List an_T := []
