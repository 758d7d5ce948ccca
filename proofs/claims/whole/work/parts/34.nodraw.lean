theorem wm_467 : (Cond.fieldLink "DrawingHouse" (309 : Nat) "DrawingHouse$Drawing" "way" "I" : Cond) ∈ lw_g := lw_gi (lw_c2 (List.mem_of_getElem? (i := 227) rfl)) rfl
theorem wm_631 : (Cond.methodLink "DrawingHouse" (115 : Nat) ({ cls := "DrawingHouse", name := "isPlace", desc := "(I)Z" } : MethodName) : Cond) ∈ lw_g := lw_gi (lw_c3 (List.mem_of_getElem? (i := 151) rfl)) rfl
theorem wm_632 : (Cond.static ({ cls := "DrawingHouse", name := "isPlace", desc := "(I)Z" } : MethodName) : Cond) ∈ lw_g := lw_gi (lw_c3 (List.mem_of_getElem? (i := 152) rfl)) rfl
theorem wm_1816 : (Cond.code ({ cls := "DrawingHouse", name := "at", desc := "(IIII)I" } : MethodName) prog_1_method_18_code (5 : Nat) (Option.some ClassFile.FieldType.int) : Cond) ∈ lw_g := lw_gi (lw_c8 (List.mem_of_getElem? (i := 136) rfl)) rfl
theorem wm_1817 : (Cond.methodLink "DrawingHouse" (312 : Nat) ({ cls := "DrawingHouse$Drawing", name := "coordinate", desc := "(III)I" } : MethodName) : Cond) ∈ lw_g := lw_gi (lw_c8 (List.mem_of_getElem? (i := 137) rfl)) rfl
theorem wm_1818 : (Cond.instanceMethod ({ cls := "DrawingHouse$Drawing", name := "coordinate", desc := "(III)I" } : MethodName) : Cond) ∈ lw_g := lw_gi (lw_c8 (List.mem_of_getElem? (i := 138) rfl)) rfl
theorem wm_1819 : (Cond.selects "DrawingHouse$Drawing" ({ cls := "DrawingHouse$Drawing", name := "coordinate", desc := "(III)I" } : MethodName) ({ cls := "DrawingHouse$Drawing", name := "coordinate", desc := "(III)I" } : MethodName) : Cond) ∈ lw_g := lw_gi (lw_c8 (List.mem_of_getElem? (i := 139) rfl)) rfl
theorem wm_1820 : (Cond.code ({ cls := "DrawingHouse$Drawing", name := "coordinate", desc := "(III)I" } : MethodName) prog_2_method_5_code (4 : Nat) (Option.some ClassFile.FieldType.int) : Cond) ∈ lw_g := lw_gi (lw_c8 (List.mem_of_getElem? (i := 140) rfl)) rfl
theorem wm_1821 : (Cond.constant "DrawingHouse$Drawing" (84 : Nat) (-2147483648 : Int32) : Cond) ∈ lw_g := lw_gi (lw_c8 (List.mem_of_getElem? (i := 141) rfl)) rfl
theorem wm_1824 : (Cond.constant "DrawingHouse" (315 : Nat) (-2147483648 : Int32) : Cond) ∈ lw_g := lw_gi (lw_c8 (List.mem_of_getElem? (i := 144) rfl)) rfl
theorem wm_1828 : (Cond.code ({ cls := "DrawingHouse", name := "told", desc := "(III)I" } : MethodName) prog_1_method_19_code (4 : Nat) (Option.some ClassFile.FieldType.int) : Cond) ∈ lw_g := lw_gi (lw_c8 (List.mem_of_getElem? (i := 148) rfl)) rfl
theorem wm_1829 : (Cond.methodLink "DrawingHouse" (316 : Nat) ({ cls := "DrawingHouse$Drawing", name := "report", desc := "(II)I" } : MethodName) : Cond) ∈ lw_g := lw_gi (lw_c8 (List.mem_of_getElem? (i := 149) rfl)) rfl
theorem wm_1830 : (Cond.instanceMethod ({ cls := "DrawingHouse$Drawing", name := "report", desc := "(II)I" } : MethodName) : Cond) ∈ lw_g := lw_gi (lw_c8 (List.mem_of_getElem? (i := 150) rfl)) rfl
theorem wm_1831 : (Cond.selects "DrawingHouse$Drawing" ({ cls := "DrawingHouse$Drawing", name := "report", desc := "(II)I" } : MethodName) ({ cls := "DrawingHouse$Drawing", name := "report", desc := "(II)I" } : MethodName) : Cond) ∈ lw_g := lw_gi (lw_c8 (List.mem_of_getElem? (i := 151) rfl)) rfl
theorem wm_1832 : (Cond.code ({ cls := "DrawingHouse$Drawing", name := "report", desc := "(II)I" } : MethodName) prog_2_method_6_code (3 : Nat) (Option.some ClassFile.FieldType.int) : Cond) ∈ lw_g := lw_gi (lw_c8 (List.mem_of_getElem? (i := 152) rfl)) rfl
theorem wm_1845 : (Cond.code ({ cls := "DrawingHouse", name := "put", desc := "(IIIII)Z" } : MethodName) prog_1_method_20_code (6 : Nat) (Option.some ClassFile.FieldType.boolean) : Cond) ∈ lw_g := lw_gi (lw_c8 (List.mem_of_getElem? (i := 165) rfl)) rfl
theorem wm_1846 : (Cond.methodLink "DrawingHouse" (319 : Nat) ({ cls := "DrawingHouse$Drawing", name := "move", desc := "(IIII)Z" } : MethodName) : Cond) ∈ lw_g := lw_gi (lw_c8 (List.mem_of_getElem? (i := 166) rfl)) rfl
theorem wm_1847 : (Cond.instanceMethod ({ cls := "DrawingHouse$Drawing", name := "move", desc := "(IIII)Z" } : MethodName) : Cond) ∈ lw_g := lw_gi (lw_c8 (List.mem_of_getElem? (i := 167) rfl)) rfl
theorem wm_1848 : (Cond.selects "DrawingHouse$Drawing" ({ cls := "DrawingHouse$Drawing", name := "move", desc := "(IIII)Z" } : MethodName) ({ cls := "DrawingHouse$Drawing", name := "move", desc := "(IIII)Z" } : MethodName) : Cond) ∈ lw_g := lw_gi (lw_c8 (List.mem_of_getElem? (i := 168) rfl)) rfl
theorem wm_1849 : (Cond.code ({ cls := "DrawingHouse$Drawing", name := "move", desc := "(IIII)Z" } : MethodName) prog_2_method_9_code (5 : Nat) (Option.some ClassFile.FieldType.boolean) : Cond) ∈ lw_g := lw_gi (lw_c8 (List.mem_of_getElem? (i := 169) rfl)) rfl
theorem wm_1859 : (Cond.code ({ cls := "DrawingHouse", name := "hasDrawing", desc := "(I)Z" } : MethodName) prog_1_method_31_code (2 : Nat) (Option.some ClassFile.FieldType.boolean) : Cond) ∈ lw_g := lw_gi (lw_c8 (List.mem_of_getElem? (i := 179) rfl)) rfl
abbrev b_Dr_coordinate : ByteArray := prog_2_method_5_code
def y_Dr_coordinate : MethodName := ⟨"DrawingHouse$Drawing", "coordinate", "(III)I"⟩
abbrev z_Dr_coordinate : List Cond := Cond.code y_Dr_coordinate b_Dr_coordinate 4 (some .int) :: lw_g
theorem d_Dr_coordinate_0 : decode b_Dr_coordinate 0 = .ok (.aload_n 0, 1) := by decide +kernel
theorem d_Dr_coordinate_1 : decode b_Dr_coordinate 1 = .ok (.getfield 9, 3) := by decide +kernel
theorem d_Dr_coordinate_4 : decode b_Dr_coordinate 4 = .ok (.iconst (-1), 1) := by decide +kernel
theorem d_Dr_coordinate_5 : decode b_Dr_coordinate 5 = .ok (.if_icmp .ne 6, 3) := by decide +kernel
theorem d_Dr_coordinate_8 : decode b_Dr_coordinate 8 = .ok (.ldc 84, 2) := by decide +kernel
theorem d_Dr_coordinate_10 : decode b_Dr_coordinate 10 = .ok (.ireturn, 1) := by decide +kernel
theorem d_Dr_coordinate_11 : decode b_Dr_coordinate 11 = .ok (.iload_n 1, 1) := by decide +kernel
theorem d_Dr_coordinate_12 : decode b_Dr_coordinate 12 = .ok (.ifCond .eq 8, 3) := by decide +kernel
theorem d_Dr_coordinate_15 : decode b_Dr_coordinate 15 = .ok (.iload_n 1, 1) := by decide +kernel
theorem d_Dr_coordinate_16 : decode b_Dr_coordinate 16 = .ok (.iconst 1, 1) := by decide +kernel
theorem d_Dr_coordinate_17 : decode b_Dr_coordinate 17 = .ok (.if_icmp .ne 37, 3) := by decide +kernel
theorem d_Dr_coordinate_20 : decode b_Dr_coordinate 20 = .ok (.aload_n 0, 1) := by decide +kernel
theorem d_Dr_coordinate_21 : decode b_Dr_coordinate 21 = .ok (.getfield 74, 3) := by decide +kernel
theorem d_Dr_coordinate_24 : decode b_Dr_coordinate 24 = .ok (.iload_n 2, 1) := by decide +kernel
theorem d_Dr_coordinate_25 : decode b_Dr_coordinate 25 = .ok (.invokevirtual 85, 3) := by decide +kernel
theorem d_Dr_coordinate_28 : decode b_Dr_coordinate 28 = .ok (.ifCond .ne 6, 3) := by decide +kernel
theorem d_Dr_coordinate_31 : decode b_Dr_coordinate 31 = .ok (.ldc 84, 2) := by decide +kernel
theorem d_Dr_coordinate_33 : decode b_Dr_coordinate 33 = .ok (.ireturn, 1) := by decide +kernel
theorem d_Dr_coordinate_34 : decode b_Dr_coordinate 34 = .ok (.iload_n 1, 1) := by decide +kernel
theorem d_Dr_coordinate_35 : decode b_Dr_coordinate 35 = .ok (.ifCond .ne 12, 3) := by decide +kernel
theorem d_Dr_coordinate_38 : decode b_Dr_coordinate 38 = .ok (.aload_n 0, 1) := by decide +kernel
theorem d_Dr_coordinate_39 : decode b_Dr_coordinate 39 = .ok (.getfield 15, 3) := by decide +kernel
theorem d_Dr_coordinate_42 : decode b_Dr_coordinate 42 = .ok (.iload_n 2, 1) := by decide +kernel
theorem d_Dr_coordinate_43 : decode b_Dr_coordinate 43 = .ok (.iaload, 1) := by decide +kernel
theorem d_Dr_coordinate_44 : decode b_Dr_coordinate 44 = .ok (.goto 9, 3) := by decide +kernel
theorem d_Dr_coordinate_47 : decode b_Dr_coordinate 47 = .ok (.aload_n 0, 1) := by decide +kernel
theorem d_Dr_coordinate_48 : decode b_Dr_coordinate 48 = .ok (.getfield 19, 3) := by decide +kernel
theorem d_Dr_coordinate_51 : decode b_Dr_coordinate 51 = .ok (.iload_n 2, 1) := by decide +kernel
theorem d_Dr_coordinate_52 : decode b_Dr_coordinate 52 = .ok (.iaload, 1) := by decide +kernel
theorem d_Dr_coordinate_53 : decode b_Dr_coordinate 53 = .ok (.ireturn, 1) := by decide +kernel
theorem d_Dr_coordinate_54 : decode b_Dr_coordinate 54 = .ok (.aload_n 0, 1) := by decide +kernel
theorem d_Dr_coordinate_55 : decode b_Dr_coordinate 55 = .ok (.getfield 74, 3) := by decide +kernel
theorem d_Dr_coordinate_58 : decode b_Dr_coordinate 58 = .ok (.iload_n 2, 1) := by decide +kernel
theorem d_Dr_coordinate_59 : decode b_Dr_coordinate 59 = .ok (.invokevirtual 91, 3) := by decide +kernel
theorem d_Dr_coordinate_62 : decode b_Dr_coordinate 62 = .ok (.ifCond .ne 6, 3) := by decide +kernel
theorem d_Dr_coordinate_65 : decode b_Dr_coordinate 65 = .ok (.ldc 84, 2) := by decide +kernel
theorem d_Dr_coordinate_67 : decode b_Dr_coordinate 67 = .ok (.ireturn, 1) := by decide +kernel
theorem d_Dr_coordinate_68 : decode b_Dr_coordinate 68 = .ok (.iload_n 1, 1) := by decide +kernel
theorem d_Dr_coordinate_69 : decode b_Dr_coordinate 69 = .ok (.iconst 2, 1) := by decide +kernel
theorem d_Dr_coordinate_70 : decode b_Dr_coordinate 70 = .ok (.if_icmp .ne 10, 3) := by decide +kernel
theorem d_Dr_coordinate_73 : decode b_Dr_coordinate 73 = .ok (.aload_n 0, 1) := by decide +kernel
theorem d_Dr_coordinate_74 : decode b_Dr_coordinate 74 = .ok (.getfield 22, 3) := by decide +kernel
theorem d_Dr_coordinate_77 : decode b_Dr_coordinate 77 = .ok (.iload_n 2, 1) := by decide +kernel
theorem d_Dr_coordinate_78 : decode b_Dr_coordinate 78 = .ok (.iaload, 1) := by decide +kernel
theorem d_Dr_coordinate_79 : decode b_Dr_coordinate 79 = .ok (.ireturn, 1) := by decide +kernel
theorem d_Dr_coordinate_80 : decode b_Dr_coordinate 80 = .ok (.iload_n 1, 1) := by decide +kernel
theorem d_Dr_coordinate_81 : decode b_Dr_coordinate 81 = .ok (.iconst 3, 1) := by decide +kernel
theorem d_Dr_coordinate_82 : decode b_Dr_coordinate 82 = .ok (.if_icmp .eq 8, 3) := by decide +kernel
theorem d_Dr_coordinate_85 : decode b_Dr_coordinate 85 = .ok (.iload_n 1, 1) := by decide +kernel
theorem d_Dr_coordinate_86 : decode b_Dr_coordinate 86 = .ok (.iconst 4, 1) := by decide +kernel
theorem d_Dr_coordinate_87 : decode b_Dr_coordinate 87 = .ok (.if_icmp .ne 17, 3) := by decide +kernel
theorem d_Dr_coordinate_90 : decode b_Dr_coordinate 90 = .ok (.iload_n 3, 1) := by decide +kernel
theorem d_Dr_coordinate_91 : decode b_Dr_coordinate 91 = .ok (.ifCond .lt 13, 3) := by decide +kernel
theorem d_Dr_coordinate_94 : decode b_Dr_coordinate 94 = .ok (.iload_n 3, 1) := by decide +kernel
theorem d_Dr_coordinate_95 : decode b_Dr_coordinate 95 = .ok (.aload_n 0, 1) := by decide +kernel
theorem d_Dr_coordinate_96 : decode b_Dr_coordinate 96 = .ok (.getfield 22, 3) := by decide +kernel
theorem d_Dr_coordinate_99 : decode b_Dr_coordinate 99 = .ok (.iload_n 2, 1) := by decide +kernel
theorem d_Dr_coordinate_100 : decode b_Dr_coordinate 100 = .ok (.iaload, 1) := by decide +kernel
theorem d_Dr_coordinate_101 : decode b_Dr_coordinate 101 = .ok (.if_icmp .lt 6, 3) := by decide +kernel
theorem d_Dr_coordinate_104 : decode b_Dr_coordinate 104 = .ok (.ldc 84, 2) := by decide +kernel
theorem d_Dr_coordinate_106 : decode b_Dr_coordinate 106 = .ok (.ireturn, 1) := by decide +kernel
theorem d_Dr_coordinate_107 : decode b_Dr_coordinate 107 = .ok (.iload_n 1, 1) := by decide +kernel
theorem d_Dr_coordinate_108 : decode b_Dr_coordinate 108 = .ok (.iconst 3, 1) := by decide +kernel
theorem d_Dr_coordinate_109 : decode b_Dr_coordinate 109 = .ok (.if_icmp .ne 17, 3) := by decide +kernel
theorem d_Dr_coordinate_112 : decode b_Dr_coordinate 112 = .ok (.aload_n 0, 1) := by decide +kernel
theorem d_Dr_coordinate_113 : decode b_Dr_coordinate 113 = .ok (.getfield 25, 3) := by decide +kernel
theorem d_Dr_coordinate_116 : decode b_Dr_coordinate 116 = .ok (.iload_n 2, 1) := by decide +kernel
theorem d_Dr_coordinate_117 : decode b_Dr_coordinate 117 = .ok (.bipush 24, 2) := by decide +kernel
theorem d_Dr_coordinate_119 : decode b_Dr_coordinate 119 = .ok (.imul, 1) := by decide +kernel
theorem d_Dr_coordinate_120 : decode b_Dr_coordinate 120 = .ok (.iload_n 3, 1) := by decide +kernel
theorem d_Dr_coordinate_121 : decode b_Dr_coordinate 121 = .ok (.iadd, 1) := by decide +kernel
theorem d_Dr_coordinate_122 : decode b_Dr_coordinate 122 = .ok (.iaload, 1) := by decide +kernel
theorem d_Dr_coordinate_123 : decode b_Dr_coordinate 123 = .ok (.goto 14, 3) := by decide +kernel
theorem d_Dr_coordinate_126 : decode b_Dr_coordinate 126 = .ok (.aload_n 0, 1) := by decide +kernel
theorem d_Dr_coordinate_127 : decode b_Dr_coordinate 127 = .ok (.getfield 28, 3) := by decide +kernel
theorem d_Dr_coordinate_130 : decode b_Dr_coordinate 130 = .ok (.iload_n 2, 1) := by decide +kernel
theorem d_Dr_coordinate_131 : decode b_Dr_coordinate 131 = .ok (.bipush 24, 2) := by decide +kernel
theorem d_Dr_coordinate_133 : decode b_Dr_coordinate 133 = .ok (.imul, 1) := by decide +kernel
theorem d_Dr_coordinate_134 : decode b_Dr_coordinate 134 = .ok (.iload_n 3, 1) := by decide +kernel
theorem d_Dr_coordinate_135 : decode b_Dr_coordinate 135 = .ok (.iadd, 1) := by decide +kernel
theorem d_Dr_coordinate_136 : decode b_Dr_coordinate 136 = .ok (.iaload, 1) := by decide +kernel
theorem d_Dr_coordinate_137 : decode b_Dr_coordinate 137 = .ok (.ireturn, 1) := by decide +kernel
abbrev b_Dr_report : ByteArray := prog_2_method_6_code
def y_Dr_report : MethodName := ⟨"DrawingHouse$Drawing", "report", "(II)I"⟩
abbrev z_Dr_report : List Cond := Cond.code y_Dr_report b_Dr_report 3 (some .int) :: lw_g
theorem d_Dr_report_0 : decode b_Dr_report 0 = .ok (.aload_n 0, 1) := by decide +kernel
theorem d_Dr_report_1 : decode b_Dr_report 1 = .ok (.getfield 9, 3) := by decide +kernel
theorem d_Dr_report_4 : decode b_Dr_report 4 = .ok (.iconst (-1), 1) := by decide +kernel
theorem d_Dr_report_5 : decode b_Dr_report 5 = .ok (.if_icmp .ne 5, 3) := by decide +kernel
theorem d_Dr_report_8 : decode b_Dr_report 8 = .ok (.iconst (-1), 1) := by decide +kernel
theorem d_Dr_report_9 : decode b_Dr_report 9 = .ok (.ireturn, 1) := by decide +kernel
theorem d_Dr_report_10 : decode b_Dr_report 10 = .ok (.iload_n 1, 1) := by decide +kernel
theorem d_Dr_report_11 : decode b_Dr_report 11 = .ok (.ifCond .ne 8, 3) := by decide +kernel
theorem d_Dr_report_14 : decode b_Dr_report 14 = .ok (.aload_n 0, 1) := by decide +kernel
theorem d_Dr_report_15 : decode b_Dr_report 15 = .ok (.getfield 9, 3) := by decide +kernel
theorem d_Dr_report_18 : decode b_Dr_report 18 = .ok (.ireturn, 1) := by decide +kernel
theorem d_Dr_report_19 : decode b_Dr_report 19 = .ok (.aload_n 0, 1) := by decide +kernel
theorem d_Dr_report_20 : decode b_Dr_report 20 = .ok (.getfield 9, 3) := by decide +kernel
theorem d_Dr_report_23 : decode b_Dr_report 23 = .ok (.tableswitch 116 0 7 #[45, 116, 52, 116, 80, 87, 116, 102], 45) := by decide +kernel
theorem d_Dr_report_68 : decode b_Dr_report 68 = .ok (.aload_n 0, 1) := by decide +kernel
theorem d_Dr_report_69 : decode b_Dr_report 69 = .ok (.iload_n 1, 1) := by decide +kernel
theorem d_Dr_report_70 : decode b_Dr_report 70 = .ok (.iload_n 2, 1) := by decide +kernel
theorem d_Dr_report_71 : decode b_Dr_report 71 = .ok (.invokevirtual 94, 3) := by decide +kernel
theorem d_Dr_report_74 : decode b_Dr_report 74 = .ok (.ireturn, 1) := by decide +kernel
theorem d_Dr_report_75 : decode b_Dr_report 75 = .ok (.iload_n 1, 1) := by decide +kernel
theorem d_Dr_report_76 : decode b_Dr_report 76 = .ok (.bipush 15, 2) := by decide +kernel
theorem d_Dr_report_78 : decode b_Dr_report 78 = .ok (.if_icmp .ne 23, 3) := by decide +kernel
theorem d_Dr_report_81 : decode b_Dr_report 81 = .ok (.aload_n 0, 1) := by decide +kernel
theorem d_Dr_report_82 : decode b_Dr_report 82 = .ok (.getfield 74, 3) := by decide +kernel
theorem d_Dr_report_85 : decode b_Dr_report 85 = .ok (.iload_n 2, 1) := by decide +kernel
theorem d_Dr_report_86 : decode b_Dr_report 86 = .ok (.invokevirtual 85, 3) := by decide +kernel
theorem d_Dr_report_89 : decode b_Dr_report 89 = .ok (.ifCond .eq 12, 3) := by decide +kernel
theorem d_Dr_report_92 : decode b_Dr_report 92 = .ok (.aload_n 0, 1) := by decide +kernel
theorem d_Dr_report_93 : decode b_Dr_report 93 = .ok (.getfield 47, 3) := by decide +kernel
theorem d_Dr_report_96 : decode b_Dr_report 96 = .ok (.iload_n 2, 1) := by decide +kernel
theorem d_Dr_report_97 : decode b_Dr_report 97 = .ok (.iaload, 1) := by decide +kernel
theorem d_Dr_report_98 : decode b_Dr_report 98 = .ok (.goto 4, 3) := by decide +kernel
theorem d_Dr_report_101 : decode b_Dr_report 101 = .ok (.iconst (-1), 1) := by decide +kernel
theorem d_Dr_report_102 : decode b_Dr_report 102 = .ok (.ireturn, 1) := by decide +kernel
theorem d_Dr_report_103 : decode b_Dr_report 103 = .ok (.aload_n 0, 1) := by decide +kernel
theorem d_Dr_report_104 : decode b_Dr_report 104 = .ok (.iload_n 1, 1) := by decide +kernel
theorem d_Dr_report_105 : decode b_Dr_report 105 = .ok (.iload_n 2, 1) := by decide +kernel
theorem d_Dr_report_106 : decode b_Dr_report 106 = .ok (.invokevirtual 98, 3) := by decide +kernel
theorem d_Dr_report_109 : decode b_Dr_report 109 = .ok (.ireturn, 1) := by decide +kernel
theorem d_Dr_report_110 : decode b_Dr_report 110 = .ok (.iload_n 1, 1) := by decide +kernel
theorem d_Dr_report_111 : decode b_Dr_report 111 = .ok (.bipush 14, 2) := by decide +kernel
theorem d_Dr_report_113 : decode b_Dr_report 113 = .ok (.if_icmp .ne 10, 3) := by decide +kernel
theorem d_Dr_report_116 : decode b_Dr_report 116 = .ok (.aload_n 0, 1) := by decide +kernel
theorem d_Dr_report_117 : decode b_Dr_report 117 = .ok (.getfield 31, 3) := by decide +kernel
theorem d_Dr_report_120 : decode b_Dr_report 120 = .ok (.goto 4, 3) := by decide +kernel
theorem d_Dr_report_123 : decode b_Dr_report 123 = .ok (.iconst (-1), 1) := by decide +kernel
theorem d_Dr_report_124 : decode b_Dr_report 124 = .ok (.ireturn, 1) := by decide +kernel
theorem d_Dr_report_125 : decode b_Dr_report 125 = .ok (.iload_n 1, 1) := by decide +kernel
theorem d_Dr_report_126 : decode b_Dr_report 126 = .ok (.iconst 5, 1) := by decide +kernel
theorem d_Dr_report_127 : decode b_Dr_report 127 = .ok (.if_icmp .ne 10, 3) := by decide +kernel
theorem d_Dr_report_130 : decode b_Dr_report 130 = .ok (.aload_n 0, 1) := by decide +kernel
theorem d_Dr_report_131 : decode b_Dr_report 131 = .ok (.getfield 37, 3) := by decide +kernel
theorem d_Dr_report_134 : decode b_Dr_report 134 = .ok (.goto 4, 3) := by decide +kernel
theorem d_Dr_report_137 : decode b_Dr_report 137 = .ok (.iconst (-1), 1) := by decide +kernel
theorem d_Dr_report_138 : decode b_Dr_report 138 = .ok (.ireturn, 1) := by decide +kernel
theorem d_Dr_report_139 : decode b_Dr_report 139 = .ok (.iconst (-1), 1) := by decide +kernel
theorem d_Dr_report_140 : decode b_Dr_report 140 = .ok (.ireturn, 1) := by decide +kernel
abbrev b_Dr_move : ByteArray := prog_2_method_9_code
def y_Dr_move : MethodName := ⟨"DrawingHouse$Drawing", "move", "(IIII)Z"⟩
abbrev z_Dr_move : List Cond := Cond.code y_Dr_move b_Dr_move 5 (some .boolean) :: lw_g
theorem d_Dr_move_0 : decode b_Dr_move 0 = .ok (.aload_n 0, 1) := by decide +kernel
theorem d_Dr_move_1 : decode b_Dr_move 1 = .ok (.getfield 9, 3) := by decide +kernel
theorem d_Dr_move_4 : decode b_Dr_move 4 = .ok (.iconst (-1), 1) := by decide +kernel
theorem d_Dr_move_5 : decode b_Dr_move 5 = .ok (.if_icmp .eq 29, 3) := by decide +kernel
theorem d_Dr_move_8 : decode b_Dr_move 8 = .ok (.iload_n 3, 1) := by decide +kernel
theorem d_Dr_move_9 : decode b_Dr_move 9 = .ok (.ldc 104, 2) := by decide +kernel
theorem d_Dr_move_11 : decode b_Dr_move 11 = .ok (.if_icmp .lt 23, 3) := by decide +kernel
theorem d_Dr_move_14 : decode b_Dr_move 14 = .ok (.iload_n 3, 1) := by decide +kernel
theorem d_Dr_move_15 : decode b_Dr_move 15 = .ok (.ldc 105, 2) := by decide +kernel
theorem d_Dr_move_17 : decode b_Dr_move 17 = .ok (.if_icmp .gt 17, 3) := by decide +kernel
theorem d_Dr_move_20 : decode b_Dr_move 20 = .ok (.iload 4, 2) := by decide +kernel
theorem d_Dr_move_22 : decode b_Dr_move 22 = .ok (.ldc 104, 2) := by decide +kernel
theorem d_Dr_move_24 : decode b_Dr_move 24 = .ok (.if_icmp .lt 10, 3) := by decide +kernel
theorem d_Dr_move_27 : decode b_Dr_move 27 = .ok (.iload 4, 2) := by decide +kernel
theorem d_Dr_move_29 : decode b_Dr_move 29 = .ok (.ldc 105, 2) := by decide +kernel
theorem d_Dr_move_31 : decode b_Dr_move 31 = .ok (.if_icmp .le 5, 3) := by decide +kernel
theorem d_Dr_move_34 : decode b_Dr_move 34 = .ok (.iconst 0, 1) := by decide +kernel
theorem d_Dr_move_35 : decode b_Dr_move 35 = .ok (.ireturn, 1) := by decide +kernel
theorem d_Dr_move_36 : decode b_Dr_move 36 = .ok (.iload_n 2, 1) := by decide +kernel
theorem d_Dr_move_37 : decode b_Dr_move 37 = .ok (.iconst (-1), 1) := by decide +kernel
theorem d_Dr_move_38 : decode b_Dr_move 38 = .ok (.if_icmp .ne 33, 3) := by decide +kernel
theorem d_Dr_move_41 : decode b_Dr_move 41 = .ok (.aload_n 0, 1) := by decide +kernel
theorem d_Dr_move_42 : decode b_Dr_move 42 = .ok (.getfield 74, 3) := by decide +kernel
theorem d_Dr_move_45 : decode b_Dr_move 45 = .ok (.iload_n 1, 1) := by decide +kernel
theorem d_Dr_move_46 : decode b_Dr_move 46 = .ok (.invokevirtual 85, 3) := by decide +kernel
theorem d_Dr_move_49 : decode b_Dr_move 49 = .ok (.ifCond .ne 5, 3) := by decide +kernel
theorem d_Dr_move_52 : decode b_Dr_move 52 = .ok (.iconst 0, 1) := by decide +kernel
theorem d_Dr_move_53 : decode b_Dr_move 53 = .ok (.ireturn, 1) := by decide +kernel
theorem d_Dr_move_54 : decode b_Dr_move 54 = .ok (.aload_n 0, 1) := by decide +kernel
theorem d_Dr_move_55 : decode b_Dr_move 55 = .ok (.getfield 15, 3) := by decide +kernel
theorem d_Dr_move_58 : decode b_Dr_move 58 = .ok (.iload_n 1, 1) := by decide +kernel
theorem d_Dr_move_59 : decode b_Dr_move 59 = .ok (.iload_n 3, 1) := by decide +kernel
theorem d_Dr_move_60 : decode b_Dr_move 60 = .ok (.iastore, 1) := by decide +kernel
theorem d_Dr_move_61 : decode b_Dr_move 61 = .ok (.aload_n 0, 1) := by decide +kernel
theorem d_Dr_move_62 : decode b_Dr_move 62 = .ok (.getfield 19, 3) := by decide +kernel
theorem d_Dr_move_65 : decode b_Dr_move 65 = .ok (.iload_n 1, 1) := by decide +kernel
theorem d_Dr_move_66 : decode b_Dr_move 66 = .ok (.iload 4, 2) := by decide +kernel
theorem d_Dr_move_68 : decode b_Dr_move 68 = .ok (.iastore, 1) := by decide +kernel
theorem d_Dr_move_69 : decode b_Dr_move 69 = .ok (.iconst 1, 1) := by decide +kernel
theorem d_Dr_move_70 : decode b_Dr_move 70 = .ok (.ireturn, 1) := by decide +kernel
theorem d_Dr_move_71 : decode b_Dr_move 71 = .ok (.aload_n 0, 1) := by decide +kernel
theorem d_Dr_move_72 : decode b_Dr_move 72 = .ok (.getfield 74, 3) := by decide +kernel
theorem d_Dr_move_75 : decode b_Dr_move 75 = .ok (.iload_n 1, 1) := by decide +kernel
theorem d_Dr_move_76 : decode b_Dr_move 76 = .ok (.invokevirtual 91, 3) := by decide +kernel
theorem d_Dr_move_79 : decode b_Dr_move 79 = .ok (.ifCond .eq 17, 3) := by decide +kernel
theorem d_Dr_move_82 : decode b_Dr_move 82 = .ok (.iload_n 2, 1) := by decide +kernel
theorem d_Dr_move_83 : decode b_Dr_move 83 = .ok (.ifCond .lt 13, 3) := by decide +kernel
theorem d_Dr_move_86 : decode b_Dr_move 86 = .ok (.iload_n 2, 1) := by decide +kernel
theorem d_Dr_move_87 : decode b_Dr_move 87 = .ok (.aload_n 0, 1) := by decide +kernel
theorem d_Dr_move_88 : decode b_Dr_move 88 = .ok (.getfield 22, 3) := by decide +kernel
theorem d_Dr_move_91 : decode b_Dr_move 91 = .ok (.iload_n 1, 1) := by decide +kernel
theorem d_Dr_move_92 : decode b_Dr_move 92 = .ok (.iaload, 1) := by decide +kernel
theorem d_Dr_move_93 : decode b_Dr_move 93 = .ok (.if_icmp .lt 5, 3) := by decide +kernel
theorem d_Dr_move_96 : decode b_Dr_move 96 = .ok (.iconst 0, 1) := by decide +kernel
theorem d_Dr_move_97 : decode b_Dr_move 97 = .ok (.ireturn, 1) := by decide +kernel
theorem d_Dr_move_98 : decode b_Dr_move 98 = .ok (.aload_n 0, 1) := by decide +kernel
theorem d_Dr_move_99 : decode b_Dr_move 99 = .ok (.getfield 25, 3) := by decide +kernel
theorem d_Dr_move_102 : decode b_Dr_move 102 = .ok (.iload_n 1, 1) := by decide +kernel
theorem d_Dr_move_103 : decode b_Dr_move 103 = .ok (.bipush 24, 2) := by decide +kernel
theorem d_Dr_move_105 : decode b_Dr_move 105 = .ok (.imul, 1) := by decide +kernel
theorem d_Dr_move_106 : decode b_Dr_move 106 = .ok (.iload_n 2, 1) := by decide +kernel
theorem d_Dr_move_107 : decode b_Dr_move 107 = .ok (.iadd, 1) := by decide +kernel
theorem d_Dr_move_108 : decode b_Dr_move 108 = .ok (.iload_n 3, 1) := by decide +kernel
theorem d_Dr_move_109 : decode b_Dr_move 109 = .ok (.iastore, 1) := by decide +kernel
theorem d_Dr_move_110 : decode b_Dr_move 110 = .ok (.aload_n 0, 1) := by decide +kernel
theorem d_Dr_move_111 : decode b_Dr_move 111 = .ok (.getfield 28, 3) := by decide +kernel
theorem d_Dr_move_114 : decode b_Dr_move 114 = .ok (.iload_n 1, 1) := by decide +kernel
theorem d_Dr_move_115 : decode b_Dr_move 115 = .ok (.bipush 24, 2) := by decide +kernel
theorem d_Dr_move_117 : decode b_Dr_move 117 = .ok (.imul, 1) := by decide +kernel
theorem d_Dr_move_118 : decode b_Dr_move 118 = .ok (.iload_n 2, 1) := by decide +kernel
theorem d_Dr_move_119 : decode b_Dr_move 119 = .ok (.iadd, 1) := by decide +kernel
theorem d_Dr_move_120 : decode b_Dr_move 120 = .ok (.iload 4, 2) := by decide +kernel
theorem d_Dr_move_122 : decode b_Dr_move 122 = .ok (.iastore, 1) := by decide +kernel
theorem d_Dr_move_123 : decode b_Dr_move 123 = .ok (.iconst 1, 1) := by decide +kernel
theorem d_Dr_move_124 : decode b_Dr_move 124 = .ok (.ireturn, 1) := by decide +kernel
abbrev b_Ho_at : ByteArray := prog_1_method_18_code
def y_Ho_at : MethodName := ⟨"DrawingHouse", "at", "(IIII)I"⟩
abbrev z_Ho_at : List Cond := Cond.code y_Ho_at b_Ho_at 5 (some .int) :: lw_g
theorem d_Ho_at_0 : decode b_Ho_at 0 = .ok (.iload_n 1, 1) := by decide +kernel
theorem d_Ho_at_1 : decode b_Ho_at 1 = .ok (.invokestatic 115, 3) := by decide +kernel
theorem d_Ho_at_4 : decode b_Ho_at 4 = .ok (.ifCond .eq 19, 3) := by decide +kernel
theorem d_Ho_at_7 : decode b_Ho_at 7 = .ok (.aload_n 0, 1) := by decide +kernel
theorem d_Ho_at_8 : decode b_Ho_at 8 = .ok (.getfield 31, 3) := by decide +kernel
theorem d_Ho_at_11 : decode b_Ho_at 11 = .ok (.iload_n 1, 1) := by decide +kernel
theorem d_Ho_at_12 : decode b_Ho_at 12 = .ok (.aaload, 1) := by decide +kernel
theorem d_Ho_at_13 : decode b_Ho_at 13 = .ok (.iload_n 2, 1) := by decide +kernel
theorem d_Ho_at_14 : decode b_Ho_at 14 = .ok (.iload_n 3, 1) := by decide +kernel
theorem d_Ho_at_15 : decode b_Ho_at 15 = .ok (.iload 4, 2) := by decide +kernel
theorem d_Ho_at_17 : decode b_Ho_at 17 = .ok (.invokevirtual 312, 3) := by decide +kernel
theorem d_Ho_at_20 : decode b_Ho_at 20 = .ok (.goto 6, 3) := by decide +kernel
theorem d_Ho_at_23 : decode b_Ho_at 23 = .ok (.ldc_w 315, 3) := by decide +kernel
theorem d_Ho_at_26 : decode b_Ho_at 26 = .ok (.ireturn, 1) := by decide +kernel
abbrev b_Ho_told : ByteArray := prog_1_method_19_code
def y_Ho_told : MethodName := ⟨"DrawingHouse", "told", "(III)I"⟩
abbrev z_Ho_told : List Cond := Cond.code y_Ho_told b_Ho_told 4 (some .int) :: lw_g
theorem d_Ho_told_0 : decode b_Ho_told 0 = .ok (.iload_n 1, 1) := by decide +kernel
theorem d_Ho_told_1 : decode b_Ho_told 1 = .ok (.invokestatic 115, 3) := by decide +kernel
theorem d_Ho_told_4 : decode b_Ho_told 4 = .ok (.ifCond .eq 17, 3) := by decide +kernel
theorem d_Ho_told_7 : decode b_Ho_told 7 = .ok (.aload_n 0, 1) := by decide +kernel
theorem d_Ho_told_8 : decode b_Ho_told 8 = .ok (.getfield 31, 3) := by decide +kernel
theorem d_Ho_told_11 : decode b_Ho_told 11 = .ok (.iload_n 1, 1) := by decide +kernel
theorem d_Ho_told_12 : decode b_Ho_told 12 = .ok (.aaload, 1) := by decide +kernel
theorem d_Ho_told_13 : decode b_Ho_told 13 = .ok (.iload_n 2, 1) := by decide +kernel
theorem d_Ho_told_14 : decode b_Ho_told 14 = .ok (.iload_n 3, 1) := by decide +kernel
theorem d_Ho_told_15 : decode b_Ho_told 15 = .ok (.invokevirtual 316, 3) := by decide +kernel
theorem d_Ho_told_18 : decode b_Ho_told 18 = .ok (.goto 4, 3) := by decide +kernel
theorem d_Ho_told_21 : decode b_Ho_told 21 = .ok (.iconst (-1), 1) := by decide +kernel
theorem d_Ho_told_22 : decode b_Ho_told 22 = .ok (.ireturn, 1) := by decide +kernel
abbrev b_Ho_put : ByteArray := prog_1_method_20_code
def y_Ho_put : MethodName := ⟨"DrawingHouse", "put", "(IIIII)Z"⟩
abbrev z_Ho_put : List Cond := Cond.code y_Ho_put b_Ho_put 6 (some .boolean) :: lw_g
theorem d_Ho_put_0 : decode b_Ho_put 0 = .ok (.iload_n 1, 1) := by decide +kernel
theorem d_Ho_put_1 : decode b_Ho_put 1 = .ok (.invokestatic 115, 3) := by decide +kernel
theorem d_Ho_put_4 : decode b_Ho_put 4 = .ok (.ifCond .eq 25, 3) := by decide +kernel
theorem d_Ho_put_7 : decode b_Ho_put 7 = .ok (.aload_n 0, 1) := by decide +kernel
theorem d_Ho_put_8 : decode b_Ho_put 8 = .ok (.getfield 31, 3) := by decide +kernel
theorem d_Ho_put_11 : decode b_Ho_put 11 = .ok (.iload_n 1, 1) := by decide +kernel
theorem d_Ho_put_12 : decode b_Ho_put 12 = .ok (.aaload, 1) := by decide +kernel
theorem d_Ho_put_13 : decode b_Ho_put 13 = .ok (.iload_n 2, 1) := by decide +kernel
theorem d_Ho_put_14 : decode b_Ho_put 14 = .ok (.iload_n 3, 1) := by decide +kernel
theorem d_Ho_put_15 : decode b_Ho_put 15 = .ok (.iload 4, 2) := by decide +kernel
theorem d_Ho_put_17 : decode b_Ho_put 17 = .ok (.iload 5, 2) := by decide +kernel
theorem d_Ho_put_19 : decode b_Ho_put 19 = .ok (.invokevirtual 319, 3) := by decide +kernel
theorem d_Ho_put_22 : decode b_Ho_put 22 = .ok (.ifCond .eq 7, 3) := by decide +kernel
theorem d_Ho_put_25 : decode b_Ho_put 25 = .ok (.iconst 1, 1) := by decide +kernel
theorem d_Ho_put_26 : decode b_Ho_put 26 = .ok (.goto 4, 3) := by decide +kernel
theorem d_Ho_put_29 : decode b_Ho_put 29 = .ok (.iconst 0, 1) := by decide +kernel
theorem d_Ho_put_30 : decode b_Ho_put 30 = .ok (.ireturn, 1) := by decide +kernel
abbrev b_Ho_hasDrawing : ByteArray := prog_1_method_31_code
def y_Ho_hasDrawing : MethodName := ⟨"DrawingHouse", "hasDrawing", "(I)Z"⟩
abbrev z_Ho_hasDrawing : List Cond := Cond.code y_Ho_hasDrawing b_Ho_hasDrawing 2 (some .boolean) :: lw_g
theorem d_Ho_hasDrawing_0 : decode b_Ho_hasDrawing 0 = .ok (.iload_n 1, 1) := by decide +kernel
theorem d_Ho_hasDrawing_1 : decode b_Ho_hasDrawing 1 = .ok (.invokestatic 115, 3) := by decide +kernel
theorem d_Ho_hasDrawing_4 : decode b_Ho_hasDrawing 4 = .ok (.ifCond .eq 20, 3) := by decide +kernel
theorem d_Ho_hasDrawing_7 : decode b_Ho_hasDrawing 7 = .ok (.aload_n 0, 1) := by decide +kernel
theorem d_Ho_hasDrawing_8 : decode b_Ho_hasDrawing 8 = .ok (.getfield 31, 3) := by decide +kernel
theorem d_Ho_hasDrawing_11 : decode b_Ho_hasDrawing 11 = .ok (.iload_n 1, 1) := by decide +kernel
theorem d_Ho_hasDrawing_12 : decode b_Ho_hasDrawing 12 = .ok (.aaload, 1) := by decide +kernel
theorem d_Ho_hasDrawing_13 : decode b_Ho_hasDrawing 13 = .ok (.getfield 309, 3) := by decide +kernel
theorem d_Ho_hasDrawing_16 : decode b_Ho_hasDrawing 16 = .ok (.iconst (-1), 1) := by decide +kernel
theorem d_Ho_hasDrawing_17 : decode b_Ho_hasDrawing 17 = .ok (.if_icmp .eq 7, 3) := by decide +kernel
theorem d_Ho_hasDrawing_20 : decode b_Ho_hasDrawing 20 = .ok (.iconst 1, 1) := by decide +kernel
theorem d_Ho_hasDrawing_21 : decode b_Ho_hasDrawing 21 = .ok (.goto 4, 3) := by decide +kernel
theorem d_Ho_hasDrawing_24 : decode b_Ho_hasDrawing 24 = .ok (.iconst 0, 1) := by decide +kernel
theorem d_Ho_hasDrawing_25 : decode b_Ho_hasDrawing 25 = .ok (.ireturn, 1) := by decide +kernel
def fDr (q : Nat → Nat) (x : Nat → Int32) : List Value := [.ref (q 0), .int (x 1), .ref (q 2), .ref (q 3), .ref (q 4), .ref (q 5), .ref (q 6), .int (x 7), .int (x 8), .int (x 9), .ref (q 10), .ref (q 11), .ref (q 12), .ref (q 13), .ref (q 14), .ref (q 15), .ref (q 16), .int (x 17), .int (x 18), .int (x 19), .int (x 20)]
def sp_Dr_coordinate_nd  : Int32 := -2147483648
set_option maxRecDepth 100000 in
set_option maxHeartbeats 4000000 in
/-- DrawingHouse$Drawing.coordinate(III)I -/
theorem c_Dr_coordinate_nd (l : Launch) (D : va_G) (kA : Nat → ClassId) (h : Nat) (qd : Nat → Nat) (xd : Nat → Int32) (w i k : Int32)  : Ci l y_Dr_coordinate z_Dr_coordinate { frames := 0, cells := 0, slots := 0, locals := 0 } D classes (TY kA) [.ref h, .int w, .int i, .int k] [[(h, .inr (0, fDr qd (va_up xd 1 ((-1)))))]] (fun r (_ : Unit) => r = sp_Dr_coordinate_nd ) (fun _ => [[(h, .inr (0, fDr qd (va_up xd 1 ((-1)))))]]) 0 0 := by
  intro sz
  refine k_met (cc := b_Dr_coordinate) (maxL := 4) (ret := (some .int)) (by decide) rfl (Nat.le_of_ble_eq_true rfl) (fun p e s m below meth c ls X hl hB => ?_)
  obtain ⟨hsz, hP, hK, hD0, hN⟩ := hB
  subst hsz
  have hD := hD0.self (sz := s.heap.size)
  generalize hAe : va_A (cat [[(h, .inr (0, fDr qd (va_up xd 1 ((-1)))))]]) s.heap.size = A at hD ⊢
  have hA : ∀ q : Nat, s.heap.size ≤ q → A q := fun q h => by rw [← hAe]; exact Or.inr h
  have hS : va_S A s.heap s.heap [] := va_S.rf
  obtain ⟨hx, hb, hml, hown, hts, hr, hlk, hnm⟩ := id X
  have hl : lv_has ls 4 [(0, .ref h), (1, .int w), (2, .int i), (3, .int k)] := hl
  have hP : va_P D classes (cat [[(h, .inr (0, fDr qd (va_up xd 1 ((-1)))))]]) s.heap := hP
  have hK : va_K D classes (TY kA) s := hK
  refine lv_aload_n (pc := 0) hx hb d_Dr_coordinate_0 rfl (lv_at hl 0 rfl) ?_
  refine k_get (pc := 1) (v := .int ((-1))) X hK hP 0 rfl rfl i_Dr 1 (by decide) wm_466 rfl rfl d_Dr_coordinate_1 ?_
  refine lv_iconst (pc := 4) (v := -1) hx hb d_Dr_coordinate_4 (by decide) ?_
  refine lv_icmp_ne (pc := 5) (tgt := 11) hx hb d_Dr_coordinate_5 (by decide) (fun c1 => absurd (by decide) c1) (fun _ => ?_)
  refine lv_ldc (pc := 8) (v := -2147483648) hx hb hown (hts _ wm_1821) d_Dr_coordinate_8 ?_
  refine W.widen (k := 0) (n := 0) (Nat.le_of_ble_eq_true rfl) (Nat.le_of_ble_eq_true rfl) ?_
  exact W.iret (v := (-2147483648)) hx hb hr (fun t ht hW => ⟨⟨(-2147483648), (), rfl, (by unfold sp_Dr_coordinate_nd; rfl), by rw [ht]; exact hP, va_K.moved hW.alike hK, hD⟩, hS.F ht⟩) hS.2.2 d_Dr_coordinate_10
def sp_Dr_report_nd  : Int32 := (-1)
set_option maxRecDepth 100000 in
set_option maxHeartbeats 4000000 in
/-- DrawingHouse$Drawing.report(II)I -/
theorem c_Dr_report_nd (l : Launch) (D : va_G) (kA : Nat → ClassId) (h : Nat) (qd : Nat → Nat) (xd : Nat → Int32) (w i : Int32)  : Ci l y_Dr_report z_Dr_report { frames := 0, cells := 0, slots := 0, locals := 0 } D classes (TY kA) [.ref h, .int w, .int i] [[(h, .inr (0, fDr qd (va_up xd 1 ((-1)))))]] (fun r (_ : Unit) => r = sp_Dr_report_nd ) (fun _ => [[(h, .inr (0, fDr qd (va_up xd 1 ((-1)))))]]) 0 0 := by
  intro sz
  refine k_met (cc := b_Dr_report) (maxL := 3) (ret := (some .int)) (by decide) rfl (Nat.le_of_ble_eq_true rfl) (fun p e s m below meth c ls X hl hB => ?_)
  obtain ⟨hsz, hP, hK, hD0, hN⟩ := hB
  subst hsz
  have hD := hD0.self (sz := s.heap.size)
  generalize hAe : va_A (cat [[(h, .inr (0, fDr qd (va_up xd 1 ((-1)))))]]) s.heap.size = A at hD ⊢
  have hA : ∀ q : Nat, s.heap.size ≤ q → A q := fun q h => by rw [← hAe]; exact Or.inr h
  have hS : va_S A s.heap s.heap [] := va_S.rf
  obtain ⟨hx, hb, hml, hown, hts, hr, hlk, hnm⟩ := id X
  have hl : lv_has ls 3 [(0, .ref h), (1, .int w), (2, .int i)] := hl
  have hP : va_P D classes (cat [[(h, .inr (0, fDr qd (va_up xd 1 ((-1)))))]]) s.heap := hP
  have hK : va_K D classes (TY kA) s := hK
  refine lv_aload_n (pc := 0) hx hb d_Dr_report_0 rfl (lv_at hl 0 rfl) ?_
  refine k_get (pc := 1) (v := .int ((-1))) X hK hP 0 rfl rfl i_Dr 1 (by decide) wm_466 rfl rfl d_Dr_report_1 ?_
  refine lv_iconst (pc := 4) (v := -1) hx hb d_Dr_report_4 (by decide) ?_
  refine lv_icmp_ne (pc := 5) (tgt := 10) hx hb d_Dr_report_5 (by decide) (fun c1 => absurd (by decide) c1) (fun _ => ?_)
  refine lv_iconst (pc := 8) (v := -1) hx hb d_Dr_report_8 (by decide) ?_
  refine W.widen (k := 0) (n := 0) (Nat.le_of_ble_eq_true rfl) (Nat.le_of_ble_eq_true rfl) ?_
  exact W.iret (v := ((-1))) hx hb hr (fun t ht hW => ⟨⟨((-1)), (), rfl, (by unfold sp_Dr_report_nd; rfl), by rw [ht]; exact hP, va_K.moved hW.alike hK, hD⟩, hS.F ht⟩) hS.2.2 d_Dr_report_9
def sp_Dr_move_nd  : Int32 := 0
set_option maxRecDepth 100000 in
set_option maxHeartbeats 4000000 in
/-- DrawingHouse$Drawing.move(IIII)Z -/
theorem c_Dr_move_nd (l : Launch) (D : va_G) (kA : Nat → ClassId) (h : Nat) (qd : Nat → Nat) (xd : Nat → Int32) (i k px py : Int32)  : Ci l y_Dr_move z_Dr_move { frames := 0, cells := 0, slots := 0, locals := 0 } D classes (TY kA) [.ref h, .int i, .int k, .int px, .int py] [[(h, .inr (0, fDr qd (va_up xd 1 ((-1)))))]] (fun r (_ : Unit) => r = sp_Dr_move_nd ) (fun _ => [[(h, .inr (0, fDr qd (va_up xd 1 ((-1)))))]]) 0 0 := by
  intro sz
  refine k_met (cc := b_Dr_move) (maxL := 5) (ret := (some .boolean)) (by decide) rfl (Nat.le_of_ble_eq_true rfl) (fun p e s m below meth c ls X hl hB => ?_)
  obtain ⟨hsz, hP, hK, hD0, hN⟩ := hB
  subst hsz
  have hD := hD0.self (sz := s.heap.size)
  generalize hAe : va_A (cat [[(h, .inr (0, fDr qd (va_up xd 1 ((-1)))))]]) s.heap.size = A at hD ⊢
  have hA : ∀ q : Nat, s.heap.size ≤ q → A q := fun q h => by rw [← hAe]; exact Or.inr h
  have hS : va_S A s.heap s.heap [] := va_S.rf
  obtain ⟨hx, hb, hml, hown, hts, hr, hlk, hnm⟩ := id X
  have hl : lv_has ls 5 [(0, .ref h), (1, .int i), (2, .int k), (3, .int px), (4, .int py)] := hl
  have hP : va_P D classes (cat [[(h, .inr (0, fDr qd (va_up xd 1 ((-1)))))]]) s.heap := hP
  have hK : va_K D classes (TY kA) s := hK
  refine lv_aload_n (pc := 0) hx hb d_Dr_move_0 rfl (lv_at hl 0 rfl) ?_
  refine k_get (pc := 1) (v := .int ((-1))) X hK hP 0 rfl rfl i_Dr 1 (by decide) wm_466 rfl rfl d_Dr_move_1 ?_
  refine lv_iconst (pc := 4) (v := -1) hx hb d_Dr_move_4 (by decide) ?_
  refine lv_icmp_eq (pc := 5) (tgt := 34) hx hb d_Dr_move_5 (by decide) (fun _ => ?_) (fun c1 => absurd (by decide) c1)
  refine lv_iconst (pc := 34) (v := 0) hx hb d_Dr_move_34 (by decide) ?_
  refine W.widen (k := 0) (n := 0) (Nat.le_of_ble_eq_true rfl) (Nat.le_of_ble_eq_true rfl) ?_
  exact W.zret (v := 0) hx hb hr rfl (fun t ht hW => ⟨⟨0, (), rfl, (by unfold sp_Dr_move_nd; rfl), by rw [ht]; exact hP, va_K.moved hW.alike hK, hD⟩, hS.F ht⟩) hS.2.2 d_Dr_move_35
def sp_Ho_at_no  : Int32 := -2147483648
set_option maxRecDepth 100000 in
set_option maxHeartbeats 4000000 in
/-- DrawingHouse.at(IIII)I -/
theorem c_Ho_at_no (l : Launch) (D : va_G) (kA : Nat → ClassId) (h : Nat) (q : Nat → Nat) (x : Nat → Int32) (o16 o17 o18 o19 o20 : Option Nat) (gp : Int32) (w i k : Int32) (hg : sp_Ho_isPlace gp = 0)  : Ci l y_Ho_at z_Ho_at { frames := 1, cells := 0, slots := 0, locals := 24 } D classes (TY kA) [.ref h, .int gp, .int w, .int i, .int k] [[(h, .inr (12, fHo q x o16 o17 o18 o19 o20))]] (fun r (_ : Unit) => r = sp_Ho_at_no ) (fun _ => [[(h, .inr (12, fHo q x o16 o17 o18 o19 o20))]]) 0 0 := by
  intro sz
  refine k_met (cc := b_Ho_at) (maxL := 5) (ret := (some .int)) (by decide) rfl (Nat.le_of_ble_eq_true rfl) (fun p e s m below meth c ls X hl hB => ?_)
  obtain ⟨hsz, hP, hK, hD0, hN⟩ := hB
  subst hsz
  have hD := hD0.self (sz := s.heap.size)
  generalize hAe : va_A (cat [[(h, .inr (12, fHo q x o16 o17 o18 o19 o20))]]) s.heap.size = A at hD ⊢
  have hA : ∀ q : Nat, s.heap.size ≤ q → A q := fun q h => by rw [← hAe]; exact Or.inr h
  have hS : va_S A s.heap s.heap [] := va_S.rf
  obtain ⟨hx, hb, hml, hown, hts, hr, hlk, hnm⟩ := id X
  have hl : lv_has ls 5 [(0, .ref h), (1, .int gp), (2, .int w), (3, .int i), (4, .int k)] := hl
  have hP : va_P D classes (cat [[(h, .inr (12, fHo q x o16 o17 o18 o19 o20))]]) s.heap := hP
  have hK : va_K D classes (TY kA) s := hK
  refine lv_iload_n (pc := 0) hx hb d_Ho_at_0 rfl (lv_at hl 1 rfl) ?_
  refine k_goI (gr := [[(h, .inr (12, fHo q x o16 o17 o18 o19 o20))]]) (k_rS (pc := 1) (As := [.int gp]) (rest := []) X (c_Ho_isPlace l D kA gp s.heap.size) rfl wm_633 wm_1 wm_631 wm_632 1 (by decide +kernel) ⟨Nat.le_of_ble_eq_true rfl, Nat.le_of_ble_eq_true rfl⟩ rfl rfl (k_pre hN hK hP hD [] [0] 1 rfl (by decide) rfl) rfl hl.1 rfl (Nat.le_of_ble_eq_true rfl) d_Ho_at_1 ⟨Nat.le_of_ble_eq_true rfl, Nat.le_of_ble_eq_true rfl⟩) hP hD hS hA [] [0] 1 rfl (by decide) rfl rfl (fun r1 u2 H locs hu2 hP hD hS => ?_)
  subst hu2
  have hP : va_P D classes (cat [[(h, .inr (12, fHo q x o16 o17 o18 o19 o20))]]) H := hP
  have hD : va_D A (cat [[(h, .inr (12, fHo q x o16 o17 o18 o19 o20))]]) := hD
  refine lv_if_eq (pc := 4) (tgt := 23) hx hb d_Ho_at_4 (by decide) (fun c1 => ?_) (fun c1 => absurd (hg) c1)
  refine lv_ldcw (pc := 23) (v := -2147483648) hx hb hown (hts _ wm_1824) d_Ho_at_23 ?_
  refine W.widen (k := 0) (n := 0) (Nat.le_of_ble_eq_true rfl) (Nat.le_of_ble_eq_true rfl) ?_
  exact W.iret (v := (-2147483648)) hx hb hr (fun t ht hW => ⟨⟨(-2147483648), (), rfl, (by unfold sp_Ho_at_no; rfl), by rw [ht]; exact hP, va_K.moved hW.alike hK, hD⟩, hS.F ht⟩) hS.2.2 d_Ho_at_26
def sp_Ho_at_nd  : Int32 := sp_Dr_coordinate_nd
set_option maxRecDepth 100000 in
set_option maxHeartbeats 4000000 in
/-- DrawingHouse.at(IIII)I -/
theorem c_Ho_at_nd (l : Launch) (D : va_G) (kA : Nat → ClassId) (h : Nat) (q : Nat → Nat) (x : Nat → Int32) (o16 o17 o18 o19 o20 : Option Nat) (g : Nat → Nat → Nat) (qd : Nat → Nat) (xd : Nat → Int32) (j : Nat) (hj : j < 4) (w i k : Int32)  : Ci l y_Ho_at z_Ho_at { frames := 1, cells := 0, slots := 0, locals := 24 } D classes (TY kA) [.ref h, .int (nI j), .int w, .int i, .int k] [[(h, .inr (12, fHo q x o16 o17 o18 o19 o20))], [(q 3, .inl (kA 7, 4, .inr (.inr (.inr (.inr (rr (g 3)))))))], [(g 3 j, .inr (0, fDr qd (va_up xd 1 ((-1)))))]] (fun r (_ : Unit) => r = sp_Ho_at_nd ) (fun _ => [[(h, .inr (12, fHo q x o16 o17 o18 o19 o20))], [(q 3, .inl (kA 7, 4, .inr (.inr (.inr (.inr (rr (g 3)))))))], [(g 3 j, .inr (0, fDr qd (va_up xd 1 ((-1)))))]]) 0 0 := by
  intro sz
  refine k_met (cc := b_Ho_at) (maxL := 5) (ret := (some .int)) (by decide) rfl (Nat.le_of_ble_eq_true rfl) (fun p e s m below meth c ls X hl hB => ?_)
  obtain ⟨hsz, hP, hK, hD0, hN⟩ := hB
  subst hsz
  have hD := hD0.self (sz := s.heap.size)
  generalize hAe : va_A (cat [[(h, .inr (12, fHo q x o16 o17 o18 o19 o20))], [(q 3, .inl (kA 7, 4, .inr (.inr (.inr (.inr (rr (g 3)))))))], [(g 3 j, .inr (0, fDr qd (va_up xd 1 ((-1)))))]]) s.heap.size = A at hD ⊢
  have hA : ∀ q : Nat, s.heap.size ≤ q → A q := fun q h => by rw [← hAe]; exact Or.inr h
  have hS : va_S A s.heap s.heap [] := va_S.rf
  obtain ⟨hx, hb, hml, hown, hts, hr, hlk, hnm⟩ := id X
  have hl : lv_has ls 5 [(0, .ref h), (1, .int (nI j)), (2, .int w), (3, .int i), (4, .int k)] := hl
  have hP : va_P D classes (cat [[(h, .inr (12, fHo q x o16 o17 o18 o19 o20))], [(q 3, .inl (kA 7, 4, .inr (.inr (.inr (.inr (rr (g 3)))))))], [(g 3 j, .inr (0, fDr qd (va_up xd 1 ((-1)))))]]) s.heap := hP
  have hK : va_K D classes (TY kA) s := hK
  refine lv_iload_n (pc := 0) hx hb d_Ho_at_0 rfl (lv_at hl 1 rfl) ?_
  refine k_goI (gr := [[(h, .inr (12, fHo q x o16 o17 o18 o19 o20))], [(q 3, .inl (kA 7, 4, .inr (.inr (.inr (.inr (rr (g 3)))))))], [(g 3 j, .inr (0, fDr qd (va_up xd 1 ((-1)))))]]) (k_rS (pc := 1) (As := [.int (nI j)]) (rest := []) X (c_Ho_isPlace l D kA (nI j) s.heap.size) rfl wm_633 wm_1 wm_631 wm_632 1 (by decide +kernel) ⟨Nat.le_of_ble_eq_true rfl, Nat.le_of_ble_eq_true rfl⟩ rfl rfl (k_pre hN hK hP hD [] [0, 1, 2] 3 rfl (by decide) rfl) rfl hl.1 rfl (Nat.le_of_ble_eq_true rfl) d_Ho_at_1 ⟨Nat.le_of_ble_eq_true rfl, Nat.le_of_ble_eq_true rfl⟩) hP hD hS hA [] [0, 1, 2] 3 rfl (by decide) rfl rfl (fun r1 u2 H locs hu2 hP hD hS => ?_)
  subst hu2
  have hP : va_P D classes (cat [[(h, .inr (12, fHo q x o16 o17 o18 o19 o20))], [(q 3, .inl (kA 7, 4, .inr (.inr (.inr (.inr (rr (g 3)))))))], [(g 3 j, .inr (0, fDr qd (va_up xd 1 ((-1)))))]]) H := hP
  have hD : va_D A (cat [[(h, .inr (12, fHo q x o16 o17 o18 o19 o20))], [(q 3, .inl (kA 7, 4, .inr (.inr (.inr (.inr (rr (g 3)))))))], [(g 3 j, .inr (0, fDr qd (va_up xd 1 ((-1)))))]]) := hD
  refine lv_if_eq (pc := 4) (tgt := 23) hx hb d_Ho_at_4 (by decide) (fun c1 => absurd c1 (fun e => absurd ((place_ok hj).symm.trans e) (by decide))) (fun c1 => ?_)
  refine lv_aload_n (pc := 7) hx hb d_Ho_at_7 rfl (lv_at hl 0 rfl) ?_
  refine k_get (pc := 8) X hK hP 0 rfl rfl i_Ho 3 (by decide) wm_558 rfl rfl d_Ho_at_8 ?_
  refine lv_iload_n (pc := 11) hx hb d_Ho_at_11 rfl (lv_at hl 1 rfl) ?_
  refine k_ald (pc := 12) hx hb hK hP 1 7 rfl rfl (j) rfl (by omega) (by decide) (rr_at (by omega)) d_Ho_at_12 ?_
  refine lv_iload_n (pc := 13) hx hb d_Ho_at_13 rfl (lv_at hl 2 rfl) ?_
  refine lv_iload_n (pc := 14) hx hb d_Ho_at_14 rfl (lv_at hl 3 rfl) ?_
  refine lv_iload (pc := 15) hx hb d_Ho_at_15 (lv_at hl 4 rfl) ?_
  refine k_goI (gr := [[(h, .inr (12, fHo q x o16 o17 o18 o19 o20))], [(q 3, .inl (kA 7, 4, .inr (.inr (.inr (.inr (rr (g 3)))))))]]) (k_rV (pc := 17) (As := [.int w, .int i, .int k]) (rest := []) X (c_Dr_coordinate_nd l D kA (g 3 j) qd xd w i k H.size) rfl wm_1820 wm_8 wm_1817 wm_1818 wm_1819 3 (by decide +kernel) ⟨Nat.le_of_ble_eq_true rfl, Nat.le_of_ble_eq_true rfl⟩ rfl rfl (va_recv hK hP (ci := 0) (q0 := 2) rfl rfl) (k_pre hN hK hP hD [2] [0, 1] 3 rfl (by decide) rfl) rfl hl.1 rfl (Nat.le_of_ble_eq_true rfl) d_Ho_at_17 ⟨Nat.le_of_ble_eq_true rfl, Nat.le_of_ble_eq_true rfl⟩) hP hD hS hA [2] [0, 1] 3 rfl (by decide) rfl rfl (fun r3 u4 H locs hu4 hP hD hS => ?_)
  subst hu4
  have hP : va_P D classes (cat [[(h, .inr (12, fHo q x o16 o17 o18 o19 o20))], [(q 3, .inl (kA 7, 4, .inr (.inr (.inr (.inr (rr (g 3)))))))], [(g 3 j, .inr (0, fDr qd (va_up xd 1 ((-1)))))]]) H := hP
  have hD : va_D A (cat [[(h, .inr (12, fHo q x o16 o17 o18 o19 o20))], [(q 3, .inl (kA 7, 4, .inr (.inr (.inr (.inr (rr (g 3)))))))], [(g 3 j, .inr (0, fDr qd (va_up xd 1 ((-1)))))]]) := hD
  refine lv_goto (pc := 20) (tgt := 26) hx hb d_Ho_at_20 (by decide) ?_
  refine W.widen (k := 0) (n := 0) (Nat.le_of_ble_eq_true rfl) (Nat.le_of_ble_eq_true rfl) ?_
  exact W.iret (v := sp_Dr_coordinate_nd) hx hb hr (fun t ht hW => ⟨⟨sp_Dr_coordinate_nd, (), rfl, (by unfold sp_Ho_at_nd; rfl), by rw [ht]; exact hP, va_K.moved hW.alike hK, hD⟩, hS.F ht⟩) hS.2.2 d_Ho_at_26
def sp_Ho_told_no  : Int32 := (-1)
set_option maxRecDepth 100000 in
set_option maxHeartbeats 4000000 in
/-- DrawingHouse.told(III)I -/
theorem c_Ho_told_no (l : Launch) (D : va_G) (kA : Nat → ClassId) (h : Nat) (q : Nat → Nat) (x : Nat → Int32) (o16 o17 o18 o19 o20 : Option Nat) (gp : Int32) (w i : Int32) (hg : sp_Ho_isPlace gp = 0)  : Ci l y_Ho_told z_Ho_told { frames := 1, cells := 0, slots := 0, locals := 24 } D classes (TY kA) [.ref h, .int gp, .int w, .int i] [[(h, .inr (12, fHo q x o16 o17 o18 o19 o20))]] (fun r (_ : Unit) => r = sp_Ho_told_no ) (fun _ => [[(h, .inr (12, fHo q x o16 o17 o18 o19 o20))]]) 0 0 := by
  intro sz
  refine k_met (cc := b_Ho_told) (maxL := 4) (ret := (some .int)) (by decide) rfl (Nat.le_of_ble_eq_true rfl) (fun p e s m below meth c ls X hl hB => ?_)
  obtain ⟨hsz, hP, hK, hD0, hN⟩ := hB
  subst hsz
  have hD := hD0.self (sz := s.heap.size)
  generalize hAe : va_A (cat [[(h, .inr (12, fHo q x o16 o17 o18 o19 o20))]]) s.heap.size = A at hD ⊢
  have hA : ∀ q : Nat, s.heap.size ≤ q → A q := fun q h => by rw [← hAe]; exact Or.inr h
  have hS : va_S A s.heap s.heap [] := va_S.rf
  obtain ⟨hx, hb, hml, hown, hts, hr, hlk, hnm⟩ := id X
  have hl : lv_has ls 4 [(0, .ref h), (1, .int gp), (2, .int w), (3, .int i)] := hl
  have hP : va_P D classes (cat [[(h, .inr (12, fHo q x o16 o17 o18 o19 o20))]]) s.heap := hP
  have hK : va_K D classes (TY kA) s := hK
  refine lv_iload_n (pc := 0) hx hb d_Ho_told_0 rfl (lv_at hl 1 rfl) ?_
  refine k_goI (gr := [[(h, .inr (12, fHo q x o16 o17 o18 o19 o20))]]) (k_rS (pc := 1) (As := [.int gp]) (rest := []) X (c_Ho_isPlace l D kA gp s.heap.size) rfl wm_633 wm_1 wm_631 wm_632 1 (by decide +kernel) ⟨Nat.le_of_ble_eq_true rfl, Nat.le_of_ble_eq_true rfl⟩ rfl rfl (k_pre hN hK hP hD [] [0] 1 rfl (by decide) rfl) rfl hl.1 rfl (Nat.le_of_ble_eq_true rfl) d_Ho_told_1 ⟨Nat.le_of_ble_eq_true rfl, Nat.le_of_ble_eq_true rfl⟩) hP hD hS hA [] [0] 1 rfl (by decide) rfl rfl (fun r1 u2 H locs hu2 hP hD hS => ?_)
  subst hu2
  have hP : va_P D classes (cat [[(h, .inr (12, fHo q x o16 o17 o18 o19 o20))]]) H := hP
  have hD : va_D A (cat [[(h, .inr (12, fHo q x o16 o17 o18 o19 o20))]]) := hD
  refine lv_if_eq (pc := 4) (tgt := 21) hx hb d_Ho_told_4 (by decide) (fun c1 => ?_) (fun c1 => absurd (hg) c1)
  refine lv_iconst (pc := 21) (v := -1) hx hb d_Ho_told_21 (by decide) ?_
  refine W.widen (k := 0) (n := 0) (Nat.le_of_ble_eq_true rfl) (Nat.le_of_ble_eq_true rfl) ?_
  exact W.iret (v := ((-1))) hx hb hr (fun t ht hW => ⟨⟨((-1)), (), rfl, (by unfold sp_Ho_told_no; rfl), by rw [ht]; exact hP, va_K.moved hW.alike hK, hD⟩, hS.F ht⟩) hS.2.2 d_Ho_told_22
def sp_Ho_told_nd  : Int32 := sp_Dr_report_nd
set_option maxRecDepth 100000 in
set_option maxHeartbeats 4000000 in
/-- DrawingHouse.told(III)I -/
theorem c_Ho_told_nd (l : Launch) (D : va_G) (kA : Nat → ClassId) (h : Nat) (q : Nat → Nat) (x : Nat → Int32) (o16 o17 o18 o19 o20 : Option Nat) (g : Nat → Nat → Nat) (qd : Nat → Nat) (xd : Nat → Int32) (j : Nat) (hj : j < 4) (w i : Int32)  : Ci l y_Ho_told z_Ho_told { frames := 1, cells := 0, slots := 0, locals := 24 } D classes (TY kA) [.ref h, .int (nI j), .int w, .int i] [[(h, .inr (12, fHo q x o16 o17 o18 o19 o20))], [(q 3, .inl (kA 7, 4, .inr (.inr (.inr (.inr (rr (g 3)))))))], [(g 3 j, .inr (0, fDr qd (va_up xd 1 ((-1)))))]] (fun r (_ : Unit) => r = sp_Ho_told_nd ) (fun _ => [[(h, .inr (12, fHo q x o16 o17 o18 o19 o20))], [(q 3, .inl (kA 7, 4, .inr (.inr (.inr (.inr (rr (g 3)))))))], [(g 3 j, .inr (0, fDr qd (va_up xd 1 ((-1)))))]]) 0 0 := by
  intro sz
  refine k_met (cc := b_Ho_told) (maxL := 4) (ret := (some .int)) (by decide) rfl (Nat.le_of_ble_eq_true rfl) (fun p e s m below meth c ls X hl hB => ?_)
  obtain ⟨hsz, hP, hK, hD0, hN⟩ := hB
  subst hsz
  have hD := hD0.self (sz := s.heap.size)
  generalize hAe : va_A (cat [[(h, .inr (12, fHo q x o16 o17 o18 o19 o20))], [(q 3, .inl (kA 7, 4, .inr (.inr (.inr (.inr (rr (g 3)))))))], [(g 3 j, .inr (0, fDr qd (va_up xd 1 ((-1)))))]]) s.heap.size = A at hD ⊢
  have hA : ∀ q : Nat, s.heap.size ≤ q → A q := fun q h => by rw [← hAe]; exact Or.inr h
  have hS : va_S A s.heap s.heap [] := va_S.rf
  obtain ⟨hx, hb, hml, hown, hts, hr, hlk, hnm⟩ := id X
  have hl : lv_has ls 4 [(0, .ref h), (1, .int (nI j)), (2, .int w), (3, .int i)] := hl
  have hP : va_P D classes (cat [[(h, .inr (12, fHo q x o16 o17 o18 o19 o20))], [(q 3, .inl (kA 7, 4, .inr (.inr (.inr (.inr (rr (g 3)))))))], [(g 3 j, .inr (0, fDr qd (va_up xd 1 ((-1)))))]]) s.heap := hP
  have hK : va_K D classes (TY kA) s := hK
  refine lv_iload_n (pc := 0) hx hb d_Ho_told_0 rfl (lv_at hl 1 rfl) ?_
  refine k_goI (gr := [[(h, .inr (12, fHo q x o16 o17 o18 o19 o20))], [(q 3, .inl (kA 7, 4, .inr (.inr (.inr (.inr (rr (g 3)))))))], [(g 3 j, .inr (0, fDr qd (va_up xd 1 ((-1)))))]]) (k_rS (pc := 1) (As := [.int (nI j)]) (rest := []) X (c_Ho_isPlace l D kA (nI j) s.heap.size) rfl wm_633 wm_1 wm_631 wm_632 1 (by decide +kernel) ⟨Nat.le_of_ble_eq_true rfl, Nat.le_of_ble_eq_true rfl⟩ rfl rfl (k_pre hN hK hP hD [] [0, 1, 2] 3 rfl (by decide) rfl) rfl hl.1 rfl (Nat.le_of_ble_eq_true rfl) d_Ho_told_1 ⟨Nat.le_of_ble_eq_true rfl, Nat.le_of_ble_eq_true rfl⟩) hP hD hS hA [] [0, 1, 2] 3 rfl (by decide) rfl rfl (fun r1 u2 H locs hu2 hP hD hS => ?_)
  subst hu2
  have hP : va_P D classes (cat [[(h, .inr (12, fHo q x o16 o17 o18 o19 o20))], [(q 3, .inl (kA 7, 4, .inr (.inr (.inr (.inr (rr (g 3)))))))], [(g 3 j, .inr (0, fDr qd (va_up xd 1 ((-1)))))]]) H := hP
  have hD : va_D A (cat [[(h, .inr (12, fHo q x o16 o17 o18 o19 o20))], [(q 3, .inl (kA 7, 4, .inr (.inr (.inr (.inr (rr (g 3)))))))], [(g 3 j, .inr (0, fDr qd (va_up xd 1 ((-1)))))]]) := hD
  refine lv_if_eq (pc := 4) (tgt := 21) hx hb d_Ho_told_4 (by decide) (fun c1 => absurd c1 (fun e => absurd ((place_ok hj).symm.trans e) (by decide))) (fun c1 => ?_)
  refine lv_aload_n (pc := 7) hx hb d_Ho_told_7 rfl (lv_at hl 0 rfl) ?_
  refine k_get (pc := 8) X hK hP 0 rfl rfl i_Ho 3 (by decide) wm_558 rfl rfl d_Ho_told_8 ?_
  refine lv_iload_n (pc := 11) hx hb d_Ho_told_11 rfl (lv_at hl 1 rfl) ?_
  refine k_ald (pc := 12) hx hb hK hP 1 7 rfl rfl (j) rfl (by omega) (by decide) (rr_at (by omega)) d_Ho_told_12 ?_
  refine lv_iload_n (pc := 13) hx hb d_Ho_told_13 rfl (lv_at hl 2 rfl) ?_
  refine lv_iload_n (pc := 14) hx hb d_Ho_told_14 rfl (lv_at hl 3 rfl) ?_
  refine k_goI (gr := [[(h, .inr (12, fHo q x o16 o17 o18 o19 o20))], [(q 3, .inl (kA 7, 4, .inr (.inr (.inr (.inr (rr (g 3)))))))]]) (k_rV (pc := 15) (As := [.int w, .int i]) (rest := []) X (c_Dr_report_nd l D kA (g 3 j) qd xd w i H.size) rfl wm_1832 wm_8 wm_1829 wm_1830 wm_1831 2 (by decide +kernel) ⟨Nat.le_of_ble_eq_true rfl, Nat.le_of_ble_eq_true rfl⟩ rfl rfl (va_recv hK hP (ci := 0) (q0 := 2) rfl rfl) (k_pre hN hK hP hD [2] [0, 1] 3 rfl (by decide) rfl) rfl hl.1 rfl (Nat.le_of_ble_eq_true rfl) d_Ho_told_15 ⟨Nat.le_of_ble_eq_true rfl, Nat.le_of_ble_eq_true rfl⟩) hP hD hS hA [2] [0, 1] 3 rfl (by decide) rfl rfl (fun r3 u4 H locs hu4 hP hD hS => ?_)
  subst hu4
  have hP : va_P D classes (cat [[(h, .inr (12, fHo q x o16 o17 o18 o19 o20))], [(q 3, .inl (kA 7, 4, .inr (.inr (.inr (.inr (rr (g 3)))))))], [(g 3 j, .inr (0, fDr qd (va_up xd 1 ((-1)))))]]) H := hP
  have hD : va_D A (cat [[(h, .inr (12, fHo q x o16 o17 o18 o19 o20))], [(q 3, .inl (kA 7, 4, .inr (.inr (.inr (.inr (rr (g 3)))))))], [(g 3 j, .inr (0, fDr qd (va_up xd 1 ((-1)))))]]) := hD
  refine lv_goto (pc := 18) (tgt := 22) hx hb d_Ho_told_18 (by decide) ?_
  refine W.widen (k := 0) (n := 0) (Nat.le_of_ble_eq_true rfl) (Nat.le_of_ble_eq_true rfl) ?_
  exact W.iret (v := sp_Dr_report_nd) hx hb hr (fun t ht hW => ⟨⟨sp_Dr_report_nd, (), rfl, (by unfold sp_Ho_told_nd; rfl), by rw [ht]; exact hP, va_K.moved hW.alike hK, hD⟩, hS.F ht⟩) hS.2.2 d_Ho_told_22
def sp_Ho_put_no  : Int32 := 0
set_option maxRecDepth 100000 in
set_option maxHeartbeats 4000000 in
/-- DrawingHouse.put(IIIII)Z -/
theorem c_Ho_put_no (l : Launch) (D : va_G) (kA : Nat → ClassId) (h : Nat) (q : Nat → Nat) (x : Nat → Int32) (o16 o17 o18 o19 o20 : Option Nat) (gp : Int32) (i k px py : Int32) (hg : sp_Ho_isPlace gp = 0)  : Ci l y_Ho_put z_Ho_put { frames := 1, cells := 0, slots := 0, locals := 24 } D classes (TY kA) [.ref h, .int gp, .int i, .int k, .int px, .int py] [[(h, .inr (12, fHo q x o16 o17 o18 o19 o20))]] (fun r (_ : Unit) => r = sp_Ho_put_no ) (fun _ => [[(h, .inr (12, fHo q x o16 o17 o18 o19 o20))]]) 0 0 := by
  intro sz
  refine k_met (cc := b_Ho_put) (maxL := 6) (ret := (some .boolean)) (by decide) rfl (Nat.le_of_ble_eq_true rfl) (fun p e s m below meth c ls X hl hB => ?_)
  obtain ⟨hsz, hP, hK, hD0, hN⟩ := hB
  subst hsz
  have hD := hD0.self (sz := s.heap.size)
  generalize hAe : va_A (cat [[(h, .inr (12, fHo q x o16 o17 o18 o19 o20))]]) s.heap.size = A at hD ⊢
  have hA : ∀ q : Nat, s.heap.size ≤ q → A q := fun q h => by rw [← hAe]; exact Or.inr h
  have hS : va_S A s.heap s.heap [] := va_S.rf
  obtain ⟨hx, hb, hml, hown, hts, hr, hlk, hnm⟩ := id X
  have hl : lv_has ls 6 [(0, .ref h), (1, .int gp), (2, .int i), (3, .int k), (4, .int px), (5, .int py)] := hl
  have hP : va_P D classes (cat [[(h, .inr (12, fHo q x o16 o17 o18 o19 o20))]]) s.heap := hP
  have hK : va_K D classes (TY kA) s := hK
  refine lv_iload_n (pc := 0) hx hb d_Ho_put_0 rfl (lv_at hl 1 rfl) ?_
  refine k_goI (gr := [[(h, .inr (12, fHo q x o16 o17 o18 o19 o20))]]) (k_rS (pc := 1) (As := [.int gp]) (rest := []) X (c_Ho_isPlace l D kA gp s.heap.size) rfl wm_633 wm_1 wm_631 wm_632 1 (by decide +kernel) ⟨Nat.le_of_ble_eq_true rfl, Nat.le_of_ble_eq_true rfl⟩ rfl rfl (k_pre hN hK hP hD [] [0] 1 rfl (by decide) rfl) rfl hl.1 rfl (Nat.le_of_ble_eq_true rfl) d_Ho_put_1 ⟨Nat.le_of_ble_eq_true rfl, Nat.le_of_ble_eq_true rfl⟩) hP hD hS hA [] [0] 1 rfl (by decide) rfl rfl (fun r1 u2 H locs hu2 hP hD hS => ?_)
  subst hu2
  have hP : va_P D classes (cat [[(h, .inr (12, fHo q x o16 o17 o18 o19 o20))]]) H := hP
  have hD : va_D A (cat [[(h, .inr (12, fHo q x o16 o17 o18 o19 o20))]]) := hD
  refine lv_if_eq (pc := 4) (tgt := 29) hx hb d_Ho_put_4 (by decide) (fun c1 => ?_) (fun c1 => absurd (hg) c1)
  refine lv_iconst (pc := 29) (v := 0) hx hb d_Ho_put_29 (by decide) ?_
  refine W.widen (k := 0) (n := 0) (Nat.le_of_ble_eq_true rfl) (Nat.le_of_ble_eq_true rfl) ?_
  exact W.zret (v := 0) hx hb hr rfl (fun t ht hW => ⟨⟨0, (), rfl, (by unfold sp_Ho_put_no; rfl), by rw [ht]; exact hP, va_K.moved hW.alike hK, hD⟩, hS.F ht⟩) hS.2.2 d_Ho_put_30
def sp_Ho_put_nd  : Int32 := 0
set_option maxRecDepth 100000 in
set_option maxHeartbeats 4000000 in
/-- DrawingHouse.put(IIIII)Z -/
theorem c_Ho_put_nd (l : Launch) (D : va_G) (kA : Nat → ClassId) (h : Nat) (q : Nat → Nat) (x : Nat → Int32) (o16 o17 o18 o19 o20 : Option Nat) (g : Nat → Nat → Nat) (qd : Nat → Nat) (xd : Nat → Int32) (j : Nat) (hj : j < 4) (i k px py : Int32)  : Ci l y_Ho_put z_Ho_put { frames := 1, cells := 0, slots := 0, locals := 24 } D classes (TY kA) [.ref h, .int (nI j), .int i, .int k, .int px, .int py] [[(h, .inr (12, fHo q x o16 o17 o18 o19 o20))], [(q 3, .inl (kA 7, 4, .inr (.inr (.inr (.inr (rr (g 3)))))))], [(g 3 j, .inr (0, fDr qd (va_up xd 1 ((-1)))))]] (fun r (_ : Unit) => r = sp_Ho_put_nd ) (fun _ => [[(h, .inr (12, fHo q x o16 o17 o18 o19 o20))], [(q 3, .inl (kA 7, 4, .inr (.inr (.inr (.inr (rr (g 3)))))))], [(g 3 j, .inr (0, fDr qd (va_up xd 1 ((-1)))))]]) 0 0 := by
  intro sz
  refine k_met (cc := b_Ho_put) (maxL := 6) (ret := (some .boolean)) (by decide) rfl (Nat.le_of_ble_eq_true rfl) (fun p e s m below meth c ls X hl hB => ?_)
  obtain ⟨hsz, hP, hK, hD0, hN⟩ := hB
  subst hsz
  have hD := hD0.self (sz := s.heap.size)
  generalize hAe : va_A (cat [[(h, .inr (12, fHo q x o16 o17 o18 o19 o20))], [(q 3, .inl (kA 7, 4, .inr (.inr (.inr (.inr (rr (g 3)))))))], [(g 3 j, .inr (0, fDr qd (va_up xd 1 ((-1)))))]]) s.heap.size = A at hD ⊢
  have hA : ∀ q : Nat, s.heap.size ≤ q → A q := fun q h => by rw [← hAe]; exact Or.inr h
  have hS : va_S A s.heap s.heap [] := va_S.rf
  obtain ⟨hx, hb, hml, hown, hts, hr, hlk, hnm⟩ := id X
  have hl : lv_has ls 6 [(0, .ref h), (1, .int (nI j)), (2, .int i), (3, .int k), (4, .int px), (5, .int py)] := hl
  have hP : va_P D classes (cat [[(h, .inr (12, fHo q x o16 o17 o18 o19 o20))], [(q 3, .inl (kA 7, 4, .inr (.inr (.inr (.inr (rr (g 3)))))))], [(g 3 j, .inr (0, fDr qd (va_up xd 1 ((-1)))))]]) s.heap := hP
  have hK : va_K D classes (TY kA) s := hK
  refine lv_iload_n (pc := 0) hx hb d_Ho_put_0 rfl (lv_at hl 1 rfl) ?_
  refine k_goI (gr := [[(h, .inr (12, fHo q x o16 o17 o18 o19 o20))], [(q 3, .inl (kA 7, 4, .inr (.inr (.inr (.inr (rr (g 3)))))))], [(g 3 j, .inr (0, fDr qd (va_up xd 1 ((-1)))))]]) (k_rS (pc := 1) (As := [.int (nI j)]) (rest := []) X (c_Ho_isPlace l D kA (nI j) s.heap.size) rfl wm_633 wm_1 wm_631 wm_632 1 (by decide +kernel) ⟨Nat.le_of_ble_eq_true rfl, Nat.le_of_ble_eq_true rfl⟩ rfl rfl (k_pre hN hK hP hD [] [0, 1, 2] 3 rfl (by decide) rfl) rfl hl.1 rfl (Nat.le_of_ble_eq_true rfl) d_Ho_put_1 ⟨Nat.le_of_ble_eq_true rfl, Nat.le_of_ble_eq_true rfl⟩) hP hD hS hA [] [0, 1, 2] 3 rfl (by decide) rfl rfl (fun r1 u2 H locs hu2 hP hD hS => ?_)
  subst hu2
  have hP : va_P D classes (cat [[(h, .inr (12, fHo q x o16 o17 o18 o19 o20))], [(q 3, .inl (kA 7, 4, .inr (.inr (.inr (.inr (rr (g 3)))))))], [(g 3 j, .inr (0, fDr qd (va_up xd 1 ((-1)))))]]) H := hP
  have hD : va_D A (cat [[(h, .inr (12, fHo q x o16 o17 o18 o19 o20))], [(q 3, .inl (kA 7, 4, .inr (.inr (.inr (.inr (rr (g 3)))))))], [(g 3 j, .inr (0, fDr qd (va_up xd 1 ((-1)))))]]) := hD
  refine lv_if_eq (pc := 4) (tgt := 29) hx hb d_Ho_put_4 (by decide) (fun c1 => absurd c1 (fun e => absurd ((place_ok hj).symm.trans e) (by decide))) (fun c1 => ?_)
  refine lv_aload_n (pc := 7) hx hb d_Ho_put_7 rfl (lv_at hl 0 rfl) ?_
  refine k_get (pc := 8) X hK hP 0 rfl rfl i_Ho 3 (by decide) wm_558 rfl rfl d_Ho_put_8 ?_
  refine lv_iload_n (pc := 11) hx hb d_Ho_put_11 rfl (lv_at hl 1 rfl) ?_
  refine k_ald (pc := 12) hx hb hK hP 1 7 rfl rfl (j) rfl (by omega) (by decide) (rr_at (by omega)) d_Ho_put_12 ?_
  refine lv_iload_n (pc := 13) hx hb d_Ho_put_13 rfl (lv_at hl 2 rfl) ?_
  refine lv_iload_n (pc := 14) hx hb d_Ho_put_14 rfl (lv_at hl 3 rfl) ?_
  refine lv_iload (pc := 15) hx hb d_Ho_put_15 (lv_at hl 4 rfl) ?_
  refine lv_iload (pc := 17) hx hb d_Ho_put_17 (lv_at hl 5 rfl) ?_
  refine k_goI (gr := [[(h, .inr (12, fHo q x o16 o17 o18 o19 o20))], [(q 3, .inl (kA 7, 4, .inr (.inr (.inr (.inr (rr (g 3)))))))]]) (k_rV (pc := 19) (As := [.int i, .int k, .int px, .int py]) (rest := []) X (c_Dr_move_nd l D kA (g 3 j) qd xd i k px py H.size) rfl wm_1849 wm_8 wm_1846 wm_1847 wm_1848 4 (by decide +kernel) ⟨Nat.le_of_ble_eq_true rfl, Nat.le_of_ble_eq_true rfl⟩ rfl rfl (va_recv hK hP (ci := 0) (q0 := 2) rfl rfl) (k_pre hN hK hP hD [2] [0, 1] 3 rfl (by decide) rfl) rfl hl.1 rfl (Nat.le_of_ble_eq_true rfl) d_Ho_put_19 ⟨Nat.le_of_ble_eq_true rfl, Nat.le_of_ble_eq_true rfl⟩) hP hD hS hA [2] [0, 1] 3 rfl (by decide) rfl rfl (fun r3 u4 H locs hu4 hP hD hS => ?_)
  subst hu4
  have hP : va_P D classes (cat [[(h, .inr (12, fHo q x o16 o17 o18 o19 o20))], [(q 3, .inl (kA 7, 4, .inr (.inr (.inr (.inr (rr (g 3)))))))], [(g 3 j, .inr (0, fDr qd (va_up xd 1 ((-1)))))]]) H := hP
  have hD : va_D A (cat [[(h, .inr (12, fHo q x o16 o17 o18 o19 o20))], [(q 3, .inl (kA 7, 4, .inr (.inr (.inr (.inr (rr (g 3)))))))], [(g 3 j, .inr (0, fDr qd (va_up xd 1 ((-1)))))]]) := hD
  refine lv_if_eq (pc := 22) (tgt := 29) hx hb d_Ho_put_22 (by decide) (fun c1 => ?_) (fun c1 => absurd (by rfl) c1)
  refine lv_iconst (pc := 29) (v := 0) hx hb d_Ho_put_29 (by decide) ?_
  refine W.widen (k := 0) (n := 0) (Nat.le_of_ble_eq_true rfl) (Nat.le_of_ble_eq_true rfl) ?_
  exact W.zret (v := 0) hx hb hr rfl (fun t ht hW => ⟨⟨0, (), rfl, (by unfold sp_Ho_put_nd; rfl), by rw [ht]; exact hP, va_K.moved hW.alike hK, hD⟩, hS.F ht⟩) hS.2.2 d_Ho_put_30
def sp_Ho_hasDrawing_no  : Int32 := 0
set_option maxRecDepth 100000 in
set_option maxHeartbeats 4000000 in
/-- DrawingHouse.hasDrawing(I)Z -/
theorem c_Ho_hasDrawing_no (l : Launch) (D : va_G) (kA : Nat → ClassId) (h : Nat) (q : Nat → Nat) (x : Nat → Int32) (o16 o17 o18 o19 o20 : Option Nat) (gp : Int32) (hg : sp_Ho_isPlace gp = 0)  : Ci l y_Ho_hasDrawing z_Ho_hasDrawing { frames := 1, cells := 0, slots := 0, locals := 24 } D classes (TY kA) [.ref h, .int gp] [[(h, .inr (12, fHo q x o16 o17 o18 o19 o20))]] (fun r (_ : Unit) => r = sp_Ho_hasDrawing_no ) (fun _ => [[(h, .inr (12, fHo q x o16 o17 o18 o19 o20))]]) 0 0 := by
  intro sz
  refine k_met (cc := b_Ho_hasDrawing) (maxL := 2) (ret := (some .boolean)) (by decide) rfl (Nat.le_of_ble_eq_true rfl) (fun p e s m below meth c ls X hl hB => ?_)
  obtain ⟨hsz, hP, hK, hD0, hN⟩ := hB
  subst hsz
  have hD := hD0.self (sz := s.heap.size)
  generalize hAe : va_A (cat [[(h, .inr (12, fHo q x o16 o17 o18 o19 o20))]]) s.heap.size = A at hD ⊢
  have hA : ∀ q : Nat, s.heap.size ≤ q → A q := fun q h => by rw [← hAe]; exact Or.inr h
  have hS : va_S A s.heap s.heap [] := va_S.rf
  obtain ⟨hx, hb, hml, hown, hts, hr, hlk, hnm⟩ := id X
  have hl : lv_has ls 2 [(0, .ref h), (1, .int gp)] := hl
  have hP : va_P D classes (cat [[(h, .inr (12, fHo q x o16 o17 o18 o19 o20))]]) s.heap := hP
  have hK : va_K D classes (TY kA) s := hK
  refine lv_iload_n (pc := 0) hx hb d_Ho_hasDrawing_0 rfl (lv_at hl 1 rfl) ?_
  refine k_goI (gr := [[(h, .inr (12, fHo q x o16 o17 o18 o19 o20))]]) (k_rS (pc := 1) (As := [.int gp]) (rest := []) X (c_Ho_isPlace l D kA gp s.heap.size) rfl wm_633 wm_1 wm_631 wm_632 1 (by decide +kernel) ⟨Nat.le_of_ble_eq_true rfl, Nat.le_of_ble_eq_true rfl⟩ rfl rfl (k_pre hN hK hP hD [] [0] 1 rfl (by decide) rfl) rfl hl.1 rfl (Nat.le_of_ble_eq_true rfl) d_Ho_hasDrawing_1 ⟨Nat.le_of_ble_eq_true rfl, Nat.le_of_ble_eq_true rfl⟩) hP hD hS hA [] [0] 1 rfl (by decide) rfl rfl (fun r1 u2 H locs hu2 hP hD hS => ?_)
  subst hu2
  have hP : va_P D classes (cat [[(h, .inr (12, fHo q x o16 o17 o18 o19 o20))]]) H := hP
  have hD : va_D A (cat [[(h, .inr (12, fHo q x o16 o17 o18 o19 o20))]]) := hD
  refine lv_if_eq (pc := 4) (tgt := 24) hx hb d_Ho_hasDrawing_4 (by decide) (fun c1 => ?_) (fun c1 => absurd (hg) c1)
  refine lv_iconst (pc := 24) (v := 0) hx hb d_Ho_hasDrawing_24 (by decide) ?_
  refine W.widen (k := 0) (n := 0) (Nat.le_of_ble_eq_true rfl) (Nat.le_of_ble_eq_true rfl) ?_
  exact W.zret (v := 0) hx hb hr rfl (fun t ht hW => ⟨⟨0, (), rfl, (by unfold sp_Ho_hasDrawing_no; rfl), by rw [ht]; exact hP, va_K.moved hW.alike hK, hD⟩, hS.F ht⟩) hS.2.2 d_Ho_hasDrawing_25
def sp_Ho_hasDrawing_nd  : Int32 := 0
set_option maxRecDepth 100000 in
set_option maxHeartbeats 4000000 in
/-- DrawingHouse.hasDrawing(I)Z -/
theorem c_Ho_hasDrawing_nd (l : Launch) (D : va_G) (kA : Nat → ClassId) (h : Nat) (q : Nat → Nat) (x : Nat → Int32) (o16 o17 o18 o19 o20 : Option Nat) (g : Nat → Nat → Nat) (qd : Nat → Nat) (xd : Nat → Int32) (j : Nat) (hj : j < 4)  : Ci l y_Ho_hasDrawing z_Ho_hasDrawing { frames := 1, cells := 0, slots := 0, locals := 24 } D classes (TY kA) [.ref h, .int (nI j)] [[(h, .inr (12, fHo q x o16 o17 o18 o19 o20))], [(q 3, .inl (kA 7, 4, .inr (.inr (.inr (.inr (rr (g 3)))))))], [(g 3 j, .inr (0, fDr qd (va_up xd 1 ((-1)))))]] (fun r (_ : Unit) => r = sp_Ho_hasDrawing_nd ) (fun _ => [[(h, .inr (12, fHo q x o16 o17 o18 o19 o20))], [(q 3, .inl (kA 7, 4, .inr (.inr (.inr (.inr (rr (g 3)))))))], [(g 3 j, .inr (0, fDr qd (va_up xd 1 ((-1)))))]]) 0 0 := by
  intro sz
  refine k_met (cc := b_Ho_hasDrawing) (maxL := 2) (ret := (some .boolean)) (by decide) rfl (Nat.le_of_ble_eq_true rfl) (fun p e s m below meth c ls X hl hB => ?_)
  obtain ⟨hsz, hP, hK, hD0, hN⟩ := hB
  subst hsz
  have hD := hD0.self (sz := s.heap.size)
  generalize hAe : va_A (cat [[(h, .inr (12, fHo q x o16 o17 o18 o19 o20))], [(q 3, .inl (kA 7, 4, .inr (.inr (.inr (.inr (rr (g 3)))))))], [(g 3 j, .inr (0, fDr qd (va_up xd 1 ((-1)))))]]) s.heap.size = A at hD ⊢
  have hA : ∀ q : Nat, s.heap.size ≤ q → A q := fun q h => by rw [← hAe]; exact Or.inr h
  have hS : va_S A s.heap s.heap [] := va_S.rf
  obtain ⟨hx, hb, hml, hown, hts, hr, hlk, hnm⟩ := id X
  have hl : lv_has ls 2 [(0, .ref h), (1, .int (nI j))] := hl
  have hP : va_P D classes (cat [[(h, .inr (12, fHo q x o16 o17 o18 o19 o20))], [(q 3, .inl (kA 7, 4, .inr (.inr (.inr (.inr (rr (g 3)))))))], [(g 3 j, .inr (0, fDr qd (va_up xd 1 ((-1)))))]]) s.heap := hP
  have hK : va_K D classes (TY kA) s := hK
  refine lv_iload_n (pc := 0) hx hb d_Ho_hasDrawing_0 rfl (lv_at hl 1 rfl) ?_
  refine k_goI (gr := [[(h, .inr (12, fHo q x o16 o17 o18 o19 o20))], [(q 3, .inl (kA 7, 4, .inr (.inr (.inr (.inr (rr (g 3)))))))], [(g 3 j, .inr (0, fDr qd (va_up xd 1 ((-1)))))]]) (k_rS (pc := 1) (As := [.int (nI j)]) (rest := []) X (c_Ho_isPlace l D kA (nI j) s.heap.size) rfl wm_633 wm_1 wm_631 wm_632 1 (by decide +kernel) ⟨Nat.le_of_ble_eq_true rfl, Nat.le_of_ble_eq_true rfl⟩ rfl rfl (k_pre hN hK hP hD [] [0, 1, 2] 3 rfl (by decide) rfl) rfl hl.1 rfl (Nat.le_of_ble_eq_true rfl) d_Ho_hasDrawing_1 ⟨Nat.le_of_ble_eq_true rfl, Nat.le_of_ble_eq_true rfl⟩) hP hD hS hA [] [0, 1, 2] 3 rfl (by decide) rfl rfl (fun r1 u2 H locs hu2 hP hD hS => ?_)
  subst hu2
  have hP : va_P D classes (cat [[(h, .inr (12, fHo q x o16 o17 o18 o19 o20))], [(q 3, .inl (kA 7, 4, .inr (.inr (.inr (.inr (rr (g 3)))))))], [(g 3 j, .inr (0, fDr qd (va_up xd 1 ((-1)))))]]) H := hP
  have hD : va_D A (cat [[(h, .inr (12, fHo q x o16 o17 o18 o19 o20))], [(q 3, .inl (kA 7, 4, .inr (.inr (.inr (.inr (rr (g 3)))))))], [(g 3 j, .inr (0, fDr qd (va_up xd 1 ((-1)))))]]) := hD
  refine lv_if_eq (pc := 4) (tgt := 24) hx hb d_Ho_hasDrawing_4 (by decide) (fun c1 => absurd c1 (fun e => absurd ((place_ok hj).symm.trans e) (by decide))) (fun c1 => ?_)
  refine lv_aload_n (pc := 7) hx hb d_Ho_hasDrawing_7 rfl (lv_at hl 0 rfl) ?_
  refine k_get (pc := 8) X hK hP 0 rfl rfl i_Ho 3 (by decide) wm_558 rfl rfl d_Ho_hasDrawing_8 ?_
  refine lv_iload_n (pc := 11) hx hb d_Ho_hasDrawing_11 rfl (lv_at hl 1 rfl) ?_
  refine k_ald (pc := 12) hx hb hK hP 1 7 rfl rfl (j) rfl (by omega) (by decide) (rr_at (by omega)) d_Ho_hasDrawing_12 ?_
  refine k_get (pc := 13) (v := .int ((-1))) X hK hP 2 rfl rfl i_Dr 1 (by decide) wm_467 rfl rfl d_Ho_hasDrawing_13 ?_
  refine lv_iconst (pc := 16) (v := -1) hx hb d_Ho_hasDrawing_16 (by decide) ?_
  refine lv_icmp_eq (pc := 17) (tgt := 24) hx hb d_Ho_hasDrawing_17 (by decide) (fun _ => ?_) (fun c1 => absurd (by decide) c1)
  refine lv_iconst (pc := 24) (v := 0) hx hb d_Ho_hasDrawing_24 (by decide) ?_
  refine W.widen (k := 0) (n := 0) (Nat.le_of_ble_eq_true rfl) (Nat.le_of_ble_eq_true rfl) ?_
  exact W.zret (v := 0) hx hb hr rfl (fun t ht hW => ⟨⟨0, (), rfl, (by unfold sp_Ho_hasDrawing_nd; rfl), by rw [ht]; exact hP, va_K.moved hW.alike hK, hD⟩, hS.F ht⟩) hS.2.2 d_Ho_hasDrawing_25
