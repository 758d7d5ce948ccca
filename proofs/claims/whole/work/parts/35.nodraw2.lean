theorem wm_1855 : (Cond.code ({ cls := "DrawingHouse", name := "route", desc := "(II)I" } : MethodName) prog_1_method_21_code (3 : Nat) (Option.some ClassFile.FieldType.int) : Cond) ∈ lw_g := lw_gi (lw_c8 (List.mem_of_getElem? (i := 175) rfl)) rfl
theorem wm_1856 : (Cond.methodLink "DrawingHouse" (323 : Nat) ({ cls := "DrawingHouse", name := "hasDrawing", desc := "(I)Z" } : MethodName) : Cond) ∈ lw_g := lw_gi (lw_c8 (List.mem_of_getElem? (i := 176) rfl)) rfl
theorem wm_1858 : (Cond.instanceMethod ({ cls := "DrawingHouse", name := "hasDrawing", desc := "(I)Z" } : MethodName) : Cond) ∈ lw_g := lw_gi (lw_c8 (List.mem_of_getElem? (i := 178) rfl)) rfl
theorem wm_1974 : (Cond.code ({ cls := "DrawingHouse", name := "label", desc := "(III)I" } : MethodName) prog_1_method_22_code (4 : Nat) (Option.some ClassFile.FieldType.int) : Cond) ∈ lw_g := lw_gi (lw_c9 (List.mem_of_getElem? (i := 54) rfl)) rfl
theorem wm_2005 : (Cond.code ({ cls := "DrawingHouse", name := "judge", desc := "(II)J" } : MethodName) prog_1_method_23_code (3 : Nat) (Option.some ClassFile.FieldType.long) : Cond) ∈ lw_g := lw_gi (lw_c9 (List.mem_of_getElem? (i := 85) rfl)) rfl
theorem wm_2084 : (Cond.constantLong "DrawingHouse" (340 : Nat) (-1 : Int64) : Cond) ∈ lw_g := lw_gi (lw_c9 (List.mem_of_getElem? (i := 164) rfl)) rfl
theorem wm_2386 : (Cond.code ({ cls := "DrawingHouse", name := "dots", desc := "(III)I" } : MethodName) prog_1_method_28_code (8 : Nat) (Option.some ClassFile.FieldType.int) : Cond) ∈ lw_g := lw_gi (lw_c10 (List.mem_of_getElem? (i := 226) rfl)) rfl
theorem wm_2976 : (Cond.methodLink "DrawingHouseModel" (521 : Nat) ({ cls := "DrawingHouseModel", name := "isPlace", desc := "(I)Z" } : MethodName) : Cond) ∈ lw_g := lw_gi (lw_c13 (List.mem_of_getElem? (i := 96) rfl)) rfl
theorem wm_2977 : (Cond.static ({ cls := "DrawingHouseModel", name := "isPlace", desc := "(I)Z" } : MethodName) : Cond) ∈ lw_g := lw_gi (lw_c13 (List.mem_of_getElem? (i := 97) rfl)) rfl
theorem wm_3625 : (Cond.constantLong "DrawingHouseModel" (1007 : Nat) (-1 : Int64) : Cond) ∈ lw_g := lw_gi (lw_c16 (List.mem_of_getElem? (i := 25) rfl)) rfl
theorem wm_3652 : (Cond.code ({ cls := "DrawingHouseModel", name := "at", desc := "(IIII)I" } : MethodName) prog_15_method_108_code (6 : Nat) (Option.some ClassFile.FieldType.int) : Cond) ∈ lw_g := lw_gi (lw_c16 (List.mem_of_getElem? (i := 52) rfl)) rfl
theorem wm_3653 : (Cond.constant "DrawingHouseModel" (775 : Nat) (-2147483648 : Int32) : Cond) ∈ lw_g := lw_gi (lw_c16 (List.mem_of_getElem? (i := 53) rfl)) rfl
theorem wm_3657 : (Cond.code ({ cls := "DrawingHouseModel", name := "told", desc := "(III)I" } : MethodName) prog_15_method_109_code (6 : Nat) (Option.some ClassFile.FieldType.int) : Cond) ∈ lw_g := lw_gi (lw_c16 (List.mem_of_getElem? (i := 57) rfl)) rfl
theorem wm_3661 : (Cond.code ({ cls := "DrawingHouseModel", name := "put", desc := "(IIIII)Z" } : MethodName) prog_15_method_110_code (6 : Nat) (Option.some ClassFile.FieldType.boolean) : Cond) ∈ lw_g := lw_gi (lw_c16 (List.mem_of_getElem? (i := 61) rfl)) rfl
theorem wm_3665 : (Cond.code ({ cls := "DrawingHouseModel", name := "route", desc := "(II)I" } : MethodName) prog_15_method_187_code (7 : Nat) (Option.some ClassFile.FieldType.int) : Cond) ∈ lw_g := lw_gi (lw_c16 (List.mem_of_getElem? (i := 65) rfl)) rfl
theorem wm_3666 : (Cond.methodLink "DrawingHouseModel" (1032 : Nat) ({ cls := "DrawingHouseModel", name := "isDrawn", desc := "(I)Z" } : MethodName) : Cond) ∈ lw_g := lw_gi (lw_c16 (List.mem_of_getElem? (i := 66) rfl)) rfl
theorem wm_3668 : (Cond.instanceMethod ({ cls := "DrawingHouseModel", name := "isDrawn", desc := "(I)Z" } : MethodName) : Cond) ∈ lw_g := lw_gi (lw_c16 (List.mem_of_getElem? (i := 68) rfl)) rfl
theorem wm_3669 : (Cond.code ({ cls := "DrawingHouseModel", name := "isDrawn", desc := "(I)Z" } : MethodName) prog_15_method_180_code (2 : Nat) (Option.some ClassFile.FieldType.boolean) : Cond) ∈ lw_g := lw_gi (lw_c16 (List.mem_of_getElem? (i := 69) rfl)) rfl
theorem wm_3718 : (Cond.code ({ cls := "DrawingHouseModel", name := "label", desc := "(III)I" } : MethodName) prog_15_method_196_code (5 : Nat) (Option.some ClassFile.FieldType.int) : Cond) ∈ lw_g := lw_gi (lw_c16 (List.mem_of_getElem? (i := 118) rfl)) rfl
theorem wm_3738 : (Cond.code ({ cls := "DrawingHouseModel", name := "judge", desc := "(II)J" } : MethodName) prog_15_method_205_code (9 : Nat) (Option.some ClassFile.FieldType.long) : Cond) ∈ lw_g := lw_gi (lw_c16 (List.mem_of_getElem? (i := 138) rfl)) rfl
theorem wm_3952 : (Cond.code ({ cls := "DrawingHouseModel", name := "dots", desc := "(III)I" } : MethodName) prog_15_method_242_code (6 : Nat) (Option.some ClassFile.FieldType.int) : Cond) ∈ lw_g := lw_gi (lw_c17 (List.mem_of_getElem? (i := 112) rfl)) rfl
theorem wv_8_15 : (Cond.selects "DrawingHouse" ⟨"DrawingHouse", "hasDrawing", "(I)Z"⟩ ⟨"DrawingHouse", "hasDrawing", "(I)Z"⟩ : Cond) ∈ lw_g := lw_gi (List.mem_append_left _ (List.mem_map.mpr ⟨_, lw_v8 (List.mem_of_getElem? (i := 15) rfl), rfl⟩)) rfl
theorem wv_21_13 : (Cond.selects "DrawingHouseModel" ⟨"DrawingHouseModel", "isDrawn", "(I)Z"⟩ ⟨"DrawingHouseModel", "isDrawn", "(I)Z"⟩ : Cond) ∈ lw_g := lw_gi (List.mem_append_left _ (List.mem_map.mpr ⟨_, lw_v21 (List.mem_of_getElem? (i := 13) rfl), rfl⟩)) rfl
abbrev b_Ho_route : ByteArray := prog_1_method_21_code
def y_Ho_route : MethodName := ⟨"DrawingHouse", "route", "(II)I"⟩
abbrev z_Ho_route : List Cond := Cond.code y_Ho_route b_Ho_route 3 (some .int) :: lw_g
theorem d_Ho_route_0 : decode b_Ho_route 0 = .ok (.aload_n 0, 1) := by decide +kernel
theorem d_Ho_route_1 : decode b_Ho_route 1 = .ok (.iload_n 1, 1) := by decide +kernel
theorem d_Ho_route_2 : decode b_Ho_route 2 = .ok (.invokevirtual 323, 3) := by decide +kernel
theorem d_Ho_route_5 : decode b_Ho_route 5 = .ok (.ifCond .eq 16, 3) := by decide +kernel
theorem d_Ho_route_8 : decode b_Ho_route 8 = .ok (.aload_n 0, 1) := by decide +kernel
theorem d_Ho_route_9 : decode b_Ho_route 9 = .ok (.getfield 13, 3) := by decide +kernel
theorem d_Ho_route_12 : decode b_Ho_route 12 = .ok (.iload_n 1, 1) := by decide +kernel
theorem d_Ho_route_13 : decode b_Ho_route 13 = .ok (.aaload, 1) := by decide +kernel
theorem d_Ho_route_14 : decode b_Ho_route 14 = .ok (.iload_n 2, 1) := by decide +kernel
theorem d_Ho_route_15 : decode b_Ho_route 15 = .ok (.invokevirtual 197, 3) := by decide +kernel
theorem d_Ho_route_18 : decode b_Ho_route 18 = .ok (.ifCond .ne 5, 3) := by decide +kernel
theorem d_Ho_route_21 : decode b_Ho_route 21 = .ok (.iconst (-1), 1) := by decide +kernel
theorem d_Ho_route_22 : decode b_Ho_route 22 = .ok (.ireturn, 1) := by decide +kernel
theorem d_Ho_route_23 : decode b_Ho_route 23 = .ok (.aload_n 0, 1) := by decide +kernel
theorem d_Ho_route_24 : decode b_Ho_route 24 = .ok (.getfield 98, 3) := by decide +kernel
theorem d_Ho_route_27 : decode b_Ho_route 27 = .ok (.ifnonnull 14, 3) := by decide +kernel
theorem d_Ho_route_30 : decode b_Ho_route 30 = .ok (.aload_n 0, 1) := by decide +kernel
theorem d_Ho_route_31 : decode b_Ho_route 31 = .ok (.new 326, 3) := by decide +kernel
theorem d_Ho_route_34 : decode b_Ho_route 34 = .ok (.dup, 1) := by decide +kernel
theorem d_Ho_route_35 : decode b_Ho_route 35 = .ok (.invokespecial 328, 3) := by decide +kernel
theorem d_Ho_route_38 : decode b_Ho_route 38 = .ok (.putfield 98, 3) := by decide +kernel
theorem d_Ho_route_41 : decode b_Ho_route 41 = .ok (.aload_n 0, 1) := by decide +kernel
theorem d_Ho_route_42 : decode b_Ho_route 42 = .ok (.getfield 98, 3) := by decide +kernel
theorem d_Ho_route_45 : decode b_Ho_route 45 = .ok (.aload_n 0, 1) := by decide +kernel
theorem d_Ho_route_46 : decode b_Ho_route 46 = .ok (.getfield 13, 3) := by decide +kernel
theorem d_Ho_route_49 : decode b_Ho_route 49 = .ok (.iload_n 1, 1) := by decide +kernel
theorem d_Ho_route_50 : decode b_Ho_route 50 = .ok (.aaload, 1) := by decide +kernel
theorem d_Ho_route_51 : decode b_Ho_route 51 = .ok (.aload_n 0, 1) := by decide +kernel
theorem d_Ho_route_52 : decode b_Ho_route 52 = .ok (.getfield 31, 3) := by decide +kernel
theorem d_Ho_route_55 : decode b_Ho_route 55 = .ok (.iload_n 1, 1) := by decide +kernel
theorem d_Ho_route_56 : decode b_Ho_route 56 = .ok (.aaload, 1) := by decide +kernel
theorem d_Ho_route_57 : decode b_Ho_route 57 = .ok (.iload_n 2, 1) := by decide +kernel
theorem d_Ho_route_58 : decode b_Ho_route 58 = .ok (.invokevirtual 329, 3) := by decide +kernel
theorem d_Ho_route_61 : decode b_Ho_route 61 = .ok (.ireturn, 1) := by decide +kernel
abbrev b_Ho_label : ByteArray := prog_1_method_22_code
def y_Ho_label : MethodName := ⟨"DrawingHouse", "label", "(III)I"⟩
abbrev z_Ho_label : List Cond := Cond.code y_Ho_label b_Ho_label 4 (some .int) :: lw_g
theorem d_Ho_label_0 : decode b_Ho_label 0 = .ok (.aload_n 0, 1) := by decide +kernel
theorem d_Ho_label_1 : decode b_Ho_label 1 = .ok (.iload_n 1, 1) := by decide +kernel
theorem d_Ho_label_2 : decode b_Ho_label 2 = .ok (.invokevirtual 323, 3) := by decide +kernel
theorem d_Ho_label_5 : decode b_Ho_label 5 = .ok (.ifCond .eq 25, 3) := by decide +kernel
theorem d_Ho_label_8 : decode b_Ho_label 8 = .ok (.aload_n 0, 1) := by decide +kernel
theorem d_Ho_label_9 : decode b_Ho_label 9 = .ok (.getfield 13, 3) := by decide +kernel
theorem d_Ho_label_12 : decode b_Ho_label 12 = .ok (.iload_n 1, 1) := by decide +kernel
theorem d_Ho_label_13 : decode b_Ho_label 13 = .ok (.aaload, 1) := by decide +kernel
theorem d_Ho_label_14 : decode b_Ho_label 14 = .ok (.iload_n 2, 1) := by decide +kernel
theorem d_Ho_label_15 : decode b_Ho_label 15 = .ok (.invokevirtual 197, 3) := by decide +kernel
theorem d_Ho_label_18 : decode b_Ho_label 18 = .ok (.ifCond .eq 12, 3) := by decide +kernel
theorem d_Ho_label_21 : decode b_Ho_label 21 = .ok (.iload_n 3, 1) := by decide +kernel
theorem d_Ho_label_22 : decode b_Ho_label 22 = .ok (.ifCond .lt 8, 3) := by decide +kernel
theorem d_Ho_label_25 : decode b_Ho_label 25 = .ok (.iload_n 3, 1) := by decide +kernel
theorem d_Ho_label_26 : decode b_Ho_label 26 = .ok (.iconst 1, 1) := by decide +kernel
theorem d_Ho_label_27 : decode b_Ho_label 27 = .ok (.if_icmp .le 7, 3) := by decide +kernel
theorem d_Ho_label_30 : decode b_Ho_label 30 = .ok (.ldc_w 315, 3) := by decide +kernel
theorem d_Ho_label_33 : decode b_Ho_label 33 = .ok (.ireturn, 1) := by decide +kernel
theorem d_Ho_label_34 : decode b_Ho_label 34 = .ok (.aload_n 0, 1) := by decide +kernel
theorem d_Ho_label_35 : decode b_Ho_label 35 = .ok (.getfield 31, 3) := by decide +kernel
theorem d_Ho_label_38 : decode b_Ho_label 38 = .ok (.iload_n 1, 1) := by decide +kernel
theorem d_Ho_label_39 : decode b_Ho_label 39 = .ok (.aaload, 1) := by decide +kernel
theorem d_Ho_label_40 : decode b_Ho_label 40 = .ok (.iload_n 2, 1) := by decide +kernel
theorem d_Ho_label_41 : decode b_Ho_label 41 = .ok (.iload_n 3, 1) := by decide +kernel
theorem d_Ho_label_42 : decode b_Ho_label 42 = .ok (.invokevirtual 333, 3) := by decide +kernel
theorem d_Ho_label_45 : decode b_Ho_label 45 = .ok (.ireturn, 1) := by decide +kernel
abbrev b_Ho_dots : ByteArray := prog_1_method_28_code
def y_Ho_dots : MethodName := ⟨"DrawingHouse", "dots", "(III)I"⟩
abbrev z_Ho_dots : List Cond := Cond.code y_Ho_dots b_Ho_dots 8 (some .int) :: lw_g
theorem d_Ho_dots_0 : decode b_Ho_dots 0 = .ok (.aload_n 0, 1) := by decide +kernel
theorem d_Ho_dots_1 : decode b_Ho_dots 1 = .ok (.iload_n 1, 1) := by decide +kernel
theorem d_Ho_dots_2 : decode b_Ho_dots 2 = .ok (.invokevirtual 323, 3) := by decide +kernel
theorem d_Ho_dots_5 : decode b_Ho_dots 5 = .ok (.ifCond .eq 25, 3) := by decide +kernel
theorem d_Ho_dots_8 : decode b_Ho_dots 8 = .ok (.iload_n 2, 1) := by decide +kernel
theorem d_Ho_dots_9 : decode b_Ho_dots 9 = .ok (.iconst 1, 1) := by decide +kernel
theorem d_Ho_dots_10 : decode b_Ho_dots 10 = .ok (.if_icmp .lt 20, 3) := by decide +kernel
theorem d_Ho_dots_13 : decode b_Ho_dots 13 = .ok (.iload_n 2, 1) := by decide +kernel
theorem d_Ho_dots_14 : decode b_Ho_dots 14 = .ok (.bipush 64, 2) := by decide +kernel
theorem d_Ho_dots_16 : decode b_Ho_dots 16 = .ok (.if_icmp .gt 14, 3) := by decide +kernel
theorem d_Ho_dots_19 : decode b_Ho_dots 19 = .ok (.iload_n 3, 1) := by decide +kernel
theorem d_Ho_dots_20 : decode b_Ho_dots 20 = .ok (.iconst 1, 1) := by decide +kernel
theorem d_Ho_dots_21 : decode b_Ho_dots 21 = .ok (.if_icmp .lt 9, 3) := by decide +kernel
theorem d_Ho_dots_24 : decode b_Ho_dots 24 = .ok (.iload_n 3, 1) := by decide +kernel
theorem d_Ho_dots_25 : decode b_Ho_dots 25 = .ok (.bipush 64, 2) := by decide +kernel
theorem d_Ho_dots_27 : decode b_Ho_dots 27 = .ok (.if_icmp .le 5, 3) := by decide +kernel
theorem d_Ho_dots_30 : decode b_Ho_dots 30 = .ok (.iconst (-1), 1) := by decide +kernel
theorem d_Ho_dots_31 : decode b_Ho_dots 31 = .ok (.ireturn, 1) := by decide +kernel
theorem d_Ho_dots_32 : decode b_Ho_dots 32 = .ok (.aload_n 0, 1) := by decide +kernel
theorem d_Ho_dots_33 : decode b_Ho_dots 33 = .ok (.iload_n 2, 1) := by decide +kernel
theorem d_Ho_dots_34 : decode b_Ho_dots 34 = .ok (.putfield 76, 3) := by decide +kernel
theorem d_Ho_dots_37 : decode b_Ho_dots 37 = .ok (.aload_n 0, 1) := by decide +kernel
theorem d_Ho_dots_38 : decode b_Ho_dots 38 = .ok (.iload_n 3, 1) := by decide +kernel
theorem d_Ho_dots_39 : decode b_Ho_dots 39 = .ok (.putfield 79, 3) := by decide +kernel
theorem d_Ho_dots_42 : decode b_Ho_dots 42 = .ok (.aload_n 0, 1) := by decide +kernel
theorem d_Ho_dots_43 : decode b_Ho_dots 43 = .ok (.getfield 73, 3) := by decide +kernel
theorem d_Ho_dots_46 : decode b_Ho_dots 46 = .ok (.iconst 0, 1) := by decide +kernel
theorem d_Ho_dots_47 : decode b_Ho_dots 47 = .ok (.invokestatic 375, 3) := by decide +kernel
theorem d_Ho_dots_50 : decode b_Ho_dots 50 = .ok (.aload_n 0, 1) := by decide +kernel
theorem d_Ho_dots_51 : decode b_Ho_dots 51 = .ok (.getfield 31, 3) := by decide +kernel
theorem d_Ho_dots_54 : decode b_Ho_dots 54 = .ok (.iload_n 1, 1) := by decide +kernel
theorem d_Ho_dots_55 : decode b_Ho_dots 55 = .ok (.aaload, 1) := by decide +kernel
theorem d_Ho_dots_56 : decode b_Ho_dots 56 = .ok (.astore 4, 2) := by decide +kernel
theorem d_Ho_dots_58 : decode b_Ho_dots 58 = .ok (.aload 4, 2) := by decide +kernel
theorem d_Ho_dots_60 : decode b_Ho_dots 60 = .ok (.invokevirtual 381, 3) := by decide +kernel
theorem d_Ho_dots_63 : decode b_Ho_dots 63 = .ok (.iconst 0, 1) := by decide +kernel
theorem d_Ho_dots_64 : decode b_Ho_dots 64 = .ok (.istore 5, 2) := by decide +kernel
theorem d_Ho_dots_66 : decode b_Ho_dots 66 = .ok (.iload 5, 2) := by decide +kernel
theorem d_Ho_dots_68 : decode b_Ho_dots 68 = .ok (.aload_n 0, 1) := by decide +kernel
theorem d_Ho_dots_69 : decode b_Ho_dots 69 = .ok (.getfield 13, 3) := by decide +kernel
theorem d_Ho_dots_72 : decode b_Ho_dots 72 = .ok (.iload_n 1, 1) := by decide +kernel
theorem d_Ho_dots_73 : decode b_Ho_dots 73 = .ok (.aaload, 1) := by decide +kernel
theorem d_Ho_dots_74 : decode b_Ho_dots 74 = .ok (.getfield 141, 3) := by decide +kernel
theorem d_Ho_dots_77 : decode b_Ho_dots 77 = .ok (.if_icmp .ge 60, 3) := by decide +kernel
theorem d_Ho_dots_80 : decode b_Ho_dots 80 = .ok (.iconst 1, 1) := by decide +kernel
theorem d_Ho_dots_81 : decode b_Ho_dots 81 = .ok (.aload 4, 2) := by decide +kernel
theorem d_Ho_dots_83 : decode b_Ho_dots 83 = .ok (.getfield 361, 3) := by decide +kernel
theorem d_Ho_dots_86 : decode b_Ho_dots 86 = .ok (.iconst 3, 1) := by decide +kernel
theorem d_Ho_dots_87 : decode b_Ho_dots 87 = .ok (.bipush 24, 2) := by decide +kernel
theorem d_Ho_dots_89 : decode b_Ho_dots 89 = .ok (.iload 5, 2) := by decide +kernel
theorem d_Ho_dots_91 : decode b_Ho_dots 91 = .ok (.iadd, 1) := by decide +kernel
theorem d_Ho_dots_92 : decode b_Ho_dots 92 = .ok (.imul, 1) := by decide +kernel
theorem d_Ho_dots_93 : decode b_Ho_dots 93 = .ok (.iaload, 1) := by decide +kernel
theorem d_Ho_dots_94 : decode b_Ho_dots 94 = .ok (.iadd, 1) := by decide +kernel
theorem d_Ho_dots_95 : decode b_Ho_dots 95 = .ok (.istore 6, 2) := by decide +kernel
theorem d_Ho_dots_97 : decode b_Ho_dots 97 = .ok (.iconst 0, 1) := by decide +kernel
theorem d_Ho_dots_98 : decode b_Ho_dots 98 = .ok (.istore 7, 2) := by decide +kernel
theorem d_Ho_dots_100 : decode b_Ho_dots 100 = .ok (.iload 7, 2) := by decide +kernel
theorem d_Ho_dots_102 : decode b_Ho_dots 102 = .ok (.aload 4, 2) := by decide +kernel
theorem d_Ho_dots_104 : decode b_Ho_dots 104 = .ok (.getfield 384, 3) := by decide +kernel
theorem d_Ho_dots_107 : decode b_Ho_dots 107 = .ok (.iload 5, 2) := by decide +kernel
theorem d_Ho_dots_109 : decode b_Ho_dots 109 = .ok (.iaload, 1) := by decide +kernel
theorem d_Ho_dots_110 : decode b_Ho_dots 110 = .ok (.if_icmp .gt 21, 3) := by decide +kernel
theorem d_Ho_dots_113 : decode b_Ho_dots 113 = .ok (.aload_n 0, 1) := by decide +kernel
theorem d_Ho_dots_114 : decode b_Ho_dots 114 = .ok (.aload 4, 2) := by decide +kernel
theorem d_Ho_dots_116 : decode b_Ho_dots 116 = .ok (.iload 5, 2) := by decide +kernel
theorem d_Ho_dots_118 : decode b_Ho_dots 118 = .ok (.iload 7, 2) := by decide +kernel
theorem d_Ho_dots_120 : decode b_Ho_dots 120 = .ok (.iload 6, 2) := by decide +kernel
theorem d_Ho_dots_122 : decode b_Ho_dots 122 = .ok (.invokevirtual 387, 3) := by decide +kernel
theorem d_Ho_dots_125 : decode b_Ho_dots 125 = .ok (.iinc 7 1, 3) := by decide +kernel
theorem d_Ho_dots_128 : decode b_Ho_dots 128 = .ok (.goto (-28), 3) := by decide +kernel
theorem d_Ho_dots_131 : decode b_Ho_dots 131 = .ok (.iinc 5 1, 3) := by decide +kernel
theorem d_Ho_dots_134 : decode b_Ho_dots 134 = .ok (.goto (-68), 3) := by decide +kernel
theorem d_Ho_dots_137 : decode b_Ho_dots 137 = .ok (.iconst 0, 1) := by decide +kernel
theorem d_Ho_dots_138 : decode b_Ho_dots 138 = .ok (.istore 5, 2) := by decide +kernel
theorem d_Ho_dots_140 : decode b_Ho_dots 140 = .ok (.iload 5, 2) := by decide +kernel
theorem d_Ho_dots_142 : decode b_Ho_dots 142 = .ok (.aload_n 0, 1) := by decide +kernel
theorem d_Ho_dots_143 : decode b_Ho_dots 143 = .ok (.getfield 13, 3) := by decide +kernel
theorem d_Ho_dots_146 : decode b_Ho_dots 146 = .ok (.iload_n 1, 1) := by decide +kernel
theorem d_Ho_dots_147 : decode b_Ho_dots 147 = .ok (.aaload, 1) := by decide +kernel
theorem d_Ho_dots_148 : decode b_Ho_dots 148 = .ok (.getfield 132, 3) := by decide +kernel
theorem d_Ho_dots_151 : decode b_Ho_dots 151 = .ok (.if_icmp .ge 61, 3) := by decide +kernel
theorem d_Ho_dots_154 : decode b_Ho_dots 154 = .ok (.sipush 128, 3) := by decide +kernel
theorem d_Ho_dots_157 : decode b_Ho_dots 157 = .ok (.aload 4, 2) := by decide +kernel
theorem d_Ho_dots_159 : decode b_Ho_dots 159 = .ok (.getfield 361, 3) := by decide +kernel
theorem d_Ho_dots_162 : decode b_Ho_dots 162 = .ok (.iconst 3, 1) := by decide +kernel
theorem d_Ho_dots_163 : decode b_Ho_dots 163 = .ok (.iload 5, 2) := by decide +kernel
theorem d_Ho_dots_165 : decode b_Ho_dots 165 = .ok (.imul, 1) := by decide +kernel
theorem d_Ho_dots_166 : decode b_Ho_dots 166 = .ok (.iaload, 1) := by decide +kernel
theorem d_Ho_dots_167 : decode b_Ho_dots 167 = .ok (.iconst 2, 1) := by decide +kernel
theorem d_Ho_dots_168 : decode b_Ho_dots 168 = .ok (.idiv, 1) := by decide +kernel
theorem d_Ho_dots_169 : decode b_Ho_dots 169 = .ok (.iadd, 1) := by decide +kernel
theorem d_Ho_dots_170 : decode b_Ho_dots 170 = .ok (.istore 6, 2) := by decide +kernel
theorem d_Ho_dots_172 : decode b_Ho_dots 172 = .ok (.aload_n 0, 1) := by decide +kernel
theorem d_Ho_dots_173 : decode b_Ho_dots 173 = .ok (.aload 4, 2) := by decide +kernel
theorem d_Ho_dots_175 : decode b_Ho_dots 175 = .ok (.aload 4, 2) := by decide +kernel
theorem d_Ho_dots_177 : decode b_Ho_dots 177 = .ok (.getfield 391, 3) := by decide +kernel
theorem d_Ho_dots_180 : decode b_Ho_dots 180 = .ok (.iload 5, 2) := by decide +kernel
theorem d_Ho_dots_182 : decode b_Ho_dots 182 = .ok (.iaload, 1) := by decide +kernel
theorem d_Ho_dots_183 : decode b_Ho_dots 183 = .ok (.iload_n 2, 1) := by decide +kernel
theorem d_Ho_dots_184 : decode b_Ho_dots 184 = .ok (.invokevirtual 394, 3) := by decide +kernel
theorem d_Ho_dots_187 : decode b_Ho_dots 187 = .ok (.aload 4, 2) := by decide +kernel
theorem d_Ho_dots_189 : decode b_Ho_dots 189 = .ok (.aload 4, 2) := by decide +kernel
theorem d_Ho_dots_191 : decode b_Ho_dots 191 = .ok (.getfield 397, 3) := by decide +kernel
theorem d_Ho_dots_194 : decode b_Ho_dots 194 = .ok (.iload 5, 2) := by decide +kernel
theorem d_Ho_dots_196 : decode b_Ho_dots 196 = .ok (.iaload, 1) := by decide +kernel
theorem d_Ho_dots_197 : decode b_Ho_dots 197 = .ok (.iload_n 3, 1) := by decide +kernel
theorem d_Ho_dots_198 : decode b_Ho_dots 198 = .ok (.invokevirtual 400, 3) := by decide +kernel
theorem d_Ho_dots_201 : decode b_Ho_dots 201 = .ok (.iload 6, 2) := by decide +kernel
theorem d_Ho_dots_203 : decode b_Ho_dots 203 = .ok (.invokevirtual 403, 3) := by decide +kernel
theorem d_Ho_dots_206 : decode b_Ho_dots 206 = .ok (.iinc 5 1, 3) := by decide +kernel
theorem d_Ho_dots_209 : decode b_Ho_dots 209 = .ok (.goto (-69), 3) := by decide +kernel
theorem d_Ho_dots_212 : decode b_Ho_dots 212 = .ok (.iconst 0, 1) := by decide +kernel
theorem d_Ho_dots_213 : decode b_Ho_dots 213 = .ok (.istore 5, 2) := by decide +kernel
theorem d_Ho_dots_215 : decode b_Ho_dots 215 = .ok (.iconst 0, 1) := by decide +kernel
theorem d_Ho_dots_216 : decode b_Ho_dots 216 = .ok (.istore 6, 2) := by decide +kernel
theorem d_Ho_dots_218 : decode b_Ho_dots 218 = .ok (.iload 6, 2) := by decide +kernel
theorem d_Ho_dots_220 : decode b_Ho_dots 220 = .ok (.iload_n 2, 1) := by decide +kernel
theorem d_Ho_dots_221 : decode b_Ho_dots 221 = .ok (.iload_n 3, 1) := by decide +kernel
theorem d_Ho_dots_222 : decode b_Ho_dots 222 = .ok (.imul, 1) := by decide +kernel
theorem d_Ho_dots_223 : decode b_Ho_dots 223 = .ok (.if_icmp .ge 22, 3) := by decide +kernel
theorem d_Ho_dots_226 : decode b_Ho_dots 226 = .ok (.aload_n 0, 1) := by decide +kernel
theorem d_Ho_dots_227 : decode b_Ho_dots 227 = .ok (.getfield 73, 3) := by decide +kernel
theorem d_Ho_dots_230 : decode b_Ho_dots 230 = .ok (.iload 6, 2) := by decide +kernel
theorem d_Ho_dots_232 : decode b_Ho_dots 232 = .ok (.iaload, 1) := by decide +kernel
theorem d_Ho_dots_233 : decode b_Ho_dots 233 = .ok (.ifCond .eq 6, 3) := by decide +kernel
theorem d_Ho_dots_236 : decode b_Ho_dots 236 = .ok (.iinc 5 1, 3) := by decide +kernel
theorem d_Ho_dots_239 : decode b_Ho_dots 239 = .ok (.iinc 6 1, 3) := by decide +kernel
theorem d_Ho_dots_242 : decode b_Ho_dots 242 = .ok (.goto (-24), 3) := by decide +kernel
theorem d_Ho_dots_245 : decode b_Ho_dots 245 = .ok (.iload 5, 2) := by decide +kernel
theorem d_Ho_dots_247 : decode b_Ho_dots 247 = .ok (.ireturn, 1) := by decide +kernel
abbrev b_Ho_judge : ByteArray := prog_1_method_23_code
def y_Ho_judge : MethodName := ⟨"DrawingHouse", "judge", "(II)J"⟩
abbrev z_Ho_judge : List Cond := Cond.code y_Ho_judge b_Ho_judge 3 (some .long) :: lw_g
theorem d_Ho_judge_0 : decode b_Ho_judge 0 = .ok (.aload_n 0, 1) := by decide +kernel
theorem d_Ho_judge_1 : decode b_Ho_judge 1 = .ok (.iload_n 1, 1) := by decide +kernel
theorem d_Ho_judge_2 : decode b_Ho_judge 2 = .ok (.invokevirtual 323, 3) := by decide +kernel
theorem d_Ho_judge_5 : decode b_Ho_judge 5 = .ok (.ifCond .eq 16, 3) := by decide +kernel
theorem d_Ho_judge_8 : decode b_Ho_judge 8 = .ok (.aload_n 0, 1) := by decide +kernel
theorem d_Ho_judge_9 : decode b_Ho_judge 9 = .ok (.getfield 31, 3) := by decide +kernel
theorem d_Ho_judge_12 : decode b_Ho_judge 12 = .ok (.iload_n 1, 1) := by decide +kernel
theorem d_Ho_judge_13 : decode b_Ho_judge 13 = .ok (.aaload, 1) := by decide +kernel
theorem d_Ho_judge_14 : decode b_Ho_judge 14 = .ok (.iload_n 2, 1) := by decide +kernel
theorem d_Ho_judge_15 : decode b_Ho_judge 15 = .ok (.invokevirtual 336, 3) := by decide +kernel
theorem d_Ho_judge_18 : decode b_Ho_judge 18 = .ok (.goto 6, 3) := by decide +kernel
theorem d_Ho_judge_21 : decode b_Ho_judge 21 = .ok (.ldc2_w 340, 3) := by decide +kernel
theorem d_Ho_judge_24 : decode b_Ho_judge 24 = .ok (.lreturn, 1) := by decide +kernel
abbrev b_Mo_at2 : ByteArray := prog_15_method_108_code
def y_Mo_at2 : MethodName := ⟨"DrawingHouseModel", "at", "(IIII)I"⟩
abbrev z_Mo_at2 : List Cond := Cond.code y_Mo_at2 b_Mo_at2 6 (some .int) :: lw_g
theorem d_Mo_at2_0 : decode b_Mo_at2 0 = .ok (.iload_n 1, 1) := by decide +kernel
theorem d_Mo_at2_1 : decode b_Mo_at2 1 = .ok (.invokestatic 521, 3) := by decide +kernel
theorem d_Mo_at2_4 : decode b_Mo_at2 4 = .ok (.ifCond .eq 12, 3) := by decide +kernel
theorem d_Mo_at2_7 : decode b_Mo_at2 7 = .ok (.aload_n 0, 1) := by decide +kernel
theorem d_Mo_at2_8 : decode b_Mo_at2 8 = .ok (.getfield 120, 3) := by decide +kernel
theorem d_Mo_at2_11 : decode b_Mo_at2 11 = .ok (.iload_n 1, 1) := by decide +kernel
theorem d_Mo_at2_12 : decode b_Mo_at2 12 = .ok (.iaload, 1) := by decide +kernel
theorem d_Mo_at2_13 : decode b_Mo_at2 13 = .ok (.ifCond .ge 7, 3) := by decide +kernel
theorem d_Mo_at2_16 : decode b_Mo_at2 16 = .ok (.ldc_w 775, 3) := by decide +kernel
theorem d_Mo_at2_19 : decode b_Mo_at2 19 = .ok (.ireturn, 1) := by decide +kernel
theorem d_Mo_at2_20 : decode b_Mo_at2 20 = .ok (.aload_n 0, 1) := by decide +kernel
theorem d_Mo_at2_21 : decode b_Mo_at2 21 = .ok (.iload_n 1, 1) := by decide +kernel
theorem d_Mo_at2_22 : decode b_Mo_at2 22 = .ok (.invokevirtual 527, 3) := by decide +kernel
theorem d_Mo_at2_25 : decode b_Mo_at2 25 = .ok (.iload_n 2, 1) := by decide +kernel
theorem d_Mo_at2_26 : decode b_Mo_at2 26 = .ok (.iconst 0, 1) := by decide +kernel
theorem d_Mo_at2_27 : decode b_Mo_at2 27 = .ok (.iconst 1, 1) := by decide +kernel
theorem d_Mo_at2_28 : decode b_Mo_at2 28 = .ok (.invokestatic 387, 3) := by decide +kernel
theorem d_Mo_at2_31 : decode b_Mo_at2 31 = .ok (.ifCond .eq 53, 3) := by decide +kernel
theorem d_Mo_at2_34 : decode b_Mo_at2 34 = .ok (.iload_n 3, 1) := by decide +kernel
theorem d_Mo_at2_35 : decode b_Mo_at2 35 = .ok (.iconst 0, 1) := by decide +kernel
theorem d_Mo_at2_36 : decode b_Mo_at2 36 = .ok (.aload_n 0, 1) := by decide +kernel
theorem d_Mo_at2_37 : decode b_Mo_at2 37 = .ok (.invokevirtual 475, 3) := by decide +kernel
theorem d_Mo_at2_40 : decode b_Mo_at2 40 = .ok (.iconst 1, 1) := by decide +kernel
theorem d_Mo_at2_41 : decode b_Mo_at2 41 = .ok (.isub, 1) := by decide +kernel
theorem d_Mo_at2_42 : decode b_Mo_at2 42 = .ok (.invokestatic 387, 3) := by decide +kernel
theorem d_Mo_at2_45 : decode b_Mo_at2 45 = .ok (.ifCond .ne 9, 3) := by decide +kernel
theorem d_Mo_at2_48 : decode b_Mo_at2 48 = .ok (.ldc_w 775, 3) := by decide +kernel
theorem d_Mo_at2_51 : decode b_Mo_at2 51 = .ok (.goto 32, 3) := by decide +kernel
theorem d_Mo_at2_54 : decode b_Mo_at2 54 = .ok (.iload_n 2, 1) := by decide +kernel
theorem d_Mo_at2_55 : decode b_Mo_at2 55 = .ok (.ifCond .ne 17, 3) := by decide +kernel
theorem d_Mo_at2_58 : decode b_Mo_at2 58 = .ok (.aload_n 0, 1) := by decide +kernel
theorem d_Mo_at2_59 : decode b_Mo_at2 59 = .ok (.getfield 123, 3) := by decide +kernel
theorem d_Mo_at2_62 : decode b_Mo_at2 62 = .ok (.bipush 24, 2) := by decide +kernel
theorem d_Mo_at2_64 : decode b_Mo_at2 64 = .ok (.iload_n 1, 1) := by decide +kernel
theorem d_Mo_at2_65 : decode b_Mo_at2 65 = .ok (.imul, 1) := by decide +kernel
theorem d_Mo_at2_66 : decode b_Mo_at2 66 = .ok (.iload_n 3, 1) := by decide +kernel
theorem d_Mo_at2_67 : decode b_Mo_at2 67 = .ok (.iadd, 1) := by decide +kernel
theorem d_Mo_at2_68 : decode b_Mo_at2 68 = .ok (.iaload, 1) := by decide +kernel
theorem d_Mo_at2_69 : decode b_Mo_at2 69 = .ok (.goto 14, 3) := by decide +kernel
theorem d_Mo_at2_72 : decode b_Mo_at2 72 = .ok (.aload_n 0, 1) := by decide +kernel
theorem d_Mo_at2_73 : decode b_Mo_at2 73 = .ok (.getfield 126, 3) := by decide +kernel
theorem d_Mo_at2_76 : decode b_Mo_at2 76 = .ok (.bipush 24, 2) := by decide +kernel
theorem d_Mo_at2_78 : decode b_Mo_at2 78 = .ok (.iload_n 1, 1) := by decide +kernel
theorem d_Mo_at2_79 : decode b_Mo_at2 79 = .ok (.imul, 1) := by decide +kernel
theorem d_Mo_at2_80 : decode b_Mo_at2 80 = .ok (.iload_n 3, 1) := by decide +kernel
theorem d_Mo_at2_81 : decode b_Mo_at2 81 = .ok (.iadd, 1) := by decide +kernel
theorem d_Mo_at2_82 : decode b_Mo_at2 82 = .ok (.iaload, 1) := by decide +kernel
theorem d_Mo_at2_83 : decode b_Mo_at2 83 = .ok (.ireturn, 1) := by decide +kernel
theorem d_Mo_at2_84 : decode b_Mo_at2 84 = .ok (.iload_n 2, 1) := by decide +kernel
theorem d_Mo_at2_85 : decode b_Mo_at2 85 = .ok (.iconst 2, 1) := by decide +kernel
theorem d_Mo_at2_86 : decode b_Mo_at2 86 = .ok (.iconst 4, 1) := by decide +kernel
theorem d_Mo_at2_87 : decode b_Mo_at2 87 = .ok (.invokestatic 387, 3) := by decide +kernel
theorem d_Mo_at2_90 : decode b_Mo_at2 90 = .ok (.ifCond .eq 17, 3) := by decide +kernel
theorem d_Mo_at2_93 : decode b_Mo_at2 93 = .ok (.iload_n 3, 1) := by decide +kernel
theorem d_Mo_at2_94 : decode b_Mo_at2 94 = .ok (.iconst 0, 1) := by decide +kernel
theorem d_Mo_at2_95 : decode b_Mo_at2 95 = .ok (.aload_n 0, 1) := by decide +kernel
theorem d_Mo_at2_96 : decode b_Mo_at2 96 = .ok (.invokevirtual 401, 3) := by decide +kernel
theorem d_Mo_at2_99 : decode b_Mo_at2 99 = .ok (.iconst 1, 1) := by decide +kernel
theorem d_Mo_at2_100 : decode b_Mo_at2 100 = .ok (.isub, 1) := by decide +kernel
theorem d_Mo_at2_101 : decode b_Mo_at2 101 = .ok (.invokestatic 387, 3) := by decide +kernel
theorem d_Mo_at2_104 : decode b_Mo_at2 104 = .ok (.ifCond .ne 7, 3) := by decide +kernel
theorem d_Mo_at2_107 : decode b_Mo_at2 107 = .ok (.ldc_w 775, 3) := by decide +kernel
theorem d_Mo_at2_110 : decode b_Mo_at2 110 = .ok (.ireturn, 1) := by decide +kernel
theorem d_Mo_at2_111 : decode b_Mo_at2 111 = .ok (.bipush 48, 2) := by decide +kernel
theorem d_Mo_at2_113 : decode b_Mo_at2 113 = .ok (.iload_n 1, 1) := by decide +kernel
theorem d_Mo_at2_114 : decode b_Mo_at2 114 = .ok (.imul, 1) := by decide +kernel
theorem d_Mo_at2_115 : decode b_Mo_at2 115 = .ok (.iload_n 3, 1) := by decide +kernel
theorem d_Mo_at2_116 : decode b_Mo_at2 116 = .ok (.iadd, 1) := by decide +kernel
theorem d_Mo_at2_117 : decode b_Mo_at2 117 = .ok (.istore 5, 2) := by decide +kernel
theorem d_Mo_at2_119 : decode b_Mo_at2 119 = .ok (.iload_n 2, 1) := by decide +kernel
theorem d_Mo_at2_120 : decode b_Mo_at2 120 = .ok (.iconst 2, 1) := by decide +kernel
theorem d_Mo_at2_121 : decode b_Mo_at2 121 = .ok (.if_icmp .ne 11, 3) := by decide +kernel
theorem d_Mo_at2_124 : decode b_Mo_at2 124 = .ok (.aload_n 0, 1) := by decide +kernel
theorem d_Mo_at2_125 : decode b_Mo_at2 125 = .ok (.getfield 129, 3) := by decide +kernel
theorem d_Mo_at2_128 : decode b_Mo_at2 128 = .ok (.iload 5, 2) := by decide +kernel
theorem d_Mo_at2_130 : decode b_Mo_at2 130 = .ok (.iaload, 1) := by decide +kernel
theorem d_Mo_at2_131 : decode b_Mo_at2 131 = .ok (.ireturn, 1) := by decide +kernel
theorem d_Mo_at2_132 : decode b_Mo_at2 132 = .ok (.iload 4, 2) := by decide +kernel
theorem d_Mo_at2_134 : decode b_Mo_at2 134 = .ok (.iconst 0, 1) := by decide +kernel
theorem d_Mo_at2_135 : decode b_Mo_at2 135 = .ok (.aload_n 0, 1) := by decide +kernel
theorem d_Mo_at2_136 : decode b_Mo_at2 136 = .ok (.getfield 129, 3) := by decide +kernel
theorem d_Mo_at2_139 : decode b_Mo_at2 139 = .ok (.iload 5, 2) := by decide +kernel
theorem d_Mo_at2_141 : decode b_Mo_at2 141 = .ok (.iaload, 1) := by decide +kernel
theorem d_Mo_at2_142 : decode b_Mo_at2 142 = .ok (.iconst 1, 1) := by decide +kernel
theorem d_Mo_at2_143 : decode b_Mo_at2 143 = .ok (.isub, 1) := by decide +kernel
theorem d_Mo_at2_144 : decode b_Mo_at2 144 = .ok (.invokestatic 387, 3) := by decide +kernel
theorem d_Mo_at2_147 : decode b_Mo_at2 147 = .ok (.ifCond .ne 9, 3) := by decide +kernel
theorem d_Mo_at2_150 : decode b_Mo_at2 150 = .ok (.ldc_w 775, 3) := by decide +kernel
theorem d_Mo_at2_153 : decode b_Mo_at2 153 = .ok (.goto 37, 3) := by decide +kernel
theorem d_Mo_at2_156 : decode b_Mo_at2 156 = .ok (.iload_n 2, 1) := by decide +kernel
theorem d_Mo_at2_157 : decode b_Mo_at2 157 = .ok (.iconst 3, 1) := by decide +kernel
theorem d_Mo_at2_158 : decode b_Mo_at2 158 = .ok (.if_icmp .ne 19, 3) := by decide +kernel
theorem d_Mo_at2_161 : decode b_Mo_at2 161 = .ok (.aload_n 0, 1) := by decide +kernel
theorem d_Mo_at2_162 : decode b_Mo_at2 162 = .ok (.getfield 132, 3) := by decide +kernel
theorem d_Mo_at2_165 : decode b_Mo_at2 165 = .ok (.bipush 24, 2) := by decide +kernel
theorem d_Mo_at2_167 : decode b_Mo_at2 167 = .ok (.iload 5, 2) := by decide +kernel
theorem d_Mo_at2_169 : decode b_Mo_at2 169 = .ok (.imul, 1) := by decide +kernel
theorem d_Mo_at2_170 : decode b_Mo_at2 170 = .ok (.iload 4, 2) := by decide +kernel
theorem d_Mo_at2_172 : decode b_Mo_at2 172 = .ok (.iadd, 1) := by decide +kernel
theorem d_Mo_at2_173 : decode b_Mo_at2 173 = .ok (.iaload, 1) := by decide +kernel
theorem d_Mo_at2_174 : decode b_Mo_at2 174 = .ok (.goto 16, 3) := by decide +kernel
theorem d_Mo_at2_177 : decode b_Mo_at2 177 = .ok (.aload_n 0, 1) := by decide +kernel
theorem d_Mo_at2_178 : decode b_Mo_at2 178 = .ok (.getfield 135, 3) := by decide +kernel
theorem d_Mo_at2_181 : decode b_Mo_at2 181 = .ok (.bipush 24, 2) := by decide +kernel
theorem d_Mo_at2_183 : decode b_Mo_at2 183 = .ok (.iload 5, 2) := by decide +kernel
theorem d_Mo_at2_185 : decode b_Mo_at2 185 = .ok (.imul, 1) := by decide +kernel
theorem d_Mo_at2_186 : decode b_Mo_at2 186 = .ok (.iload 4, 2) := by decide +kernel
theorem d_Mo_at2_188 : decode b_Mo_at2 188 = .ok (.iadd, 1) := by decide +kernel
theorem d_Mo_at2_189 : decode b_Mo_at2 189 = .ok (.iaload, 1) := by decide +kernel
theorem d_Mo_at2_190 : decode b_Mo_at2 190 = .ok (.ireturn, 1) := by decide +kernel
abbrev b_Mo_told : ByteArray := prog_15_method_109_code
def y_Mo_told : MethodName := ⟨"DrawingHouseModel", "told", "(III)I"⟩
abbrev z_Mo_told : List Cond := Cond.code y_Mo_told b_Mo_told 6 (some .int) :: lw_g
theorem d_Mo_told_0 : decode b_Mo_told 0 = .ok (.iload_n 1, 1) := by decide +kernel
theorem d_Mo_told_1 : decode b_Mo_told 1 = .ok (.invokestatic 521, 3) := by decide +kernel
theorem d_Mo_told_4 : decode b_Mo_told 4 = .ok (.ifCond .eq 12, 3) := by decide +kernel
theorem d_Mo_told_7 : decode b_Mo_told 7 = .ok (.aload_n 0, 1) := by decide +kernel
theorem d_Mo_told_8 : decode b_Mo_told 8 = .ok (.getfield 120, 3) := by decide +kernel
theorem d_Mo_told_11 : decode b_Mo_told 11 = .ok (.iload_n 1, 1) := by decide +kernel
theorem d_Mo_told_12 : decode b_Mo_told 12 = .ok (.iaload, 1) := by decide +kernel
theorem d_Mo_told_13 : decode b_Mo_told 13 = .ok (.ifCond .ge 5, 3) := by decide +kernel
theorem d_Mo_told_16 : decode b_Mo_told 16 = .ok (.iconst (-1), 1) := by decide +kernel
theorem d_Mo_told_17 : decode b_Mo_told 17 = .ok (.ireturn, 1) := by decide +kernel
theorem d_Mo_told_18 : decode b_Mo_told 18 = .ok (.aload_n 0, 1) := by decide +kernel
theorem d_Mo_told_19 : decode b_Mo_told 19 = .ok (.iload_n 1, 1) := by decide +kernel
theorem d_Mo_told_20 : decode b_Mo_told 20 = .ok (.invokevirtual 527, 3) := by decide +kernel
theorem d_Mo_told_23 : decode b_Mo_told 23 = .ok (.aload_n 0, 1) := by decide +kernel
theorem d_Mo_told_24 : decode b_Mo_told 24 = .ok (.getfield 120, 3) := by decide +kernel
theorem d_Mo_told_27 : decode b_Mo_told 27 = .ok (.iload_n 1, 1) := by decide +kernel
theorem d_Mo_told_28 : decode b_Mo_told 28 = .ok (.iaload, 1) := by decide +kernel
theorem d_Mo_told_29 : decode b_Mo_told 29 = .ok (.istore 4, 2) := by decide +kernel
theorem d_Mo_told_31 : decode b_Mo_told 31 = .ok (.iload_n 3, 1) := by decide +kernel
theorem d_Mo_told_32 : decode b_Mo_told 32 = .ok (.iconst 0, 1) := by decide +kernel
theorem d_Mo_told_33 : decode b_Mo_told 33 = .ok (.aload_n 0, 1) := by decide +kernel
theorem d_Mo_told_34 : decode b_Mo_told 34 = .ok (.invokevirtual 475, 3) := by decide +kernel
theorem d_Mo_told_37 : decode b_Mo_told 37 = .ok (.iconst 1, 1) := by decide +kernel
theorem d_Mo_told_38 : decode b_Mo_told 38 = .ok (.isub, 1) := by decide +kernel
theorem d_Mo_told_39 : decode b_Mo_told 39 = .ok (.invokestatic 387, 3) := by decide +kernel
theorem d_Mo_told_42 : decode b_Mo_told 42 = .ok (.istore 5, 2) := by decide +kernel
theorem d_Mo_told_44 : decode b_Mo_told 44 = .ok (.iload_n 2, 1) := by decide +kernel
theorem d_Mo_told_45 : decode b_Mo_told 45 = .ok (.ifCond .ne 6, 3) := by decide +kernel
theorem d_Mo_told_48 : decode b_Mo_told 48 = .ok (.iload 4, 2) := by decide +kernel
theorem d_Mo_told_50 : decode b_Mo_told 50 = .ok (.ireturn, 1) := by decide +kernel
theorem d_Mo_told_51 : decode b_Mo_told 51 = .ok (.iload_n 2, 1) := by decide +kernel
theorem d_Mo_told_52 : decode b_Mo_told 52 = .ok (.iconst 1, 1) := by decide +kernel
theorem d_Mo_told_53 : decode b_Mo_told 53 = .ok (.if_icmp .ne 19, 3) := by decide +kernel
theorem d_Mo_told_56 : decode b_Mo_told 56 = .ok (.iload 4, 2) := by decide +kernel
theorem d_Mo_told_58 : decode b_Mo_told 58 = .ok (.ifCond .ne 12, 3) := by decide +kernel
theorem d_Mo_told_61 : decode b_Mo_told 61 = .ok (.aload_n 0, 1) := by decide +kernel
theorem d_Mo_told_62 : decode b_Mo_told 62 = .ok (.getfield 138, 3) := by decide +kernel
theorem d_Mo_told_65 : decode b_Mo_told 65 = .ok (.iload_n 1, 1) := by decide +kernel
theorem d_Mo_told_66 : decode b_Mo_told 66 = .ok (.iaload, 1) := by decide +kernel
theorem d_Mo_told_67 : decode b_Mo_told 67 = .ok (.goto 4, 3) := by decide +kernel
theorem d_Mo_told_70 : decode b_Mo_told 70 = .ok (.iconst (-1), 1) := by decide +kernel
theorem d_Mo_told_71 : decode b_Mo_told 71 = .ok (.ireturn, 1) := by decide +kernel
theorem d_Mo_told_72 : decode b_Mo_told 72 = .ok (.iload_n 2, 1) := by decide +kernel
theorem d_Mo_told_73 : decode b_Mo_told 73 = .ok (.iconst 2, 1) := by decide +kernel
theorem d_Mo_told_74 : decode b_Mo_told 74 = .ok (.if_icmp .ne 19, 3) := by decide +kernel
theorem d_Mo_told_77 : decode b_Mo_told 77 = .ok (.iload 4, 2) := by decide +kernel
theorem d_Mo_told_79 : decode b_Mo_told 79 = .ok (.ifCond .ne 12, 3) := by decide +kernel
theorem d_Mo_told_82 : decode b_Mo_told 82 = .ok (.aload_n 0, 1) := by decide +kernel
theorem d_Mo_told_83 : decode b_Mo_told 83 = .ok (.getfield 141, 3) := by decide +kernel
theorem d_Mo_told_86 : decode b_Mo_told 86 = .ok (.iload_n 1, 1) := by decide +kernel
theorem d_Mo_told_87 : decode b_Mo_told 87 = .ok (.iaload, 1) := by decide +kernel
theorem d_Mo_told_88 : decode b_Mo_told 88 = .ok (.goto 4, 3) := by decide +kernel
theorem d_Mo_told_91 : decode b_Mo_told 91 = .ok (.iconst (-1), 1) := by decide +kernel
theorem d_Mo_told_92 : decode b_Mo_told 92 = .ok (.ireturn, 1) := by decide +kernel
theorem d_Mo_told_93 : decode b_Mo_told 93 = .ok (.iload_n 2, 1) := by decide +kernel
theorem d_Mo_told_94 : decode b_Mo_told 94 = .ok (.iconst 3, 1) := by decide +kernel
theorem d_Mo_told_95 : decode b_Mo_told 95 = .ok (.if_icmp .ne 29, 3) := by decide +kernel
theorem d_Mo_told_98 : decode b_Mo_told 98 = .ok (.iload 4, 2) := by decide +kernel
theorem d_Mo_told_100 : decode b_Mo_told 100 = .ok (.ifCond .ne 22, 3) := by decide +kernel
theorem d_Mo_told_103 : decode b_Mo_told 103 = .ok (.iload 5, 2) := by decide +kernel
theorem d_Mo_told_105 : decode b_Mo_told 105 = .ok (.ifCond .eq 17, 3) := by decide +kernel
theorem d_Mo_told_108 : decode b_Mo_told 108 = .ok (.aload_n 0, 1) := by decide +kernel
theorem d_Mo_told_109 : decode b_Mo_told 109 = .ok (.getfield 144, 3) := by decide +kernel
theorem d_Mo_told_112 : decode b_Mo_told 112 = .ok (.bipush 24, 2) := by decide +kernel
theorem d_Mo_told_114 : decode b_Mo_told 114 = .ok (.iload_n 1, 1) := by decide +kernel
theorem d_Mo_told_115 : decode b_Mo_told 115 = .ok (.imul, 1) := by decide +kernel
theorem d_Mo_told_116 : decode b_Mo_told 116 = .ok (.iload_n 3, 1) := by decide +kernel
theorem d_Mo_told_117 : decode b_Mo_told 117 = .ok (.iadd, 1) := by decide +kernel
theorem d_Mo_told_118 : decode b_Mo_told 118 = .ok (.iaload, 1) := by decide +kernel
theorem d_Mo_told_119 : decode b_Mo_told 119 = .ok (.goto 4, 3) := by decide +kernel
theorem d_Mo_told_122 : decode b_Mo_told 122 = .ok (.iconst (-1), 1) := by decide +kernel
theorem d_Mo_told_123 : decode b_Mo_told 123 = .ok (.ireturn, 1) := by decide +kernel
theorem d_Mo_told_124 : decode b_Mo_told 124 = .ok (.iload_n 2, 1) := by decide +kernel
theorem d_Mo_told_125 : decode b_Mo_told 125 = .ok (.iconst 4, 1) := by decide +kernel
theorem d_Mo_told_126 : decode b_Mo_told 126 = .ok (.if_icmp .ne 38, 3) := by decide +kernel
theorem d_Mo_told_129 : decode b_Mo_told 129 = .ok (.iload 4, 2) := by decide +kernel
theorem d_Mo_told_131 : decode b_Mo_told 131 = .ok (.ifCond .ne 31, 3) := by decide +kernel
theorem d_Mo_told_134 : decode b_Mo_told 134 = .ok (.iload_n 3, 1) := by decide +kernel
theorem d_Mo_told_135 : decode b_Mo_told 135 = .ok (.iconst 0, 1) := by decide +kernel
theorem d_Mo_told_136 : decode b_Mo_told 136 = .ok (.aload_n 0, 1) := by decide +kernel
theorem d_Mo_told_137 : decode b_Mo_told 137 = .ok (.invokevirtual 401, 3) := by decide +kernel
theorem d_Mo_told_140 : decode b_Mo_told 140 = .ok (.iconst 1, 1) := by decide +kernel
theorem d_Mo_told_141 : decode b_Mo_told 141 = .ok (.isub, 1) := by decide +kernel
theorem d_Mo_told_142 : decode b_Mo_told 142 = .ok (.invokestatic 387, 3) := by decide +kernel
theorem d_Mo_told_145 : decode b_Mo_told 145 = .ok (.ifCond .eq 17, 3) := by decide +kernel
theorem d_Mo_told_148 : decode b_Mo_told 148 = .ok (.aload_n 0, 1) := by decide +kernel
theorem d_Mo_told_149 : decode b_Mo_told 149 = .ok (.getfield 147, 3) := by decide +kernel
theorem d_Mo_told_152 : decode b_Mo_told 152 = .ok (.bipush 48, 2) := by decide +kernel
theorem d_Mo_told_154 : decode b_Mo_told 154 = .ok (.iload_n 1, 1) := by decide +kernel
theorem d_Mo_told_155 : decode b_Mo_told 155 = .ok (.imul, 1) := by decide +kernel
theorem d_Mo_told_156 : decode b_Mo_told 156 = .ok (.iload_n 3, 1) := by decide +kernel
theorem d_Mo_told_157 : decode b_Mo_told 157 = .ok (.iadd, 1) := by decide +kernel
theorem d_Mo_told_158 : decode b_Mo_told 158 = .ok (.iaload, 1) := by decide +kernel
theorem d_Mo_told_159 : decode b_Mo_told 159 = .ok (.goto 4, 3) := by decide +kernel
theorem d_Mo_told_162 : decode b_Mo_told 162 = .ok (.iconst (-1), 1) := by decide +kernel
theorem d_Mo_told_163 : decode b_Mo_told 163 = .ok (.ireturn, 1) := by decide +kernel
theorem d_Mo_told_164 : decode b_Mo_told 164 = .ok (.iload_n 2, 1) := by decide +kernel
theorem d_Mo_told_165 : decode b_Mo_told 165 = .ok (.iconst 5, 1) := by decide +kernel
theorem d_Mo_told_166 : decode b_Mo_told 166 = .ok (.if_icmp .ne 21, 3) := by decide +kernel
theorem d_Mo_told_169 : decode b_Mo_told 169 = .ok (.iload 4, 2) := by decide +kernel
theorem d_Mo_told_171 : decode b_Mo_told 171 = .ok (.bipush 7, 2) := by decide +kernel
theorem d_Mo_told_173 : decode b_Mo_told 173 = .ok (.if_icmp .ne 12, 3) := by decide +kernel
theorem d_Mo_told_176 : decode b_Mo_told 176 = .ok (.aload_n 0, 1) := by decide +kernel
theorem d_Mo_told_177 : decode b_Mo_told 177 = .ok (.getfield 138, 3) := by decide +kernel
theorem d_Mo_told_180 : decode b_Mo_told 180 = .ok (.iload_n 1, 1) := by decide +kernel
theorem d_Mo_told_181 : decode b_Mo_told 181 = .ok (.iaload, 1) := by decide +kernel
theorem d_Mo_told_182 : decode b_Mo_told 182 = .ok (.goto 4, 3) := by decide +kernel
theorem d_Mo_told_185 : decode b_Mo_told 185 = .ok (.iconst (-1), 1) := by decide +kernel
theorem d_Mo_told_186 : decode b_Mo_told 186 = .ok (.ireturn, 1) := by decide +kernel
theorem d_Mo_told_187 : decode b_Mo_told 187 = .ok (.iload_n 2, 1) := by decide +kernel
theorem d_Mo_told_188 : decode b_Mo_told 188 = .ok (.bipush 6, 2) := by decide +kernel
theorem d_Mo_told_190 : decode b_Mo_told 190 = .ok (.bipush 9, 2) := by decide +kernel
theorem d_Mo_told_192 : decode b_Mo_told 192 = .ok (.invokestatic 387, 3) := by decide +kernel
theorem d_Mo_told_195 : decode b_Mo_told 195 = .ok (.ifCond .eq 37, 3) := by decide +kernel
theorem d_Mo_told_198 : decode b_Mo_told 198 = .ok (.iload 4, 2) := by decide +kernel
theorem d_Mo_told_200 : decode b_Mo_told 200 = .ok (.iconst 4, 1) := by decide +kernel
theorem d_Mo_told_201 : decode b_Mo_told 201 = .ok (.if_icmp .ne 29, 3) := by decide +kernel
theorem d_Mo_told_204 : decode b_Mo_told 204 = .ok (.iload 5, 2) := by decide +kernel
theorem d_Mo_told_206 : decode b_Mo_told 206 = .ok (.ifCond .eq 24, 3) := by decide +kernel
theorem d_Mo_told_209 : decode b_Mo_told 209 = .ok (.aload_n 0, 1) := by decide +kernel
theorem d_Mo_told_210 : decode b_Mo_told 210 = .ok (.getfield 150, 3) := by decide +kernel
theorem d_Mo_told_213 : decode b_Mo_told 213 = .ok (.iconst 4, 1) := by decide +kernel
theorem d_Mo_told_214 : decode b_Mo_told 214 = .ok (.bipush 24, 2) := by decide +kernel
theorem d_Mo_told_216 : decode b_Mo_told 216 = .ok (.iload_n 1, 1) := by decide +kernel
theorem d_Mo_told_217 : decode b_Mo_told 217 = .ok (.imul, 1) := by decide +kernel
theorem d_Mo_told_218 : decode b_Mo_told 218 = .ok (.iload_n 3, 1) := by decide +kernel
theorem d_Mo_told_219 : decode b_Mo_told 219 = .ok (.iadd, 1) := by decide +kernel
theorem d_Mo_told_220 : decode b_Mo_told 220 = .ok (.imul, 1) := by decide +kernel
theorem d_Mo_told_221 : decode b_Mo_told 221 = .ok (.iload_n 2, 1) := by decide +kernel
theorem d_Mo_told_222 : decode b_Mo_told 222 = .ok (.iadd, 1) := by decide +kernel
theorem d_Mo_told_223 : decode b_Mo_told 223 = .ok (.bipush 6, 2) := by decide +kernel
theorem d_Mo_told_225 : decode b_Mo_told 225 = .ok (.isub, 1) := by decide +kernel
theorem d_Mo_told_226 : decode b_Mo_told 226 = .ok (.iaload, 1) := by decide +kernel
theorem d_Mo_told_227 : decode b_Mo_told 227 = .ok (.goto 4, 3) := by decide +kernel
theorem d_Mo_told_230 : decode b_Mo_told 230 = .ok (.iconst (-1), 1) := by decide +kernel
theorem d_Mo_told_231 : decode b_Mo_told 231 = .ok (.ireturn, 1) := by decide +kernel
theorem d_Mo_told_232 : decode b_Mo_told 232 = .ok (.iload_n 2, 1) := by decide +kernel
theorem d_Mo_told_233 : decode b_Mo_told 233 = .ok (.bipush 10, 2) := by decide +kernel
theorem d_Mo_told_235 : decode b_Mo_told 235 = .ok (.bipush 13, 2) := by decide +kernel
theorem d_Mo_told_237 : decode b_Mo_told 237 = .ok (.invokestatic 387, 3) := by decide +kernel
theorem d_Mo_told_240 : decode b_Mo_told 240 = .ok (.ifCond .eq 46, 3) := by decide +kernel
theorem d_Mo_told_243 : decode b_Mo_told 243 = .ok (.iload 4, 2) := by decide +kernel
theorem d_Mo_told_245 : decode b_Mo_told 245 = .ok (.iconst 4, 1) := by decide +kernel
theorem d_Mo_told_246 : decode b_Mo_told 246 = .ok (.if_icmp .ne 38, 3) := by decide +kernel
theorem d_Mo_told_249 : decode b_Mo_told 249 = .ok (.iload_n 3, 1) := by decide +kernel
theorem d_Mo_told_250 : decode b_Mo_told 250 = .ok (.iconst 0, 1) := by decide +kernel
theorem d_Mo_told_251 : decode b_Mo_told 251 = .ok (.aload_n 0, 1) := by decide +kernel
theorem d_Mo_told_252 : decode b_Mo_told 252 = .ok (.invokevirtual 509, 3) := by decide +kernel
theorem d_Mo_told_255 : decode b_Mo_told 255 = .ok (.iconst 1, 1) := by decide +kernel
theorem d_Mo_told_256 : decode b_Mo_told 256 = .ok (.isub, 1) := by decide +kernel
theorem d_Mo_told_257 : decode b_Mo_told 257 = .ok (.invokestatic 387, 3) := by decide +kernel
theorem d_Mo_told_260 : decode b_Mo_told 260 = .ok (.ifCond .eq 24, 3) := by decide +kernel
theorem d_Mo_told_263 : decode b_Mo_told 263 = .ok (.aload_n 0, 1) := by decide +kernel
theorem d_Mo_told_264 : decode b_Mo_told 264 = .ok (.getfield 153, 3) := by decide +kernel
theorem d_Mo_told_267 : decode b_Mo_told 267 = .ok (.iconst 4, 1) := by decide +kernel
theorem d_Mo_told_268 : decode b_Mo_told 268 = .ok (.bipush 8, 2) := by decide +kernel
theorem d_Mo_told_270 : decode b_Mo_told 270 = .ok (.iload_n 1, 1) := by decide +kernel
theorem d_Mo_told_271 : decode b_Mo_told 271 = .ok (.imul, 1) := by decide +kernel
theorem d_Mo_told_272 : decode b_Mo_told 272 = .ok (.iload_n 3, 1) := by decide +kernel
theorem d_Mo_told_273 : decode b_Mo_told 273 = .ok (.iadd, 1) := by decide +kernel
theorem d_Mo_told_274 : decode b_Mo_told 274 = .ok (.imul, 1) := by decide +kernel
theorem d_Mo_told_275 : decode b_Mo_told 275 = .ok (.iload_n 2, 1) := by decide +kernel
theorem d_Mo_told_276 : decode b_Mo_told 276 = .ok (.iadd, 1) := by decide +kernel
theorem d_Mo_told_277 : decode b_Mo_told 277 = .ok (.bipush 10, 2) := by decide +kernel
theorem d_Mo_told_279 : decode b_Mo_told 279 = .ok (.isub, 1) := by decide +kernel
theorem d_Mo_told_280 : decode b_Mo_told 280 = .ok (.iaload, 1) := by decide +kernel
theorem d_Mo_told_281 : decode b_Mo_told 281 = .ok (.goto 4, 3) := by decide +kernel
theorem d_Mo_told_284 : decode b_Mo_told 284 = .ok (.iconst (-1), 1) := by decide +kernel
theorem d_Mo_told_285 : decode b_Mo_told 285 = .ok (.ireturn, 1) := by decide +kernel
theorem d_Mo_told_286 : decode b_Mo_told 286 = .ok (.iload_n 2, 1) := by decide +kernel
theorem d_Mo_told_287 : decode b_Mo_told 287 = .ok (.bipush 14, 2) := by decide +kernel
theorem d_Mo_told_289 : decode b_Mo_told 289 = .ok (.if_icmp .ne 20, 3) := by decide +kernel
theorem d_Mo_told_292 : decode b_Mo_told 292 = .ok (.iload 4, 2) := by decide +kernel
theorem d_Mo_told_294 : decode b_Mo_told 294 = .ok (.iconst 5, 1) := by decide +kernel
theorem d_Mo_told_295 : decode b_Mo_told 295 = .ok (.if_icmp .ne 12, 3) := by decide +kernel
theorem d_Mo_told_298 : decode b_Mo_told 298 = .ok (.aload_n 0, 1) := by decide +kernel
theorem d_Mo_told_299 : decode b_Mo_told 299 = .ok (.getfield 138, 3) := by decide +kernel
theorem d_Mo_told_302 : decode b_Mo_told 302 = .ok (.iload_n 1, 1) := by decide +kernel
theorem d_Mo_told_303 : decode b_Mo_told 303 = .ok (.iaload, 1) := by decide +kernel
theorem d_Mo_told_304 : decode b_Mo_told 304 = .ok (.goto 4, 3) := by decide +kernel
theorem d_Mo_told_307 : decode b_Mo_told 307 = .ok (.iconst (-1), 1) := by decide +kernel
theorem d_Mo_told_308 : decode b_Mo_told 308 = .ok (.ireturn, 1) := by decide +kernel
theorem d_Mo_told_309 : decode b_Mo_told 309 = .ok (.iload_n 2, 1) := by decide +kernel
theorem d_Mo_told_310 : decode b_Mo_told 310 = .ok (.bipush 15, 2) := by decide +kernel
theorem d_Mo_told_312 : decode b_Mo_told 312 = .ok (.if_icmp .ne 28, 3) := by decide +kernel
theorem d_Mo_told_315 : decode b_Mo_told 315 = .ok (.iload 4, 2) := by decide +kernel
theorem d_Mo_told_317 : decode b_Mo_told 317 = .ok (.iconst 2, 1) := by decide +kernel
theorem d_Mo_told_318 : decode b_Mo_told 318 = .ok (.if_icmp .ne 22, 3) := by decide +kernel
theorem d_Mo_told_321 : decode b_Mo_told 321 = .ok (.iload 5, 2) := by decide +kernel
theorem d_Mo_told_323 : decode b_Mo_told 323 = .ok (.ifCond .eq 17, 3) := by decide +kernel
theorem d_Mo_told_326 : decode b_Mo_told 326 = .ok (.aload_n 0, 1) := by decide +kernel
theorem d_Mo_told_327 : decode b_Mo_told 327 = .ok (.getfield 144, 3) := by decide +kernel
theorem d_Mo_told_330 : decode b_Mo_told 330 = .ok (.bipush 24, 2) := by decide +kernel
theorem d_Mo_told_332 : decode b_Mo_told 332 = .ok (.iload_n 1, 1) := by decide +kernel
theorem d_Mo_told_333 : decode b_Mo_told 333 = .ok (.imul, 1) := by decide +kernel
theorem d_Mo_told_334 : decode b_Mo_told 334 = .ok (.iload_n 3, 1) := by decide +kernel
theorem d_Mo_told_335 : decode b_Mo_told 335 = .ok (.iadd, 1) := by decide +kernel
theorem d_Mo_told_336 : decode b_Mo_told 336 = .ok (.iaload, 1) := by decide +kernel
theorem d_Mo_told_337 : decode b_Mo_told 337 = .ok (.goto 4, 3) := by decide +kernel
theorem d_Mo_told_340 : decode b_Mo_told 340 = .ok (.iconst (-1), 1) := by decide +kernel
theorem d_Mo_told_341 : decode b_Mo_told 341 = .ok (.ireturn, 1) := by decide +kernel
abbrev b_Mo_put : ByteArray := prog_15_method_110_code
def y_Mo_put : MethodName := ⟨"DrawingHouseModel", "put", "(IIIII)Z"⟩
abbrev z_Mo_put : List Cond := Cond.code y_Mo_put b_Mo_put 6 (some .boolean) :: lw_g
theorem d_Mo_put_0 : decode b_Mo_put 0 = .ok (.iload_n 1, 1) := by decide +kernel
theorem d_Mo_put_1 : decode b_Mo_put 1 = .ok (.invokestatic 521, 3) := by decide +kernel
theorem d_Mo_put_4 : decode b_Mo_put 4 = .ok (.ifCond .eq 40, 3) := by decide +kernel
theorem d_Mo_put_7 : decode b_Mo_put 7 = .ok (.aload_n 0, 1) := by decide +kernel
theorem d_Mo_put_8 : decode b_Mo_put 8 = .ok (.getfield 120, 3) := by decide +kernel
theorem d_Mo_put_11 : decode b_Mo_put 11 = .ok (.iload_n 1, 1) := by decide +kernel
theorem d_Mo_put_12 : decode b_Mo_put 12 = .ok (.iaload, 1) := by decide +kernel
theorem d_Mo_put_13 : decode b_Mo_put 13 = .ok (.ifCond .lt 31, 3) := by decide +kernel
theorem d_Mo_put_16 : decode b_Mo_put 16 = .ok (.iload 4, 2) := by decide +kernel
theorem d_Mo_put_18 : decode b_Mo_put 18 = .ok (.ldc_w 776, 3) := by decide +kernel
theorem d_Mo_put_21 : decode b_Mo_put 21 = .ok (.ldc_w 546, 3) := by decide +kernel
theorem d_Mo_put_24 : decode b_Mo_put 24 = .ok (.invokestatic 387, 3) := by decide +kernel
theorem d_Mo_put_27 : decode b_Mo_put 27 = .ok (.ifCond .eq 17, 3) := by decide +kernel
theorem d_Mo_put_30 : decode b_Mo_put 30 = .ok (.iload 5, 2) := by decide +kernel
theorem d_Mo_put_32 : decode b_Mo_put 32 = .ok (.ldc_w 776, 3) := by decide +kernel
theorem d_Mo_put_35 : decode b_Mo_put 35 = .ok (.ldc_w 546, 3) := by decide +kernel
theorem d_Mo_put_38 : decode b_Mo_put 38 = .ok (.invokestatic 387, 3) := by decide +kernel
theorem d_Mo_put_41 : decode b_Mo_put 41 = .ok (.ifCond .ne 5, 3) := by decide +kernel
theorem d_Mo_put_44 : decode b_Mo_put 44 = .ok (.iconst 0, 1) := by decide +kernel
theorem d_Mo_put_45 : decode b_Mo_put 45 = .ok (.ireturn, 1) := by decide +kernel
theorem d_Mo_put_46 : decode b_Mo_put 46 = .ok (.aload_n 0, 1) := by decide +kernel
theorem d_Mo_put_47 : decode b_Mo_put 47 = .ok (.iload_n 1, 1) := by decide +kernel
theorem d_Mo_put_48 : decode b_Mo_put 48 = .ok (.invokevirtual 527, 3) := by decide +kernel
theorem d_Mo_put_51 : decode b_Mo_put 51 = .ok (.iload_n 3, 1) := by decide +kernel
theorem d_Mo_put_52 : decode b_Mo_put 52 = .ok (.iconst (-1), 1) := by decide +kernel
theorem d_Mo_put_53 : decode b_Mo_put 53 = .ok (.if_icmp .ne 47, 3) := by decide +kernel
theorem d_Mo_put_56 : decode b_Mo_put 56 = .ok (.iload_n 2, 1) := by decide +kernel
theorem d_Mo_put_57 : decode b_Mo_put 57 = .ok (.iconst 0, 1) := by decide +kernel
theorem d_Mo_put_58 : decode b_Mo_put 58 = .ok (.aload_n 0, 1) := by decide +kernel
theorem d_Mo_put_59 : decode b_Mo_put 59 = .ok (.invokevirtual 475, 3) := by decide +kernel
theorem d_Mo_put_62 : decode b_Mo_put 62 = .ok (.iconst 1, 1) := by decide +kernel
theorem d_Mo_put_63 : decode b_Mo_put 63 = .ok (.isub, 1) := by decide +kernel
theorem d_Mo_put_64 : decode b_Mo_put 64 = .ok (.invokestatic 387, 3) := by decide +kernel
theorem d_Mo_put_67 : decode b_Mo_put 67 = .ok (.ifCond .ne 5, 3) := by decide +kernel
theorem d_Mo_put_70 : decode b_Mo_put 70 = .ok (.iconst 0, 1) := by decide +kernel
theorem d_Mo_put_71 : decode b_Mo_put 71 = .ok (.ireturn, 1) := by decide +kernel
theorem d_Mo_put_72 : decode b_Mo_put 72 = .ok (.aload_n 0, 1) := by decide +kernel
theorem d_Mo_put_73 : decode b_Mo_put 73 = .ok (.getfield 123, 3) := by decide +kernel
theorem d_Mo_put_76 : decode b_Mo_put 76 = .ok (.bipush 24, 2) := by decide +kernel
theorem d_Mo_put_78 : decode b_Mo_put 78 = .ok (.iload_n 1, 1) := by decide +kernel
theorem d_Mo_put_79 : decode b_Mo_put 79 = .ok (.imul, 1) := by decide +kernel
theorem d_Mo_put_80 : decode b_Mo_put 80 = .ok (.iload_n 2, 1) := by decide +kernel
theorem d_Mo_put_81 : decode b_Mo_put 81 = .ok (.iadd, 1) := by decide +kernel
theorem d_Mo_put_82 : decode b_Mo_put 82 = .ok (.iload 4, 2) := by decide +kernel
theorem d_Mo_put_84 : decode b_Mo_put 84 = .ok (.iastore, 1) := by decide +kernel
theorem d_Mo_put_85 : decode b_Mo_put 85 = .ok (.aload_n 0, 1) := by decide +kernel
theorem d_Mo_put_86 : decode b_Mo_put 86 = .ok (.getfield 126, 3) := by decide +kernel
theorem d_Mo_put_89 : decode b_Mo_put 89 = .ok (.bipush 24, 2) := by decide +kernel
theorem d_Mo_put_91 : decode b_Mo_put 91 = .ok (.iload_n 1, 1) := by decide +kernel
theorem d_Mo_put_92 : decode b_Mo_put 92 = .ok (.imul, 1) := by decide +kernel
theorem d_Mo_put_93 : decode b_Mo_put 93 = .ok (.iload_n 2, 1) := by decide +kernel
theorem d_Mo_put_94 : decode b_Mo_put 94 = .ok (.iadd, 1) := by decide +kernel
theorem d_Mo_put_95 : decode b_Mo_put 95 = .ok (.iload 5, 2) := by decide +kernel
theorem d_Mo_put_97 : decode b_Mo_put 97 = .ok (.iastore, 1) := by decide +kernel
theorem d_Mo_put_98 : decode b_Mo_put 98 = .ok (.iconst 1, 1) := by decide +kernel
theorem d_Mo_put_99 : decode b_Mo_put 99 = .ok (.ireturn, 1) := by decide +kernel
theorem d_Mo_put_100 : decode b_Mo_put 100 = .ok (.iload_n 2, 1) := by decide +kernel
theorem d_Mo_put_101 : decode b_Mo_put 101 = .ok (.iconst 0, 1) := by decide +kernel
theorem d_Mo_put_102 : decode b_Mo_put 102 = .ok (.aload_n 0, 1) := by decide +kernel
theorem d_Mo_put_103 : decode b_Mo_put 103 = .ok (.invokevirtual 401, 3) := by decide +kernel
theorem d_Mo_put_106 : decode b_Mo_put 106 = .ok (.iconst 1, 1) := by decide +kernel
theorem d_Mo_put_107 : decode b_Mo_put 107 = .ok (.isub, 1) := by decide +kernel
theorem d_Mo_put_108 : decode b_Mo_put 108 = .ok (.invokestatic 387, 3) := by decide +kernel
theorem d_Mo_put_111 : decode b_Mo_put 111 = .ok (.ifCond .eq 24, 3) := by decide +kernel
theorem d_Mo_put_114 : decode b_Mo_put 114 = .ok (.iload_n 3, 1) := by decide +kernel
theorem d_Mo_put_115 : decode b_Mo_put 115 = .ok (.iconst 0, 1) := by decide +kernel
theorem d_Mo_put_116 : decode b_Mo_put 116 = .ok (.aload_n 0, 1) := by decide +kernel
theorem d_Mo_put_117 : decode b_Mo_put 117 = .ok (.getfield 129, 3) := by decide +kernel
theorem d_Mo_put_120 : decode b_Mo_put 120 = .ok (.bipush 48, 2) := by decide +kernel
theorem d_Mo_put_122 : decode b_Mo_put 122 = .ok (.iload_n 1, 1) := by decide +kernel
theorem d_Mo_put_123 : decode b_Mo_put 123 = .ok (.imul, 1) := by decide +kernel
theorem d_Mo_put_124 : decode b_Mo_put 124 = .ok (.iload_n 2, 1) := by decide +kernel
theorem d_Mo_put_125 : decode b_Mo_put 125 = .ok (.iadd, 1) := by decide +kernel
theorem d_Mo_put_126 : decode b_Mo_put 126 = .ok (.iaload, 1) := by decide +kernel
theorem d_Mo_put_127 : decode b_Mo_put 127 = .ok (.iconst 1, 1) := by decide +kernel
theorem d_Mo_put_128 : decode b_Mo_put 128 = .ok (.isub, 1) := by decide +kernel
theorem d_Mo_put_129 : decode b_Mo_put 129 = .ok (.invokestatic 387, 3) := by decide +kernel
theorem d_Mo_put_132 : decode b_Mo_put 132 = .ok (.ifCond .ne 5, 3) := by decide +kernel
theorem d_Mo_put_135 : decode b_Mo_put 135 = .ok (.iconst 0, 1) := by decide +kernel
theorem d_Mo_put_136 : decode b_Mo_put 136 = .ok (.ireturn, 1) := by decide +kernel
theorem d_Mo_put_137 : decode b_Mo_put 137 = .ok (.aload_n 0, 1) := by decide +kernel
theorem d_Mo_put_138 : decode b_Mo_put 138 = .ok (.getfield 132, 3) := by decide +kernel
theorem d_Mo_put_141 : decode b_Mo_put 141 = .ok (.bipush 24, 2) := by decide +kernel
theorem d_Mo_put_143 : decode b_Mo_put 143 = .ok (.bipush 48, 2) := by decide +kernel
theorem d_Mo_put_145 : decode b_Mo_put 145 = .ok (.iload_n 1, 1) := by decide +kernel
theorem d_Mo_put_146 : decode b_Mo_put 146 = .ok (.imul, 1) := by decide +kernel
theorem d_Mo_put_147 : decode b_Mo_put 147 = .ok (.iload_n 2, 1) := by decide +kernel
theorem d_Mo_put_148 : decode b_Mo_put 148 = .ok (.iadd, 1) := by decide +kernel
theorem d_Mo_put_149 : decode b_Mo_put 149 = .ok (.imul, 1) := by decide +kernel
theorem d_Mo_put_150 : decode b_Mo_put 150 = .ok (.iload_n 3, 1) := by decide +kernel
theorem d_Mo_put_151 : decode b_Mo_put 151 = .ok (.iadd, 1) := by decide +kernel
theorem d_Mo_put_152 : decode b_Mo_put 152 = .ok (.iload 4, 2) := by decide +kernel
theorem d_Mo_put_154 : decode b_Mo_put 154 = .ok (.iastore, 1) := by decide +kernel
theorem d_Mo_put_155 : decode b_Mo_put 155 = .ok (.aload_n 0, 1) := by decide +kernel
theorem d_Mo_put_156 : decode b_Mo_put 156 = .ok (.getfield 135, 3) := by decide +kernel
theorem d_Mo_put_159 : decode b_Mo_put 159 = .ok (.bipush 24, 2) := by decide +kernel
theorem d_Mo_put_161 : decode b_Mo_put 161 = .ok (.bipush 48, 2) := by decide +kernel
theorem d_Mo_put_163 : decode b_Mo_put 163 = .ok (.iload_n 1, 1) := by decide +kernel
theorem d_Mo_put_164 : decode b_Mo_put 164 = .ok (.imul, 1) := by decide +kernel
theorem d_Mo_put_165 : decode b_Mo_put 165 = .ok (.iload_n 2, 1) := by decide +kernel
theorem d_Mo_put_166 : decode b_Mo_put 166 = .ok (.iadd, 1) := by decide +kernel
theorem d_Mo_put_167 : decode b_Mo_put 167 = .ok (.imul, 1) := by decide +kernel
theorem d_Mo_put_168 : decode b_Mo_put 168 = .ok (.iload_n 3, 1) := by decide +kernel
theorem d_Mo_put_169 : decode b_Mo_put 169 = .ok (.iadd, 1) := by decide +kernel
theorem d_Mo_put_170 : decode b_Mo_put 170 = .ok (.iload 5, 2) := by decide +kernel
theorem d_Mo_put_172 : decode b_Mo_put 172 = .ok (.iastore, 1) := by decide +kernel
theorem d_Mo_put_173 : decode b_Mo_put 173 = .ok (.iconst 1, 1) := by decide +kernel
theorem d_Mo_put_174 : decode b_Mo_put 174 = .ok (.ireturn, 1) := by decide +kernel
abbrev b_Mo_isDrawn : ByteArray := prog_15_method_180_code
def y_Mo_isDrawn : MethodName := ⟨"DrawingHouseModel", "isDrawn", "(I)Z"⟩
abbrev z_Mo_isDrawn : List Cond := Cond.code y_Mo_isDrawn b_Mo_isDrawn 2 (some .boolean) :: lw_g
theorem d_Mo_isDrawn_0 : decode b_Mo_isDrawn 0 = .ok (.iload_n 1, 1) := by decide +kernel
theorem d_Mo_isDrawn_1 : decode b_Mo_isDrawn 1 = .ok (.invokestatic 521, 3) := by decide +kernel
theorem d_Mo_isDrawn_4 : decode b_Mo_isDrawn 4 = .ok (.ifCond .eq 12, 3) := by decide +kernel
theorem d_Mo_isDrawn_7 : decode b_Mo_isDrawn 7 = .ok (.aload_n 0, 1) := by decide +kernel
theorem d_Mo_isDrawn_8 : decode b_Mo_isDrawn 8 = .ok (.getfield 120, 3) := by decide +kernel
theorem d_Mo_isDrawn_11 : decode b_Mo_isDrawn 11 = .ok (.iload_n 1, 1) := by decide +kernel
theorem d_Mo_isDrawn_12 : decode b_Mo_isDrawn 12 = .ok (.iaload, 1) := by decide +kernel
theorem d_Mo_isDrawn_13 : decode b_Mo_isDrawn 13 = .ok (.ifCond .ge 5, 3) := by decide +kernel
theorem d_Mo_isDrawn_16 : decode b_Mo_isDrawn 16 = .ok (.iconst 0, 1) := by decide +kernel
theorem d_Mo_isDrawn_17 : decode b_Mo_isDrawn 17 = .ok (.ireturn, 1) := by decide +kernel
theorem d_Mo_isDrawn_18 : decode b_Mo_isDrawn 18 = .ok (.aload_n 0, 1) := by decide +kernel
theorem d_Mo_isDrawn_19 : decode b_Mo_isDrawn 19 = .ok (.iload_n 1, 1) := by decide +kernel
theorem d_Mo_isDrawn_20 : decode b_Mo_isDrawn 20 = .ok (.invokevirtual 527, 3) := by decide +kernel
theorem d_Mo_isDrawn_23 : decode b_Mo_isDrawn 23 = .ok (.aload_n 0, 1) := by decide +kernel
theorem d_Mo_isDrawn_24 : decode b_Mo_isDrawn 24 = .ok (.iload_n 1, 1) := by decide +kernel
theorem d_Mo_isDrawn_25 : decode b_Mo_isDrawn 25 = .ok (.putfield 1020, 3) := by decide +kernel
theorem d_Mo_isDrawn_28 : decode b_Mo_isDrawn 28 = .ok (.iconst 1, 1) := by decide +kernel
theorem d_Mo_isDrawn_29 : decode b_Mo_isDrawn 29 = .ok (.ireturn, 1) := by decide +kernel
abbrev b_Mo_route : ByteArray := prog_15_method_187_code
def y_Mo_route : MethodName := ⟨"DrawingHouseModel", "route", "(II)I"⟩
abbrev z_Mo_route : List Cond := Cond.code y_Mo_route b_Mo_route 7 (some .int) :: lw_g
theorem d_Mo_route_0 : decode b_Mo_route 0 = .ok (.aload_n 0, 1) := by decide +kernel
theorem d_Mo_route_1 : decode b_Mo_route 1 = .ok (.iload_n 1, 1) := by decide +kernel
theorem d_Mo_route_2 : decode b_Mo_route 2 = .ok (.invokevirtual 1032, 3) := by decide +kernel
theorem d_Mo_route_5 : decode b_Mo_route 5 = .ok (.ifCond .eq 17, 3) := by decide +kernel
theorem d_Mo_route_8 : decode b_Mo_route 8 = .ok (.iload_n 2, 1) := by decide +kernel
theorem d_Mo_route_9 : decode b_Mo_route 9 = .ok (.iconst 0, 1) := by decide +kernel
theorem d_Mo_route_10 : decode b_Mo_route 10 = .ok (.aload_n 0, 1) := by decide +kernel
theorem d_Mo_route_11 : decode b_Mo_route 11 = .ok (.invokevirtual 401, 3) := by decide +kernel
theorem d_Mo_route_14 : decode b_Mo_route 14 = .ok (.iconst 1, 1) := by decide +kernel
theorem d_Mo_route_15 : decode b_Mo_route 15 = .ok (.isub, 1) := by decide +kernel
theorem d_Mo_route_16 : decode b_Mo_route 16 = .ok (.invokestatic 387, 3) := by decide +kernel
theorem d_Mo_route_19 : decode b_Mo_route 19 = .ok (.ifCond .ne 5, 3) := by decide +kernel
theorem d_Mo_route_22 : decode b_Mo_route 22 = .ok (.iconst (-1), 1) := by decide +kernel
theorem d_Mo_route_23 : decode b_Mo_route 23 = .ok (.ireturn, 1) := by decide +kernel
theorem d_Mo_route_24 : decode b_Mo_route 24 = .ok (.ldc_w 1035, 3) := by decide +kernel
theorem d_Mo_route_27 : decode b_Mo_route 27 = .ok (.istore_n 3, 1) := by decide +kernel
theorem d_Mo_route_28 : decode b_Mo_route 28 = .ok (.ldc_w 1035, 3) := by decide +kernel
theorem d_Mo_route_31 : decode b_Mo_route 31 = .ok (.istore 4, 2) := by decide +kernel
theorem d_Mo_route_33 : decode b_Mo_route 33 = .ok (.aload_n 0, 1) := by decide +kernel
theorem d_Mo_route_34 : decode b_Mo_route 34 = .ok (.ldc_w 1036, 3) := by decide +kernel
theorem d_Mo_route_37 : decode b_Mo_route 37 = .ok (.putfield 1037, 3) := by decide +kernel
theorem d_Mo_route_40 : decode b_Mo_route 40 = .ok (.aload_n 0, 1) := by decide +kernel
theorem d_Mo_route_41 : decode b_Mo_route 41 = .ok (.ldc_w 1036, 3) := by decide +kernel
theorem d_Mo_route_44 : decode b_Mo_route 44 = .ok (.putfield 1040, 3) := by decide +kernel
theorem d_Mo_route_47 : decode b_Mo_route 47 = .ok (.iconst 0, 1) := by decide +kernel
theorem d_Mo_route_48 : decode b_Mo_route 48 = .ok (.istore 5, 2) := by decide +kernel
theorem d_Mo_route_50 : decode b_Mo_route 50 = .ok (.iload 5, 2) := by decide +kernel
theorem d_Mo_route_52 : decode b_Mo_route 52 = .ok (.aload_n 0, 1) := by decide +kernel
theorem d_Mo_route_53 : decode b_Mo_route 53 = .ok (.invokevirtual 475, 3) := by decide +kernel
theorem d_Mo_route_56 : decode b_Mo_route 56 = .ok (.if_icmp .ge 87, 3) := by decide +kernel
theorem d_Mo_route_59 : decode b_Mo_route 59 = .ok (.aload_n 0, 1) := by decide +kernel
theorem d_Mo_route_60 : decode b_Mo_route 60 = .ok (.iload 5, 2) := by decide +kernel
theorem d_Mo_route_62 : decode b_Mo_route 62 = .ok (.invokevirtual 478, 3) := by decide +kernel
theorem d_Mo_route_65 : decode b_Mo_route 65 = .ok (.iconst 3, 1) := by decide +kernel
theorem d_Mo_route_66 : decode b_Mo_route 66 = .ok (.iadd, 1) := by decide +kernel
theorem d_Mo_route_67 : decode b_Mo_route 67 = .ok (.istore 6, 2) := by decide +kernel
theorem d_Mo_route_69 : decode b_Mo_route 69 = .ok (.aload_n 0, 1) := by decide +kernel
theorem d_Mo_route_70 : decode b_Mo_route 70 = .ok (.aload_n 0, 1) := by decide +kernel
theorem d_Mo_route_71 : decode b_Mo_route 71 = .ok (.getfield 1037, 3) := by decide +kernel
theorem d_Mo_route_74 : decode b_Mo_route 74 = .ok (.aload_n 0, 1) := by decide +kernel
theorem d_Mo_route_75 : decode b_Mo_route 75 = .ok (.iload 5, 2) := by decide +kernel
theorem d_Mo_route_77 : decode b_Mo_route 77 = .ok (.invokevirtual 1023, 3) := by decide +kernel
theorem d_Mo_route_80 : decode b_Mo_route 80 = .ok (.iload 6, 2) := by decide +kernel
theorem d_Mo_route_82 : decode b_Mo_route 82 = .ok (.isub, 1) := by decide +kernel
theorem d_Mo_route_83 : decode b_Mo_route 83 = .ok (.invokestatic 547, 3) := by decide +kernel
theorem d_Mo_route_86 : decode b_Mo_route 86 = .ok (.putfield 1037, 3) := by decide +kernel
theorem d_Mo_route_89 : decode b_Mo_route 89 = .ok (.iload_n 3, 1) := by decide +kernel
theorem d_Mo_route_90 : decode b_Mo_route 90 = .ok (.aload_n 0, 1) := by decide +kernel
theorem d_Mo_route_91 : decode b_Mo_route 91 = .ok (.iload 5, 2) := by decide +kernel
theorem d_Mo_route_93 : decode b_Mo_route 93 = .ok (.invokevirtual 1023, 3) := by decide +kernel
theorem d_Mo_route_96 : decode b_Mo_route 96 = .ok (.iload 6, 2) := by decide +kernel
theorem d_Mo_route_98 : decode b_Mo_route 98 = .ok (.iadd, 1) := by decide +kernel
theorem d_Mo_route_99 : decode b_Mo_route 99 = .ok (.invokestatic 855, 3) := by decide +kernel
theorem d_Mo_route_102 : decode b_Mo_route 102 = .ok (.istore_n 3, 1) := by decide +kernel
theorem d_Mo_route_103 : decode b_Mo_route 103 = .ok (.aload_n 0, 1) := by decide +kernel
theorem d_Mo_route_104 : decode b_Mo_route 104 = .ok (.aload_n 0, 1) := by decide +kernel
theorem d_Mo_route_105 : decode b_Mo_route 105 = .ok (.getfield 1040, 3) := by decide +kernel
theorem d_Mo_route_108 : decode b_Mo_route 108 = .ok (.aload_n 0, 1) := by decide +kernel
theorem d_Mo_route_109 : decode b_Mo_route 109 = .ok (.iload 5, 2) := by decide +kernel
theorem d_Mo_route_111 : decode b_Mo_route 111 = .ok (.invokevirtual 1029, 3) := by decide +kernel
theorem d_Mo_route_114 : decode b_Mo_route 114 = .ok (.iconst 3, 1) := by decide +kernel
theorem d_Mo_route_115 : decode b_Mo_route 115 = .ok (.isub, 1) := by decide +kernel
theorem d_Mo_route_116 : decode b_Mo_route 116 = .ok (.invokestatic 547, 3) := by decide +kernel
theorem d_Mo_route_119 : decode b_Mo_route 119 = .ok (.putfield 1040, 3) := by decide +kernel
theorem d_Mo_route_122 : decode b_Mo_route 122 = .ok (.iload 4, 2) := by decide +kernel
theorem d_Mo_route_124 : decode b_Mo_route 124 = .ok (.aload_n 0, 1) := by decide +kernel
theorem d_Mo_route_125 : decode b_Mo_route 125 = .ok (.iload 5, 2) := by decide +kernel
theorem d_Mo_route_127 : decode b_Mo_route 127 = .ok (.invokevirtual 1029, 3) := by decide +kernel
theorem d_Mo_route_130 : decode b_Mo_route 130 = .ok (.iconst 3, 1) := by decide +kernel
theorem d_Mo_route_131 : decode b_Mo_route 131 = .ok (.iadd, 1) := by decide +kernel
theorem d_Mo_route_132 : decode b_Mo_route 132 = .ok (.invokestatic 855, 3) := by decide +kernel
theorem d_Mo_route_135 : decode b_Mo_route 135 = .ok (.istore 4, 2) := by decide +kernel
theorem d_Mo_route_137 : decode b_Mo_route 137 = .ok (.iinc 5 1, 3) := by decide +kernel
theorem d_Mo_route_140 : decode b_Mo_route 140 = .ok (.goto (-90), 3) := by decide +kernel
theorem d_Mo_route_143 : decode b_Mo_route 143 = .ok (.aload_n 0, 1) := by decide +kernel
theorem d_Mo_route_144 : decode b_Mo_route 144 = .ok (.iload_n 3, 1) := by decide +kernel
theorem d_Mo_route_145 : decode b_Mo_route 145 = .ok (.aload_n 0, 1) := by decide +kernel
theorem d_Mo_route_146 : decode b_Mo_route 146 = .ok (.getfield 1037, 3) := by decide +kernel
theorem d_Mo_route_149 : decode b_Mo_route 149 = .ok (.isub, 1) := by decide +kernel
theorem d_Mo_route_150 : decode b_Mo_route 150 = .ok (.iconst 1, 1) := by decide +kernel
theorem d_Mo_route_151 : decode b_Mo_route 151 = .ok (.iadd, 1) := by decide +kernel
theorem d_Mo_route_152 : decode b_Mo_route 152 = .ok (.putfield 1043, 3) := by decide +kernel
theorem d_Mo_route_155 : decode b_Mo_route 155 = .ok (.aload_n 0, 1) := by decide +kernel
theorem d_Mo_route_156 : decode b_Mo_route 156 = .ok (.iload 4, 2) := by decide +kernel
theorem d_Mo_route_158 : decode b_Mo_route 158 = .ok (.aload_n 0, 1) := by decide +kernel
theorem d_Mo_route_159 : decode b_Mo_route 159 = .ok (.getfield 1040, 3) := by decide +kernel
theorem d_Mo_route_162 : decode b_Mo_route 162 = .ok (.isub, 1) := by decide +kernel
theorem d_Mo_route_163 : decode b_Mo_route 163 = .ok (.iconst 1, 1) := by decide +kernel
theorem d_Mo_route_164 : decode b_Mo_route 164 = .ok (.iadd, 1) := by decide +kernel
theorem d_Mo_route_165 : decode b_Mo_route 165 = .ok (.putfield 1046, 3) := by decide +kernel
theorem d_Mo_route_168 : decode b_Mo_route 168 = .ok (.aload_n 0, 1) := by decide +kernel
theorem d_Mo_route_169 : decode b_Mo_route 169 = .ok (.getfield 1043, 3) := by decide +kernel
theorem d_Mo_route_172 : decode b_Mo_route 172 = .ok (.i2l, 1) := by decide +kernel
theorem d_Mo_route_173 : decode b_Mo_route 173 = .ok (.aload_n 0, 1) := by decide +kernel
theorem d_Mo_route_174 : decode b_Mo_route 174 = .ok (.getfield 1046, 3) := by decide +kernel
theorem d_Mo_route_177 : decode b_Mo_route 177 = .ok (.i2l, 1) := by decide +kernel
theorem d_Mo_route_178 : decode b_Mo_route 178 = .ok (.lmul, 1) := by decide +kernel
theorem d_Mo_route_179 : decode b_Mo_route 179 = .ok (.ldc2_w 1049, 3) := by decide +kernel
theorem d_Mo_route_182 : decode b_Mo_route 182 = .ok (.lcmp, 1) := by decide +kernel
theorem d_Mo_route_183 : decode b_Mo_route 183 = .ok (.ifCond .le 6, 3) := by decide +kernel
theorem d_Mo_route_186 : decode b_Mo_route 186 = .ok (.bipush (-2), 2) := by decide +kernel
theorem d_Mo_route_188 : decode b_Mo_route 188 = .ok (.ireturn, 1) := by decide +kernel
theorem d_Mo_route_189 : decode b_Mo_route 189 = .ok (.iconst 0, 1) := by decide +kernel
theorem d_Mo_route_190 : decode b_Mo_route 190 = .ok (.istore 5, 2) := by decide +kernel
theorem d_Mo_route_192 : decode b_Mo_route 192 = .ok (.iload 5, 2) := by decide +kernel
theorem d_Mo_route_194 : decode b_Mo_route 194 = .ok (.aload_n 0, 1) := by decide +kernel
theorem d_Mo_route_195 : decode b_Mo_route 195 = .ok (.getfield 1043, 3) := by decide +kernel
theorem d_Mo_route_198 : decode b_Mo_route 198 = .ok (.aload_n 0, 1) := by decide +kernel
theorem d_Mo_route_199 : decode b_Mo_route 199 = .ok (.getfield 1046, 3) := by decide +kernel
theorem d_Mo_route_202 : decode b_Mo_route 202 = .ok (.imul, 1) := by decide +kernel
theorem d_Mo_route_203 : decode b_Mo_route 203 = .ok (.if_icmp .ge 45, 3) := by decide +kernel
theorem d_Mo_route_206 : decode b_Mo_route 206 = .ok (.aload_n 0, 1) := by decide +kernel
theorem d_Mo_route_207 : decode b_Mo_route 207 = .ok (.getfield 327, 3) := by decide +kernel
theorem d_Mo_route_210 : decode b_Mo_route 210 = .ok (.iload 5, 2) := by decide +kernel
theorem d_Mo_route_212 : decode b_Mo_route 212 = .ok (.aload_n 0, 1) := by decide +kernel
theorem d_Mo_route_213 : decode b_Mo_route 213 = .ok (.iload_n 2, 1) := by decide +kernel
theorem d_Mo_route_214 : decode b_Mo_route 214 = .ok (.aload_n 0, 1) := by decide +kernel
theorem d_Mo_route_215 : decode b_Mo_route 215 = .ok (.getfield 1037, 3) := by decide +kernel
theorem d_Mo_route_218 : decode b_Mo_route 218 = .ok (.iload 5, 2) := by decide +kernel
theorem d_Mo_route_220 : decode b_Mo_route 220 = .ok (.aload_n 0, 1) := by decide +kernel
theorem d_Mo_route_221 : decode b_Mo_route 221 = .ok (.getfield 1043, 3) := by decide +kernel
theorem d_Mo_route_224 : decode b_Mo_route 224 = .ok (.irem, 1) := by decide +kernel
theorem d_Mo_route_225 : decode b_Mo_route 225 = .ok (.iadd, 1) := by decide +kernel
theorem d_Mo_route_226 : decode b_Mo_route 226 = .ok (.aload_n 0, 1) := by decide +kernel
theorem d_Mo_route_227 : decode b_Mo_route 227 = .ok (.getfield 1040, 3) := by decide +kernel
theorem d_Mo_route_230 : decode b_Mo_route 230 = .ok (.iload 5, 2) := by decide +kernel
theorem d_Mo_route_232 : decode b_Mo_route 232 = .ok (.aload_n 0, 1) := by decide +kernel
theorem d_Mo_route_233 : decode b_Mo_route 233 = .ok (.getfield 1043, 3) := by decide +kernel
theorem d_Mo_route_236 : decode b_Mo_route 236 = .ok (.idiv, 1) := by decide +kernel
theorem d_Mo_route_237 : decode b_Mo_route 237 = .ok (.iadd, 1) := by decide +kernel
theorem d_Mo_route_238 : decode b_Mo_route 238 = .ok (.invokevirtual 1051, 3) := by decide +kernel
theorem d_Mo_route_241 : decode b_Mo_route 241 = .ok (.bastore, 1) := by decide +kernel
theorem d_Mo_route_242 : decode b_Mo_route 242 = .ok (.iinc 5 1, 3) := by decide +kernel
theorem d_Mo_route_245 : decode b_Mo_route 245 = .ok (.goto (-53), 3) := by decide +kernel
theorem d_Mo_route_248 : decode b_Mo_route 248 = .ok (.aload_n 0, 1) := by decide +kernel
theorem d_Mo_route_249 : decode b_Mo_route 249 = .ok (.aload_n 0, 1) := by decide +kernel
theorem d_Mo_route_250 : decode b_Mo_route 250 = .ok (.iload_n 2, 1) := by decide +kernel
theorem d_Mo_route_251 : decode b_Mo_route 251 = .ok (.invokevirtual 394, 3) := by decide +kernel
theorem d_Mo_route_254 : decode b_Mo_route 254 = .ok (.invokevirtual 1029, 3) := by decide +kernel
theorem d_Mo_route_257 : decode b_Mo_route 257 = .ok (.aload_n 0, 1) := by decide +kernel
theorem d_Mo_route_258 : decode b_Mo_route 258 = .ok (.getfield 1040, 3) := by decide +kernel
theorem d_Mo_route_261 : decode b_Mo_route 261 = .ok (.isub, 1) := by decide +kernel
theorem d_Mo_route_262 : decode b_Mo_route 262 = .ok (.aload_n 0, 1) := by decide +kernel
theorem d_Mo_route_263 : decode b_Mo_route 263 = .ok (.getfield 1043, 3) := by decide +kernel
theorem d_Mo_route_266 : decode b_Mo_route 266 = .ok (.imul, 1) := by decide +kernel
theorem d_Mo_route_267 : decode b_Mo_route 267 = .ok (.aload_n 0, 1) := by decide +kernel
theorem d_Mo_route_268 : decode b_Mo_route 268 = .ok (.aload_n 0, 1) := by decide +kernel
theorem d_Mo_route_269 : decode b_Mo_route 269 = .ok (.iload_n 2, 1) := by decide +kernel
theorem d_Mo_route_270 : decode b_Mo_route 270 = .ok (.invokevirtual 394, 3) := by decide +kernel
theorem d_Mo_route_273 : decode b_Mo_route 273 = .ok (.invokevirtual 1023, 3) := by decide +kernel
theorem d_Mo_route_276 : decode b_Mo_route 276 = .ok (.iadd, 1) := by decide +kernel
theorem d_Mo_route_277 : decode b_Mo_route 277 = .ok (.aload_n 0, 1) := by decide +kernel
theorem d_Mo_route_278 : decode b_Mo_route 278 = .ok (.getfield 1037, 3) := by decide +kernel
theorem d_Mo_route_281 : decode b_Mo_route 281 = .ok (.isub, 1) := by decide +kernel
theorem d_Mo_route_282 : decode b_Mo_route 282 = .ok (.istore 5, 2) := by decide +kernel
theorem d_Mo_route_284 : decode b_Mo_route 284 = .ok (.aload_n 0, 1) := by decide +kernel
theorem d_Mo_route_285 : decode b_Mo_route 285 = .ok (.aload_n 0, 1) := by decide +kernel
theorem d_Mo_route_286 : decode b_Mo_route 286 = .ok (.iload_n 2, 1) := by decide +kernel
theorem d_Mo_route_287 : decode b_Mo_route 287 = .ok (.invokevirtual 398, 3) := by decide +kernel
theorem d_Mo_route_290 : decode b_Mo_route 290 = .ok (.invokevirtual 1029, 3) := by decide +kernel
theorem d_Mo_route_293 : decode b_Mo_route 293 = .ok (.aload_n 0, 1) := by decide +kernel
theorem d_Mo_route_294 : decode b_Mo_route 294 = .ok (.getfield 1040, 3) := by decide +kernel
theorem d_Mo_route_297 : decode b_Mo_route 297 = .ok (.isub, 1) := by decide +kernel
theorem d_Mo_route_298 : decode b_Mo_route 298 = .ok (.aload_n 0, 1) := by decide +kernel
theorem d_Mo_route_299 : decode b_Mo_route 299 = .ok (.getfield 1043, 3) := by decide +kernel
theorem d_Mo_route_302 : decode b_Mo_route 302 = .ok (.imul, 1) := by decide +kernel
theorem d_Mo_route_303 : decode b_Mo_route 303 = .ok (.aload_n 0, 1) := by decide +kernel
theorem d_Mo_route_304 : decode b_Mo_route 304 = .ok (.aload_n 0, 1) := by decide +kernel
theorem d_Mo_route_305 : decode b_Mo_route 305 = .ok (.iload_n 2, 1) := by decide +kernel
theorem d_Mo_route_306 : decode b_Mo_route 306 = .ok (.invokevirtual 398, 3) := by decide +kernel
theorem d_Mo_route_309 : decode b_Mo_route 309 = .ok (.invokevirtual 1023, 3) := by decide +kernel
theorem d_Mo_route_312 : decode b_Mo_route 312 = .ok (.iadd, 1) := by decide +kernel
theorem d_Mo_route_313 : decode b_Mo_route 313 = .ok (.aload_n 0, 1) := by decide +kernel
theorem d_Mo_route_314 : decode b_Mo_route 314 = .ok (.getfield 1037, 3) := by decide +kernel
theorem d_Mo_route_317 : decode b_Mo_route 317 = .ok (.isub, 1) := by decide +kernel
theorem d_Mo_route_318 : decode b_Mo_route 318 = .ok (.istore 6, 2) := by decide +kernel
theorem d_Mo_route_320 : decode b_Mo_route 320 = .ok (.aload_n 0, 1) := by decide +kernel
theorem d_Mo_route_321 : decode b_Mo_route 321 = .ok (.iload 6, 2) := by decide +kernel
theorem d_Mo_route_323 : decode b_Mo_route 323 = .ok (.invokevirtual 1054, 3) := by decide +kernel
theorem d_Mo_route_326 : decode b_Mo_route 326 = .ok (.iload 5, 2) := by decide +kernel
theorem d_Mo_route_328 : decode b_Mo_route 328 = .ok (.iload 6, 2) := by decide +kernel
theorem d_Mo_route_330 : decode b_Mo_route 330 = .ok (.if_icmp .ne 16, 3) := by decide +kernel
theorem d_Mo_route_333 : decode b_Mo_route 333 = .ok (.aload_n 0, 1) := by decide +kernel
theorem d_Mo_route_334 : decode b_Mo_route 334 = .ok (.iload_n 2, 1) := by decide +kernel
theorem d_Mo_route_335 : decode b_Mo_route 335 = .ok (.iload 5, 2) := by decide +kernel
theorem d_Mo_route_337 : decode b_Mo_route 337 = .ok (.iload 6, 2) := by decide +kernel
theorem d_Mo_route_339 : decode b_Mo_route 339 = .ok (.iconst 0, 1) := by decide +kernel
theorem d_Mo_route_340 : decode b_Mo_route 340 = .ok (.invokevirtual 1057, 3) := by decide +kernel
theorem d_Mo_route_343 : decode b_Mo_route 343 = .ok (.goto 13, 3) := by decide +kernel
theorem d_Mo_route_346 : decode b_Mo_route 346 = .ok (.aload_n 0, 1) := by decide +kernel
theorem d_Mo_route_347 : decode b_Mo_route 347 = .ok (.iload_n 2, 1) := by decide +kernel
theorem d_Mo_route_348 : decode b_Mo_route 348 = .ok (.iload 5, 2) := by decide +kernel
theorem d_Mo_route_350 : decode b_Mo_route 350 = .ok (.iload 6, 2) := by decide +kernel
theorem d_Mo_route_352 : decode b_Mo_route 352 = .ok (.iconst 1, 1) := by decide +kernel
theorem d_Mo_route_353 : decode b_Mo_route 353 = .ok (.invokevirtual 1057, 3) := by decide +kernel
theorem d_Mo_route_356 : decode b_Mo_route 356 = .ok (.ireturn, 1) := by decide +kernel
abbrev b_Mo_label : ByteArray := prog_15_method_196_code
def y_Mo_label : MethodName := ⟨"DrawingHouseModel", "label", "(III)I"⟩
abbrev z_Mo_label : List Cond := Cond.code y_Mo_label b_Mo_label 5 (some .int) :: lw_g
theorem d_Mo_label_0 : decode b_Mo_label 0 = .ok (.aload_n 0, 1) := by decide +kernel
theorem d_Mo_label_1 : decode b_Mo_label 1 = .ok (.iload_n 1, 1) := by decide +kernel
theorem d_Mo_label_2 : decode b_Mo_label 2 = .ok (.invokevirtual 1032, 3) := by decide +kernel
theorem d_Mo_label_5 : decode b_Mo_label 5 = .ok (.ifCond .eq 35, 3) := by decide +kernel
theorem d_Mo_label_8 : decode b_Mo_label 8 = .ok (.iload_n 2, 1) := by decide +kernel
theorem d_Mo_label_9 : decode b_Mo_label 9 = .ok (.iconst 0, 1) := by decide +kernel
theorem d_Mo_label_10 : decode b_Mo_label 10 = .ok (.aload_n 0, 1) := by decide +kernel
theorem d_Mo_label_11 : decode b_Mo_label 11 = .ok (.invokevirtual 401, 3) := by decide +kernel
theorem d_Mo_label_14 : decode b_Mo_label 14 = .ok (.iconst 1, 1) := by decide +kernel
theorem d_Mo_label_15 : decode b_Mo_label 15 = .ok (.isub, 1) := by decide +kernel
theorem d_Mo_label_16 : decode b_Mo_label 16 = .ok (.invokestatic 387, 3) := by decide +kernel
theorem d_Mo_label_19 : decode b_Mo_label 19 = .ok (.ifCond .eq 21, 3) := by decide +kernel
theorem d_Mo_label_22 : decode b_Mo_label 22 = .ok (.iload_n 3, 1) := by decide +kernel
theorem d_Mo_label_23 : decode b_Mo_label 23 = .ok (.iconst 0, 1) := by decide +kernel
theorem d_Mo_label_24 : decode b_Mo_label 24 = .ok (.iconst 1, 1) := by decide +kernel
theorem d_Mo_label_25 : decode b_Mo_label 25 = .ok (.invokestatic 387, 3) := by decide +kernel
theorem d_Mo_label_28 : decode b_Mo_label 28 = .ok (.ifCond .eq 12, 3) := by decide +kernel
theorem d_Mo_label_31 : decode b_Mo_label 31 = .ok (.aload_n 0, 1) := by decide +kernel
theorem d_Mo_label_32 : decode b_Mo_label 32 = .ok (.iload_n 2, 1) := by decide +kernel
theorem d_Mo_label_33 : decode b_Mo_label 33 = .ok (.invokevirtual 737, 3) := by decide +kernel
theorem d_Mo_label_36 : decode b_Mo_label 36 = .ok (.iconst 1, 1) := by decide +kernel
theorem d_Mo_label_37 : decode b_Mo_label 37 = .ok (.if_icmp .ne 7, 3) := by decide +kernel
theorem d_Mo_label_40 : decode b_Mo_label 40 = .ok (.ldc_w 775, 3) := by decide +kernel
theorem d_Mo_label_43 : decode b_Mo_label 43 = .ok (.ireturn, 1) := by decide +kernel
theorem d_Mo_label_44 : decode b_Mo_label 44 = .ok (.aload_n 0, 1) := by decide +kernel
theorem d_Mo_label_45 : decode b_Mo_label 45 = .ok (.iconst 0, 1) := by decide +kernel
theorem d_Mo_label_46 : decode b_Mo_label 46 = .ok (.putfield 1079, 3) := by decide +kernel
theorem d_Mo_label_49 : decode b_Mo_label 49 = .ok (.iconst 0, 1) := by decide +kernel
theorem d_Mo_label_50 : decode b_Mo_label 50 = .ok (.istore 4, 2) := by decide +kernel
theorem d_Mo_label_52 : decode b_Mo_label 52 = .ok (.iload 4, 2) := by decide +kernel
theorem d_Mo_label_54 : decode b_Mo_label 54 = .ok (.iload_n 2, 1) := by decide +kernel
theorem d_Mo_label_55 : decode b_Mo_label 55 = .ok (.if_icmp .ge 38, 3) := by decide +kernel
theorem d_Mo_label_58 : decode b_Mo_label 58 = .ok (.aload_n 0, 1) := by decide +kernel
theorem d_Mo_label_59 : decode b_Mo_label 59 = .ok (.iload 4, 2) := by decide +kernel
theorem d_Mo_label_61 : decode b_Mo_label 61 = .ok (.invokevirtual 737, 3) := by decide +kernel
theorem d_Mo_label_64 : decode b_Mo_label 64 = .ok (.iconst 1, 1) := by decide +kernel
theorem d_Mo_label_65 : decode b_Mo_label 65 = .ok (.if_icmp .le 22, 3) := by decide +kernel
theorem d_Mo_label_68 : decode b_Mo_label 68 = .ok (.aload_n 0, 1) := by decide +kernel
theorem d_Mo_label_69 : decode b_Mo_label 69 = .ok (.iload 4, 2) := by decide +kernel
theorem d_Mo_label_71 : decode b_Mo_label 71 = .ok (.invokevirtual 1082, 3) := by decide +kernel
theorem d_Mo_label_74 : decode b_Mo_label 74 = .ok (.ifCond .eq 13, 3) := by decide +kernel
theorem d_Mo_label_77 : decode b_Mo_label 77 = .ok (.aload_n 0, 1) := by decide +kernel
theorem d_Mo_label_78 : decode b_Mo_label 78 = .ok (.dup, 1) := by decide +kernel
theorem d_Mo_label_79 : decode b_Mo_label 79 = .ok (.getfield 1079, 3) := by decide +kernel
theorem d_Mo_label_82 : decode b_Mo_label 82 = .ok (.iconst 1, 1) := by decide +kernel
theorem d_Mo_label_83 : decode b_Mo_label 83 = .ok (.iadd, 1) := by decide +kernel
theorem d_Mo_label_84 : decode b_Mo_label 84 = .ok (.putfield 1079, 3) := by decide +kernel
theorem d_Mo_label_87 : decode b_Mo_label 87 = .ok (.iinc 4 1, 3) := by decide +kernel
theorem d_Mo_label_90 : decode b_Mo_label 90 = .ok (.goto (-38), 3) := by decide +kernel
theorem d_Mo_label_93 : decode b_Mo_label 93 = .ok (.aload_n 0, 1) := by decide +kernel
theorem d_Mo_label_94 : decode b_Mo_label 94 = .ok (.iload_n 2, 1) := by decide +kernel
theorem d_Mo_label_95 : decode b_Mo_label 95 = .ok (.invokevirtual 1082, 3) := by decide +kernel
theorem d_Mo_label_98 : decode b_Mo_label 98 = .ok (.ifCond .ne 9, 3) := by decide +kernel
theorem d_Mo_label_101 : decode b_Mo_label 101 = .ok (.ldc_w 775, 3) := by decide +kernel
theorem d_Mo_label_104 : decode b_Mo_label 104 = .ok (.goto 28, 3) := by decide +kernel
theorem d_Mo_label_107 : decode b_Mo_label 107 = .ok (.iload_n 3, 1) := by decide +kernel
theorem d_Mo_label_108 : decode b_Mo_label 108 = .ok (.ifCond .ne 15, 3) := by decide +kernel
theorem d_Mo_label_111 : decode b_Mo_label 111 = .ok (.aload_n 0, 1) := by decide +kernel
theorem d_Mo_label_112 : decode b_Mo_label 112 = .ok (.getfield 336, 3) := by decide +kernel
theorem d_Mo_label_115 : decode b_Mo_label 115 = .ok (.aload_n 0, 1) := by decide +kernel
theorem d_Mo_label_116 : decode b_Mo_label 116 = .ok (.getfield 1079, 3) := by decide +kernel
theorem d_Mo_label_119 : decode b_Mo_label 119 = .ok (.iaload, 1) := by decide +kernel
theorem d_Mo_label_120 : decode b_Mo_label 120 = .ok (.goto 12, 3) := by decide +kernel
theorem d_Mo_label_123 : decode b_Mo_label 123 = .ok (.aload_n 0, 1) := by decide +kernel
theorem d_Mo_label_124 : decode b_Mo_label 124 = .ok (.getfield 339, 3) := by decide +kernel
theorem d_Mo_label_127 : decode b_Mo_label 127 = .ok (.aload_n 0, 1) := by decide +kernel
theorem d_Mo_label_128 : decode b_Mo_label 128 = .ok (.getfield 1079, 3) := by decide +kernel
theorem d_Mo_label_131 : decode b_Mo_label 131 = .ok (.iaload, 1) := by decide +kernel
theorem d_Mo_label_132 : decode b_Mo_label 132 = .ok (.ireturn, 1) := by decide +kernel
abbrev b_Mo_dots : ByteArray := prog_15_method_242_code
def y_Mo_dots : MethodName := ⟨"DrawingHouseModel", "dots", "(III)I"⟩
abbrev z_Mo_dots : List Cond := Cond.code y_Mo_dots b_Mo_dots 6 (some .int) :: lw_g
theorem d_Mo_dots_0 : decode b_Mo_dots 0 = .ok (.aload_n 0, 1) := by decide +kernel
theorem d_Mo_dots_1 : decode b_Mo_dots 1 = .ok (.iload_n 1, 1) := by decide +kernel
theorem d_Mo_dots_2 : decode b_Mo_dots 2 = .ok (.invokevirtual 1032, 3) := by decide +kernel
theorem d_Mo_dots_5 : decode b_Mo_dots 5 = .ok (.ifCond .eq 23, 3) := by decide +kernel
theorem d_Mo_dots_8 : decode b_Mo_dots 8 = .ok (.iload_n 2, 1) := by decide +kernel
theorem d_Mo_dots_9 : decode b_Mo_dots 9 = .ok (.iconst 1, 1) := by decide +kernel
theorem d_Mo_dots_10 : decode b_Mo_dots 10 = .ok (.bipush 64, 2) := by decide +kernel
theorem d_Mo_dots_12 : decode b_Mo_dots 12 = .ok (.invokestatic 387, 3) := by decide +kernel
theorem d_Mo_dots_15 : decode b_Mo_dots 15 = .ok (.ifCond .eq 13, 3) := by decide +kernel
theorem d_Mo_dots_18 : decode b_Mo_dots 18 = .ok (.iload_n 3, 1) := by decide +kernel
theorem d_Mo_dots_19 : decode b_Mo_dots 19 = .ok (.iconst 1, 1) := by decide +kernel
theorem d_Mo_dots_20 : decode b_Mo_dots 20 = .ok (.bipush 64, 2) := by decide +kernel
theorem d_Mo_dots_22 : decode b_Mo_dots 22 = .ok (.invokestatic 387, 3) := by decide +kernel
theorem d_Mo_dots_25 : decode b_Mo_dots 25 = .ok (.ifCond .ne 5, 3) := by decide +kernel
theorem d_Mo_dots_28 : decode b_Mo_dots 28 = .ok (.iconst (-1), 1) := by decide +kernel
theorem d_Mo_dots_29 : decode b_Mo_dots 29 = .ok (.ireturn, 1) := by decide +kernel
theorem d_Mo_dots_30 : decode b_Mo_dots 30 = .ok (.aload_n 0, 1) := by decide +kernel
theorem d_Mo_dots_31 : decode b_Mo_dots 31 = .ok (.iload_n 2, 1) := by decide +kernel
theorem d_Mo_dots_32 : decode b_Mo_dots 32 = .ok (.putfield 1329, 3) := by decide +kernel
theorem d_Mo_dots_35 : decode b_Mo_dots 35 = .ok (.aload_n 0, 1) := by decide +kernel
theorem d_Mo_dots_36 : decode b_Mo_dots 36 = .ok (.iload_n 3, 1) := by decide +kernel
theorem d_Mo_dots_37 : decode b_Mo_dots 37 = .ok (.putfield 1332, 3) := by decide +kernel
theorem d_Mo_dots_40 : decode b_Mo_dots 40 = .ok (.aload_n 0, 1) := by decide +kernel
theorem d_Mo_dots_41 : decode b_Mo_dots 41 = .ok (.invokevirtual 1157, 3) := by decide +kernel
theorem d_Mo_dots_44 : decode b_Mo_dots 44 = .ok (.iconst 0, 1) := by decide +kernel
theorem d_Mo_dots_45 : decode b_Mo_dots 45 = .ok (.istore 4, 2) := by decide +kernel
theorem d_Mo_dots_47 : decode b_Mo_dots 47 = .ok (.iload 4, 2) := by decide +kernel
theorem d_Mo_dots_49 : decode b_Mo_dots 49 = .ok (.sipush 4096, 3) := by decide +kernel
theorem d_Mo_dots_52 : decode b_Mo_dots 52 = .ok (.if_icmp .ge 17, 3) := by decide +kernel
theorem d_Mo_dots_55 : decode b_Mo_dots 55 = .ok (.aload_n 0, 1) := by decide +kernel
theorem d_Mo_dots_56 : decode b_Mo_dots 56 = .ok (.getfield 369, 3) := by decide +kernel
theorem d_Mo_dots_59 : decode b_Mo_dots 59 = .ok (.iload 4, 2) := by decide +kernel
theorem d_Mo_dots_61 : decode b_Mo_dots 61 = .ok (.iconst 0, 1) := by decide +kernel
theorem d_Mo_dots_62 : decode b_Mo_dots 62 = .ok (.iastore, 1) := by decide +kernel
theorem d_Mo_dots_63 : decode b_Mo_dots 63 = .ok (.iinc 4 1, 3) := by decide +kernel
theorem d_Mo_dots_66 : decode b_Mo_dots 66 = .ok (.goto (-19), 3) := by decide +kernel
theorem d_Mo_dots_69 : decode b_Mo_dots 69 = .ok (.iconst 0, 1) := by decide +kernel
theorem d_Mo_dots_70 : decode b_Mo_dots 70 = .ok (.istore 4, 2) := by decide +kernel
theorem d_Mo_dots_72 : decode b_Mo_dots 72 = .ok (.iload 4, 2) := by decide +kernel
theorem d_Mo_dots_74 : decode b_Mo_dots 74 = .ok (.aload_n 0, 1) := by decide +kernel
theorem d_Mo_dots_75 : decode b_Mo_dots 75 = .ok (.invokevirtual 401, 3) := by decide +kernel
theorem d_Mo_dots_78 : decode b_Mo_dots 78 = .ok (.if_icmp .ge 107, 3) := by decide +kernel
theorem d_Mo_dots_81 : decode b_Mo_dots 81 = .ok (.iconst 0, 1) := by decide +kernel
theorem d_Mo_dots_82 : decode b_Mo_dots 82 = .ok (.istore 5, 2) := by decide +kernel
theorem d_Mo_dots_84 : decode b_Mo_dots 84 = .ok (.iload 5, 2) := by decide +kernel
theorem d_Mo_dots_86 : decode b_Mo_dots 86 = .ok (.iconst 1, 1) := by decide +kernel
theorem d_Mo_dots_87 : decode b_Mo_dots 87 = .ok (.iadd, 1) := by decide +kernel
theorem d_Mo_dots_88 : decode b_Mo_dots 88 = .ok (.aload_n 0, 1) := by decide +kernel
theorem d_Mo_dots_89 : decode b_Mo_dots 89 = .ok (.iload 4, 2) := by decide +kernel
theorem d_Mo_dots_91 : decode b_Mo_dots 91 = .ok (.invokevirtual 1026, 3) := by decide +kernel
theorem d_Mo_dots_94 : decode b_Mo_dots 94 = .ok (.if_icmp .ge 85, 3) := by decide +kernel
theorem d_Mo_dots_97 : decode b_Mo_dots 97 = .ok (.aload_n 0, 1) := by decide +kernel
theorem d_Mo_dots_98 : decode b_Mo_dots 98 = .ok (.aload_n 0, 1) := by decide +kernel
theorem d_Mo_dots_99 : decode b_Mo_dots 99 = .ok (.aload_n 0, 1) := by decide +kernel
theorem d_Mo_dots_100 : decode b_Mo_dots 100 = .ok (.iload 4, 2) := by decide +kernel
theorem d_Mo_dots_102 : decode b_Mo_dots 102 = .ok (.iload 5, 2) := by decide +kernel
theorem d_Mo_dots_104 : decode b_Mo_dots 104 = .ok (.invokevirtual 1085, 3) := by decide +kernel
theorem d_Mo_dots_107 : decode b_Mo_dots 107 = .ok (.invokevirtual 1335, 3) := by decide +kernel
theorem d_Mo_dots_110 : decode b_Mo_dots 110 = .ok (.aload_n 0, 1) := by decide +kernel
theorem d_Mo_dots_111 : decode b_Mo_dots 111 = .ok (.aload_n 0, 1) := by decide +kernel
theorem d_Mo_dots_112 : decode b_Mo_dots 112 = .ok (.iload 4, 2) := by decide +kernel
theorem d_Mo_dots_114 : decode b_Mo_dots 114 = .ok (.iload 5, 2) := by decide +kernel
theorem d_Mo_dots_116 : decode b_Mo_dots 116 = .ok (.invokevirtual 1088, 3) := by decide +kernel
theorem d_Mo_dots_119 : decode b_Mo_dots 119 = .ok (.invokevirtual 1338, 3) := by decide +kernel
theorem d_Mo_dots_122 : decode b_Mo_dots 122 = .ok (.aload_n 0, 1) := by decide +kernel
theorem d_Mo_dots_123 : decode b_Mo_dots 123 = .ok (.aload_n 0, 1) := by decide +kernel
theorem d_Mo_dots_124 : decode b_Mo_dots 124 = .ok (.iload 4, 2) := by decide +kernel
theorem d_Mo_dots_126 : decode b_Mo_dots 126 = .ok (.iload 5, 2) := by decide +kernel
theorem d_Mo_dots_128 : decode b_Mo_dots 128 = .ok (.iconst 1, 1) := by decide +kernel
theorem d_Mo_dots_129 : decode b_Mo_dots 129 = .ok (.iadd, 1) := by decide +kernel
theorem d_Mo_dots_130 : decode b_Mo_dots 130 = .ok (.invokevirtual 1085, 3) := by decide +kernel
theorem d_Mo_dots_133 : decode b_Mo_dots 133 = .ok (.invokevirtual 1335, 3) := by decide +kernel
theorem d_Mo_dots_136 : decode b_Mo_dots 136 = .ok (.aload_n 0, 1) := by decide +kernel
theorem d_Mo_dots_137 : decode b_Mo_dots 137 = .ok (.aload_n 0, 1) := by decide +kernel
theorem d_Mo_dots_138 : decode b_Mo_dots 138 = .ok (.iload 4, 2) := by decide +kernel
theorem d_Mo_dots_140 : decode b_Mo_dots 140 = .ok (.iload 5, 2) := by decide +kernel
theorem d_Mo_dots_142 : decode b_Mo_dots 142 = .ok (.iconst 1, 1) := by decide +kernel
theorem d_Mo_dots_143 : decode b_Mo_dots 143 = .ok (.iadd, 1) := by decide +kernel
theorem d_Mo_dots_144 : decode b_Mo_dots 144 = .ok (.invokevirtual 1088, 3) := by decide +kernel
theorem d_Mo_dots_147 : decode b_Mo_dots 147 = .ok (.invokevirtual 1338, 3) := by decide +kernel
theorem d_Mo_dots_150 : decode b_Mo_dots 150 = .ok (.iconst 1, 1) := by decide +kernel
theorem d_Mo_dots_151 : decode b_Mo_dots 151 = .ok (.aload_n 0, 1) := by decide +kernel
theorem d_Mo_dots_152 : decode b_Mo_dots 152 = .ok (.getfield 156, 3) := by decide +kernel
theorem d_Mo_dots_155 : decode b_Mo_dots 155 = .ok (.sipush 216, 3) := by decide +kernel
theorem d_Mo_dots_158 : decode b_Mo_dots 158 = .ok (.iload_n 1, 1) := by decide +kernel
theorem d_Mo_dots_159 : decode b_Mo_dots 159 = .ok (.imul, 1) := by decide +kernel
theorem d_Mo_dots_160 : decode b_Mo_dots 160 = .ok (.bipush 72, 2) := by decide +kernel
theorem d_Mo_dots_162 : decode b_Mo_dots 162 = .ok (.iadd, 1) := by decide +kernel
theorem d_Mo_dots_163 : decode b_Mo_dots 163 = .ok (.iconst 3, 1) := by decide +kernel
theorem d_Mo_dots_164 : decode b_Mo_dots 164 = .ok (.iload 4, 2) := by decide +kernel
theorem d_Mo_dots_166 : decode b_Mo_dots 166 = .ok (.imul, 1) := by decide +kernel
theorem d_Mo_dots_167 : decode b_Mo_dots 167 = .ok (.iadd, 1) := by decide +kernel
theorem d_Mo_dots_168 : decode b_Mo_dots 168 = .ok (.iaload, 1) := by decide +kernel
theorem d_Mo_dots_169 : decode b_Mo_dots 169 = .ok (.iadd, 1) := by decide +kernel
theorem d_Mo_dots_170 : decode b_Mo_dots 170 = .ok (.invokevirtual 1341, 3) := by decide +kernel
theorem d_Mo_dots_173 : decode b_Mo_dots 173 = .ok (.iinc 5 1, 3) := by decide +kernel
theorem d_Mo_dots_176 : decode b_Mo_dots 176 = .ok (.goto (-92), 3) := by decide +kernel
theorem d_Mo_dots_179 : decode b_Mo_dots 179 = .ok (.iinc 4 1, 3) := by decide +kernel
theorem d_Mo_dots_182 : decode b_Mo_dots 182 = .ok (.goto (-110), 3) := by decide +kernel
theorem d_Mo_dots_185 : decode b_Mo_dots 185 = .ok (.iconst 0, 1) := by decide +kernel
theorem d_Mo_dots_186 : decode b_Mo_dots 186 = .ok (.istore 4, 2) := by decide +kernel
theorem d_Mo_dots_188 : decode b_Mo_dots 188 = .ok (.iload 4, 2) := by decide +kernel
theorem d_Mo_dots_190 : decode b_Mo_dots 190 = .ok (.aload_n 0, 1) := by decide +kernel
theorem d_Mo_dots_191 : decode b_Mo_dots 191 = .ok (.invokevirtual 475, 3) := by decide +kernel
theorem d_Mo_dots_194 : decode b_Mo_dots 194 = .ok (.if_icmp .ge 59, 3) := by decide +kernel
theorem d_Mo_dots_197 : decode b_Mo_dots 197 = .ok (.aload_n 0, 1) := by decide +kernel
theorem d_Mo_dots_198 : decode b_Mo_dots 198 = .ok (.getfield 369, 3) := by decide +kernel
theorem d_Mo_dots_201 : decode b_Mo_dots 201 = .ok (.bipush 64, 2) := by decide +kernel
theorem d_Mo_dots_203 : decode b_Mo_dots 203 = .ok (.aload_n 0, 1) := by decide +kernel
theorem d_Mo_dots_204 : decode b_Mo_dots 204 = .ok (.aload_n 0, 1) := by decide +kernel
theorem d_Mo_dots_205 : decode b_Mo_dots 205 = .ok (.iload 4, 2) := by decide +kernel
theorem d_Mo_dots_207 : decode b_Mo_dots 207 = .ok (.invokevirtual 1029, 3) := by decide +kernel
theorem d_Mo_dots_210 : decode b_Mo_dots 210 = .ok (.invokevirtual 1338, 3) := by decide +kernel
theorem d_Mo_dots_213 : decode b_Mo_dots 213 = .ok (.imul, 1) := by decide +kernel
theorem d_Mo_dots_214 : decode b_Mo_dots 214 = .ok (.aload_n 0, 1) := by decide +kernel
theorem d_Mo_dots_215 : decode b_Mo_dots 215 = .ok (.aload_n 0, 1) := by decide +kernel
theorem d_Mo_dots_216 : decode b_Mo_dots 216 = .ok (.iload 4, 2) := by decide +kernel
theorem d_Mo_dots_218 : decode b_Mo_dots 218 = .ok (.invokevirtual 1023, 3) := by decide +kernel
theorem d_Mo_dots_221 : decode b_Mo_dots 221 = .ok (.invokevirtual 1335, 3) := by decide +kernel
theorem d_Mo_dots_224 : decode b_Mo_dots 224 = .ok (.iadd, 1) := by decide +kernel
theorem d_Mo_dots_225 : decode b_Mo_dots 225 = .ok (.sipush 128, 3) := by decide +kernel
theorem d_Mo_dots_228 : decode b_Mo_dots 228 = .ok (.aload_n 0, 1) := by decide +kernel
theorem d_Mo_dots_229 : decode b_Mo_dots 229 = .ok (.getfield 156, 3) := by decide +kernel
theorem d_Mo_dots_232 : decode b_Mo_dots 232 = .ok (.sipush 216, 3) := by decide +kernel
theorem d_Mo_dots_235 : decode b_Mo_dots 235 = .ok (.iload_n 1, 1) := by decide +kernel
theorem d_Mo_dots_236 : decode b_Mo_dots 236 = .ok (.imul, 1) := by decide +kernel
theorem d_Mo_dots_237 : decode b_Mo_dots 237 = .ok (.iconst 3, 1) := by decide +kernel
theorem d_Mo_dots_238 : decode b_Mo_dots 238 = .ok (.iload 4, 2) := by decide +kernel
theorem d_Mo_dots_240 : decode b_Mo_dots 240 = .ok (.imul, 1) := by decide +kernel
theorem d_Mo_dots_241 : decode b_Mo_dots 241 = .ok (.iadd, 1) := by decide +kernel
theorem d_Mo_dots_242 : decode b_Mo_dots 242 = .ok (.iaload, 1) := by decide +kernel
theorem d_Mo_dots_243 : decode b_Mo_dots 243 = .ok (.iconst 2, 1) := by decide +kernel
theorem d_Mo_dots_244 : decode b_Mo_dots 244 = .ok (.idiv, 1) := by decide +kernel
theorem d_Mo_dots_245 : decode b_Mo_dots 245 = .ok (.iadd, 1) := by decide +kernel
theorem d_Mo_dots_246 : decode b_Mo_dots 246 = .ok (.iastore, 1) := by decide +kernel
theorem d_Mo_dots_247 : decode b_Mo_dots 247 = .ok (.iinc 4 1, 3) := by decide +kernel
theorem d_Mo_dots_250 : decode b_Mo_dots 250 = .ok (.goto (-62), 3) := by decide +kernel
theorem d_Mo_dots_253 : decode b_Mo_dots 253 = .ok (.iconst 0, 1) := by decide +kernel
theorem d_Mo_dots_254 : decode b_Mo_dots 254 = .ok (.istore 4, 2) := by decide +kernel
theorem d_Mo_dots_256 : decode b_Mo_dots 256 = .ok (.iconst 0, 1) := by decide +kernel
theorem d_Mo_dots_257 : decode b_Mo_dots 257 = .ok (.istore 5, 2) := by decide +kernel
theorem d_Mo_dots_259 : decode b_Mo_dots 259 = .ok (.iload 5, 2) := by decide +kernel
theorem d_Mo_dots_261 : decode b_Mo_dots 261 = .ok (.sipush 4096, 3) := by decide +kernel
theorem d_Mo_dots_264 : decode b_Mo_dots 264 = .ok (.if_icmp .ge 29, 3) := by decide +kernel
theorem d_Mo_dots_267 : decode b_Mo_dots 267 = .ok (.iload 4, 2) := by decide +kernel
theorem d_Mo_dots_269 : decode b_Mo_dots 269 = .ok (.aload_n 0, 1) := by decide +kernel
theorem d_Mo_dots_270 : decode b_Mo_dots 270 = .ok (.getfield 369, 3) := by decide +kernel
theorem d_Mo_dots_273 : decode b_Mo_dots 273 = .ok (.iload 5, 2) := by decide +kernel
theorem d_Mo_dots_275 : decode b_Mo_dots 275 = .ok (.iaload, 1) := by decide +kernel
theorem d_Mo_dots_276 : decode b_Mo_dots 276 = .ok (.ifCond .eq 7, 3) := by decide +kernel
theorem d_Mo_dots_279 : decode b_Mo_dots 279 = .ok (.iconst 1, 1) := by decide +kernel
theorem d_Mo_dots_280 : decode b_Mo_dots 280 = .ok (.goto 4, 3) := by decide +kernel
theorem d_Mo_dots_283 : decode b_Mo_dots 283 = .ok (.iconst 0, 1) := by decide +kernel
theorem d_Mo_dots_284 : decode b_Mo_dots 284 = .ok (.iadd, 1) := by decide +kernel
theorem d_Mo_dots_285 : decode b_Mo_dots 285 = .ok (.istore 4, 2) := by decide +kernel
theorem d_Mo_dots_287 : decode b_Mo_dots 287 = .ok (.iinc 5 1, 3) := by decide +kernel
theorem d_Mo_dots_290 : decode b_Mo_dots 290 = .ok (.goto (-31), 3) := by decide +kernel
theorem d_Mo_dots_293 : decode b_Mo_dots 293 = .ok (.iload 4, 2) := by decide +kernel
theorem d_Mo_dots_295 : decode b_Mo_dots 295 = .ok (.ireturn, 1) := by decide +kernel
abbrev b_Mo_judge : ByteArray := prog_15_method_205_code
def y_Mo_judge : MethodName := ⟨"DrawingHouseModel", "judge", "(II)J"⟩
abbrev z_Mo_judge : List Cond := Cond.code y_Mo_judge b_Mo_judge 9 (some .long) :: lw_g
theorem d_Mo_judge_0 : decode b_Mo_judge 0 = .ok (.aload_n 0, 1) := by decide +kernel
theorem d_Mo_judge_1 : decode b_Mo_judge 1 = .ok (.iload_n 1, 1) := by decide +kernel
theorem d_Mo_judge_2 : decode b_Mo_judge 2 = .ok (.invokevirtual 1032, 3) := by decide +kernel
theorem d_Mo_judge_5 : decode b_Mo_judge 5 = .ok (.ifCond .eq 13, 3) := by decide +kernel
theorem d_Mo_judge_8 : decode b_Mo_judge 8 = .ok (.iload_n 2, 1) := by decide +kernel
theorem d_Mo_judge_9 : decode b_Mo_judge 9 = .ok (.iconst 0, 1) := by decide +kernel
theorem d_Mo_judge_10 : decode b_Mo_judge 10 = .ok (.bipush 9, 2) := by decide +kernel
theorem d_Mo_judge_12 : decode b_Mo_judge 12 = .ok (.invokestatic 387, 3) := by decide +kernel
theorem d_Mo_judge_15 : decode b_Mo_judge 15 = .ok (.ifCond .ne 7, 3) := by decide +kernel
theorem d_Mo_judge_18 : decode b_Mo_judge 18 = .ok (.ldc2_w 1007, 3) := by decide +kernel
theorem d_Mo_judge_21 : decode b_Mo_judge 21 = .ok (.lreturn, 1) := by decide +kernel
theorem d_Mo_judge_22 : decode b_Mo_judge 22 = .ok (.lconst 0, 1) := by decide +kernel
theorem d_Mo_judge_23 : decode b_Mo_judge 23 = .ok (.lstore_n 3, 1) := by decide +kernel
theorem d_Mo_judge_24 : decode b_Mo_judge 24 = .ok (.iload_n 2, 1) := by decide +kernel
theorem d_Mo_judge_25 : decode b_Mo_judge 25 = .ok (.ifCond .ne 106, 3) := by decide +kernel
theorem d_Mo_judge_28 : decode b_Mo_judge 28 = .ok (.iconst 0, 1) := by decide +kernel
theorem d_Mo_judge_29 : decode b_Mo_judge 29 = .ok (.istore 5, 2) := by decide +kernel
theorem d_Mo_judge_31 : decode b_Mo_judge 31 = .ok (.iload 5, 2) := by decide +kernel
theorem d_Mo_judge_33 : decode b_Mo_judge 33 = .ok (.aload_n 0, 1) := by decide +kernel
theorem d_Mo_judge_34 : decode b_Mo_judge 34 = .ok (.invokevirtual 401, 3) := by decide +kernel
theorem d_Mo_judge_37 : decode b_Mo_judge 37 = .ok (.if_icmp .ge 92, 3) := by decide +kernel
theorem d_Mo_judge_40 : decode b_Mo_judge 40 = .ok (.iconst 0, 1) := by decide +kernel
theorem d_Mo_judge_41 : decode b_Mo_judge 41 = .ok (.istore 6, 2) := by decide +kernel
theorem d_Mo_judge_43 : decode b_Mo_judge 43 = .ok (.iload 6, 2) := by decide +kernel
theorem d_Mo_judge_45 : decode b_Mo_judge 45 = .ok (.iload 5, 2) := by decide +kernel
theorem d_Mo_judge_47 : decode b_Mo_judge 47 = .ok (.if_icmp .ge 76, 3) := by decide +kernel
theorem d_Mo_judge_50 : decode b_Mo_judge 50 = .ok (.iconst 0, 1) := by decide +kernel
theorem d_Mo_judge_51 : decode b_Mo_judge 51 = .ok (.istore 7, 2) := by decide +kernel
theorem d_Mo_judge_53 : decode b_Mo_judge 53 = .ok (.iload 7, 2) := by decide +kernel
theorem d_Mo_judge_55 : decode b_Mo_judge 55 = .ok (.iconst 1, 1) := by decide +kernel
theorem d_Mo_judge_56 : decode b_Mo_judge 56 = .ok (.iadd, 1) := by decide +kernel
theorem d_Mo_judge_57 : decode b_Mo_judge 57 = .ok (.aload_n 0, 1) := by decide +kernel
theorem d_Mo_judge_58 : decode b_Mo_judge 58 = .ok (.iload 5, 2) := by decide +kernel
theorem d_Mo_judge_60 : decode b_Mo_judge 60 = .ok (.invokevirtual 1026, 3) := by decide +kernel
theorem d_Mo_judge_63 : decode b_Mo_judge 63 = .ok (.if_icmp .ge 54, 3) := by decide +kernel
theorem d_Mo_judge_66 : decode b_Mo_judge 66 = .ok (.iconst 0, 1) := by decide +kernel
theorem d_Mo_judge_67 : decode b_Mo_judge 67 = .ok (.istore 8, 2) := by decide +kernel
theorem d_Mo_judge_69 : decode b_Mo_judge 69 = .ok (.iload 8, 2) := by decide +kernel
theorem d_Mo_judge_71 : decode b_Mo_judge 71 = .ok (.iconst 1, 1) := by decide +kernel
theorem d_Mo_judge_72 : decode b_Mo_judge 72 = .ok (.iadd, 1) := by decide +kernel
theorem d_Mo_judge_73 : decode b_Mo_judge 73 = .ok (.aload_n 0, 1) := by decide +kernel
theorem d_Mo_judge_74 : decode b_Mo_judge 74 = .ok (.iload 6, 2) := by decide +kernel
theorem d_Mo_judge_76 : decode b_Mo_judge 76 = .ok (.invokevirtual 1026, 3) := by decide +kernel
theorem d_Mo_judge_79 : decode b_Mo_judge 79 = .ok (.if_icmp .ge 32, 3) := by decide +kernel
theorem d_Mo_judge_82 : decode b_Mo_judge 82 = .ok (.lload_n 3, 1) := by decide +kernel
theorem d_Mo_judge_83 : decode b_Mo_judge 83 = .ok (.aload_n 0, 1) := by decide +kernel
theorem d_Mo_judge_84 : decode b_Mo_judge 84 = .ok (.iload 5, 2) := by decide +kernel
theorem d_Mo_judge_86 : decode b_Mo_judge 86 = .ok (.iload 7, 2) := by decide +kernel
theorem d_Mo_judge_88 : decode b_Mo_judge 88 = .ok (.iload 6, 2) := by decide +kernel
theorem d_Mo_judge_90 : decode b_Mo_judge 90 = .ok (.iload 8, 2) := by decide +kernel
theorem d_Mo_judge_92 : decode b_Mo_judge 92 = .ok (.invokevirtual 1119, 3) := by decide +kernel
theorem d_Mo_judge_95 : decode b_Mo_judge 95 = .ok (.ifCond .eq 7, 3) := by decide +kernel
theorem d_Mo_judge_98 : decode b_Mo_judge 98 = .ok (.lconst 1, 1) := by decide +kernel
theorem d_Mo_judge_99 : decode b_Mo_judge 99 = .ok (.goto 4, 3) := by decide +kernel
theorem d_Mo_judge_102 : decode b_Mo_judge 102 = .ok (.lconst 0, 1) := by decide +kernel
theorem d_Mo_judge_103 : decode b_Mo_judge 103 = .ok (.ladd, 1) := by decide +kernel
theorem d_Mo_judge_104 : decode b_Mo_judge 104 = .ok (.lstore_n 3, 1) := by decide +kernel
theorem d_Mo_judge_105 : decode b_Mo_judge 105 = .ok (.iinc 8 1, 3) := by decide +kernel
theorem d_Mo_judge_108 : decode b_Mo_judge 108 = .ok (.goto (-39), 3) := by decide +kernel
theorem d_Mo_judge_111 : decode b_Mo_judge 111 = .ok (.iinc 7 1, 3) := by decide +kernel
theorem d_Mo_judge_114 : decode b_Mo_judge 114 = .ok (.goto (-61), 3) := by decide +kernel
theorem d_Mo_judge_117 : decode b_Mo_judge 117 = .ok (.iinc 6 1, 3) := by decide +kernel
theorem d_Mo_judge_120 : decode b_Mo_judge 120 = .ok (.goto (-77), 3) := by decide +kernel
theorem d_Mo_judge_123 : decode b_Mo_judge 123 = .ok (.iinc 5 1, 3) := by decide +kernel
theorem d_Mo_judge_126 : decode b_Mo_judge 126 = .ok (.goto (-95), 3) := by decide +kernel
theorem d_Mo_judge_129 : decode b_Mo_judge 129 = .ok (.lload_n 3, 1) := by decide +kernel
theorem d_Mo_judge_130 : decode b_Mo_judge 130 = .ok (.lreturn, 1) := by decide +kernel
theorem d_Mo_judge_131 : decode b_Mo_judge 131 = .ok (.iload_n 2, 1) := by decide +kernel
theorem d_Mo_judge_132 : decode b_Mo_judge 132 = .ok (.iconst 1, 1) := by decide +kernel
theorem d_Mo_judge_133 : decode b_Mo_judge 133 = .ok (.if_icmp .eq 9, 3) := by decide +kernel
theorem d_Mo_judge_136 : decode b_Mo_judge 136 = .ok (.iload_n 2, 1) := by decide +kernel
theorem d_Mo_judge_137 : decode b_Mo_judge 137 = .ok (.bipush 6, 2) := by decide +kernel
theorem d_Mo_judge_139 : decode b_Mo_judge 139 = .ok (.if_icmp .ne 103, 3) := by decide +kernel
theorem d_Mo_judge_142 : decode b_Mo_judge 142 = .ok (.iconst 0, 1) := by decide +kernel
theorem d_Mo_judge_143 : decode b_Mo_judge 143 = .ok (.istore 5, 2) := by decide +kernel
theorem d_Mo_judge_145 : decode b_Mo_judge 145 = .ok (.iload 5, 2) := by decide +kernel
theorem d_Mo_judge_147 : decode b_Mo_judge 147 = .ok (.aload_n 0, 1) := by decide +kernel
theorem d_Mo_judge_148 : decode b_Mo_judge 148 = .ok (.invokevirtual 475, 3) := by decide +kernel
theorem d_Mo_judge_151 : decode b_Mo_judge 151 = .ok (.if_icmp .ge 89, 3) := by decide +kernel
theorem d_Mo_judge_154 : decode b_Mo_judge 154 = .ok (.iconst 0, 1) := by decide +kernel
theorem d_Mo_judge_155 : decode b_Mo_judge 155 = .ok (.istore 6, 2) := by decide +kernel
theorem d_Mo_judge_157 : decode b_Mo_judge 157 = .ok (.iload 6, 2) := by decide +kernel
theorem d_Mo_judge_159 : decode b_Mo_judge 159 = .ok (.iload 5, 2) := by decide +kernel
theorem d_Mo_judge_161 : decode b_Mo_judge 161 = .ok (.if_icmp .ge 73, 3) := by decide +kernel
theorem d_Mo_judge_164 : decode b_Mo_judge 164 = .ok (.lload_n 3, 1) := by decide +kernel
theorem d_Mo_judge_165 : decode b_Mo_judge 165 = .ok (.iload_n 2, 1) := by decide +kernel
theorem d_Mo_judge_166 : decode b_Mo_judge 166 = .ok (.bipush 6, 2) := by decide +kernel
theorem d_Mo_judge_168 : decode b_Mo_judge 168 = .ok (.if_icmp .ne 42, 3) := by decide +kernel
theorem d_Mo_judge_171 : decode b_Mo_judge 171 = .ok (.aload_n 0, 1) := by decide +kernel
theorem d_Mo_judge_172 : decode b_Mo_judge 172 = .ok (.iload 5, 2) := by decide +kernel
theorem d_Mo_judge_174 : decode b_Mo_judge 174 = .ok (.invokevirtual 1023, 3) := by decide +kernel
theorem d_Mo_judge_177 : decode b_Mo_judge 177 = .ok (.aload_n 0, 1) := by decide +kernel
theorem d_Mo_judge_178 : decode b_Mo_judge 178 = .ok (.iload 6, 2) := by decide +kernel
theorem d_Mo_judge_180 : decode b_Mo_judge 180 = .ok (.invokevirtual 1023, 3) := by decide +kernel
theorem d_Mo_judge_183 : decode b_Mo_judge 183 = .ok (.if_icmp .ne 22, 3) := by decide +kernel
theorem d_Mo_judge_186 : decode b_Mo_judge 186 = .ok (.aload_n 0, 1) := by decide +kernel
theorem d_Mo_judge_187 : decode b_Mo_judge 187 = .ok (.iload 5, 2) := by decide +kernel
theorem d_Mo_judge_189 : decode b_Mo_judge 189 = .ok (.invokevirtual 1029, 3) := by decide +kernel
theorem d_Mo_judge_192 : decode b_Mo_judge 192 = .ok (.aload_n 0, 1) := by decide +kernel
theorem d_Mo_judge_193 : decode b_Mo_judge 193 = .ok (.iload 6, 2) := by decide +kernel
theorem d_Mo_judge_195 : decode b_Mo_judge 195 = .ok (.invokevirtual 1029, 3) := by decide +kernel
theorem d_Mo_judge_198 : decode b_Mo_judge 198 = .ok (.if_icmp .ne 7, 3) := by decide +kernel
theorem d_Mo_judge_201 : decode b_Mo_judge 201 = .ok (.iconst 1, 1) := by decide +kernel
theorem d_Mo_judge_202 : decode b_Mo_judge 202 = .ok (.goto 4, 3) := by decide +kernel
theorem d_Mo_judge_205 : decode b_Mo_judge 205 = .ok (.iconst 0, 1) := by decide +kernel
theorem d_Mo_judge_206 : decode b_Mo_judge 206 = .ok (.i2l, 1) := by decide +kernel
theorem d_Mo_judge_207 : decode b_Mo_judge 207 = .ok (.goto 19, 3) := by decide +kernel
theorem d_Mo_judge_210 : decode b_Mo_judge 210 = .ok (.aload_n 0, 1) := by decide +kernel
theorem d_Mo_judge_211 : decode b_Mo_judge 211 = .ok (.iload 5, 2) := by decide +kernel
theorem d_Mo_judge_213 : decode b_Mo_judge 213 = .ok (.iload 6, 2) := by decide +kernel
theorem d_Mo_judge_215 : decode b_Mo_judge 215 = .ok (.invokevirtual 1123, 3) := by decide +kernel
theorem d_Mo_judge_218 : decode b_Mo_judge 218 = .ok (.ifCond .eq 7, 3) := by decide +kernel
theorem d_Mo_judge_221 : decode b_Mo_judge 221 = .ok (.lconst 1, 1) := by decide +kernel
theorem d_Mo_judge_222 : decode b_Mo_judge 222 = .ok (.goto 4, 3) := by decide +kernel
theorem d_Mo_judge_225 : decode b_Mo_judge 225 = .ok (.lconst 0, 1) := by decide +kernel
theorem d_Mo_judge_226 : decode b_Mo_judge 226 = .ok (.ladd, 1) := by decide +kernel
theorem d_Mo_judge_227 : decode b_Mo_judge 227 = .ok (.lstore_n 3, 1) := by decide +kernel
theorem d_Mo_judge_228 : decode b_Mo_judge 228 = .ok (.iinc 6 1, 3) := by decide +kernel
theorem d_Mo_judge_231 : decode b_Mo_judge 231 = .ok (.goto (-74), 3) := by decide +kernel
theorem d_Mo_judge_234 : decode b_Mo_judge 234 = .ok (.iinc 5 1, 3) := by decide +kernel
theorem d_Mo_judge_237 : decode b_Mo_judge 237 = .ok (.goto (-92), 3) := by decide +kernel
theorem d_Mo_judge_240 : decode b_Mo_judge 240 = .ok (.lload_n 3, 1) := by decide +kernel
theorem d_Mo_judge_241 : decode b_Mo_judge 241 = .ok (.lreturn, 1) := by decide +kernel
theorem d_Mo_judge_242 : decode b_Mo_judge 242 = .ok (.iload_n 2, 1) := by decide +kernel
theorem d_Mo_judge_243 : decode b_Mo_judge 243 = .ok (.bipush 7, 2) := by decide +kernel
theorem d_Mo_judge_245 : decode b_Mo_judge 245 = .ok (.if_icmp .ne 8, 3) := by decide +kernel
theorem d_Mo_judge_248 : decode b_Mo_judge 248 = .ok (.aload_n 0, 1) := by decide +kernel
theorem d_Mo_judge_249 : decode b_Mo_judge 249 = .ok (.invokevirtual 1126, 3) := by decide +kernel
theorem d_Mo_judge_252 : decode b_Mo_judge 252 = .ok (.lreturn, 1) := by decide +kernel
theorem d_Mo_judge_253 : decode b_Mo_judge 253 = .ok (.iload_n 2, 1) := by decide +kernel
theorem d_Mo_judge_254 : decode b_Mo_judge 254 = .ok (.bipush 9, 2) := by decide +kernel
theorem d_Mo_judge_256 : decode b_Mo_judge 256 = .ok (.if_icmp .ne 8, 3) := by decide +kernel
theorem d_Mo_judge_259 : decode b_Mo_judge 259 = .ok (.aload_n 0, 1) := by decide +kernel
theorem d_Mo_judge_260 : decode b_Mo_judge 260 = .ok (.invokevirtual 1130, 3) := by decide +kernel
theorem d_Mo_judge_263 : decode b_Mo_judge 263 = .ok (.lreturn, 1) := by decide +kernel
theorem d_Mo_judge_264 : decode b_Mo_judge 264 = .ok (.iconst 0, 1) := by decide +kernel
theorem d_Mo_judge_265 : decode b_Mo_judge 265 = .ok (.istore 5, 2) := by decide +kernel
theorem d_Mo_judge_267 : decode b_Mo_judge 267 = .ok (.iload 5, 2) := by decide +kernel
theorem d_Mo_judge_269 : decode b_Mo_judge 269 = .ok (.aload_n 0, 1) := by decide +kernel
theorem d_Mo_judge_270 : decode b_Mo_judge 270 = .ok (.invokevirtual 401, 3) := by decide +kernel
theorem d_Mo_judge_273 : decode b_Mo_judge 273 = .ok (.if_icmp .ge 19, 3) := by decide +kernel
theorem d_Mo_judge_276 : decode b_Mo_judge 276 = .ok (.lload_n 3, 1) := by decide +kernel
theorem d_Mo_judge_277 : decode b_Mo_judge 277 = .ok (.aload_n 0, 1) := by decide +kernel
theorem d_Mo_judge_278 : decode b_Mo_judge 278 = .ok (.iload 5, 2) := by decide +kernel
theorem d_Mo_judge_280 : decode b_Mo_judge 280 = .ok (.iload_n 2, 1) := by decide +kernel
theorem d_Mo_judge_281 : decode b_Mo_judge 281 = .ok (.invokevirtual 1133, 3) := by decide +kernel
theorem d_Mo_judge_284 : decode b_Mo_judge 284 = .ok (.ladd, 1) := by decide +kernel
theorem d_Mo_judge_285 : decode b_Mo_judge 285 = .ok (.lstore_n 3, 1) := by decide +kernel
theorem d_Mo_judge_286 : decode b_Mo_judge 286 = .ok (.iinc 5 1, 3) := by decide +kernel
theorem d_Mo_judge_289 : decode b_Mo_judge 289 = .ok (.goto (-22), 3) := by decide +kernel
theorem d_Mo_judge_292 : decode b_Mo_judge 292 = .ok (.lload_n 3, 1) := by decide +kernel
theorem d_Mo_judge_293 : decode b_Mo_judge 293 = .ok (.lreturn, 1) := by decide +kernel
def sp_Ho_route_no  : Int32 := (-1)
set_option maxRecDepth 100000 in
set_option maxHeartbeats 4000000 in
/-- DrawingHouse.route(II)I -/
theorem c_Ho_route_no (l : Launch) (D : va_G) (kA : Nat → ClassId) (h : Nat) (q : Nat → Nat) (x : Nat → Int32) (o16 o17 o18 o19 o20 : Option Nat) (gp : Int32) (ie : Int32) (hg : sp_Ho_isPlace gp = 0)  : Ci l y_Ho_route z_Ho_route { frames := 2, cells := 0, slots := 0, locals := 45 } D classes (TY kA) [.ref h, .int gp, .int ie] [[(h, .inr (12, fHo q x o16 o17 o18 o19 o20))]] (fun r (_ : Unit) => r = sp_Ho_route_no ) (fun _ => [[(h, .inr (12, fHo q x o16 o17 o18 o19 o20))]]) 0 0 := by
  intro sz
  refine k_met (cc := b_Ho_route) (maxL := 3) (ret := (some .int)) (by decide) rfl (Nat.le_of_ble_eq_true rfl) (fun p e s m below meth c ls X hl hB => ?_)
  obtain ⟨hsz, hP, hK, hD0, hN⟩ := hB
  subst hsz
  have hD := hD0.self (sz := s.heap.size)
  generalize hAe : va_A (cat [[(h, .inr (12, fHo q x o16 o17 o18 o19 o20))]]) s.heap.size = A at hD ⊢
  have hA : ∀ q : Nat, s.heap.size ≤ q → A q := fun q h => by rw [← hAe]; exact Or.inr h
  have hS : va_S A s.heap s.heap [] := va_S.rf
  obtain ⟨hx, hb, hml, hown, hts, hr, hlk, hnm⟩ := id X
  have hl : lv_has ls 3 [(0, .ref h), (1, .int gp), (2, .int ie)] := hl
  have hP : va_P D classes (cat [[(h, .inr (12, fHo q x o16 o17 o18 o19 o20))]]) s.heap := hP
  have hK : va_K D classes (TY kA) s := hK
  refine lv_aload_n (pc := 0) hx hb d_Ho_route_0 rfl (lv_at hl 0 rfl) ?_
  refine lv_iload_n (pc := 1) hx hb d_Ho_route_1 rfl (lv_at hl 1 rfl) ?_
  refine k_goI (gr := []) (k_rV (pc := 2) (As := [.int gp]) (rest := []) X (c_Ho_hasDrawing_no l D kA h q x o16 o17 o18 o19 o20 gp hg s.heap.size) rfl wm_1859 wm_1 wm_1856 wm_1858 wv_8_15 1 (by decide +kernel) ⟨Nat.le_of_ble_eq_true rfl, Nat.le_of_ble_eq_true rfl⟩ rfl rfl (va_recv hK hP (ci := 12) (q0 := 0) rfl rfl) (k_pre hN hK hP hD [0] [] 1 rfl (by decide) rfl) rfl hl.1 rfl (Nat.le_of_ble_eq_true rfl) d_Ho_route_2 ⟨Nat.le_of_ble_eq_true rfl, Nat.le_of_ble_eq_true rfl⟩) hP hD hS hA [0] [] 1 rfl (by decide) rfl rfl (fun r1 u2 H locs hu2 hP hD hS => ?_)
  subst hu2
  refine k_cst (v := 0) (by rfl) ?_
  have hP : va_P D classes (cat [[(h, .inr (12, fHo q x o16 o17 o18 o19 o20))]]) H := hP
  have hD : va_D A (cat [[(h, .inr (12, fHo q x o16 o17 o18 o19 o20))]]) := hD
  refine lv_if_eq (pc := 5) (tgt := 21) hx hb d_Ho_route_5 (by decide) (fun c1 => ?_) (fun c1 => absurd (by decide) c1)
  refine lv_iconst (pc := 21) (v := -1) hx hb d_Ho_route_21 (by decide) ?_
  refine W.widen (k := 0) (n := 0) (Nat.le_of_ble_eq_true rfl) (Nat.le_of_ble_eq_true rfl) ?_
  exact W.iret (v := ((-1))) hx hb hr (fun t ht hW => ⟨⟨((-1)), (), rfl, (by unfold sp_Ho_route_no; rfl), by rw [ht]; exact hP, va_K.moved hW.alike hK, hD⟩, hS.F ht⟩) hS.2.2 d_Ho_route_22
def sp_Ho_route_nd  : Int32 := (-1)
set_option maxRecDepth 100000 in
set_option maxHeartbeats 4000000 in
/-- DrawingHouse.route(II)I -/
theorem c_Ho_route_nd (l : Launch) (D : va_G) (kA : Nat → ClassId) (h : Nat) (q : Nat → Nat) (x : Nat → Int32) (o16 o17 o18 o19 o20 : Option Nat) (g : Nat → Nat → Nat) (qd : Nat → Nat) (xd : Nat → Int32) (j : Nat) (hj : j < 4) (ie : Int32)  : Ci l y_Ho_route z_Ho_route { frames := 2, cells := 0, slots := 0, locals := 45 } D classes (TY kA) [.ref h, .int (nI j), .int ie] [[(h, .inr (12, fHo q x o16 o17 o18 o19 o20))], [(q 3, .inl (kA 7, 4, .inr (.inr (.inr (.inr (rr (g 3)))))))], [(g 3 j, .inr (0, fDr qd (va_up xd 1 ((-1)))))]] (fun r (_ : Unit) => r = sp_Ho_route_nd ) (fun _ => [[(h, .inr (12, fHo q x o16 o17 o18 o19 o20))], [(q 3, .inl (kA 7, 4, .inr (.inr (.inr (.inr (rr (g 3)))))))], [(g 3 j, .inr (0, fDr qd (va_up xd 1 ((-1)))))]]) 0 0 := by
  intro sz
  refine k_met (cc := b_Ho_route) (maxL := 3) (ret := (some .int)) (by decide) rfl (Nat.le_of_ble_eq_true rfl) (fun p e s m below meth c ls X hl hB => ?_)
  obtain ⟨hsz, hP, hK, hD0, hN⟩ := hB
  subst hsz
  have hD := hD0.self (sz := s.heap.size)
  generalize hAe : va_A (cat [[(h, .inr (12, fHo q x o16 o17 o18 o19 o20))], [(q 3, .inl (kA 7, 4, .inr (.inr (.inr (.inr (rr (g 3)))))))], [(g 3 j, .inr (0, fDr qd (va_up xd 1 ((-1)))))]]) s.heap.size = A at hD ⊢
  have hA : ∀ q : Nat, s.heap.size ≤ q → A q := fun q h => by rw [← hAe]; exact Or.inr h
  have hS : va_S A s.heap s.heap [] := va_S.rf
  obtain ⟨hx, hb, hml, hown, hts, hr, hlk, hnm⟩ := id X
  have hl : lv_has ls 3 [(0, .ref h), (1, .int (nI j)), (2, .int ie)] := hl
  have hP : va_P D classes (cat [[(h, .inr (12, fHo q x o16 o17 o18 o19 o20))], [(q 3, .inl (kA 7, 4, .inr (.inr (.inr (.inr (rr (g 3)))))))], [(g 3 j, .inr (0, fDr qd (va_up xd 1 ((-1)))))]]) s.heap := hP
  have hK : va_K D classes (TY kA) s := hK
  refine lv_aload_n (pc := 0) hx hb d_Ho_route_0 rfl (lv_at hl 0 rfl) ?_
  refine lv_iload_n (pc := 1) hx hb d_Ho_route_1 rfl (lv_at hl 1 rfl) ?_
  refine k_goI (gr := []) (k_rV (pc := 2) (As := [.int (nI j)]) (rest := []) X (c_Ho_hasDrawing_nd l D kA h q x o16 o17 o18 o19 o20 g qd xd j hj s.heap.size) rfl wm_1859 wm_1 wm_1856 wm_1858 wv_8_15 1 (by decide +kernel) ⟨Nat.le_of_ble_eq_true rfl, Nat.le_of_ble_eq_true rfl⟩ rfl rfl (va_recv hK hP (ci := 12) (q0 := 0) rfl rfl) (k_pre hN hK hP hD [0, 1, 2] [] 3 rfl (by decide) rfl) rfl hl.1 rfl (Nat.le_of_ble_eq_true rfl) d_Ho_route_2 ⟨Nat.le_of_ble_eq_true rfl, Nat.le_of_ble_eq_true rfl⟩) hP hD hS hA [0, 1, 2] [] 3 rfl (by decide) rfl rfl (fun r1 u2 H locs hu2 hP hD hS => ?_)
  subst hu2
  refine k_cst (v := 0) (by rfl) ?_
  have hP : va_P D classes (cat [[(h, .inr (12, fHo q x o16 o17 o18 o19 o20))], [(q 3, .inl (kA 7, 4, .inr (.inr (.inr (.inr (rr (g 3)))))))], [(g 3 j, .inr (0, fDr qd (va_up xd 1 ((-1)))))]]) H := hP
  have hD : va_D A (cat [[(h, .inr (12, fHo q x o16 o17 o18 o19 o20))], [(q 3, .inl (kA 7, 4, .inr (.inr (.inr (.inr (rr (g 3)))))))], [(g 3 j, .inr (0, fDr qd (va_up xd 1 ((-1)))))]]) := hD
  refine lv_if_eq (pc := 5) (tgt := 21) hx hb d_Ho_route_5 (by decide) (fun c1 => ?_) (fun c1 => absurd (by decide) c1)
  refine lv_iconst (pc := 21) (v := -1) hx hb d_Ho_route_21 (by decide) ?_
  refine W.widen (k := 0) (n := 0) (Nat.le_of_ble_eq_true rfl) (Nat.le_of_ble_eq_true rfl) ?_
  exact W.iret (v := ((-1))) hx hb hr (fun t ht hW => ⟨⟨((-1)), (), rfl, (by unfold sp_Ho_route_nd; rfl), by rw [ht]; exact hP, va_K.moved hW.alike hK, hD⟩, hS.F ht⟩) hS.2.2 d_Ho_route_22
def sp_Ho_label_no  : Int32 := -2147483648
set_option maxRecDepth 100000 in
set_option maxHeartbeats 4000000 in
/-- DrawingHouse.label(III)I -/
theorem c_Ho_label_no (l : Launch) (D : va_G) (kA : Nat → ClassId) (h : Nat) (q : Nat → Nat) (x : Nat → Int32) (o16 o17 o18 o19 o20 : Option Nat) (gp : Int32) (ie w : Int32) (hg : sp_Ho_isPlace gp = 0)  : Ci l y_Ho_label z_Ho_label { frames := 2, cells := 0, slots := 0, locals := 45 } D classes (TY kA) [.ref h, .int gp, .int ie, .int w] [[(h, .inr (12, fHo q x o16 o17 o18 o19 o20))]] (fun r (_ : Unit) => r = sp_Ho_label_no ) (fun _ => [[(h, .inr (12, fHo q x o16 o17 o18 o19 o20))]]) 0 0 := by
  intro sz
  refine k_met (cc := b_Ho_label) (maxL := 4) (ret := (some .int)) (by decide) rfl (Nat.le_of_ble_eq_true rfl) (fun p e s m below meth c ls X hl hB => ?_)
  obtain ⟨hsz, hP, hK, hD0, hN⟩ := hB
  subst hsz
  have hD := hD0.self (sz := s.heap.size)
  generalize hAe : va_A (cat [[(h, .inr (12, fHo q x o16 o17 o18 o19 o20))]]) s.heap.size = A at hD ⊢
  have hA : ∀ q : Nat, s.heap.size ≤ q → A q := fun q h => by rw [← hAe]; exact Or.inr h
  have hS : va_S A s.heap s.heap [] := va_S.rf
  obtain ⟨hx, hb, hml, hown, hts, hr, hlk, hnm⟩ := id X
  have hl : lv_has ls 4 [(0, .ref h), (1, .int gp), (2, .int ie), (3, .int w)] := hl
  have hP : va_P D classes (cat [[(h, .inr (12, fHo q x o16 o17 o18 o19 o20))]]) s.heap := hP
  have hK : va_K D classes (TY kA) s := hK
  refine lv_aload_n (pc := 0) hx hb d_Ho_label_0 rfl (lv_at hl 0 rfl) ?_
  refine lv_iload_n (pc := 1) hx hb d_Ho_label_1 rfl (lv_at hl 1 rfl) ?_
  refine k_goI (gr := []) (k_rV (pc := 2) (As := [.int gp]) (rest := []) X (c_Ho_hasDrawing_no l D kA h q x o16 o17 o18 o19 o20 gp hg s.heap.size) rfl wm_1859 wm_1 wm_1856 wm_1858 wv_8_15 1 (by decide +kernel) ⟨Nat.le_of_ble_eq_true rfl, Nat.le_of_ble_eq_true rfl⟩ rfl rfl (va_recv hK hP (ci := 12) (q0 := 0) rfl rfl) (k_pre hN hK hP hD [0] [] 1 rfl (by decide) rfl) rfl hl.1 rfl (Nat.le_of_ble_eq_true rfl) d_Ho_label_2 ⟨Nat.le_of_ble_eq_true rfl, Nat.le_of_ble_eq_true rfl⟩) hP hD hS hA [0] [] 1 rfl (by decide) rfl rfl (fun r1 u2 H locs hu2 hP hD hS => ?_)
  subst hu2
  refine k_cst (v := 0) (by rfl) ?_
  have hP : va_P D classes (cat [[(h, .inr (12, fHo q x o16 o17 o18 o19 o20))]]) H := hP
  have hD : va_D A (cat [[(h, .inr (12, fHo q x o16 o17 o18 o19 o20))]]) := hD
  refine lv_if_eq (pc := 5) (tgt := 30) hx hb d_Ho_label_5 (by decide) (fun c1 => ?_) (fun c1 => absurd (by decide) c1)
  refine lv_ldcw (pc := 30) (v := -2147483648) hx hb hown (hts _ wm_1824) d_Ho_label_30 ?_
  refine W.widen (k := 0) (n := 0) (Nat.le_of_ble_eq_true rfl) (Nat.le_of_ble_eq_true rfl) ?_
  exact W.iret (v := (-2147483648)) hx hb hr (fun t ht hW => ⟨⟨(-2147483648), (), rfl, (by unfold sp_Ho_label_no; rfl), by rw [ht]; exact hP, va_K.moved hW.alike hK, hD⟩, hS.F ht⟩) hS.2.2 d_Ho_label_33
def sp_Ho_label_nd  : Int32 := -2147483648
set_option maxRecDepth 100000 in
set_option maxHeartbeats 4000000 in
/-- DrawingHouse.label(III)I -/
theorem c_Ho_label_nd (l : Launch) (D : va_G) (kA : Nat → ClassId) (h : Nat) (q : Nat → Nat) (x : Nat → Int32) (o16 o17 o18 o19 o20 : Option Nat) (g : Nat → Nat → Nat) (qd : Nat → Nat) (xd : Nat → Int32) (j : Nat) (hj : j < 4) (ie w : Int32)  : Ci l y_Ho_label z_Ho_label { frames := 2, cells := 0, slots := 0, locals := 45 } D classes (TY kA) [.ref h, .int (nI j), .int ie, .int w] [[(h, .inr (12, fHo q x o16 o17 o18 o19 o20))], [(q 3, .inl (kA 7, 4, .inr (.inr (.inr (.inr (rr (g 3)))))))], [(g 3 j, .inr (0, fDr qd (va_up xd 1 ((-1)))))]] (fun r (_ : Unit) => r = sp_Ho_label_nd ) (fun _ => [[(h, .inr (12, fHo q x o16 o17 o18 o19 o20))], [(q 3, .inl (kA 7, 4, .inr (.inr (.inr (.inr (rr (g 3)))))))], [(g 3 j, .inr (0, fDr qd (va_up xd 1 ((-1)))))]]) 0 0 := by
  intro sz
  refine k_met (cc := b_Ho_label) (maxL := 4) (ret := (some .int)) (by decide) rfl (Nat.le_of_ble_eq_true rfl) (fun p e s m below meth c ls X hl hB => ?_)
  obtain ⟨hsz, hP, hK, hD0, hN⟩ := hB
  subst hsz
  have hD := hD0.self (sz := s.heap.size)
  generalize hAe : va_A (cat [[(h, .inr (12, fHo q x o16 o17 o18 o19 o20))], [(q 3, .inl (kA 7, 4, .inr (.inr (.inr (.inr (rr (g 3)))))))], [(g 3 j, .inr (0, fDr qd (va_up xd 1 ((-1)))))]]) s.heap.size = A at hD ⊢
  have hA : ∀ q : Nat, s.heap.size ≤ q → A q := fun q h => by rw [← hAe]; exact Or.inr h
  have hS : va_S A s.heap s.heap [] := va_S.rf
  obtain ⟨hx, hb, hml, hown, hts, hr, hlk, hnm⟩ := id X
  have hl : lv_has ls 4 [(0, .ref h), (1, .int (nI j)), (2, .int ie), (3, .int w)] := hl
  have hP : va_P D classes (cat [[(h, .inr (12, fHo q x o16 o17 o18 o19 o20))], [(q 3, .inl (kA 7, 4, .inr (.inr (.inr (.inr (rr (g 3)))))))], [(g 3 j, .inr (0, fDr qd (va_up xd 1 ((-1)))))]]) s.heap := hP
  have hK : va_K D classes (TY kA) s := hK
  refine lv_aload_n (pc := 0) hx hb d_Ho_label_0 rfl (lv_at hl 0 rfl) ?_
  refine lv_iload_n (pc := 1) hx hb d_Ho_label_1 rfl (lv_at hl 1 rfl) ?_
  refine k_goI (gr := []) (k_rV (pc := 2) (As := [.int (nI j)]) (rest := []) X (c_Ho_hasDrawing_nd l D kA h q x o16 o17 o18 o19 o20 g qd xd j hj s.heap.size) rfl wm_1859 wm_1 wm_1856 wm_1858 wv_8_15 1 (by decide +kernel) ⟨Nat.le_of_ble_eq_true rfl, Nat.le_of_ble_eq_true rfl⟩ rfl rfl (va_recv hK hP (ci := 12) (q0 := 0) rfl rfl) (k_pre hN hK hP hD [0, 1, 2] [] 3 rfl (by decide) rfl) rfl hl.1 rfl (Nat.le_of_ble_eq_true rfl) d_Ho_label_2 ⟨Nat.le_of_ble_eq_true rfl, Nat.le_of_ble_eq_true rfl⟩) hP hD hS hA [0, 1, 2] [] 3 rfl (by decide) rfl rfl (fun r1 u2 H locs hu2 hP hD hS => ?_)
  subst hu2
  refine k_cst (v := 0) (by rfl) ?_
  have hP : va_P D classes (cat [[(h, .inr (12, fHo q x o16 o17 o18 o19 o20))], [(q 3, .inl (kA 7, 4, .inr (.inr (.inr (.inr (rr (g 3)))))))], [(g 3 j, .inr (0, fDr qd (va_up xd 1 ((-1)))))]]) H := hP
  have hD : va_D A (cat [[(h, .inr (12, fHo q x o16 o17 o18 o19 o20))], [(q 3, .inl (kA 7, 4, .inr (.inr (.inr (.inr (rr (g 3)))))))], [(g 3 j, .inr (0, fDr qd (va_up xd 1 ((-1)))))]]) := hD
  refine lv_if_eq (pc := 5) (tgt := 30) hx hb d_Ho_label_5 (by decide) (fun c1 => ?_) (fun c1 => absurd (by decide) c1)
  refine lv_ldcw (pc := 30) (v := -2147483648) hx hb hown (hts _ wm_1824) d_Ho_label_30 ?_
  refine W.widen (k := 0) (n := 0) (Nat.le_of_ble_eq_true rfl) (Nat.le_of_ble_eq_true rfl) ?_
  exact W.iret (v := (-2147483648)) hx hb hr (fun t ht hW => ⟨⟨(-2147483648), (), rfl, (by unfold sp_Ho_label_nd; rfl), by rw [ht]; exact hP, va_K.moved hW.alike hK, hD⟩, hS.F ht⟩) hS.2.2 d_Ho_label_33
def sp_Ho_dots_no  : Int32 := (-1)
set_option maxRecDepth 100000 in
set_option maxHeartbeats 4000000 in
/-- DrawingHouse.dots(III)I -/
theorem c_Ho_dots_no (l : Launch) (D : va_G) (kA : Nat → ClassId) (h : Nat) (q : Nat → Nat) (x : Nat → Int32) (o16 o17 o18 o19 o20 : Option Nat) (gp : Int32) (wi hi : Int32) (hg : sp_Ho_isPlace gp = 0)  : Ci l y_Ho_dots z_Ho_dots { frames := 2, cells := 0, slots := 0, locals := 45 } D classes (TY kA) [.ref h, .int gp, .int wi, .int hi] [[(h, .inr (12, fHo q x o16 o17 o18 o19 o20))]] (fun r (_ : Unit) => r = sp_Ho_dots_no ) (fun _ => [[(h, .inr (12, fHo q x o16 o17 o18 o19 o20))]]) 0 0 := by
  intro sz
  refine k_met (cc := b_Ho_dots) (maxL := 8) (ret := (some .int)) (by decide) rfl (Nat.le_of_ble_eq_true rfl) (fun p e s m below meth c ls X hl hB => ?_)
  obtain ⟨hsz, hP, hK, hD0, hN⟩ := hB
  subst hsz
  have hD := hD0.self (sz := s.heap.size)
  generalize hAe : va_A (cat [[(h, .inr (12, fHo q x o16 o17 o18 o19 o20))]]) s.heap.size = A at hD ⊢
  have hA : ∀ q : Nat, s.heap.size ≤ q → A q := fun q h => by rw [← hAe]; exact Or.inr h
  have hS : va_S A s.heap s.heap [] := va_S.rf
  obtain ⟨hx, hb, hml, hown, hts, hr, hlk, hnm⟩ := id X
  have hl : lv_has ls 8 [(0, .ref h), (1, .int gp), (2, .int wi), (3, .int hi)] := hl
  have hP : va_P D classes (cat [[(h, .inr (12, fHo q x o16 o17 o18 o19 o20))]]) s.heap := hP
  have hK : va_K D classes (TY kA) s := hK
  refine lv_aload_n (pc := 0) hx hb d_Ho_dots_0 rfl (lv_at hl 0 rfl) ?_
  refine lv_iload_n (pc := 1) hx hb d_Ho_dots_1 rfl (lv_at hl 1 rfl) ?_
  refine k_goI (gr := []) (k_rV (pc := 2) (As := [.int gp]) (rest := []) X (c_Ho_hasDrawing_no l D kA h q x o16 o17 o18 o19 o20 gp hg s.heap.size) rfl wm_1859 wm_1 wm_1856 wm_1858 wv_8_15 1 (by decide +kernel) ⟨Nat.le_of_ble_eq_true rfl, Nat.le_of_ble_eq_true rfl⟩ rfl rfl (va_recv hK hP (ci := 12) (q0 := 0) rfl rfl) (k_pre hN hK hP hD [0] [] 1 rfl (by decide) rfl) rfl hl.1 rfl (Nat.le_of_ble_eq_true rfl) d_Ho_dots_2 ⟨Nat.le_of_ble_eq_true rfl, Nat.le_of_ble_eq_true rfl⟩) hP hD hS hA [0] [] 1 rfl (by decide) rfl rfl (fun r1 u2 H locs hu2 hP hD hS => ?_)
  subst hu2
  refine k_cst (v := 0) (by rfl) ?_
  have hP : va_P D classes (cat [[(h, .inr (12, fHo q x o16 o17 o18 o19 o20))]]) H := hP
  have hD : va_D A (cat [[(h, .inr (12, fHo q x o16 o17 o18 o19 o20))]]) := hD
  refine lv_if_eq (pc := 5) (tgt := 30) hx hb d_Ho_dots_5 (by decide) (fun c1 => ?_) (fun c1 => absurd (by decide) c1)
  refine lv_iconst (pc := 30) (v := -1) hx hb d_Ho_dots_30 (by decide) ?_
  refine W.widen (k := 0) (n := 0) (Nat.le_of_ble_eq_true rfl) (Nat.le_of_ble_eq_true rfl) ?_
  exact W.iret (v := ((-1))) hx hb hr (fun t ht hW => ⟨⟨((-1)), (), rfl, (by unfold sp_Ho_dots_no; rfl), by rw [ht]; exact hP, va_K.moved hW.alike hK, hD⟩, hS.F ht⟩) hS.2.2 d_Ho_dots_31
def sp_Ho_dots_nd  : Int32 := (-1)
set_option maxRecDepth 100000 in
set_option maxHeartbeats 4000000 in
/-- DrawingHouse.dots(III)I -/
theorem c_Ho_dots_nd (l : Launch) (D : va_G) (kA : Nat → ClassId) (h : Nat) (q : Nat → Nat) (x : Nat → Int32) (o16 o17 o18 o19 o20 : Option Nat) (g : Nat → Nat → Nat) (qd : Nat → Nat) (xd : Nat → Int32) (j : Nat) (hj : j < 4) (wi hi : Int32)  : Ci l y_Ho_dots z_Ho_dots { frames := 2, cells := 0, slots := 0, locals := 45 } D classes (TY kA) [.ref h, .int (nI j), .int wi, .int hi] [[(h, .inr (12, fHo q x o16 o17 o18 o19 o20))], [(q 3, .inl (kA 7, 4, .inr (.inr (.inr (.inr (rr (g 3)))))))], [(g 3 j, .inr (0, fDr qd (va_up xd 1 ((-1)))))]] (fun r (_ : Unit) => r = sp_Ho_dots_nd ) (fun _ => [[(h, .inr (12, fHo q x o16 o17 o18 o19 o20))], [(q 3, .inl (kA 7, 4, .inr (.inr (.inr (.inr (rr (g 3)))))))], [(g 3 j, .inr (0, fDr qd (va_up xd 1 ((-1)))))]]) 0 0 := by
  intro sz
  refine k_met (cc := b_Ho_dots) (maxL := 8) (ret := (some .int)) (by decide) rfl (Nat.le_of_ble_eq_true rfl) (fun p e s m below meth c ls X hl hB => ?_)
  obtain ⟨hsz, hP, hK, hD0, hN⟩ := hB
  subst hsz
  have hD := hD0.self (sz := s.heap.size)
  generalize hAe : va_A (cat [[(h, .inr (12, fHo q x o16 o17 o18 o19 o20))], [(q 3, .inl (kA 7, 4, .inr (.inr (.inr (.inr (rr (g 3)))))))], [(g 3 j, .inr (0, fDr qd (va_up xd 1 ((-1)))))]]) s.heap.size = A at hD ⊢
  have hA : ∀ q : Nat, s.heap.size ≤ q → A q := fun q h => by rw [← hAe]; exact Or.inr h
  have hS : va_S A s.heap s.heap [] := va_S.rf
  obtain ⟨hx, hb, hml, hown, hts, hr, hlk, hnm⟩ := id X
  have hl : lv_has ls 8 [(0, .ref h), (1, .int (nI j)), (2, .int wi), (3, .int hi)] := hl
  have hP : va_P D classes (cat [[(h, .inr (12, fHo q x o16 o17 o18 o19 o20))], [(q 3, .inl (kA 7, 4, .inr (.inr (.inr (.inr (rr (g 3)))))))], [(g 3 j, .inr (0, fDr qd (va_up xd 1 ((-1)))))]]) s.heap := hP
  have hK : va_K D classes (TY kA) s := hK
  refine lv_aload_n (pc := 0) hx hb d_Ho_dots_0 rfl (lv_at hl 0 rfl) ?_
  refine lv_iload_n (pc := 1) hx hb d_Ho_dots_1 rfl (lv_at hl 1 rfl) ?_
  refine k_goI (gr := []) (k_rV (pc := 2) (As := [.int (nI j)]) (rest := []) X (c_Ho_hasDrawing_nd l D kA h q x o16 o17 o18 o19 o20 g qd xd j hj s.heap.size) rfl wm_1859 wm_1 wm_1856 wm_1858 wv_8_15 1 (by decide +kernel) ⟨Nat.le_of_ble_eq_true rfl, Nat.le_of_ble_eq_true rfl⟩ rfl rfl (va_recv hK hP (ci := 12) (q0 := 0) rfl rfl) (k_pre hN hK hP hD [0, 1, 2] [] 3 rfl (by decide) rfl) rfl hl.1 rfl (Nat.le_of_ble_eq_true rfl) d_Ho_dots_2 ⟨Nat.le_of_ble_eq_true rfl, Nat.le_of_ble_eq_true rfl⟩) hP hD hS hA [0, 1, 2] [] 3 rfl (by decide) rfl rfl (fun r1 u2 H locs hu2 hP hD hS => ?_)
  subst hu2
  refine k_cst (v := 0) (by rfl) ?_
  have hP : va_P D classes (cat [[(h, .inr (12, fHo q x o16 o17 o18 o19 o20))], [(q 3, .inl (kA 7, 4, .inr (.inr (.inr (.inr (rr (g 3)))))))], [(g 3 j, .inr (0, fDr qd (va_up xd 1 ((-1)))))]]) H := hP
  have hD : va_D A (cat [[(h, .inr (12, fHo q x o16 o17 o18 o19 o20))], [(q 3, .inl (kA 7, 4, .inr (.inr (.inr (.inr (rr (g 3)))))))], [(g 3 j, .inr (0, fDr qd (va_up xd 1 ((-1)))))]]) := hD
  refine lv_if_eq (pc := 5) (tgt := 30) hx hb d_Ho_dots_5 (by decide) (fun c1 => ?_) (fun c1 => absurd (by decide) c1)
  refine lv_iconst (pc := 30) (v := -1) hx hb d_Ho_dots_30 (by decide) ?_
  refine W.widen (k := 0) (n := 0) (Nat.le_of_ble_eq_true rfl) (Nat.le_of_ble_eq_true rfl) ?_
  exact W.iret (v := ((-1))) hx hb hr (fun t ht hW => ⟨⟨((-1)), (), rfl, (by unfold sp_Ho_dots_nd; rfl), by rw [ht]; exact hP, va_K.moved hW.alike hK, hD⟩, hS.F ht⟩) hS.2.2 d_Ho_dots_31
def sp_Ho_judge_no  : Int64 := -1
set_option maxRecDepth 100000 in
set_option maxHeartbeats 4000000 in
/-- DrawingHouse.judge(II)J -/
theorem c_Ho_judge_no (l : Launch) (D : va_G) (kA : Nat → ClassId) (h : Nat) (q : Nat → Nat) (x : Nat → Int32) (o16 o17 o18 o19 o20 : Option Nat) (gp : Int32) (ru : Int32) (hg : sp_Ho_isPlace gp = 0)  : Cl l y_Ho_judge z_Ho_judge { frames := 2, cells := 0, slots := 0, locals := 45 } D classes (TY kA) [.ref h, .int gp, .int ru] [[(h, .inr (12, fHo q x o16 o17 o18 o19 o20))]] (fun r (_ : Unit) => r = sp_Ho_judge_no ) (fun _ => [[(h, .inr (12, fHo q x o16 o17 o18 o19 o20))]]) 0 0 := by
  intro sz
  refine k_met (cc := b_Ho_judge) (maxL := 3) (ret := (some .long)) (by decide) rfl (Nat.le_of_ble_eq_true rfl) (fun p e s m below meth c ls X hl hB => ?_)
  obtain ⟨hsz, hP, hK, hD0, hN⟩ := hB
  subst hsz
  have hD := hD0.self (sz := s.heap.size)
  generalize hAe : va_A (cat [[(h, .inr (12, fHo q x o16 o17 o18 o19 o20))]]) s.heap.size = A at hD ⊢
  have hA : ∀ q : Nat, s.heap.size ≤ q → A q := fun q h => by rw [← hAe]; exact Or.inr h
  have hS : va_S A s.heap s.heap [] := va_S.rf
  obtain ⟨hx, hb, hml, hown, hts, hr, hlk, hnm⟩ := id X
  have hl : lv_has ls 3 [(0, .ref h), (1, .int gp), (2, .int ru)] := hl
  have hP : va_P D classes (cat [[(h, .inr (12, fHo q x o16 o17 o18 o19 o20))]]) s.heap := hP
  have hK : va_K D classes (TY kA) s := hK
  refine lv_aload_n (pc := 0) hx hb d_Ho_judge_0 rfl (lv_at hl 0 rfl) ?_
  refine lv_iload_n (pc := 1) hx hb d_Ho_judge_1 rfl (lv_at hl 1 rfl) ?_
  refine k_goI (gr := []) (k_rV (pc := 2) (As := [.int gp]) (rest := []) X (c_Ho_hasDrawing_no l D kA h q x o16 o17 o18 o19 o20 gp hg s.heap.size) rfl wm_1859 wm_1 wm_1856 wm_1858 wv_8_15 1 (by decide +kernel) ⟨Nat.le_of_ble_eq_true rfl, Nat.le_of_ble_eq_true rfl⟩ rfl rfl (va_recv hK hP (ci := 12) (q0 := 0) rfl rfl) (k_pre hN hK hP hD [0] [] 1 rfl (by decide) rfl) rfl hl.1 rfl (Nat.le_of_ble_eq_true rfl) d_Ho_judge_2 ⟨Nat.le_of_ble_eq_true rfl, Nat.le_of_ble_eq_true rfl⟩) hP hD hS hA [0] [] 1 rfl (by decide) rfl rfl (fun r1 u2 H locs hu2 hP hD hS => ?_)
  subst hu2
  refine k_cst (v := 0) (by rfl) ?_
  have hP : va_P D classes (cat [[(h, .inr (12, fHo q x o16 o17 o18 o19 o20))]]) H := hP
  have hD : va_D A (cat [[(h, .inr (12, fHo q x o16 o17 o18 o19 o20))]]) := hD
  refine lv_if_eq (pc := 5) (tgt := 21) hx hb d_Ho_judge_5 (by decide) (fun c1 => ?_) (fun c1 => absurd (by decide) c1)
  refine lv_ldc2 (pc := 21) (v := -1) hx hb hown (hts _ wm_2084) d_Ho_judge_21 ?_
  refine W.widen (k := 0) (n := 0) (Nat.le_of_ble_eq_true rfl) (Nat.le_of_ble_eq_true rfl) ?_
  exact W.lret (v := (-1)) hx hb hr (fun t ht hW => ⟨⟨(-1), (), rfl, (by unfold sp_Ho_judge_no; rfl), by rw [ht]; exact hP, va_K.moved hW.alike hK, hD⟩, hS.F ht⟩) hS.2.2 d_Ho_judge_24
def sp_Ho_judge_nd  : Int64 := -1
set_option maxRecDepth 100000 in
set_option maxHeartbeats 4000000 in
/-- DrawingHouse.judge(II)J -/
theorem c_Ho_judge_nd (l : Launch) (D : va_G) (kA : Nat → ClassId) (h : Nat) (q : Nat → Nat) (x : Nat → Int32) (o16 o17 o18 o19 o20 : Option Nat) (g : Nat → Nat → Nat) (qd : Nat → Nat) (xd : Nat → Int32) (j : Nat) (hj : j < 4) (ru : Int32)  : Cl l y_Ho_judge z_Ho_judge { frames := 2, cells := 0, slots := 0, locals := 45 } D classes (TY kA) [.ref h, .int (nI j), .int ru] [[(h, .inr (12, fHo q x o16 o17 o18 o19 o20))], [(q 3, .inl (kA 7, 4, .inr (.inr (.inr (.inr (rr (g 3)))))))], [(g 3 j, .inr (0, fDr qd (va_up xd 1 ((-1)))))]] (fun r (_ : Unit) => r = sp_Ho_judge_nd ) (fun _ => [[(h, .inr (12, fHo q x o16 o17 o18 o19 o20))], [(q 3, .inl (kA 7, 4, .inr (.inr (.inr (.inr (rr (g 3)))))))], [(g 3 j, .inr (0, fDr qd (va_up xd 1 ((-1)))))]]) 0 0 := by
  intro sz
  refine k_met (cc := b_Ho_judge) (maxL := 3) (ret := (some .long)) (by decide) rfl (Nat.le_of_ble_eq_true rfl) (fun p e s m below meth c ls X hl hB => ?_)
  obtain ⟨hsz, hP, hK, hD0, hN⟩ := hB
  subst hsz
  have hD := hD0.self (sz := s.heap.size)
  generalize hAe : va_A (cat [[(h, .inr (12, fHo q x o16 o17 o18 o19 o20))], [(q 3, .inl (kA 7, 4, .inr (.inr (.inr (.inr (rr (g 3)))))))], [(g 3 j, .inr (0, fDr qd (va_up xd 1 ((-1)))))]]) s.heap.size = A at hD ⊢
  have hA : ∀ q : Nat, s.heap.size ≤ q → A q := fun q h => by rw [← hAe]; exact Or.inr h
  have hS : va_S A s.heap s.heap [] := va_S.rf
  obtain ⟨hx, hb, hml, hown, hts, hr, hlk, hnm⟩ := id X
  have hl : lv_has ls 3 [(0, .ref h), (1, .int (nI j)), (2, .int ru)] := hl
  have hP : va_P D classes (cat [[(h, .inr (12, fHo q x o16 o17 o18 o19 o20))], [(q 3, .inl (kA 7, 4, .inr (.inr (.inr (.inr (rr (g 3)))))))], [(g 3 j, .inr (0, fDr qd (va_up xd 1 ((-1)))))]]) s.heap := hP
  have hK : va_K D classes (TY kA) s := hK
  refine lv_aload_n (pc := 0) hx hb d_Ho_judge_0 rfl (lv_at hl 0 rfl) ?_
  refine lv_iload_n (pc := 1) hx hb d_Ho_judge_1 rfl (lv_at hl 1 rfl) ?_
  refine k_goI (gr := []) (k_rV (pc := 2) (As := [.int (nI j)]) (rest := []) X (c_Ho_hasDrawing_nd l D kA h q x o16 o17 o18 o19 o20 g qd xd j hj s.heap.size) rfl wm_1859 wm_1 wm_1856 wm_1858 wv_8_15 1 (by decide +kernel) ⟨Nat.le_of_ble_eq_true rfl, Nat.le_of_ble_eq_true rfl⟩ rfl rfl (va_recv hK hP (ci := 12) (q0 := 0) rfl rfl) (k_pre hN hK hP hD [0, 1, 2] [] 3 rfl (by decide) rfl) rfl hl.1 rfl (Nat.le_of_ble_eq_true rfl) d_Ho_judge_2 ⟨Nat.le_of_ble_eq_true rfl, Nat.le_of_ble_eq_true rfl⟩) hP hD hS hA [0, 1, 2] [] 3 rfl (by decide) rfl rfl (fun r1 u2 H locs hu2 hP hD hS => ?_)
  subst hu2
  refine k_cst (v := 0) (by rfl) ?_
  have hP : va_P D classes (cat [[(h, .inr (12, fHo q x o16 o17 o18 o19 o20))], [(q 3, .inl (kA 7, 4, .inr (.inr (.inr (.inr (rr (g 3)))))))], [(g 3 j, .inr (0, fDr qd (va_up xd 1 ((-1)))))]]) H := hP
  have hD : va_D A (cat [[(h, .inr (12, fHo q x o16 o17 o18 o19 o20))], [(q 3, .inl (kA 7, 4, .inr (.inr (.inr (.inr (rr (g 3)))))))], [(g 3 j, .inr (0, fDr qd (va_up xd 1 ((-1)))))]]) := hD
  refine lv_if_eq (pc := 5) (tgt := 21) hx hb d_Ho_judge_5 (by decide) (fun c1 => ?_) (fun c1 => absurd (by decide) c1)
  refine lv_ldc2 (pc := 21) (v := -1) hx hb hown (hts _ wm_2084) d_Ho_judge_21 ?_
  refine W.widen (k := 0) (n := 0) (Nat.le_of_ble_eq_true rfl) (Nat.le_of_ble_eq_true rfl) ?_
  exact W.lret (v := (-1)) hx hb hr (fun t ht hW => ⟨⟨(-1), (), rfl, (by unfold sp_Ho_judge_nd; rfl), by rw [ht]; exact hP, va_K.moved hW.alike hK, hD⟩, hS.F ht⟩) hS.2.2 d_Ho_judge_24
def sp_Mo_at2_no  : Int32 := -2147483648
set_option maxRecDepth 100000 in
set_option maxHeartbeats 4000000 in
/-- DrawingHouseModel.at(IIII)I -/
theorem c_Mo_at2_no (l : Launch) (D : va_G) (kA : Nat → ClassId) (h : Nat) (q : Nat → Nat) (x : Nat → Int32) (y : Nat → Int64) (gp : Int32) (w i k : Int32) (hg : sp_Mo_isPlace gp = 0)  : Ci l y_Mo_at2 z_Mo_at2 { frames := 2, cells := 0, slots := 0, locals := 42 } D classes (TY kA) [.ref h, .int gp, .int w, .int i, .int k] [[(h, .inr (13, mF q x y))]] (fun r (_ : Unit) => r = sp_Mo_at2_no ) (fun _ => [[(h, .inr (13, mF q x y))]]) 0 0 := by
  intro sz
  refine k_met (cc := b_Mo_at2) (maxL := 6) (ret := (some .int)) (by decide) rfl (Nat.le_of_ble_eq_true rfl) (fun p e s m below meth c ls X hl hB => ?_)
  obtain ⟨hsz, hP, hK, hD0, hN⟩ := hB
  subst hsz
  have hD := hD0.self (sz := s.heap.size)
  generalize hAe : va_A (cat [[(h, .inr (13, mF q x y))]]) s.heap.size = A at hD ⊢
  have hA : ∀ q : Nat, s.heap.size ≤ q → A q := fun q h => by rw [← hAe]; exact Or.inr h
  have hS : va_S A s.heap s.heap [] := va_S.rf
  obtain ⟨hx, hb, hml, hown, hts, hr, hlk, hnm⟩ := id X
  have hl : lv_has ls 6 [(0, .ref h), (1, .int gp), (2, .int w), (3, .int i), (4, .int k)] := hl
  have hP : va_P D classes (cat [[(h, .inr (13, mF q x y))]]) s.heap := hP
  have hK : va_K D classes (TY kA) s := hK
  refine lv_iload_n (pc := 0) hx hb d_Mo_at2_0 rfl (lv_at hl 1 rfl) ?_
  refine k_goI (gr := [[(h, .inr (13, mF q x y))]]) (k_rS (pc := 1) (As := [.int gp]) (rest := []) X (c_Mo_isPlace l D kA gp s.heap.size) rfl wm_2978 wm_9 wm_2976 wm_2977 1 (by decide +kernel) ⟨Nat.le_of_ble_eq_true rfl, Nat.le_of_ble_eq_true rfl⟩ rfl rfl (k_pre hN hK hP hD [] [0] 1 rfl (by decide) rfl) rfl hl.1 rfl (Nat.le_of_ble_eq_true rfl) d_Mo_at2_1 ⟨Nat.le_of_ble_eq_true rfl, Nat.le_of_ble_eq_true rfl⟩) hP hD hS hA [] [0] 1 rfl (by decide) rfl rfl (fun r1 u2 H locs hu2 hP hD hS => ?_)
  subst hu2
  have hP : va_P D classes (cat [[(h, .inr (13, mF q x y))]]) H := hP
  have hD : va_D A (cat [[(h, .inr (13, mF q x y))]]) := hD
  refine lv_if_eq (pc := 4) (tgt := 16) hx hb d_Mo_at2_4 (by decide) (fun c1 => ?_) (fun c1 => absurd (hg) c1)
  refine lv_ldcw (pc := 16) (v := -2147483648) hx hb hown (hts _ wm_3653) d_Mo_at2_16 ?_
  refine W.widen (k := 0) (n := 0) (Nat.le_of_ble_eq_true rfl) (Nat.le_of_ble_eq_true rfl) ?_
  exact W.iret (v := (-2147483648)) hx hb hr (fun t ht hW => ⟨⟨(-2147483648), (), rfl, (by unfold sp_Mo_at2_no; rfl), by rw [ht]; exact hP, va_K.moved hW.alike hK, hD⟩, hS.F ht⟩) hS.2.2 d_Mo_at2_19
def sp_Mo_at2_nd  : Int32 := -2147483648
set_option maxRecDepth 100000 in
set_option maxHeartbeats 4000000 in
/-- DrawingHouseModel.at(IIII)I -/
theorem c_Mo_at2_nd (l : Launch) (D : va_G) (kA : Nat → ClassId) (h : Nat) (q : Nat → Nat) (x : Nat → Int32) (y : Nat → Int64) (f : Nat → Int32) (j : Nat) (hj : j < 4) (hd : f j < 0) (w i k : Int32)  : Ci l y_Mo_at2 z_Mo_at2 { frames := 2, cells := 0, slots := 0, locals := 42 } D classes (TY kA) [.ref h, .int (nI j), .int w, .int i, .int k] [[(h, .inr (13, mF q x y))], [(q 61, .inl (kA 0, 4, .inl f))]] (fun r (_ : Unit) => r = sp_Mo_at2_nd ) (fun _ => [[(h, .inr (13, mF q x y))], [(q 61, .inl (kA 0, 4, .inl f))]]) 0 0 := by
  intro sz
  refine k_met (cc := b_Mo_at2) (maxL := 6) (ret := (some .int)) (by decide) rfl (Nat.le_of_ble_eq_true rfl) (fun p e s m below meth c ls X hl hB => ?_)
  obtain ⟨hsz, hP, hK, hD0, hN⟩ := hB
  subst hsz
  have hD := hD0.self (sz := s.heap.size)
  generalize hAe : va_A (cat [[(h, .inr (13, mF q x y))], [(q 61, .inl (kA 0, 4, .inl f))]]) s.heap.size = A at hD ⊢
  have hA : ∀ q : Nat, s.heap.size ≤ q → A q := fun q h => by rw [← hAe]; exact Or.inr h
  have hS : va_S A s.heap s.heap [] := va_S.rf
  obtain ⟨hx, hb, hml, hown, hts, hr, hlk, hnm⟩ := id X
  have hl : lv_has ls 6 [(0, .ref h), (1, .int (nI j)), (2, .int w), (3, .int i), (4, .int k)] := hl
  have hP : va_P D classes (cat [[(h, .inr (13, mF q x y))], [(q 61, .inl (kA 0, 4, .inl f))]]) s.heap := hP
  have hK : va_K D classes (TY kA) s := hK
  refine lv_iload_n (pc := 0) hx hb d_Mo_at2_0 rfl (lv_at hl 1 rfl) ?_
  refine k_goI (gr := [[(h, .inr (13, mF q x y))], [(q 61, .inl (kA 0, 4, .inl f))]]) (k_rS (pc := 1) (As := [.int (nI j)]) (rest := []) X (c_Mo_isPlace l D kA (nI j) s.heap.size) rfl wm_2978 wm_9 wm_2976 wm_2977 1 (by decide +kernel) ⟨Nat.le_of_ble_eq_true rfl, Nat.le_of_ble_eq_true rfl⟩ rfl rfl (k_pre hN hK hP hD [] [0, 1] 2 rfl (by decide) rfl) rfl hl.1 rfl (Nat.le_of_ble_eq_true rfl) d_Mo_at2_1 ⟨Nat.le_of_ble_eq_true rfl, Nat.le_of_ble_eq_true rfl⟩) hP hD hS hA [] [0, 1] 2 rfl (by decide) rfl rfl (fun r1 u2 H locs hu2 hP hD hS => ?_)
  subst hu2
  have hP : va_P D classes (cat [[(h, .inr (13, mF q x y))], [(q 61, .inl (kA 0, 4, .inl f))]]) H := hP
  have hD : va_D A (cat [[(h, .inr (13, mF q x y))], [(q 61, .inl (kA 0, 4, .inl f))]]) := hD
  refine lv_if_eq (pc := 4) (tgt := 16) hx hb d_Mo_at2_4 (by decide) (fun c1 => absurd c1 (fun e => absurd ((placeM_ok hj).symm.trans e) (by decide))) (fun c1 => ?_)
  refine lv_aload_n (pc := 7) hx hb d_Mo_at2_7 rfl (lv_at hl 0 rfl) ?_
  refine k_get (pc := 8) X hK hP 0 rfl rfl i_Mo 61 (by decide) wm_2493 rfl rfl d_Mo_at2_8 ?_
  refine lv_iload_n (pc := 11) hx hb d_Mo_at2_11 rfl (lv_at hl 1 rfl) ?_
  refine k_ild (pc := 12) hx hb hK hP 1 0 rfl rfl (j) rfl (by omega) (by decide) d_Mo_at2_12 ?_
  refine lv_if_ge (pc := 13) (tgt := 20) hx hb d_Mo_at2_13 (by decide) (fun c1 => absurd c1 (Int32.not_le.mpr hd)) (fun c1 => ?_)
  refine lv_ldcw (pc := 16) (v := -2147483648) hx hb hown (hts _ wm_3653) d_Mo_at2_16 ?_
  refine W.widen (k := 0) (n := 0) (Nat.le_of_ble_eq_true rfl) (Nat.le_of_ble_eq_true rfl) ?_
  exact W.iret (v := (-2147483648)) hx hb hr (fun t ht hW => ⟨⟨(-2147483648), (), rfl, (by unfold sp_Mo_at2_nd; rfl), by rw [ht]; exact hP, va_K.moved hW.alike hK, hD⟩, hS.F ht⟩) hS.2.2 d_Mo_at2_19
def sp_Mo_told_no  : Int32 := (-1)
set_option maxRecDepth 100000 in
set_option maxHeartbeats 4000000 in
/-- DrawingHouseModel.told(III)I -/
theorem c_Mo_told_no (l : Launch) (D : va_G) (kA : Nat → ClassId) (h : Nat) (q : Nat → Nat) (x : Nat → Int32) (y : Nat → Int64) (gp : Int32) (w i : Int32) (hg : sp_Mo_isPlace gp = 0)  : Ci l y_Mo_told z_Mo_told { frames := 2, cells := 0, slots := 0, locals := 42 } D classes (TY kA) [.ref h, .int gp, .int w, .int i] [[(h, .inr (13, mF q x y))]] (fun r (_ : Unit) => r = sp_Mo_told_no ) (fun _ => [[(h, .inr (13, mF q x y))]]) 0 0 := by
  intro sz
  refine k_met (cc := b_Mo_told) (maxL := 6) (ret := (some .int)) (by decide) rfl (Nat.le_of_ble_eq_true rfl) (fun p e s m below meth c ls X hl hB => ?_)
  obtain ⟨hsz, hP, hK, hD0, hN⟩ := hB
  subst hsz
  have hD := hD0.self (sz := s.heap.size)
  generalize hAe : va_A (cat [[(h, .inr (13, mF q x y))]]) s.heap.size = A at hD ⊢
  have hA : ∀ q : Nat, s.heap.size ≤ q → A q := fun q h => by rw [← hAe]; exact Or.inr h
  have hS : va_S A s.heap s.heap [] := va_S.rf
  obtain ⟨hx, hb, hml, hown, hts, hr, hlk, hnm⟩ := id X
  have hl : lv_has ls 6 [(0, .ref h), (1, .int gp), (2, .int w), (3, .int i)] := hl
  have hP : va_P D classes (cat [[(h, .inr (13, mF q x y))]]) s.heap := hP
  have hK : va_K D classes (TY kA) s := hK
  refine lv_iload_n (pc := 0) hx hb d_Mo_told_0 rfl (lv_at hl 1 rfl) ?_
  refine k_goI (gr := [[(h, .inr (13, mF q x y))]]) (k_rS (pc := 1) (As := [.int gp]) (rest := []) X (c_Mo_isPlace l D kA gp s.heap.size) rfl wm_2978 wm_9 wm_2976 wm_2977 1 (by decide +kernel) ⟨Nat.le_of_ble_eq_true rfl, Nat.le_of_ble_eq_true rfl⟩ rfl rfl (k_pre hN hK hP hD [] [0] 1 rfl (by decide) rfl) rfl hl.1 rfl (Nat.le_of_ble_eq_true rfl) d_Mo_told_1 ⟨Nat.le_of_ble_eq_true rfl, Nat.le_of_ble_eq_true rfl⟩) hP hD hS hA [] [0] 1 rfl (by decide) rfl rfl (fun r1 u2 H locs hu2 hP hD hS => ?_)
  subst hu2
  have hP : va_P D classes (cat [[(h, .inr (13, mF q x y))]]) H := hP
  have hD : va_D A (cat [[(h, .inr (13, mF q x y))]]) := hD
  refine lv_if_eq (pc := 4) (tgt := 16) hx hb d_Mo_told_4 (by decide) (fun c1 => ?_) (fun c1 => absurd (hg) c1)
  refine lv_iconst (pc := 16) (v := -1) hx hb d_Mo_told_16 (by decide) ?_
  refine W.widen (k := 0) (n := 0) (Nat.le_of_ble_eq_true rfl) (Nat.le_of_ble_eq_true rfl) ?_
  exact W.iret (v := ((-1))) hx hb hr (fun t ht hW => ⟨⟨((-1)), (), rfl, (by unfold sp_Mo_told_no; rfl), by rw [ht]; exact hP, va_K.moved hW.alike hK, hD⟩, hS.F ht⟩) hS.2.2 d_Mo_told_17
def sp_Mo_told_nd  : Int32 := (-1)
set_option maxRecDepth 100000 in
set_option maxHeartbeats 4000000 in
/-- DrawingHouseModel.told(III)I -/
theorem c_Mo_told_nd (l : Launch) (D : va_G) (kA : Nat → ClassId) (h : Nat) (q : Nat → Nat) (x : Nat → Int32) (y : Nat → Int64) (f : Nat → Int32) (j : Nat) (hj : j < 4) (hd : f j < 0) (w i : Int32)  : Ci l y_Mo_told z_Mo_told { frames := 2, cells := 0, slots := 0, locals := 42 } D classes (TY kA) [.ref h, .int (nI j), .int w, .int i] [[(h, .inr (13, mF q x y))], [(q 61, .inl (kA 0, 4, .inl f))]] (fun r (_ : Unit) => r = sp_Mo_told_nd ) (fun _ => [[(h, .inr (13, mF q x y))], [(q 61, .inl (kA 0, 4, .inl f))]]) 0 0 := by
  intro sz
  refine k_met (cc := b_Mo_told) (maxL := 6) (ret := (some .int)) (by decide) rfl (Nat.le_of_ble_eq_true rfl) (fun p e s m below meth c ls X hl hB => ?_)
  obtain ⟨hsz, hP, hK, hD0, hN⟩ := hB
  subst hsz
  have hD := hD0.self (sz := s.heap.size)
  generalize hAe : va_A (cat [[(h, .inr (13, mF q x y))], [(q 61, .inl (kA 0, 4, .inl f))]]) s.heap.size = A at hD ⊢
  have hA : ∀ q : Nat, s.heap.size ≤ q → A q := fun q h => by rw [← hAe]; exact Or.inr h
  have hS : va_S A s.heap s.heap [] := va_S.rf
  obtain ⟨hx, hb, hml, hown, hts, hr, hlk, hnm⟩ := id X
  have hl : lv_has ls 6 [(0, .ref h), (1, .int (nI j)), (2, .int w), (3, .int i)] := hl
  have hP : va_P D classes (cat [[(h, .inr (13, mF q x y))], [(q 61, .inl (kA 0, 4, .inl f))]]) s.heap := hP
  have hK : va_K D classes (TY kA) s := hK
  refine lv_iload_n (pc := 0) hx hb d_Mo_told_0 rfl (lv_at hl 1 rfl) ?_
  refine k_goI (gr := [[(h, .inr (13, mF q x y))], [(q 61, .inl (kA 0, 4, .inl f))]]) (k_rS (pc := 1) (As := [.int (nI j)]) (rest := []) X (c_Mo_isPlace l D kA (nI j) s.heap.size) rfl wm_2978 wm_9 wm_2976 wm_2977 1 (by decide +kernel) ⟨Nat.le_of_ble_eq_true rfl, Nat.le_of_ble_eq_true rfl⟩ rfl rfl (k_pre hN hK hP hD [] [0, 1] 2 rfl (by decide) rfl) rfl hl.1 rfl (Nat.le_of_ble_eq_true rfl) d_Mo_told_1 ⟨Nat.le_of_ble_eq_true rfl, Nat.le_of_ble_eq_true rfl⟩) hP hD hS hA [] [0, 1] 2 rfl (by decide) rfl rfl (fun r1 u2 H locs hu2 hP hD hS => ?_)
  subst hu2
  have hP : va_P D classes (cat [[(h, .inr (13, mF q x y))], [(q 61, .inl (kA 0, 4, .inl f))]]) H := hP
  have hD : va_D A (cat [[(h, .inr (13, mF q x y))], [(q 61, .inl (kA 0, 4, .inl f))]]) := hD
  refine lv_if_eq (pc := 4) (tgt := 16) hx hb d_Mo_told_4 (by decide) (fun c1 => absurd c1 (fun e => absurd ((placeM_ok hj).symm.trans e) (by decide))) (fun c1 => ?_)
  refine lv_aload_n (pc := 7) hx hb d_Mo_told_7 rfl (lv_at hl 0 rfl) ?_
  refine k_get (pc := 8) X hK hP 0 rfl rfl i_Mo 61 (by decide) wm_2493 rfl rfl d_Mo_told_8 ?_
  refine lv_iload_n (pc := 11) hx hb d_Mo_told_11 rfl (lv_at hl 1 rfl) ?_
  refine k_ild (pc := 12) hx hb hK hP 1 0 rfl rfl (j) rfl (by omega) (by decide) d_Mo_told_12 ?_
  refine lv_if_ge (pc := 13) (tgt := 18) hx hb d_Mo_told_13 (by decide) (fun c1 => absurd c1 (Int32.not_le.mpr hd)) (fun c1 => ?_)
  refine lv_iconst (pc := 16) (v := -1) hx hb d_Mo_told_16 (by decide) ?_
  refine W.widen (k := 0) (n := 0) (Nat.le_of_ble_eq_true rfl) (Nat.le_of_ble_eq_true rfl) ?_
  exact W.iret (v := ((-1))) hx hb hr (fun t ht hW => ⟨⟨((-1)), (), rfl, (by unfold sp_Mo_told_nd; rfl), by rw [ht]; exact hP, va_K.moved hW.alike hK, hD⟩, hS.F ht⟩) hS.2.2 d_Mo_told_17
def sp_Mo_put_no  : Int32 := 0
set_option maxRecDepth 100000 in
set_option maxHeartbeats 4000000 in
/-- DrawingHouseModel.put(IIIII)Z -/
theorem c_Mo_put_no (l : Launch) (D : va_G) (kA : Nat → ClassId) (h : Nat) (q : Nat → Nat) (x : Nat → Int32) (y : Nat → Int64) (gp : Int32) (i k px py : Int32) (hg : sp_Mo_isPlace gp = 0)  : Ci l y_Mo_put z_Mo_put { frames := 2, cells := 0, slots := 0, locals := 42 } D classes (TY kA) [.ref h, .int gp, .int i, .int k, .int px, .int py] [[(h, .inr (13, mF q x y))]] (fun r (_ : Unit) => r = sp_Mo_put_no ) (fun _ => [[(h, .inr (13, mF q x y))]]) 0 0 := by
  intro sz
  refine k_met (cc := b_Mo_put) (maxL := 6) (ret := (some .boolean)) (by decide) rfl (Nat.le_of_ble_eq_true rfl) (fun p e s m below meth c ls X hl hB => ?_)
  obtain ⟨hsz, hP, hK, hD0, hN⟩ := hB
  subst hsz
  have hD := hD0.self (sz := s.heap.size)
  generalize hAe : va_A (cat [[(h, .inr (13, mF q x y))]]) s.heap.size = A at hD ⊢
  have hA : ∀ q : Nat, s.heap.size ≤ q → A q := fun q h => by rw [← hAe]; exact Or.inr h
  have hS : va_S A s.heap s.heap [] := va_S.rf
  obtain ⟨hx, hb, hml, hown, hts, hr, hlk, hnm⟩ := id X
  have hl : lv_has ls 6 [(0, .ref h), (1, .int gp), (2, .int i), (3, .int k), (4, .int px), (5, .int py)] := hl
  have hP : va_P D classes (cat [[(h, .inr (13, mF q x y))]]) s.heap := hP
  have hK : va_K D classes (TY kA) s := hK
  refine lv_iload_n (pc := 0) hx hb d_Mo_put_0 rfl (lv_at hl 1 rfl) ?_
  refine k_goI (gr := [[(h, .inr (13, mF q x y))]]) (k_rS (pc := 1) (As := [.int gp]) (rest := []) X (c_Mo_isPlace l D kA gp s.heap.size) rfl wm_2978 wm_9 wm_2976 wm_2977 1 (by decide +kernel) ⟨Nat.le_of_ble_eq_true rfl, Nat.le_of_ble_eq_true rfl⟩ rfl rfl (k_pre hN hK hP hD [] [0] 1 rfl (by decide) rfl) rfl hl.1 rfl (Nat.le_of_ble_eq_true rfl) d_Mo_put_1 ⟨Nat.le_of_ble_eq_true rfl, Nat.le_of_ble_eq_true rfl⟩) hP hD hS hA [] [0] 1 rfl (by decide) rfl rfl (fun r1 u2 H locs hu2 hP hD hS => ?_)
  subst hu2
  have hP : va_P D classes (cat [[(h, .inr (13, mF q x y))]]) H := hP
  have hD : va_D A (cat [[(h, .inr (13, mF q x y))]]) := hD
  refine lv_if_eq (pc := 4) (tgt := 44) hx hb d_Mo_put_4 (by decide) (fun c1 => ?_) (fun c1 => absurd (hg) c1)
  refine lv_iconst (pc := 44) (v := 0) hx hb d_Mo_put_44 (by decide) ?_
  refine W.widen (k := 0) (n := 0) (Nat.le_of_ble_eq_true rfl) (Nat.le_of_ble_eq_true rfl) ?_
  exact W.zret (v := 0) hx hb hr rfl (fun t ht hW => ⟨⟨0, (), rfl, (by unfold sp_Mo_put_no; rfl), by rw [ht]; exact hP, va_K.moved hW.alike hK, hD⟩, hS.F ht⟩) hS.2.2 d_Mo_put_45
def sp_Mo_put_nd  : Int32 := 0
set_option maxRecDepth 100000 in
set_option maxHeartbeats 4000000 in
/-- DrawingHouseModel.put(IIIII)Z -/
theorem c_Mo_put_nd (l : Launch) (D : va_G) (kA : Nat → ClassId) (h : Nat) (q : Nat → Nat) (x : Nat → Int32) (y : Nat → Int64) (f : Nat → Int32) (j : Nat) (hj : j < 4) (hd : f j < 0) (i k px py : Int32)  : Ci l y_Mo_put z_Mo_put { frames := 2, cells := 0, slots := 0, locals := 42 } D classes (TY kA) [.ref h, .int (nI j), .int i, .int k, .int px, .int py] [[(h, .inr (13, mF q x y))], [(q 61, .inl (kA 0, 4, .inl f))]] (fun r (_ : Unit) => r = sp_Mo_put_nd ) (fun _ => [[(h, .inr (13, mF q x y))], [(q 61, .inl (kA 0, 4, .inl f))]]) 0 0 := by
  intro sz
  refine k_met (cc := b_Mo_put) (maxL := 6) (ret := (some .boolean)) (by decide) rfl (Nat.le_of_ble_eq_true rfl) (fun p e s m below meth c ls X hl hB => ?_)
  obtain ⟨hsz, hP, hK, hD0, hN⟩ := hB
  subst hsz
  have hD := hD0.self (sz := s.heap.size)
  generalize hAe : va_A (cat [[(h, .inr (13, mF q x y))], [(q 61, .inl (kA 0, 4, .inl f))]]) s.heap.size = A at hD ⊢
  have hA : ∀ q : Nat, s.heap.size ≤ q → A q := fun q h => by rw [← hAe]; exact Or.inr h
  have hS : va_S A s.heap s.heap [] := va_S.rf
  obtain ⟨hx, hb, hml, hown, hts, hr, hlk, hnm⟩ := id X
  have hl : lv_has ls 6 [(0, .ref h), (1, .int (nI j)), (2, .int i), (3, .int k), (4, .int px), (5, .int py)] := hl
  have hP : va_P D classes (cat [[(h, .inr (13, mF q x y))], [(q 61, .inl (kA 0, 4, .inl f))]]) s.heap := hP
  have hK : va_K D classes (TY kA) s := hK
  refine lv_iload_n (pc := 0) hx hb d_Mo_put_0 rfl (lv_at hl 1 rfl) ?_
  refine k_goI (gr := [[(h, .inr (13, mF q x y))], [(q 61, .inl (kA 0, 4, .inl f))]]) (k_rS (pc := 1) (As := [.int (nI j)]) (rest := []) X (c_Mo_isPlace l D kA (nI j) s.heap.size) rfl wm_2978 wm_9 wm_2976 wm_2977 1 (by decide +kernel) ⟨Nat.le_of_ble_eq_true rfl, Nat.le_of_ble_eq_true rfl⟩ rfl rfl (k_pre hN hK hP hD [] [0, 1] 2 rfl (by decide) rfl) rfl hl.1 rfl (Nat.le_of_ble_eq_true rfl) d_Mo_put_1 ⟨Nat.le_of_ble_eq_true rfl, Nat.le_of_ble_eq_true rfl⟩) hP hD hS hA [] [0, 1] 2 rfl (by decide) rfl rfl (fun r1 u2 H locs hu2 hP hD hS => ?_)
  subst hu2
  have hP : va_P D classes (cat [[(h, .inr (13, mF q x y))], [(q 61, .inl (kA 0, 4, .inl f))]]) H := hP
  have hD : va_D A (cat [[(h, .inr (13, mF q x y))], [(q 61, .inl (kA 0, 4, .inl f))]]) := hD
  refine lv_if_eq (pc := 4) (tgt := 44) hx hb d_Mo_put_4 (by decide) (fun c1 => absurd c1 (fun e => absurd ((placeM_ok hj).symm.trans e) (by decide))) (fun c1 => ?_)
  refine lv_aload_n (pc := 7) hx hb d_Mo_put_7 rfl (lv_at hl 0 rfl) ?_
  refine k_get (pc := 8) X hK hP 0 rfl rfl i_Mo 61 (by decide) wm_2493 rfl rfl d_Mo_put_8 ?_
  refine lv_iload_n (pc := 11) hx hb d_Mo_put_11 rfl (lv_at hl 1 rfl) ?_
  refine k_ild (pc := 12) hx hb hK hP 1 0 rfl rfl (j) rfl (by omega) (by decide) d_Mo_put_12 ?_
  refine lv_if_lt (pc := 13) (tgt := 44) hx hb d_Mo_put_13 (by decide) (fun c1 => ?_) (fun c1 => absurd (hd) c1)
  refine lv_iconst (pc := 44) (v := 0) hx hb d_Mo_put_44 (by decide) ?_
  refine W.widen (k := 0) (n := 0) (Nat.le_of_ble_eq_true rfl) (Nat.le_of_ble_eq_true rfl) ?_
  exact W.zret (v := 0) hx hb hr rfl (fun t ht hW => ⟨⟨0, (), rfl, (by unfold sp_Mo_put_nd; rfl), by rw [ht]; exact hP, va_K.moved hW.alike hK, hD⟩, hS.F ht⟩) hS.2.2 d_Mo_put_45
def sp_Mo_isDrawn_no  : Int32 := 0
set_option maxRecDepth 100000 in
set_option maxHeartbeats 4000000 in
/-- DrawingHouseModel.isDrawn(I)Z -/
theorem c_Mo_isDrawn_no (l : Launch) (D : va_G) (kA : Nat → ClassId) (h : Nat) (q : Nat → Nat) (x : Nat → Int32) (y : Nat → Int64) (gp : Int32) (hg : sp_Mo_isPlace gp = 0)  : Ci l y_Mo_isDrawn z_Mo_isDrawn { frames := 2, cells := 0, slots := 0, locals := 42 } D classes (TY kA) [.ref h, .int gp] [[(h, .inr (13, mF q x y))]] (fun r (_ : Unit) => r = sp_Mo_isDrawn_no ) (fun _ => [[(h, .inr (13, mF q x y))]]) 0 0 := by
  intro sz
  refine k_met (cc := b_Mo_isDrawn) (maxL := 2) (ret := (some .boolean)) (by decide) rfl (Nat.le_of_ble_eq_true rfl) (fun p e s m below meth c ls X hl hB => ?_)
  obtain ⟨hsz, hP, hK, hD0, hN⟩ := hB
  subst hsz
  have hD := hD0.self (sz := s.heap.size)
  generalize hAe : va_A (cat [[(h, .inr (13, mF q x y))]]) s.heap.size = A at hD ⊢
  have hA : ∀ q : Nat, s.heap.size ≤ q → A q := fun q h => by rw [← hAe]; exact Or.inr h
  have hS : va_S A s.heap s.heap [] := va_S.rf
  obtain ⟨hx, hb, hml, hown, hts, hr, hlk, hnm⟩ := id X
  have hl : lv_has ls 2 [(0, .ref h), (1, .int gp)] := hl
  have hP : va_P D classes (cat [[(h, .inr (13, mF q x y))]]) s.heap := hP
  have hK : va_K D classes (TY kA) s := hK
  refine lv_iload_n (pc := 0) hx hb d_Mo_isDrawn_0 rfl (lv_at hl 1 rfl) ?_
  refine k_goI (gr := [[(h, .inr (13, mF q x y))]]) (k_rS (pc := 1) (As := [.int gp]) (rest := []) X (c_Mo_isPlace l D kA gp s.heap.size) rfl wm_2978 wm_9 wm_2976 wm_2977 1 (by decide +kernel) ⟨Nat.le_of_ble_eq_true rfl, Nat.le_of_ble_eq_true rfl⟩ rfl rfl (k_pre hN hK hP hD [] [0] 1 rfl (by decide) rfl) rfl hl.1 rfl (Nat.le_of_ble_eq_true rfl) d_Mo_isDrawn_1 ⟨Nat.le_of_ble_eq_true rfl, Nat.le_of_ble_eq_true rfl⟩) hP hD hS hA [] [0] 1 rfl (by decide) rfl rfl (fun r1 u2 H locs hu2 hP hD hS => ?_)
  subst hu2
  have hP : va_P D classes (cat [[(h, .inr (13, mF q x y))]]) H := hP
  have hD : va_D A (cat [[(h, .inr (13, mF q x y))]]) := hD
  refine lv_if_eq (pc := 4) (tgt := 16) hx hb d_Mo_isDrawn_4 (by decide) (fun c1 => ?_) (fun c1 => absurd (hg) c1)
  refine lv_iconst (pc := 16) (v := 0) hx hb d_Mo_isDrawn_16 (by decide) ?_
  refine W.widen (k := 0) (n := 0) (Nat.le_of_ble_eq_true rfl) (Nat.le_of_ble_eq_true rfl) ?_
  exact W.zret (v := 0) hx hb hr rfl (fun t ht hW => ⟨⟨0, (), rfl, (by unfold sp_Mo_isDrawn_no; rfl), by rw [ht]; exact hP, va_K.moved hW.alike hK, hD⟩, hS.F ht⟩) hS.2.2 d_Mo_isDrawn_17
def sp_Mo_isDrawn_nd  : Int32 := 0
set_option maxRecDepth 100000 in
set_option maxHeartbeats 4000000 in
/-- DrawingHouseModel.isDrawn(I)Z -/
theorem c_Mo_isDrawn_nd (l : Launch) (D : va_G) (kA : Nat → ClassId) (h : Nat) (q : Nat → Nat) (x : Nat → Int32) (y : Nat → Int64) (f : Nat → Int32) (j : Nat) (hj : j < 4) (hd : f j < 0)  : Ci l y_Mo_isDrawn z_Mo_isDrawn { frames := 2, cells := 0, slots := 0, locals := 42 } D classes (TY kA) [.ref h, .int (nI j)] [[(h, .inr (13, mF q x y))], [(q 61, .inl (kA 0, 4, .inl f))]] (fun r (_ : Unit) => r = sp_Mo_isDrawn_nd ) (fun _ => [[(h, .inr (13, mF q x y))], [(q 61, .inl (kA 0, 4, .inl f))]]) 0 0 := by
  intro sz
  refine k_met (cc := b_Mo_isDrawn) (maxL := 2) (ret := (some .boolean)) (by decide) rfl (Nat.le_of_ble_eq_true rfl) (fun p e s m below meth c ls X hl hB => ?_)
  obtain ⟨hsz, hP, hK, hD0, hN⟩ := hB
  subst hsz
  have hD := hD0.self (sz := s.heap.size)
  generalize hAe : va_A (cat [[(h, .inr (13, mF q x y))], [(q 61, .inl (kA 0, 4, .inl f))]]) s.heap.size = A at hD ⊢
  have hA : ∀ q : Nat, s.heap.size ≤ q → A q := fun q h => by rw [← hAe]; exact Or.inr h
  have hS : va_S A s.heap s.heap [] := va_S.rf
  obtain ⟨hx, hb, hml, hown, hts, hr, hlk, hnm⟩ := id X
  have hl : lv_has ls 2 [(0, .ref h), (1, .int (nI j))] := hl
  have hP : va_P D classes (cat [[(h, .inr (13, mF q x y))], [(q 61, .inl (kA 0, 4, .inl f))]]) s.heap := hP
  have hK : va_K D classes (TY kA) s := hK
  refine lv_iload_n (pc := 0) hx hb d_Mo_isDrawn_0 rfl (lv_at hl 1 rfl) ?_
  refine k_goI (gr := [[(h, .inr (13, mF q x y))], [(q 61, .inl (kA 0, 4, .inl f))]]) (k_rS (pc := 1) (As := [.int (nI j)]) (rest := []) X (c_Mo_isPlace l D kA (nI j) s.heap.size) rfl wm_2978 wm_9 wm_2976 wm_2977 1 (by decide +kernel) ⟨Nat.le_of_ble_eq_true rfl, Nat.le_of_ble_eq_true rfl⟩ rfl rfl (k_pre hN hK hP hD [] [0, 1] 2 rfl (by decide) rfl) rfl hl.1 rfl (Nat.le_of_ble_eq_true rfl) d_Mo_isDrawn_1 ⟨Nat.le_of_ble_eq_true rfl, Nat.le_of_ble_eq_true rfl⟩) hP hD hS hA [] [0, 1] 2 rfl (by decide) rfl rfl (fun r1 u2 H locs hu2 hP hD hS => ?_)
  subst hu2
  have hP : va_P D classes (cat [[(h, .inr (13, mF q x y))], [(q 61, .inl (kA 0, 4, .inl f))]]) H := hP
  have hD : va_D A (cat [[(h, .inr (13, mF q x y))], [(q 61, .inl (kA 0, 4, .inl f))]]) := hD
  refine lv_if_eq (pc := 4) (tgt := 16) hx hb d_Mo_isDrawn_4 (by decide) (fun c1 => absurd c1 (fun e => absurd ((placeM_ok hj).symm.trans e) (by decide))) (fun c1 => ?_)
  refine lv_aload_n (pc := 7) hx hb d_Mo_isDrawn_7 rfl (lv_at hl 0 rfl) ?_
  refine k_get (pc := 8) X hK hP 0 rfl rfl i_Mo 61 (by decide) wm_2493 rfl rfl d_Mo_isDrawn_8 ?_
  refine lv_iload_n (pc := 11) hx hb d_Mo_isDrawn_11 rfl (lv_at hl 1 rfl) ?_
  refine k_ild (pc := 12) hx hb hK hP 1 0 rfl rfl (j) rfl (by omega) (by decide) d_Mo_isDrawn_12 ?_
  refine lv_if_ge (pc := 13) (tgt := 18) hx hb d_Mo_isDrawn_13 (by decide) (fun c1 => absurd c1 (Int32.not_le.mpr hd)) (fun c1 => ?_)
  refine lv_iconst (pc := 16) (v := 0) hx hb d_Mo_isDrawn_16 (by decide) ?_
  refine W.widen (k := 0) (n := 0) (Nat.le_of_ble_eq_true rfl) (Nat.le_of_ble_eq_true rfl) ?_
  exact W.zret (v := 0) hx hb hr rfl (fun t ht hW => ⟨⟨0, (), rfl, (by unfold sp_Mo_isDrawn_nd; rfl), by rw [ht]; exact hP, va_K.moved hW.alike hK, hD⟩, hS.F ht⟩) hS.2.2 d_Mo_isDrawn_17
def sp_Mo_route_no  : Int32 := (-1)
set_option maxRecDepth 100000 in
set_option maxHeartbeats 4000000 in
/-- DrawingHouseModel.route(II)I -/
theorem c_Mo_route_no (l : Launch) (D : va_G) (kA : Nat → ClassId) (h : Nat) (q : Nat → Nat) (x : Nat → Int32) (y : Nat → Int64) (gp : Int32) (ie : Int32) (hg : sp_Mo_isPlace gp = 0)  : Ci l y_Mo_route z_Mo_route { frames := 3, cells := 0, slots := 0, locals := 63 } D classes (TY kA) [.ref h, .int gp, .int ie] [[(h, .inr (13, mF q x y))]] (fun r (_ : Unit) => r = sp_Mo_route_no ) (fun _ => [[(h, .inr (13, mF q x y))]]) 0 0 := by
  intro sz
  refine k_met (cc := b_Mo_route) (maxL := 7) (ret := (some .int)) (by decide) rfl (Nat.le_of_ble_eq_true rfl) (fun p e s m below meth c ls X hl hB => ?_)
  obtain ⟨hsz, hP, hK, hD0, hN⟩ := hB
  subst hsz
  have hD := hD0.self (sz := s.heap.size)
  generalize hAe : va_A (cat [[(h, .inr (13, mF q x y))]]) s.heap.size = A at hD ⊢
  have hA : ∀ q : Nat, s.heap.size ≤ q → A q := fun q h => by rw [← hAe]; exact Or.inr h
  have hS : va_S A s.heap s.heap [] := va_S.rf
  obtain ⟨hx, hb, hml, hown, hts, hr, hlk, hnm⟩ := id X
  have hl : lv_has ls 7 [(0, .ref h), (1, .int gp), (2, .int ie)] := hl
  have hP : va_P D classes (cat [[(h, .inr (13, mF q x y))]]) s.heap := hP
  have hK : va_K D classes (TY kA) s := hK
  refine lv_aload_n (pc := 0) hx hb d_Mo_route_0 rfl (lv_at hl 0 rfl) ?_
  refine lv_iload_n (pc := 1) hx hb d_Mo_route_1 rfl (lv_at hl 1 rfl) ?_
  refine k_goI (gr := []) (k_rV (pc := 2) (As := [.int gp]) (rest := []) X (c_Mo_isDrawn_no l D kA h q x y gp hg s.heap.size) rfl wm_3669 wm_9 wm_3666 wm_3668 wv_21_13 1 (by decide +kernel) ⟨Nat.le_of_ble_eq_true rfl, Nat.le_of_ble_eq_true rfl⟩ rfl rfl (va_recv hK hP (ci := 13) (q0 := 0) rfl rfl) (k_pre hN hK hP hD [0] [] 1 rfl (by decide) rfl) rfl hl.1 rfl (Nat.le_of_ble_eq_true rfl) d_Mo_route_2 ⟨Nat.le_of_ble_eq_true rfl, Nat.le_of_ble_eq_true rfl⟩) hP hD hS hA [0] [] 1 rfl (by decide) rfl rfl (fun r1 u2 H locs hu2 hP hD hS => ?_)
  subst hu2
  refine k_cst (v := 0) (by rfl) ?_
  have hP : va_P D classes (cat [[(h, .inr (13, mF q x y))]]) H := hP
  have hD : va_D A (cat [[(h, .inr (13, mF q x y))]]) := hD
  refine lv_if_eq (pc := 5) (tgt := 22) hx hb d_Mo_route_5 (by decide) (fun c1 => ?_) (fun c1 => absurd (by decide) c1)
  refine lv_iconst (pc := 22) (v := -1) hx hb d_Mo_route_22 (by decide) ?_
  refine W.widen (k := 0) (n := 0) (Nat.le_of_ble_eq_true rfl) (Nat.le_of_ble_eq_true rfl) ?_
  exact W.iret (v := ((-1))) hx hb hr (fun t ht hW => ⟨⟨((-1)), (), rfl, (by unfold sp_Mo_route_no; rfl), by rw [ht]; exact hP, va_K.moved hW.alike hK, hD⟩, hS.F ht⟩) hS.2.2 d_Mo_route_23
def sp_Mo_route_nd  : Int32 := (-1)
set_option maxRecDepth 100000 in
set_option maxHeartbeats 4000000 in
/-- DrawingHouseModel.route(II)I -/
theorem c_Mo_route_nd (l : Launch) (D : va_G) (kA : Nat → ClassId) (h : Nat) (q : Nat → Nat) (x : Nat → Int32) (y : Nat → Int64) (f : Nat → Int32) (j : Nat) (hj : j < 4) (hd : f j < 0) (ie : Int32)  : Ci l y_Mo_route z_Mo_route { frames := 3, cells := 0, slots := 0, locals := 63 } D classes (TY kA) [.ref h, .int (nI j), .int ie] [[(h, .inr (13, mF q x y))], [(q 61, .inl (kA 0, 4, .inl f))]] (fun r (_ : Unit) => r = sp_Mo_route_nd ) (fun _ => [[(h, .inr (13, mF q x y))], [(q 61, .inl (kA 0, 4, .inl f))]]) 0 0 := by
  intro sz
  refine k_met (cc := b_Mo_route) (maxL := 7) (ret := (some .int)) (by decide) rfl (Nat.le_of_ble_eq_true rfl) (fun p e s m below meth c ls X hl hB => ?_)
  obtain ⟨hsz, hP, hK, hD0, hN⟩ := hB
  subst hsz
  have hD := hD0.self (sz := s.heap.size)
  generalize hAe : va_A (cat [[(h, .inr (13, mF q x y))], [(q 61, .inl (kA 0, 4, .inl f))]]) s.heap.size = A at hD ⊢
  have hA : ∀ q : Nat, s.heap.size ≤ q → A q := fun q h => by rw [← hAe]; exact Or.inr h
  have hS : va_S A s.heap s.heap [] := va_S.rf
  obtain ⟨hx, hb, hml, hown, hts, hr, hlk, hnm⟩ := id X
  have hl : lv_has ls 7 [(0, .ref h), (1, .int (nI j)), (2, .int ie)] := hl
  have hP : va_P D classes (cat [[(h, .inr (13, mF q x y))], [(q 61, .inl (kA 0, 4, .inl f))]]) s.heap := hP
  have hK : va_K D classes (TY kA) s := hK
  refine lv_aload_n (pc := 0) hx hb d_Mo_route_0 rfl (lv_at hl 0 rfl) ?_
  refine lv_iload_n (pc := 1) hx hb d_Mo_route_1 rfl (lv_at hl 1 rfl) ?_
  refine k_goI (gr := []) (k_rV (pc := 2) (As := [.int (nI j)]) (rest := []) X (c_Mo_isDrawn_nd l D kA h q x y f j hj hd s.heap.size) rfl wm_3669 wm_9 wm_3666 wm_3668 wv_21_13 1 (by decide +kernel) ⟨Nat.le_of_ble_eq_true rfl, Nat.le_of_ble_eq_true rfl⟩ rfl rfl (va_recv hK hP (ci := 13) (q0 := 0) rfl rfl) (k_pre hN hK hP hD [0, 1] [] 2 rfl (by decide) rfl) rfl hl.1 rfl (Nat.le_of_ble_eq_true rfl) d_Mo_route_2 ⟨Nat.le_of_ble_eq_true rfl, Nat.le_of_ble_eq_true rfl⟩) hP hD hS hA [0, 1] [] 2 rfl (by decide) rfl rfl (fun r1 u2 H locs hu2 hP hD hS => ?_)
  subst hu2
  refine k_cst (v := 0) (by rfl) ?_
  have hP : va_P D classes (cat [[(h, .inr (13, mF q x y))], [(q 61, .inl (kA 0, 4, .inl f))]]) H := hP
  have hD : va_D A (cat [[(h, .inr (13, mF q x y))], [(q 61, .inl (kA 0, 4, .inl f))]]) := hD
  refine lv_if_eq (pc := 5) (tgt := 22) hx hb d_Mo_route_5 (by decide) (fun c1 => ?_) (fun c1 => absurd (by decide) c1)
  refine lv_iconst (pc := 22) (v := -1) hx hb d_Mo_route_22 (by decide) ?_
  refine W.widen (k := 0) (n := 0) (Nat.le_of_ble_eq_true rfl) (Nat.le_of_ble_eq_true rfl) ?_
  exact W.iret (v := ((-1))) hx hb hr (fun t ht hW => ⟨⟨((-1)), (), rfl, (by unfold sp_Mo_route_nd; rfl), by rw [ht]; exact hP, va_K.moved hW.alike hK, hD⟩, hS.F ht⟩) hS.2.2 d_Mo_route_23
def sp_Mo_label_no  : Int32 := -2147483648
set_option maxRecDepth 100000 in
set_option maxHeartbeats 4000000 in
/-- DrawingHouseModel.label(III)I -/
theorem c_Mo_label_no (l : Launch) (D : va_G) (kA : Nat → ClassId) (h : Nat) (q : Nat → Nat) (x : Nat → Int32) (y : Nat → Int64) (gp : Int32) (ie w : Int32) (hg : sp_Mo_isPlace gp = 0)  : Ci l y_Mo_label z_Mo_label { frames := 3, cells := 0, slots := 0, locals := 63 } D classes (TY kA) [.ref h, .int gp, .int ie, .int w] [[(h, .inr (13, mF q x y))]] (fun r (_ : Unit) => r = sp_Mo_label_no ) (fun _ => [[(h, .inr (13, mF q x y))]]) 0 0 := by
  intro sz
  refine k_met (cc := b_Mo_label) (maxL := 5) (ret := (some .int)) (by decide) rfl (Nat.le_of_ble_eq_true rfl) (fun p e s m below meth c ls X hl hB => ?_)
  obtain ⟨hsz, hP, hK, hD0, hN⟩ := hB
  subst hsz
  have hD := hD0.self (sz := s.heap.size)
  generalize hAe : va_A (cat [[(h, .inr (13, mF q x y))]]) s.heap.size = A at hD ⊢
  have hA : ∀ q : Nat, s.heap.size ≤ q → A q := fun q h => by rw [← hAe]; exact Or.inr h
  have hS : va_S A s.heap s.heap [] := va_S.rf
  obtain ⟨hx, hb, hml, hown, hts, hr, hlk, hnm⟩ := id X
  have hl : lv_has ls 5 [(0, .ref h), (1, .int gp), (2, .int ie), (3, .int w)] := hl
  have hP : va_P D classes (cat [[(h, .inr (13, mF q x y))]]) s.heap := hP
  have hK : va_K D classes (TY kA) s := hK
  refine lv_aload_n (pc := 0) hx hb d_Mo_label_0 rfl (lv_at hl 0 rfl) ?_
  refine lv_iload_n (pc := 1) hx hb d_Mo_label_1 rfl (lv_at hl 1 rfl) ?_
  refine k_goI (gr := []) (k_rV (pc := 2) (As := [.int gp]) (rest := []) X (c_Mo_isDrawn_no l D kA h q x y gp hg s.heap.size) rfl wm_3669 wm_9 wm_3666 wm_3668 wv_21_13 1 (by decide +kernel) ⟨Nat.le_of_ble_eq_true rfl, Nat.le_of_ble_eq_true rfl⟩ rfl rfl (va_recv hK hP (ci := 13) (q0 := 0) rfl rfl) (k_pre hN hK hP hD [0] [] 1 rfl (by decide) rfl) rfl hl.1 rfl (Nat.le_of_ble_eq_true rfl) d_Mo_label_2 ⟨Nat.le_of_ble_eq_true rfl, Nat.le_of_ble_eq_true rfl⟩) hP hD hS hA [0] [] 1 rfl (by decide) rfl rfl (fun r1 u2 H locs hu2 hP hD hS => ?_)
  subst hu2
  refine k_cst (v := 0) (by rfl) ?_
  have hP : va_P D classes (cat [[(h, .inr (13, mF q x y))]]) H := hP
  have hD : va_D A (cat [[(h, .inr (13, mF q x y))]]) := hD
  refine lv_if_eq (pc := 5) (tgt := 40) hx hb d_Mo_label_5 (by decide) (fun c1 => ?_) (fun c1 => absurd (by decide) c1)
  refine lv_ldcw (pc := 40) (v := -2147483648) hx hb hown (hts _ wm_3653) d_Mo_label_40 ?_
  refine W.widen (k := 0) (n := 0) (Nat.le_of_ble_eq_true rfl) (Nat.le_of_ble_eq_true rfl) ?_
  exact W.iret (v := (-2147483648)) hx hb hr (fun t ht hW => ⟨⟨(-2147483648), (), rfl, (by unfold sp_Mo_label_no; rfl), by rw [ht]; exact hP, va_K.moved hW.alike hK, hD⟩, hS.F ht⟩) hS.2.2 d_Mo_label_43
def sp_Mo_label_nd  : Int32 := -2147483648
set_option maxRecDepth 100000 in
set_option maxHeartbeats 4000000 in
/-- DrawingHouseModel.label(III)I -/
theorem c_Mo_label_nd (l : Launch) (D : va_G) (kA : Nat → ClassId) (h : Nat) (q : Nat → Nat) (x : Nat → Int32) (y : Nat → Int64) (f : Nat → Int32) (j : Nat) (hj : j < 4) (hd : f j < 0) (ie w : Int32)  : Ci l y_Mo_label z_Mo_label { frames := 3, cells := 0, slots := 0, locals := 63 } D classes (TY kA) [.ref h, .int (nI j), .int ie, .int w] [[(h, .inr (13, mF q x y))], [(q 61, .inl (kA 0, 4, .inl f))]] (fun r (_ : Unit) => r = sp_Mo_label_nd ) (fun _ => [[(h, .inr (13, mF q x y))], [(q 61, .inl (kA 0, 4, .inl f))]]) 0 0 := by
  intro sz
  refine k_met (cc := b_Mo_label) (maxL := 5) (ret := (some .int)) (by decide) rfl (Nat.le_of_ble_eq_true rfl) (fun p e s m below meth c ls X hl hB => ?_)
  obtain ⟨hsz, hP, hK, hD0, hN⟩ := hB
  subst hsz
  have hD := hD0.self (sz := s.heap.size)
  generalize hAe : va_A (cat [[(h, .inr (13, mF q x y))], [(q 61, .inl (kA 0, 4, .inl f))]]) s.heap.size = A at hD ⊢
  have hA : ∀ q : Nat, s.heap.size ≤ q → A q := fun q h => by rw [← hAe]; exact Or.inr h
  have hS : va_S A s.heap s.heap [] := va_S.rf
  obtain ⟨hx, hb, hml, hown, hts, hr, hlk, hnm⟩ := id X
  have hl : lv_has ls 5 [(0, .ref h), (1, .int (nI j)), (2, .int ie), (3, .int w)] := hl
  have hP : va_P D classes (cat [[(h, .inr (13, mF q x y))], [(q 61, .inl (kA 0, 4, .inl f))]]) s.heap := hP
  have hK : va_K D classes (TY kA) s := hK
  refine lv_aload_n (pc := 0) hx hb d_Mo_label_0 rfl (lv_at hl 0 rfl) ?_
  refine lv_iload_n (pc := 1) hx hb d_Mo_label_1 rfl (lv_at hl 1 rfl) ?_
  refine k_goI (gr := []) (k_rV (pc := 2) (As := [.int (nI j)]) (rest := []) X (c_Mo_isDrawn_nd l D kA h q x y f j hj hd s.heap.size) rfl wm_3669 wm_9 wm_3666 wm_3668 wv_21_13 1 (by decide +kernel) ⟨Nat.le_of_ble_eq_true rfl, Nat.le_of_ble_eq_true rfl⟩ rfl rfl (va_recv hK hP (ci := 13) (q0 := 0) rfl rfl) (k_pre hN hK hP hD [0, 1] [] 2 rfl (by decide) rfl) rfl hl.1 rfl (Nat.le_of_ble_eq_true rfl) d_Mo_label_2 ⟨Nat.le_of_ble_eq_true rfl, Nat.le_of_ble_eq_true rfl⟩) hP hD hS hA [0, 1] [] 2 rfl (by decide) rfl rfl (fun r1 u2 H locs hu2 hP hD hS => ?_)
  subst hu2
  refine k_cst (v := 0) (by rfl) ?_
  have hP : va_P D classes (cat [[(h, .inr (13, mF q x y))], [(q 61, .inl (kA 0, 4, .inl f))]]) H := hP
  have hD : va_D A (cat [[(h, .inr (13, mF q x y))], [(q 61, .inl (kA 0, 4, .inl f))]]) := hD
  refine lv_if_eq (pc := 5) (tgt := 40) hx hb d_Mo_label_5 (by decide) (fun c1 => ?_) (fun c1 => absurd (by decide) c1)
  refine lv_ldcw (pc := 40) (v := -2147483648) hx hb hown (hts _ wm_3653) d_Mo_label_40 ?_
  refine W.widen (k := 0) (n := 0) (Nat.le_of_ble_eq_true rfl) (Nat.le_of_ble_eq_true rfl) ?_
  exact W.iret (v := (-2147483648)) hx hb hr (fun t ht hW => ⟨⟨(-2147483648), (), rfl, (by unfold sp_Mo_label_nd; rfl), by rw [ht]; exact hP, va_K.moved hW.alike hK, hD⟩, hS.F ht⟩) hS.2.2 d_Mo_label_43
def sp_Mo_dots_no  : Int32 := (-1)
set_option maxRecDepth 100000 in
set_option maxHeartbeats 4000000 in
/-- DrawingHouseModel.dots(III)I -/
theorem c_Mo_dots_no (l : Launch) (D : va_G) (kA : Nat → ClassId) (h : Nat) (q : Nat → Nat) (x : Nat → Int32) (y : Nat → Int64) (gp : Int32) (wi hi : Int32) (hg : sp_Mo_isPlace gp = 0)  : Ci l y_Mo_dots z_Mo_dots { frames := 3, cells := 0, slots := 0, locals := 63 } D classes (TY kA) [.ref h, .int gp, .int wi, .int hi] [[(h, .inr (13, mF q x y))]] (fun r (_ : Unit) => r = sp_Mo_dots_no ) (fun _ => [[(h, .inr (13, mF q x y))]]) 0 0 := by
  intro sz
  refine k_met (cc := b_Mo_dots) (maxL := 6) (ret := (some .int)) (by decide) rfl (Nat.le_of_ble_eq_true rfl) (fun p e s m below meth c ls X hl hB => ?_)
  obtain ⟨hsz, hP, hK, hD0, hN⟩ := hB
  subst hsz
  have hD := hD0.self (sz := s.heap.size)
  generalize hAe : va_A (cat [[(h, .inr (13, mF q x y))]]) s.heap.size = A at hD ⊢
  have hA : ∀ q : Nat, s.heap.size ≤ q → A q := fun q h => by rw [← hAe]; exact Or.inr h
  have hS : va_S A s.heap s.heap [] := va_S.rf
  obtain ⟨hx, hb, hml, hown, hts, hr, hlk, hnm⟩ := id X
  have hl : lv_has ls 6 [(0, .ref h), (1, .int gp), (2, .int wi), (3, .int hi)] := hl
  have hP : va_P D classes (cat [[(h, .inr (13, mF q x y))]]) s.heap := hP
  have hK : va_K D classes (TY kA) s := hK
  refine lv_aload_n (pc := 0) hx hb d_Mo_dots_0 rfl (lv_at hl 0 rfl) ?_
  refine lv_iload_n (pc := 1) hx hb d_Mo_dots_1 rfl (lv_at hl 1 rfl) ?_
  refine k_goI (gr := []) (k_rV (pc := 2) (As := [.int gp]) (rest := []) X (c_Mo_isDrawn_no l D kA h q x y gp hg s.heap.size) rfl wm_3669 wm_9 wm_3666 wm_3668 wv_21_13 1 (by decide +kernel) ⟨Nat.le_of_ble_eq_true rfl, Nat.le_of_ble_eq_true rfl⟩ rfl rfl (va_recv hK hP (ci := 13) (q0 := 0) rfl rfl) (k_pre hN hK hP hD [0] [] 1 rfl (by decide) rfl) rfl hl.1 rfl (Nat.le_of_ble_eq_true rfl) d_Mo_dots_2 ⟨Nat.le_of_ble_eq_true rfl, Nat.le_of_ble_eq_true rfl⟩) hP hD hS hA [0] [] 1 rfl (by decide) rfl rfl (fun r1 u2 H locs hu2 hP hD hS => ?_)
  subst hu2
  refine k_cst (v := 0) (by rfl) ?_
  have hP : va_P D classes (cat [[(h, .inr (13, mF q x y))]]) H := hP
  have hD : va_D A (cat [[(h, .inr (13, mF q x y))]]) := hD
  refine lv_if_eq (pc := 5) (tgt := 28) hx hb d_Mo_dots_5 (by decide) (fun c1 => ?_) (fun c1 => absurd (by decide) c1)
  refine lv_iconst (pc := 28) (v := -1) hx hb d_Mo_dots_28 (by decide) ?_
  refine W.widen (k := 0) (n := 0) (Nat.le_of_ble_eq_true rfl) (Nat.le_of_ble_eq_true rfl) ?_
  exact W.iret (v := ((-1))) hx hb hr (fun t ht hW => ⟨⟨((-1)), (), rfl, (by unfold sp_Mo_dots_no; rfl), by rw [ht]; exact hP, va_K.moved hW.alike hK, hD⟩, hS.F ht⟩) hS.2.2 d_Mo_dots_29
def sp_Mo_dots_nd  : Int32 := (-1)
set_option maxRecDepth 100000 in
set_option maxHeartbeats 4000000 in
/-- DrawingHouseModel.dots(III)I -/
theorem c_Mo_dots_nd (l : Launch) (D : va_G) (kA : Nat → ClassId) (h : Nat) (q : Nat → Nat) (x : Nat → Int32) (y : Nat → Int64) (f : Nat → Int32) (j : Nat) (hj : j < 4) (hd : f j < 0) (wi hi : Int32)  : Ci l y_Mo_dots z_Mo_dots { frames := 3, cells := 0, slots := 0, locals := 63 } D classes (TY kA) [.ref h, .int (nI j), .int wi, .int hi] [[(h, .inr (13, mF q x y))], [(q 61, .inl (kA 0, 4, .inl f))]] (fun r (_ : Unit) => r = sp_Mo_dots_nd ) (fun _ => [[(h, .inr (13, mF q x y))], [(q 61, .inl (kA 0, 4, .inl f))]]) 0 0 := by
  intro sz
  refine k_met (cc := b_Mo_dots) (maxL := 6) (ret := (some .int)) (by decide) rfl (Nat.le_of_ble_eq_true rfl) (fun p e s m below meth c ls X hl hB => ?_)
  obtain ⟨hsz, hP, hK, hD0, hN⟩ := hB
  subst hsz
  have hD := hD0.self (sz := s.heap.size)
  generalize hAe : va_A (cat [[(h, .inr (13, mF q x y))], [(q 61, .inl (kA 0, 4, .inl f))]]) s.heap.size = A at hD ⊢
  have hA : ∀ q : Nat, s.heap.size ≤ q → A q := fun q h => by rw [← hAe]; exact Or.inr h
  have hS : va_S A s.heap s.heap [] := va_S.rf
  obtain ⟨hx, hb, hml, hown, hts, hr, hlk, hnm⟩ := id X
  have hl : lv_has ls 6 [(0, .ref h), (1, .int (nI j)), (2, .int wi), (3, .int hi)] := hl
  have hP : va_P D classes (cat [[(h, .inr (13, mF q x y))], [(q 61, .inl (kA 0, 4, .inl f))]]) s.heap := hP
  have hK : va_K D classes (TY kA) s := hK
  refine lv_aload_n (pc := 0) hx hb d_Mo_dots_0 rfl (lv_at hl 0 rfl) ?_
  refine lv_iload_n (pc := 1) hx hb d_Mo_dots_1 rfl (lv_at hl 1 rfl) ?_
  refine k_goI (gr := []) (k_rV (pc := 2) (As := [.int (nI j)]) (rest := []) X (c_Mo_isDrawn_nd l D kA h q x y f j hj hd s.heap.size) rfl wm_3669 wm_9 wm_3666 wm_3668 wv_21_13 1 (by decide +kernel) ⟨Nat.le_of_ble_eq_true rfl, Nat.le_of_ble_eq_true rfl⟩ rfl rfl (va_recv hK hP (ci := 13) (q0 := 0) rfl rfl) (k_pre hN hK hP hD [0, 1] [] 2 rfl (by decide) rfl) rfl hl.1 rfl (Nat.le_of_ble_eq_true rfl) d_Mo_dots_2 ⟨Nat.le_of_ble_eq_true rfl, Nat.le_of_ble_eq_true rfl⟩) hP hD hS hA [0, 1] [] 2 rfl (by decide) rfl rfl (fun r1 u2 H locs hu2 hP hD hS => ?_)
  subst hu2
  refine k_cst (v := 0) (by rfl) ?_
  have hP : va_P D classes (cat [[(h, .inr (13, mF q x y))], [(q 61, .inl (kA 0, 4, .inl f))]]) H := hP
  have hD : va_D A (cat [[(h, .inr (13, mF q x y))], [(q 61, .inl (kA 0, 4, .inl f))]]) := hD
  refine lv_if_eq (pc := 5) (tgt := 28) hx hb d_Mo_dots_5 (by decide) (fun c1 => ?_) (fun c1 => absurd (by decide) c1)
  refine lv_iconst (pc := 28) (v := -1) hx hb d_Mo_dots_28 (by decide) ?_
  refine W.widen (k := 0) (n := 0) (Nat.le_of_ble_eq_true rfl) (Nat.le_of_ble_eq_true rfl) ?_
  exact W.iret (v := ((-1))) hx hb hr (fun t ht hW => ⟨⟨((-1)), (), rfl, (by unfold sp_Mo_dots_nd; rfl), by rw [ht]; exact hP, va_K.moved hW.alike hK, hD⟩, hS.F ht⟩) hS.2.2 d_Mo_dots_29
def sp_Mo_judge_no  : Int64 := -1
set_option maxRecDepth 100000 in
set_option maxHeartbeats 4000000 in
/-- DrawingHouseModel.judge(II)J -/
theorem c_Mo_judge_no (l : Launch) (D : va_G) (kA : Nat → ClassId) (h : Nat) (q : Nat → Nat) (x : Nat → Int32) (y : Nat → Int64) (gp : Int32) (ru : Int32) (hg : sp_Mo_isPlace gp = 0)  : Cl l y_Mo_judge z_Mo_judge { frames := 3, cells := 0, slots := 0, locals := 63 } D classes (TY kA) [.ref h, .int gp, .int ru] [[(h, .inr (13, mF q x y))]] (fun r (_ : Unit) => r = sp_Mo_judge_no ) (fun _ => [[(h, .inr (13, mF q x y))]]) 0 0 := by
  intro sz
  refine k_met (cc := b_Mo_judge) (maxL := 9) (ret := (some .long)) (by decide) rfl (Nat.le_of_ble_eq_true rfl) (fun p e s m below meth c ls X hl hB => ?_)
  obtain ⟨hsz, hP, hK, hD0, hN⟩ := hB
  subst hsz
  have hD := hD0.self (sz := s.heap.size)
  generalize hAe : va_A (cat [[(h, .inr (13, mF q x y))]]) s.heap.size = A at hD ⊢
  have hA : ∀ q : Nat, s.heap.size ≤ q → A q := fun q h => by rw [← hAe]; exact Or.inr h
  have hS : va_S A s.heap s.heap [] := va_S.rf
  obtain ⟨hx, hb, hml, hown, hts, hr, hlk, hnm⟩ := id X
  have hl : lv_has ls 9 [(0, .ref h), (1, .int gp), (2, .int ru)] := hl
  have hP : va_P D classes (cat [[(h, .inr (13, mF q x y))]]) s.heap := hP
  have hK : va_K D classes (TY kA) s := hK
  refine lv_aload_n (pc := 0) hx hb d_Mo_judge_0 rfl (lv_at hl 0 rfl) ?_
  refine lv_iload_n (pc := 1) hx hb d_Mo_judge_1 rfl (lv_at hl 1 rfl) ?_
  refine k_goI (gr := []) (k_rV (pc := 2) (As := [.int gp]) (rest := []) X (c_Mo_isDrawn_no l D kA h q x y gp hg s.heap.size) rfl wm_3669 wm_9 wm_3666 wm_3668 wv_21_13 1 (by decide +kernel) ⟨Nat.le_of_ble_eq_true rfl, Nat.le_of_ble_eq_true rfl⟩ rfl rfl (va_recv hK hP (ci := 13) (q0 := 0) rfl rfl) (k_pre hN hK hP hD [0] [] 1 rfl (by decide) rfl) rfl hl.1 rfl (Nat.le_of_ble_eq_true rfl) d_Mo_judge_2 ⟨Nat.le_of_ble_eq_true rfl, Nat.le_of_ble_eq_true rfl⟩) hP hD hS hA [0] [] 1 rfl (by decide) rfl rfl (fun r1 u2 H locs hu2 hP hD hS => ?_)
  subst hu2
  refine k_cst (v := 0) (by rfl) ?_
  have hP : va_P D classes (cat [[(h, .inr (13, mF q x y))]]) H := hP
  have hD : va_D A (cat [[(h, .inr (13, mF q x y))]]) := hD
  refine lv_if_eq (pc := 5) (tgt := 18) hx hb d_Mo_judge_5 (by decide) (fun c1 => ?_) (fun c1 => absurd (by decide) c1)
  refine lv_ldc2 (pc := 18) (v := -1) hx hb hown (hts _ wm_3625) d_Mo_judge_18 ?_
  refine W.widen (k := 0) (n := 0) (Nat.le_of_ble_eq_true rfl) (Nat.le_of_ble_eq_true rfl) ?_
  exact W.lret (v := (-1)) hx hb hr (fun t ht hW => ⟨⟨(-1), (), rfl, (by unfold sp_Mo_judge_no; rfl), by rw [ht]; exact hP, va_K.moved hW.alike hK, hD⟩, hS.F ht⟩) hS.2.2 d_Mo_judge_21
def sp_Mo_judge_nd  : Int64 := -1
set_option maxRecDepth 100000 in
set_option maxHeartbeats 4000000 in
/-- DrawingHouseModel.judge(II)J -/
theorem c_Mo_judge_nd (l : Launch) (D : va_G) (kA : Nat → ClassId) (h : Nat) (q : Nat → Nat) (x : Nat → Int32) (y : Nat → Int64) (f : Nat → Int32) (j : Nat) (hj : j < 4) (hd : f j < 0) (ru : Int32)  : Cl l y_Mo_judge z_Mo_judge { frames := 3, cells := 0, slots := 0, locals := 63 } D classes (TY kA) [.ref h, .int (nI j), .int ru] [[(h, .inr (13, mF q x y))], [(q 61, .inl (kA 0, 4, .inl f))]] (fun r (_ : Unit) => r = sp_Mo_judge_nd ) (fun _ => [[(h, .inr (13, mF q x y))], [(q 61, .inl (kA 0, 4, .inl f))]]) 0 0 := by
  intro sz
  refine k_met (cc := b_Mo_judge) (maxL := 9) (ret := (some .long)) (by decide) rfl (Nat.le_of_ble_eq_true rfl) (fun p e s m below meth c ls X hl hB => ?_)
  obtain ⟨hsz, hP, hK, hD0, hN⟩ := hB
  subst hsz
  have hD := hD0.self (sz := s.heap.size)
  generalize hAe : va_A (cat [[(h, .inr (13, mF q x y))], [(q 61, .inl (kA 0, 4, .inl f))]]) s.heap.size = A at hD ⊢
  have hA : ∀ q : Nat, s.heap.size ≤ q → A q := fun q h => by rw [← hAe]; exact Or.inr h
  have hS : va_S A s.heap s.heap [] := va_S.rf
  obtain ⟨hx, hb, hml, hown, hts, hr, hlk, hnm⟩ := id X
  have hl : lv_has ls 9 [(0, .ref h), (1, .int (nI j)), (2, .int ru)] := hl
  have hP : va_P D classes (cat [[(h, .inr (13, mF q x y))], [(q 61, .inl (kA 0, 4, .inl f))]]) s.heap := hP
  have hK : va_K D classes (TY kA) s := hK
  refine lv_aload_n (pc := 0) hx hb d_Mo_judge_0 rfl (lv_at hl 0 rfl) ?_
  refine lv_iload_n (pc := 1) hx hb d_Mo_judge_1 rfl (lv_at hl 1 rfl) ?_
  refine k_goI (gr := []) (k_rV (pc := 2) (As := [.int (nI j)]) (rest := []) X (c_Mo_isDrawn_nd l D kA h q x y f j hj hd s.heap.size) rfl wm_3669 wm_9 wm_3666 wm_3668 wv_21_13 1 (by decide +kernel) ⟨Nat.le_of_ble_eq_true rfl, Nat.le_of_ble_eq_true rfl⟩ rfl rfl (va_recv hK hP (ci := 13) (q0 := 0) rfl rfl) (k_pre hN hK hP hD [0, 1] [] 2 rfl (by decide) rfl) rfl hl.1 rfl (Nat.le_of_ble_eq_true rfl) d_Mo_judge_2 ⟨Nat.le_of_ble_eq_true rfl, Nat.le_of_ble_eq_true rfl⟩) hP hD hS hA [0, 1] [] 2 rfl (by decide) rfl rfl (fun r1 u2 H locs hu2 hP hD hS => ?_)
  subst hu2
  refine k_cst (v := 0) (by rfl) ?_
  have hP : va_P D classes (cat [[(h, .inr (13, mF q x y))], [(q 61, .inl (kA 0, 4, .inl f))]]) H := hP
  have hD : va_D A (cat [[(h, .inr (13, mF q x y))], [(q 61, .inl (kA 0, 4, .inl f))]]) := hD
  refine lv_if_eq (pc := 5) (tgt := 18) hx hb d_Mo_judge_5 (by decide) (fun c1 => ?_) (fun c1 => absurd (by decide) c1)
  refine lv_ldc2 (pc := 18) (v := -1) hx hb hown (hts _ wm_3625) d_Mo_judge_18 ?_
  refine W.widen (k := 0) (n := 0) (Nat.le_of_ble_eq_true rfl) (Nat.le_of_ble_eq_true rfl) ?_
  exact W.lret (v := (-1)) hx hb hr (fun t ht hW => ⟨⟨(-1), (), rfl, (by unfold sp_Mo_judge_nd; rfl), by rw [ht]; exact hP, va_K.moved hW.alike hK, hD⟩, hS.F ht⟩) hS.2.2 d_Mo_judge_21
