theorem wm_15 : (Cond.initialized "java/lang/System" : Cond) ∈ lw_g := lw_gi (lw_c1 (List.mem_of_getElem? (i := 15) rfl)) rfl
theorem wm_749 : (Cond.static ({ cls := "java/lang/System", name := "arraycopy", desc := "(Ljava/lang/Object;ILjava/lang/Object;II)V" } : MethodName) : Cond) ∈ lw_g := lw_gi (lw_c4 (List.mem_of_getElem? (i := 29) rfl)) rfl
theorem wm_750 : (Cond.native ({ cls := "java/lang/System", name := "arraycopy", desc := "(Ljava/lang/Object;ILjava/lang/Object;II)V" } : MethodName) : Cond) ∈ lw_g := lw_gi (lw_c4 (List.mem_of_getElem? (i := 30) rfl)) rfl
theorem wm_1023 : (Cond.methodLink "DrawingHouseLaw" (63 : Nat) ({ cls := "DrawingHouse", name := "same", desc := "(II)I" } : MethodName) : Cond) ∈ lw_g := lw_gi (lw_c5 (List.mem_of_getElem? (i := 63) rfl)) rfl
theorem wm_1024 : (Cond.instanceMethod ({ cls := "DrawingHouse", name := "same", desc := "(II)I" } : MethodName) : Cond) ∈ lw_g := lw_gi (lw_c5 (List.mem_of_getElem? (i := 64) rfl)) rfl
theorem wm_1025 : (Cond.selects "DrawingHouse" ({ cls := "DrawingHouse", name := "same", desc := "(II)I" } : MethodName) ({ cls := "DrawingHouse", name := "same", desc := "(II)I" } : MethodName) : Cond) ∈ lw_g := lw_gi (lw_c5 (List.mem_of_getElem? (i := 65) rfl)) rfl
theorem wm_1026 : (Cond.code ({ cls := "DrawingHouse", name := "same", desc := "(II)I" } : MethodName) prog_1_method_13_code (7 : Nat) (Option.some ClassFile.FieldType.int) : Cond) ∈ lw_g := lw_gi (lw_c5 (List.mem_of_getElem? (i := 66) rfl)) rfl
theorem wm_1027 : (Cond.methodLink "DrawingHouse" (251 : Nat) ({ cls := "DrawingHouse", name := "searchMap", desc := "(LDrawingHouse$Graph;LDrawingHouse$Graph;[I)I" } : MethodName) : Cond) ∈ lw_g := lw_gi (lw_c5 (List.mem_of_getElem? (i := 67) rfl)) rfl
theorem wm_1029 : (Cond.instanceMethod ({ cls := "DrawingHouse", name := "searchMap", desc := "(LDrawingHouse$Graph;LDrawingHouse$Graph;[I)I" } : MethodName) : Cond) ∈ lw_g := lw_gi (lw_c5 (List.mem_of_getElem? (i := 69) rfl)) rfl
theorem wm_1030 : (Cond.code ({ cls := "DrawingHouse", name := "searchMap", desc := "(LDrawingHouse$Graph;LDrawingHouse$Graph;[I)I" } : MethodName) prog_1_method_35_code (9 : Nat) (Option.some ClassFile.FieldType.int) : Cond) ∈ lw_g := lw_gi (lw_c5 (List.mem_of_getElem? (i := 70) rfl)) rfl
theorem wm_1031 : (Cond.methodLink "DrawingHouse" (375 : Nat) ({ cls := "java/util/Arrays", name := "fill", desc := "([II)V" } : MethodName) : Cond) ∈ lw_g := lw_gi (lw_c5 (List.mem_of_getElem? (i := 71) rfl)) rfl
theorem wm_1032 : (Cond.constant "DrawingHouse" (430 : Nat) (60000 : Int32) : Cond) ∈ lw_g := lw_gi (lw_c5 (List.mem_of_getElem? (i := 72) rfl)) rfl
theorem wm_1040 : (Cond.methodLink "DrawingHouse" (255 : Nat) ({ cls := "java/lang/System", name := "arraycopy", desc := "(Ljava/lang/Object;ILjava/lang/Object;II)V" } : MethodName) : Cond) ∈ lw_g := lw_gi (lw_c5 (List.mem_of_getElem? (i := 80) rfl)) rfl
theorem wm_2461 : (Cond.fieldLink "DrawingHouseModel" (566 : Nat) "DrawingHouseModel" "rowA" "I" : Cond) ∈ lw_g := lw_gi (lw_c11 (List.mem_of_getElem? (i := 61) rfl)) rfl
theorem wm_2462 : (Cond.fieldLink "DrawingHouseModel" (569 : Nat) "DrawingHouseModel" "rowB" "I" : Cond) ∈ lw_g := lw_gi (lw_c11 (List.mem_of_getElem? (i := 62) rfl)) rfl
theorem wm_3116 : (Cond.methodLink "DrawingHouseLaw" (66 : Nat) ({ cls := "DrawingHouseModel", name := "same", desc := "(II)I" } : MethodName) : Cond) ∈ lw_g := lw_gi (lw_c13 (List.mem_of_getElem? (i := 236) rfl)) rfl
theorem wm_3117 : (Cond.instanceMethod ({ cls := "DrawingHouseModel", name := "same", desc := "(II)I" } : MethodName) : Cond) ∈ lw_g := lw_gi (lw_c13 (List.mem_of_getElem? (i := 237) rfl)) rfl
theorem wm_3118 : (Cond.selects "DrawingHouseModel" ({ cls := "DrawingHouseModel", name := "same", desc := "(II)I" } : MethodName) ({ cls := "DrawingHouseModel", name := "same", desc := "(II)I" } : MethodName) : Cond) ∈ lw_g := lw_gi (lw_c13 (List.mem_of_getElem? (i := 238) rfl)) rfl
theorem wm_3119 : (Cond.code ({ cls := "DrawingHouseModel", name := "same", desc := "(II)I" } : MethodName) prog_15_method_59_code (9 : Nat) (Option.some ClassFile.FieldType.int) : Cond) ∈ lw_g := lw_gi (lw_c13 (List.mem_of_getElem? (i := 239) rfl)) rfl
theorem wv_3_5 : (Cond.selects "DrawingHouse" ⟨"DrawingHouse", "searchMap", "(LDrawingHouse$Graph;LDrawingHouse$Graph;[I)I"⟩ ⟨"DrawingHouse", "searchMap", "(LDrawingHouse$Graph;LDrawingHouse$Graph;[I)I"⟩ : Cond) ∈ lw_g := lw_gi (List.mem_append_left _ (List.mem_map.mpr ⟨_, lw_v1 (List.mem_of_getElem? (i := 15) rfl), rfl⟩)) rfl
abbrev b_Ho_same : ByteArray := prog_1_method_13_code
def y_Ho_same : MethodName := ⟨"DrawingHouse", "same", "(II)I"⟩
abbrev z_Ho_same : List Cond := Cond.code y_Ho_same b_Ho_same 7 (some .int) :: lw_g
theorem d_Ho_same_0 : decode b_Ho_same 0 = .ok (.iload_n 1, 1) := by decide +kernel
theorem d_Ho_same_1 : decode b_Ho_same 1 = .ok (.invokestatic 115, 3) := by decide +kernel
theorem d_Ho_same_4 : decode b_Ho_same 4 = .ok (.ifCond .eq 10, 3) := by decide +kernel
theorem d_Ho_same_7 : decode b_Ho_same 7 = .ok (.iload_n 2, 1) := by decide +kernel
theorem d_Ho_same_8 : decode b_Ho_same 8 = .ok (.invokestatic 115, 3) := by decide +kernel
theorem d_Ho_same_11 : decode b_Ho_same 11 = .ok (.ifCond .ne 5, 3) := by decide +kernel
theorem d_Ho_same_14 : decode b_Ho_same 14 = .ok (.iconst (-1), 1) := by decide +kernel
theorem d_Ho_same_15 : decode b_Ho_same 15 = .ok (.ireturn, 1) := by decide +kernel
theorem d_Ho_same_16 : decode b_Ho_same 16 = .ok (.aload_n 0, 1) := by decide +kernel
theorem d_Ho_same_17 : decode b_Ho_same 17 = .ok (.iconst 0, 1) := by decide +kernel
theorem d_Ho_same_18 : decode b_Ho_same 18 = .ok (.putfield 57, 3) := by decide +kernel
theorem d_Ho_same_21 : decode b_Ho_same 21 = .ok (.aload_n 0, 1) := by decide +kernel
theorem d_Ho_same_22 : decode b_Ho_same 22 = .ok (.getfield 13, 3) := by decide +kernel
theorem d_Ho_same_25 : decode b_Ho_same 25 = .ok (.iload_n 1, 1) := by decide +kernel
theorem d_Ho_same_26 : decode b_Ho_same 26 = .ok (.aaload, 1) := by decide +kernel
theorem d_Ho_same_27 : decode b_Ho_same 27 = .ok (.astore_n 3, 1) := by decide +kernel
theorem d_Ho_same_28 : decode b_Ho_same 28 = .ok (.aload_n 0, 1) := by decide +kernel
theorem d_Ho_same_29 : decode b_Ho_same 29 = .ok (.getfield 13, 3) := by decide +kernel
theorem d_Ho_same_32 : decode b_Ho_same 32 = .ok (.iload_n 2, 1) := by decide +kernel
theorem d_Ho_same_33 : decode b_Ho_same 33 = .ok (.aaload, 1) := by decide +kernel
theorem d_Ho_same_34 : decode b_Ho_same 34 = .ok (.astore 4, 2) := by decide +kernel
theorem d_Ho_same_36 : decode b_Ho_same 36 = .ok (.aload_n 3, 1) := by decide +kernel
theorem d_Ho_same_37 : decode b_Ho_same 37 = .ok (.getfield 132, 3) := by decide +kernel
theorem d_Ho_same_40 : decode b_Ho_same 40 = .ok (.aload 4, 2) := by decide +kernel
theorem d_Ho_same_42 : decode b_Ho_same 42 = .ok (.getfield 132, 3) := by decide +kernel
theorem d_Ho_same_45 : decode b_Ho_same 45 = .ok (.if_icmp .ne 15, 3) := by decide +kernel
theorem d_Ho_same_48 : decode b_Ho_same 48 = .ok (.aload_n 3, 1) := by decide +kernel
theorem d_Ho_same_49 : decode b_Ho_same 49 = .ok (.getfield 141, 3) := by decide +kernel
theorem d_Ho_same_52 : decode b_Ho_same 52 = .ok (.aload 4, 2) := by decide +kernel
theorem d_Ho_same_54 : decode b_Ho_same 54 = .ok (.getfield 141, 3) := by decide +kernel
theorem d_Ho_same_57 : decode b_Ho_same 57 = .ok (.if_icmp .eq 5, 3) := by decide +kernel
theorem d_Ho_same_62 : decode b_Ho_same 62 = .ok (.bipush 24, 2) := by decide +kernel
theorem d_Ho_same_64 : decode b_Ho_same 64 = .ok (.newarray .int, 2) := by decide +kernel
theorem d_Ho_same_66 : decode b_Ho_same 66 = .ok (.astore 5, 2) := by decide +kernel
theorem d_Ho_same_68 : decode b_Ho_same 68 = .ok (.aload_n 0, 1) := by decide +kernel
theorem d_Ho_same_69 : decode b_Ho_same 69 = .ok (.aload_n 3, 1) := by decide +kernel
theorem d_Ho_same_70 : decode b_Ho_same 70 = .ok (.aload 4, 2) := by decide +kernel
theorem d_Ho_same_72 : decode b_Ho_same 72 = .ok (.aload 5, 2) := by decide +kernel
theorem d_Ho_same_74 : decode b_Ho_same 74 = .ok (.invokevirtual 251, 3) := by decide +kernel
theorem d_Ho_same_77 : decode b_Ho_same 77 = .ok (.istore 6, 2) := by decide +kernel
theorem d_Ho_same_79 : decode b_Ho_same 79 = .ok (.iload 6, 2) := by decide +kernel
theorem d_Ho_same_81 : decode b_Ho_same 81 = .ok (.iconst 1, 1) := by decide +kernel
theorem d_Ho_same_82 : decode b_Ho_same 82 = .ok (.if_icmp .ne 26, 3) := by decide +kernel
theorem d_Ho_same_85 : decode b_Ho_same 85 = .ok (.aload_n 0, 1) := by decide +kernel
theorem d_Ho_same_86 : decode b_Ho_same 86 = .ok (.aload_n 3, 1) := by decide +kernel
theorem d_Ho_same_87 : decode b_Ho_same 87 = .ok (.getfield 132, 3) := by decide +kernel
theorem d_Ho_same_90 : decode b_Ho_same 90 = .ok (.putfield 53, 3) := by decide +kernel
theorem d_Ho_same_93 : decode b_Ho_same 93 = .ok (.aload 5, 2) := by decide +kernel
theorem d_Ho_same_95 : decode b_Ho_same 95 = .ok (.iconst 0, 1) := by decide +kernel
theorem d_Ho_same_96 : decode b_Ho_same 96 = .ok (.aload_n 0, 1) := by decide +kernel
theorem d_Ho_same_97 : decode b_Ho_same 97 = .ok (.getfield 49, 3) := by decide +kernel
theorem d_Ho_same_100 : decode b_Ho_same 100 = .ok (.iconst 0, 1) := by decide +kernel
theorem d_Ho_same_101 : decode b_Ho_same 101 = .ok (.aload_n 3, 1) := by decide +kernel
theorem d_Ho_same_102 : decode b_Ho_same 102 = .ok (.getfield 132, 3) := by decide +kernel
theorem d_Ho_same_105 : decode b_Ho_same 105 = .ok (.invokestatic 255, 3) := by decide +kernel
theorem d_Ho_same_108 : decode b_Ho_same 108 = .ok (.iload 6, 2) := by decide +kernel
theorem d_Ho_same_110 : decode b_Ho_same 110 = .ok (.ireturn, 1) := by decide +kernel
abbrev b_Mo_same : ByteArray := prog_15_method_59_code
def y_Mo_same : MethodName := ⟨"DrawingHouseModel", "same", "(II)I"⟩
abbrev z_Mo_same : List Cond := Cond.code y_Mo_same b_Mo_same 9 (some .int) :: lw_g
theorem d_Mo_same_0 : decode b_Mo_same 0 = .ok (.iload_n 1, 1) := by decide +kernel
theorem d_Mo_same_1 : decode b_Mo_same 1 = .ok (.invokestatic 521, 3) := by decide +kernel
theorem d_Mo_same_4 : decode b_Mo_same 4 = .ok (.ifCond .eq 10, 3) := by decide +kernel
theorem d_Mo_same_7 : decode b_Mo_same 7 = .ok (.iload_n 2, 1) := by decide +kernel
theorem d_Mo_same_8 : decode b_Mo_same 8 = .ok (.invokestatic 521, 3) := by decide +kernel
theorem d_Mo_same_11 : decode b_Mo_same 11 = .ok (.ifCond .ne 5, 3) := by decide +kernel
theorem d_Mo_same_14 : decode b_Mo_same 14 = .ok (.iconst (-1), 1) := by decide +kernel
theorem d_Mo_same_15 : decode b_Mo_same 15 = .ok (.ireturn, 1) := by decide +kernel
theorem d_Mo_same_16 : decode b_Mo_same 16 = .ok (.aload_n 0, 1) := by decide +kernel
theorem d_Mo_same_17 : decode b_Mo_same 17 = .ok (.iload_n 1, 1) := by decide +kernel
theorem d_Mo_same_18 : decode b_Mo_same 18 = .ok (.aload_n 0, 1) := by decide +kernel
theorem d_Mo_same_19 : decode b_Mo_same 19 = .ok (.getfield 20, 3) := by decide +kernel
theorem d_Mo_same_22 : decode b_Mo_same 22 = .ok (.iload_n 1, 1) := by decide +kernel
theorem d_Mo_same_23 : decode b_Mo_same 23 = .ok (.iaload, 1) := by decide +kernel
theorem d_Mo_same_24 : decode b_Mo_same 24 = .ok (.invokestatic 372, 3) := by decide +kernel
theorem d_Mo_same_27 : decode b_Mo_same 27 = .ok (.putfield 566, 3) := by decide +kernel
theorem d_Mo_same_30 : decode b_Mo_same 30 = .ok (.aload_n 0, 1) := by decide +kernel
theorem d_Mo_same_31 : decode b_Mo_same 31 = .ok (.iload_n 2, 1) := by decide +kernel
theorem d_Mo_same_32 : decode b_Mo_same 32 = .ok (.aload_n 0, 1) := by decide +kernel
theorem d_Mo_same_33 : decode b_Mo_same 33 = .ok (.getfield 20, 3) := by decide +kernel
theorem d_Mo_same_36 : decode b_Mo_same 36 = .ok (.iload_n 2, 1) := by decide +kernel
theorem d_Mo_same_37 : decode b_Mo_same 37 = .ok (.iaload, 1) := by decide +kernel
theorem d_Mo_same_38 : decode b_Mo_same 38 = .ok (.invokestatic 372, 3) := by decide +kernel
theorem d_Mo_same_41 : decode b_Mo_same 41 = .ok (.putfield 569, 3) := by decide +kernel
theorem d_Mo_same_44 : decode b_Mo_same 44 = .ok (.aload_n 0, 1) := by decide +kernel
theorem d_Mo_same_45 : decode b_Mo_same 45 = .ok (.getfield 16, 3) := by decide +kernel
theorem d_Mo_same_48 : decode b_Mo_same 48 = .ok (.aload_n 0, 1) := by decide +kernel
theorem d_Mo_same_49 : decode b_Mo_same 49 = .ok (.getfield 566, 3) := by decide +kernel
theorem d_Mo_same_52 : decode b_Mo_same 52 = .ok (.iaload, 1) := by decide +kernel
theorem d_Mo_same_53 : decode b_Mo_same 53 = .ok (.istore_n 3, 1) := by decide +kernel
theorem d_Mo_same_54 : decode b_Mo_same 54 = .ok (.aload_n 0, 1) := by decide +kernel
theorem d_Mo_same_55 : decode b_Mo_same 55 = .ok (.iconst 0, 1) := by decide +kernel
theorem d_Mo_same_56 : decode b_Mo_same 56 = .ok (.putfield 572, 3) := by decide +kernel
theorem d_Mo_same_59 : decode b_Mo_same 59 = .ok (.aload_n 0, 1) := by decide +kernel
theorem d_Mo_same_60 : decode b_Mo_same 60 = .ok (.iconst 1, 1) := by decide +kernel
theorem d_Mo_same_61 : decode b_Mo_same 61 = .ok (.putfield 575, 3) := by decide +kernel
theorem d_Mo_same_64 : decode b_Mo_same 64 = .ok (.iload_n 3, 1) := by decide +kernel
theorem d_Mo_same_65 : decode b_Mo_same 65 = .ok (.aload_n 0, 1) := by decide +kernel
theorem d_Mo_same_66 : decode b_Mo_same 66 = .ok (.getfield 16, 3) := by decide +kernel
theorem d_Mo_same_69 : decode b_Mo_same 69 = .ok (.aload_n 0, 1) := by decide +kernel
theorem d_Mo_same_70 : decode b_Mo_same 70 = .ok (.getfield 569, 3) := by decide +kernel
theorem d_Mo_same_73 : decode b_Mo_same 73 = .ok (.iaload, 1) := by decide +kernel
theorem d_Mo_same_74 : decode b_Mo_same 74 = .ok (.if_icmp .ne 28, 3) := by decide +kernel
theorem d_Mo_same_77 : decode b_Mo_same 77 = .ok (.aload_n 0, 1) := by decide +kernel
theorem d_Mo_same_78 : decode b_Mo_same 78 = .ok (.getfield 16, 3) := by decide +kernel
theorem d_Mo_same_81 : decode b_Mo_same 81 = .ok (.aload_n 0, 1) := by decide +kernel
theorem d_Mo_same_82 : decode b_Mo_same 82 = .ok (.getfield 566, 3) := by decide +kernel
theorem d_Mo_same_85 : decode b_Mo_same 85 = .ok (.iconst 1, 1) := by decide +kernel
theorem d_Mo_same_86 : decode b_Mo_same 86 = .ok (.iadd, 1) := by decide +kernel
theorem d_Mo_same_87 : decode b_Mo_same 87 = .ok (.iaload, 1) := by decide +kernel
theorem d_Mo_same_88 : decode b_Mo_same 88 = .ok (.aload_n 0, 1) := by decide +kernel
theorem d_Mo_same_89 : decode b_Mo_same 89 = .ok (.getfield 16, 3) := by decide +kernel
theorem d_Mo_same_92 : decode b_Mo_same 92 = .ok (.aload_n 0, 1) := by decide +kernel
theorem d_Mo_same_93 : decode b_Mo_same 93 = .ok (.getfield 569, 3) := by decide +kernel
theorem d_Mo_same_96 : decode b_Mo_same 96 = .ok (.iconst 1, 1) := by decide +kernel
theorem d_Mo_same_97 : decode b_Mo_same 97 = .ok (.iadd, 1) := by decide +kernel
theorem d_Mo_same_98 : decode b_Mo_same 98 = .ok (.iaload, 1) := by decide +kernel
theorem d_Mo_same_99 : decode b_Mo_same 99 = .ok (.if_icmp .eq 5, 3) := by decide +kernel
theorem d_Mo_same_104 : decode b_Mo_same 104 = .ok (.iconst 0, 1) := by decide +kernel
theorem d_Mo_same_105 : decode b_Mo_same 105 = .ok (.istore 4, 2) := by decide +kernel
theorem d_Mo_same_107 : decode b_Mo_same 107 = .ok (.iconst 0, 1) := by decide +kernel
theorem d_Mo_same_108 : decode b_Mo_same 108 = .ok (.istore 5, 2) := by decide +kernel
theorem d_Mo_same_110 : decode b_Mo_same 110 = .ok (.iload 5, 2) := by decide +kernel
theorem d_Mo_same_112 : decode b_Mo_same 112 = .ok (.iload_n 3, 1) := by decide +kernel
theorem d_Mo_same_113 : decode b_Mo_same 113 = .ok (.if_icmp .ge 17, 3) := by decide +kernel
theorem d_Mo_same_130 : decode b_Mo_same 130 = .ok (.iload 4, 2) := by decide +kernel
theorem d_Mo_same_132 : decode b_Mo_same 132 = .ok (.ifCond .lt 162, 3) := by decide +kernel
theorem d_Mo_same_135 : decode b_Mo_same 135 = .ok (.iload 4, 2) := by decide +kernel
theorem d_Mo_same_137 : decode b_Mo_same 137 = .ok (.iload_n 3, 1) := by decide +kernel
theorem d_Mo_same_138 : decode b_Mo_same 138 = .ok (.if_icmp .ge 156, 3) := by decide +kernel
theorem d_Mo_same_294 : decode b_Mo_same 294 = .ok (.iload 4, 2) := by decide +kernel
theorem d_Mo_same_296 : decode b_Mo_same 296 = .ok (.ifCond .ge 5, 3) := by decide +kernel
theorem d_Mo_same_301 : decode b_Mo_same 301 = .ok (.aload_n 0, 1) := by decide +kernel
theorem d_Mo_same_302 : decode b_Mo_same 302 = .ok (.iconst 1, 1) := by decide +kernel
theorem d_Mo_same_303 : decode b_Mo_same 303 = .ok (.putfield 581, 3) := by decide +kernel
theorem d_Mo_same_306 : decode b_Mo_same 306 = .ok (.aload_n 0, 1) := by decide +kernel
theorem d_Mo_same_307 : decode b_Mo_same 307 = .ok (.iload_n 3, 1) := by decide +kernel
theorem d_Mo_same_308 : decode b_Mo_same 308 = .ok (.putfield 584, 3) := by decide +kernel
theorem d_Mo_same_311 : decode b_Mo_same 311 = .ok (.iconst 0, 1) := by decide +kernel
theorem d_Mo_same_312 : decode b_Mo_same 312 = .ok (.istore 5, 2) := by decide +kernel
theorem d_Mo_same_314 : decode b_Mo_same 314 = .ok (.iload 5, 2) := by decide +kernel
theorem d_Mo_same_316 : decode b_Mo_same 316 = .ok (.iload_n 3, 1) := by decide +kernel
theorem d_Mo_same_317 : decode b_Mo_same 317 = .ok (.if_icmp .ge 23, 3) := by decide +kernel
theorem d_Mo_same_340 : decode b_Mo_same 340 = .ok (.iconst 1, 1) := by decide +kernel
theorem d_Mo_same_341 : decode b_Mo_same 341 = .ok (.ireturn, 1) := by decide +kernel
abbrev b_Ho_searchMap : ByteArray := prog_1_method_35_code
def y_Ho_searchMap : MethodName := ⟨"DrawingHouse", "searchMap", "(LDrawingHouse$Graph;LDrawingHouse$Graph;[I)I"⟩
abbrev z_Ho_searchMap : List Cond := Cond.code y_Ho_searchMap b_Ho_searchMap 9 (some .int) :: lw_g
theorem d_Ho_searchMap_0 : decode b_Ho_searchMap 0 = .ok (.aload_n 1, 1) := by decide +kernel
theorem d_Ho_searchMap_1 : decode b_Ho_searchMap 1 = .ok (.getfield 132, 3) := by decide +kernel
theorem d_Ho_searchMap_4 : decode b_Ho_searchMap 4 = .ok (.istore 4, 2) := by decide +kernel
theorem d_Ho_searchMap_6 : decode b_Ho_searchMap 6 = .ok (.iconst 0, 1) := by decide +kernel
theorem d_Ho_searchMap_7 : decode b_Ho_searchMap 7 = .ok (.istore 5, 2) := by decide +kernel
theorem d_Ho_searchMap_9 : decode b_Ho_searchMap 9 = .ok (.iconst 0, 1) := by decide +kernel
theorem d_Ho_searchMap_10 : decode b_Ho_searchMap 10 = .ok (.istore 6, 2) := by decide +kernel
theorem d_Ho_searchMap_12 : decode b_Ho_searchMap 12 = .ok (.aload_n 3, 1) := by decide +kernel
theorem d_Ho_searchMap_13 : decode b_Ho_searchMap 13 = .ok (.iconst (-1), 1) := by decide +kernel
theorem d_Ho_searchMap_14 : decode b_Ho_searchMap 14 = .ok (.invokestatic 375, 3) := by decide +kernel
theorem d_Ho_searchMap_17 : decode b_Ho_searchMap 17 = .ok (.iconst 0, 1) := by decide +kernel
theorem d_Ho_searchMap_18 : decode b_Ho_searchMap 18 = .ok (.istore 7, 2) := by decide +kernel
theorem d_Ho_searchMap_20 : decode b_Ho_searchMap 20 = .ok (.iload 7, 2) := by decide +kernel
theorem d_Ho_searchMap_22 : decode b_Ho_searchMap 22 = .ok (.ldc_w 430, 3) := by decide +kernel
theorem d_Ho_searchMap_25 : decode b_Ho_searchMap 25 = .ok (.if_icmp .ge 143, 3) := by decide +kernel
theorem d_Ho_searchMap_28 : decode b_Ho_searchMap 28 = .ok (.iload 6, 2) := by decide +kernel
theorem d_Ho_searchMap_30 : decode b_Ho_searchMap 30 = .ok (.ifCond .lt 138, 3) := by decide +kernel
theorem d_Ho_searchMap_33 : decode b_Ho_searchMap 33 = .ok (.iload 6, 2) := by decide +kernel
theorem d_Ho_searchMap_35 : decode b_Ho_searchMap 35 = .ok (.iload 4, 2) := by decide +kernel
theorem d_Ho_searchMap_37 : decode b_Ho_searchMap 37 = .ok (.if_icmp .ge 131, 3) := by decide +kernel
theorem d_Ho_searchMap_168 : decode b_Ho_searchMap 168 = .ok (.iload 6, 2) := by decide +kernel
theorem d_Ho_searchMap_170 : decode b_Ho_searchMap 170 = .ok (.iload 4, 2) := by decide +kernel
theorem d_Ho_searchMap_172 : decode b_Ho_searchMap 172 = .ok (.if_icmp .ne 7, 3) := by decide +kernel
theorem d_Ho_searchMap_175 : decode b_Ho_searchMap 175 = .ok (.iconst 1, 1) := by decide +kernel
theorem d_Ho_searchMap_176 : decode b_Ho_searchMap 176 = .ok (.goto 4, 3) := by decide +kernel
theorem d_Ho_searchMap_180 : decode b_Ho_searchMap 180 = .ok (.ireturn, 1) := by decide +kernel
theorem d_law_law_623 : decode b_law_law 623 = .ok (.aload_n 1, 1) := by decide +kernel
theorem d_law_law_624 : decode b_law_law 624 = .ok (.aload_n 0, 1) := by decide +kernel
theorem d_law_law_625 : decode b_law_law 625 = .ok (.iload_n 3, 1) := by decide +kernel
theorem d_law_law_626 : decode b_law_law 626 = .ok (.iconst 1, 1) := by decide +kernel
theorem d_law_law_627 : decode b_law_law 627 = .ok (.iadd, 1) := by decide +kernel
theorem d_law_law_628 : decode b_law_law 628 = .ok (.iaload, 1) := by decide +kernel
theorem d_law_law_629 : decode b_law_law 629 = .ok (.aload_n 0, 1) := by decide +kernel
theorem d_law_law_630 : decode b_law_law 630 = .ok (.iload_n 3, 1) := by decide +kernel
theorem d_law_law_631 : decode b_law_law 631 = .ok (.iconst 2, 1) := by decide +kernel
theorem d_law_law_632 : decode b_law_law 632 = .ok (.iadd, 1) := by decide +kernel
theorem d_law_law_633 : decode b_law_law 633 = .ok (.iaload, 1) := by decide +kernel
theorem d_law_law_634 : decode b_law_law 634 = .ok (.invokevirtual 63, 3) := by decide +kernel
theorem d_law_law_637 : decode b_law_law 637 = .ok (.aload_n 2, 1) := by decide +kernel
theorem d_law_law_638 : decode b_law_law 638 = .ok (.aload_n 0, 1) := by decide +kernel
theorem d_law_law_639 : decode b_law_law 639 = .ok (.iload_n 3, 1) := by decide +kernel
theorem d_law_law_640 : decode b_law_law 640 = .ok (.iconst 1, 1) := by decide +kernel
theorem d_law_law_641 : decode b_law_law 641 = .ok (.iadd, 1) := by decide +kernel
theorem d_law_law_642 : decode b_law_law 642 = .ok (.iaload, 1) := by decide +kernel
theorem d_law_law_643 : decode b_law_law 643 = .ok (.aload_n 0, 1) := by decide +kernel
theorem d_law_law_644 : decode b_law_law 644 = .ok (.iload_n 3, 1) := by decide +kernel
theorem d_law_law_645 : decode b_law_law 645 = .ok (.iconst 2, 1) := by decide +kernel
theorem d_law_law_646 : decode b_law_law 646 = .ok (.iadd, 1) := by decide +kernel
theorem d_law_law_647 : decode b_law_law 647 = .ok (.iaload, 1) := by decide +kernel
theorem d_law_law_648 : decode b_law_law 648 = .ok (.invokevirtual 66, 3) := by decide +kernel
theorem d_law_law_651 : decode b_law_law 651 = .ok (.if_icmp .eq 644, 3) := by decide +kernel
set_option maxRecDepth 100000 in
set_option maxHeartbeats 4000000 in
/-- DrawingHouse.same(II)I -/
theorem c_Ho_same_z1 (l : Launch) (D : va_G) (kA : Nat → ClassId) (a0 : Nat) (v1 : Int32) (v2 : Int32) (hg : sp_Ho_isPlace v1 = 0) (hgM : sp_Mo_isPlace v1 = 0) : Ci l y_Ho_same z_Ho_same { frames := 1, cells := 0, slots := 0, locals := 20 } D classes (TY kA) [.ref a0, .int v1, .int v2] [] (fun r (_ : List va_W) => r = (-1)) (fun u => u) 0 0 := by
  intro sz
  refine k_met (cc := b_Ho_same) (maxL := 7) (ret := (some .int)) (by decide) rfl (Nat.le_of_ble_eq_true rfl) (fun p e s m below meth c ls X hl hB => ?_)
  obtain ⟨hsz, hP, hK, hD0, hN⟩ := hB
  subst hsz
  have hD := hD0.self (sz := s.heap.size)
  generalize hAe : va_A (cat []) s.heap.size = A at hD ⊢
  have hA : ∀ q : Nat, s.heap.size ≤ q → A q := fun q h => by rw [← hAe]; exact Or.inr h
  have hS : va_S A s.heap s.heap [] := va_S.rf
  obtain ⟨hx, hb, hml, hown, hts, hr, hlk, hnm⟩ := id X
  have hl : lv_has ls 7 [(0, .ref a0), (1, .int v1), (2, .int v2)] := hl
  have hP : va_P D classes (cat []) s.heap := hP
  have hK : va_K D classes (TY kA) s := hK
  refine lv_iload_n (pc := 0) hx hb d_Ho_same_0 rfl (lv_at hl 1 rfl) ?_
  refine k_goI (gr := []) (k_rS (pc := 1) (As := [.int v1]) (rest := []) X (c_Ho_isPlace l D kA v1 s.heap.size) rfl wm_633 wm_1 wm_631 wm_632 1 (by decide +kernel) ⟨Nat.le_of_ble_eq_true rfl, Nat.le_of_ble_eq_true rfl⟩ rfl rfl (k_pre hN hK hP hD [] [] 0 rfl (by decide) rfl) rfl hl.1 rfl (Nat.le_of_ble_eq_true rfl) d_Ho_same_1 ⟨Nat.le_of_ble_eq_true rfl, Nat.le_of_ble_eq_true rfl⟩) hP hD hS hA [] [] 0 rfl (by decide) rfl rfl (fun r1 u2 H locs hu2 hP hD hS => ?_)
  subst hu2
  have hP : va_P D classes (cat []) H := hP
  have hD : va_D A (cat []) := hD
  refine lv_if_eq (pc := 4) (tgt := 14) hx hb d_Ho_same_4 (by decide) (fun c1 => ?_) (fun c1 => absurd (hg) c1)
  refine lv_iconst (pc := 14) (v := -1) hx hb d_Ho_same_14 (by decide) ?_
  refine W.widen (k := 0) (n := 0) (Nat.le_of_ble_eq_true rfl) (Nat.le_of_ble_eq_true rfl) ?_
  exact W.iret (v := (-1)) hx hb hr (fun t ht hW => ⟨⟨(-1), [], rfl, rfl, by rw [ht]; exact hP, va_K.moved hW.alike hK, hD⟩, hS.F ht⟩) hS.2.2 d_Ho_same_15
set_option maxRecDepth 100000 in
set_option maxHeartbeats 4000000 in
/-- DrawingHouseModel.same(II)I -/
theorem c_Mo_same_z1 (l : Launch) (D : va_G) (kA : Nat → ClassId) (a0 : Nat) (v1 : Int32) (v2 : Int32) (hg : sp_Ho_isPlace v1 = 0) (hgM : sp_Mo_isPlace v1 = 0) : Ci l y_Mo_same z_Mo_same { frames := 2, cells := 0, slots := 0, locals := 42 } D classes (TY kA) [.ref a0, .int v1, .int v2] [] (fun r (_ : List va_W) => r = (-1)) (fun u => u) 0 0 := by
  intro sz
  refine k_met (cc := b_Mo_same) (maxL := 9) (ret := (some .int)) (by decide) rfl (Nat.le_of_ble_eq_true rfl) (fun p e s m below meth c ls X hl hB => ?_)
  obtain ⟨hsz, hP, hK, hD0, hN⟩ := hB
  subst hsz
  have hD := hD0.self (sz := s.heap.size)
  generalize hAe : va_A (cat []) s.heap.size = A at hD ⊢
  have hA : ∀ q : Nat, s.heap.size ≤ q → A q := fun q h => by rw [← hAe]; exact Or.inr h
  have hS : va_S A s.heap s.heap [] := va_S.rf
  obtain ⟨hx, hb, hml, hown, hts, hr, hlk, hnm⟩ := id X
  have hl : lv_has ls 9 [(0, .ref a0), (1, .int v1), (2, .int v2)] := hl
  have hP : va_P D classes (cat []) s.heap := hP
  have hK : va_K D classes (TY kA) s := hK
  refine lv_iload_n (pc := 0) hx hb d_Mo_same_0 rfl (lv_at hl 1 rfl) ?_
  refine k_goI (gr := []) (k_rS (pc := 1) (As := [.int v1]) (rest := []) X (c_Mo_isPlace l D kA v1 s.heap.size) rfl wm_2978 wm_9 wm_2976 wm_2977 1 (by decide +kernel) ⟨Nat.le_of_ble_eq_true rfl, Nat.le_of_ble_eq_true rfl⟩ rfl rfl (k_pre hN hK hP hD [] [] 0 rfl (by decide) rfl) rfl hl.1 rfl (Nat.le_of_ble_eq_true rfl) d_Mo_same_1 ⟨Nat.le_of_ble_eq_true rfl, Nat.le_of_ble_eq_true rfl⟩) hP hD hS hA [] [] 0 rfl (by decide) rfl rfl (fun r1 u2 H locs hu2 hP hD hS => ?_)
  subst hu2
  have hP : va_P D classes (cat []) H := hP
  have hD : va_D A (cat []) := hD
  refine lv_if_eq (pc := 4) (tgt := 14) hx hb d_Mo_same_4 (by decide) (fun c1 => ?_) (fun c1 => absurd (hgM) c1)
  refine lv_iconst (pc := 14) (v := -1) hx hb d_Mo_same_14 (by decide) ?_
  refine W.widen (k := 0) (n := 0) (Nat.le_of_ble_eq_true rfl) (Nat.le_of_ble_eq_true rfl) ?_
  exact W.iret (v := (-1)) hx hb hr (fun t ht hW => ⟨⟨(-1), [], rfl, rfl, by rw [ht]; exact hP, va_K.moved hW.alike hK, hD⟩, hS.F ht⟩) hS.2.2 d_Mo_same_15
set_option maxRecDepth 100000 in
set_option maxHeartbeats 4000000 in
/-- same, a fresh house -/
theorem lf_same_1 {p : Program} {e : Env} {s : State} {m : MethodId} {below : List Frame} {meth : Method} {c : Code} (l : Launch) {b : Nat} {xs : Nat → Int32} (C0 : lw_At p s m meth c b 6 xs) {D : va_G} {kA : Nat → ClassId} (h : Nat) (h2 : Nat) (q : Nat → Nat) (qm : Nat → Nat) (v1 : Int32) (v2 : Int32) (hg : sp_Ho_isPlace v1 = 0) (hgM : sp_Mo_isPlace v1 = 0) (hv1 : xs 1 = v1) (hv2 : xs 2 = v2) {H : Heap} {locs : List Loc} {ls : Array Slot} (hK : va_K D classes (TY kA) s) (hN : nst s) (hP : va_P D classes (cat [[(h, .inr (12, [.ref (q 0), .ref (q 1), .ref (q 2), .ref (q 3), .ref (q 4), .ref (q 5), .ref (q 6), .int 0, .int ((-1)), .ref (q 9), .ref (q 10), .int 0, .int 0, .ref (q 13), .int 0, .int 0, .null, .null, .null, .null, .null]))], [(h2, .inr (13, mF qm x0Mo y0Mo))]]) H) (hD : va_D (fun q : Nat => s.heap.size ≤ q) (cat [[(h, .inr (12, [.ref (q 0), .ref (q 1), .ref (q 2), .ref (q 3), .ref (q 4), .ref (q 5), .ref (q 6), .int 0, .int ((-1)), .ref (q 9), .ref (q 10), .int 0, .int 0, .ref (q 13), .int 0, .int 0, .null, .null, .null, .null, .null]))], [(h2, .inr (13, mF qm x0Mo y0Mo))]])) (hS : va_S (fun q : Nat => s.heap.size ≤ q) s.heap H locs) (hl : lv_has ls 4 [(3, .int 0), (2, .ref h2), (1, .ref h), (0, .ref b)]) : W p l e room_1 s m #[Value.ref b] below meth c H locs 368 365796 (lw_Z below #[Value.ref b] s) (F0 m 623 ls []) := by
  obtain ⟨hx, hb, hr, hml, hown, hts0, hX, hbl, hlocks, hgv⟩ := id C0
  have hts : ∀ w ∈ lw_g, w.before #[Value.ref b] s = true := fun w h => hts0 w (lw_gt h)
  have X : cx p s m #[Value.ref b] meth c b_law_law 4 ret "DrawingHouseLaw" meth.name := ⟨hx, hb, hml, hown, hts, hr, hlocks, rfl⟩
  obtain ⟨A, hAe⟩ : ∃ A : Nat → Prop, A = fun q : Nat => s.heap.size ≤ q := ⟨_, rfl⟩
  have hA : ∀ q : Nat, s.heap.size ≤ q → A q := fun q h => by rw [hAe]; exact h
  have hbA : ¬ A b := by rw [hAe]; exact Nat.not_le.mpr hbl
  rw [← hAe] at hD hS
  refine lv_aload_n (pc := 623) hx hb d_law_law_623 rfl (lv_at hl 2 rfl) ?_
  refine lv_aload_n (pc := 624) hx hb d_law_law_624 rfl (lv_at hl 3 rfl) ?_
  refine lv_iload_n (pc := 625) hx hb d_law_law_625 rfl (lv_at hl 0 rfl) ?_
  refine lv_iconst (pc := 626) (v := 1) hx hb d_law_law_626 (by decide) ?_
  refine lv_iadd (pc := 627) hx hb d_law_law_627 ?_
  refine k_cst (v := 1) (by decide) ?_
  refine va_sld (pc := 628) hx hb hX hbl hbA hS (by unfold vp_in; decide) d_law_law_628 ?_
  refine k_cst (v := v1) hv1 ?_
  refine lv_aload_n (pc := 629) hx hb d_law_law_629 rfl (lv_at hl 3 rfl) ?_
  refine lv_iload_n (pc := 630) hx hb d_law_law_630 rfl (lv_at hl 0 rfl) ?_
  refine lv_iconst (pc := 631) (v := 2) hx hb d_law_law_631 (by decide) ?_
  refine lv_iadd (pc := 632) hx hb d_law_law_632 ?_
  refine k_cst (v := 2) (by decide) ?_
  refine va_sld (pc := 633) hx hb hX hbl hbA hS (by unfold vp_in; decide) d_law_law_633 ?_
  refine k_cst (v := v2) hv2 ?_
  refine k_goI (gr := [[(h, .inr (12, [.ref (q 0), .ref (q 1), .ref (q 2), .ref (q 3), .ref (q 4), .ref (q 5), .ref (q 6), .int 0, .int ((-1)), .ref (q 9), .ref (q 10), .int 0, .int 0, .ref (q 13), .int 0, .int 0, .null, .null, .null, .null, .null]))], [(h2, .inr (13, mF qm x0Mo y0Mo))]]) (k_rV (pc := 634) (As := [.int v1, .int v2]) (rest := []) X (c_Ho_same_z1 l D kA h v1 v2 hg hgM H.size) rfl wm_1026 wm_1 wm_1023 wm_1024 wm_1025 2 (by decide +kernel) ⟨Nat.le_of_ble_eq_true rfl, Nat.le_of_ble_eq_true rfl⟩ rfl rfl (va_recv hK hP (ci := 12) (q0 := 0) rfl rfl) (k_pre hN hK hP hD [] [0, 1] 2 rfl (by decide) rfl) rfl hl.1 rfl (Nat.le_of_ble_eq_true rfl) d_law_law_634 ⟨Nat.le_of_ble_eq_true rfl, Nat.le_of_ble_eq_true rfl⟩) hP hD hS hA [] [0, 1] 2 rfl (by decide) rfl rfl (fun r1 u2 H locs hu2 hP hD hS => ?_)
  obtain ⟨hP, hD⟩ := k_left hP hD
  subst hu2
  have hP : va_P D classes (cat [[(h, .inr (12, [.ref (q 0), .ref (q 1), .ref (q 2), .ref (q 3), .ref (q 4), .ref (q 5), .ref (q 6), .int 0, .int ((-1)), .ref (q 9), .ref (q 10), .int 0, .int 0, .ref (q 13), .int 0, .int 0, .null, .null, .null, .null, .null]))], [(h2, .inr (13, mF qm x0Mo y0Mo))]]) H := hP
  have hD : va_D A (cat [[(h, .inr (12, [.ref (q 0), .ref (q 1), .ref (q 2), .ref (q 3), .ref (q 4), .ref (q 5), .ref (q 6), .int 0, .int ((-1)), .ref (q 9), .ref (q 10), .int 0, .int 0, .ref (q 13), .int 0, .int 0, .null, .null, .null, .null, .null]))], [(h2, .inr (13, mF qm x0Mo y0Mo))]]) := hD
  refine lv_aload_n (pc := 637) hx hb d_law_law_637 rfl (lv_at hl 1 rfl) ?_
  refine lv_aload_n (pc := 638) hx hb d_law_law_638 rfl (lv_at hl 3 rfl) ?_
  refine lv_iload_n (pc := 639) hx hb d_law_law_639 rfl (lv_at hl 0 rfl) ?_
  refine lv_iconst (pc := 640) (v := 1) hx hb d_law_law_640 (by decide) ?_
  refine lv_iadd (pc := 641) hx hb d_law_law_641 ?_
  refine k_cst (v := 1) (by decide) ?_
  refine va_sld (pc := 642) hx hb hX hbl hbA hS (by unfold vp_in; decide) d_law_law_642 ?_
  refine k_cst (v := v1) hv1 ?_
  refine lv_aload_n (pc := 643) hx hb d_law_law_643 rfl (lv_at hl 3 rfl) ?_
  refine lv_iload_n (pc := 644) hx hb d_law_law_644 rfl (lv_at hl 0 rfl) ?_
  refine lv_iconst (pc := 645) (v := 2) hx hb d_law_law_645 (by decide) ?_
  refine lv_iadd (pc := 646) hx hb d_law_law_646 ?_
  refine k_cst (v := 2) (by decide) ?_
  refine va_sld (pc := 647) hx hb hX hbl hbA hS (by unfold vp_in; decide) d_law_law_647 ?_
  refine k_cst (v := v2) hv2 ?_
  refine k_goI (gr := [[(h, .inr (12, [.ref (q 0), .ref (q 1), .ref (q 2), .ref (q 3), .ref (q 4), .ref (q 5), .ref (q 6), .int 0, .int ((-1)), .ref (q 9), .ref (q 10), .int 0, .int 0, .ref (q 13), .int 0, .int 0, .null, .null, .null, .null, .null]))], [(h2, .inr (13, mF qm x0Mo y0Mo))]]) (k_rV (pc := 648) (As := [.int v1, .int v2]) (rest := [.int ((-1))]) X (c_Mo_same_z1 l D kA h2 v1 v2 hg hgM H.size) rfl wm_3119 wm_9 wm_3116 wm_3117 wm_3118 2 (by decide +kernel) ⟨Nat.le_of_ble_eq_true rfl, Nat.le_of_ble_eq_true rfl⟩ rfl rfl (va_recv hK hP (ci := 13) (q0 := 1) rfl rfl) (k_pre hN hK hP hD [] [0, 1] 2 rfl (by decide) rfl) rfl hl.1 rfl (Nat.le_of_ble_eq_true rfl) d_law_law_648 ⟨Nat.le_of_ble_eq_true rfl, Nat.le_of_ble_eq_true rfl⟩) hP hD hS hA [] [0, 1] 2 rfl (by decide) rfl rfl (fun r3 u4 H locs hu4 hP hD hS => ?_)
  obtain ⟨hP, hD⟩ := k_left hP hD
  subst hu4
  have hP : va_P D classes (cat [[(h, .inr (12, [.ref (q 0), .ref (q 1), .ref (q 2), .ref (q 3), .ref (q 4), .ref (q 5), .ref (q 6), .int 0, .int ((-1)), .ref (q 9), .ref (q 10), .int 0, .int 0, .ref (q 13), .int 0, .int 0, .null, .null, .null, .null, .null]))], [(h2, .inr (13, mF qm x0Mo y0Mo))]]) H := hP
  have hD : va_D A (cat [[(h, .inr (12, [.ref (q 0), .ref (q 1), .ref (q 2), .ref (q 3), .ref (q 4), .ref (q 5), .ref (q 6), .int 0, .int ((-1)), .ref (q 9), .ref (q 10), .int 0, .int 0, .ref (q 13), .int 0, .int 0, .null, .null, .null, .null, .null]))], [(h2, .inr (13, mF qm x0Mo y0Mo))]]) := hD
  refine lv_icmp_eq (pc := 651) (tgt := 1295) hx hb d_law_law_651 (by decide) (fun _ => ?_) (fun c1 => absurd (by decide) c1)
  rw [hAe] at hS
  exact law_exit l C0 (Nat.le_of_ble_eq_true rfl) (Nat.le_of_ble_eq_true rfl) hS hl
set_option maxRecDepth 100000 in
set_option maxHeartbeats 4000000 in
/-- DrawingHouse.same(II)I -/
theorem c_Ho_same_z2 (l : Launch) (D : va_G) (kA : Nat → ClassId) (a0 : Nat) (j : Nat) (v2 : Int32) (hj : j < 4) (hg2 : sp_Ho_isPlace v2 = 0) (hgM2 : sp_Mo_isPlace v2 = 0) : Ci l y_Ho_same z_Ho_same { frames := 1, cells := 0, slots := 0, locals := 20 } D classes (TY kA) [.ref a0, .int (nI j), .int v2] [] (fun r (_ : List va_W) => r = (-1)) (fun u => u) 0 0 := by
  intro sz
  refine k_met (cc := b_Ho_same) (maxL := 7) (ret := (some .int)) (by decide) rfl (Nat.le_of_ble_eq_true rfl) (fun p e s m below meth c ls X hl hB => ?_)
  obtain ⟨hsz, hP, hK, hD0, hN⟩ := hB
  subst hsz
  have hD := hD0.self (sz := s.heap.size)
  generalize hAe : va_A (cat []) s.heap.size = A at hD ⊢
  have hA : ∀ q : Nat, s.heap.size ≤ q → A q := fun q h => by rw [← hAe]; exact Or.inr h
  have hS : va_S A s.heap s.heap [] := va_S.rf
  obtain ⟨hx, hb, hml, hown, hts, hr, hlk, hnm⟩ := id X
  have hl : lv_has ls 7 [(0, .ref a0), (1, .int (nI j)), (2, .int v2)] := hl
  have hP : va_P D classes (cat []) s.heap := hP
  have hK : va_K D classes (TY kA) s := hK
  refine lv_iload_n (pc := 0) hx hb d_Ho_same_0 rfl (lv_at hl 1 rfl) ?_
  refine k_goI (gr := []) (k_rS (pc := 1) (As := [.int (nI j)]) (rest := []) X (c_Ho_isPlace l D kA (nI j) s.heap.size) rfl wm_633 wm_1 wm_631 wm_632 1 (by decide +kernel) ⟨Nat.le_of_ble_eq_true rfl, Nat.le_of_ble_eq_true rfl⟩ rfl rfl (k_pre hN hK hP hD [] [] 0 rfl (by decide) rfl) rfl hl.1 rfl (Nat.le_of_ble_eq_true rfl) d_Ho_same_1 ⟨Nat.le_of_ble_eq_true rfl, Nat.le_of_ble_eq_true rfl⟩) hP hD hS hA [] [] 0 rfl (by decide) rfl rfl (fun r1 u2 H locs hu2 hP hD hS => ?_)
  subst hu2
  refine k_cst (v := 1) (place_ok hj) ?_
  have hP : va_P D classes (cat []) H := hP
  have hD : va_D A (cat []) := hD
  refine lv_if_eq (pc := 4) (tgt := 14) hx hb d_Ho_same_4 (by decide) (fun c1 => absurd c1 (by decide)) (fun c1 => ?_)
  refine lv_iload_n (pc := 7) hx hb d_Ho_same_7 rfl (lv_at hl 2 rfl) ?_
  refine k_goI (gr := []) (k_rS (pc := 8) (As := [.int v2]) (rest := []) X (c_Ho_isPlace l D kA v2 H.size) rfl wm_633 wm_1 wm_631 wm_632 1 (by decide +kernel) ⟨Nat.le_of_ble_eq_true rfl, Nat.le_of_ble_eq_true rfl⟩ rfl rfl (k_pre hN hK hP hD [] [] 0 rfl (by decide) rfl) rfl hl.1 rfl (Nat.le_of_ble_eq_true rfl) d_Ho_same_8 ⟨Nat.le_of_ble_eq_true rfl, Nat.le_of_ble_eq_true rfl⟩) hP hD hS hA [] [] 0 rfl (by decide) rfl rfl (fun r3 u4 H locs hu4 hP hD hS => ?_)
  subst hu4
  have hP : va_P D classes (cat []) H := hP
  have hD : va_D A (cat []) := hD
  refine lv_if_ne (pc := 11) (tgt := 16) hx hb d_Ho_same_11 (by decide) (fun c1 => absurd (hg2) c1) (fun c1 => ?_)
  refine lv_iconst (pc := 14) (v := -1) hx hb d_Ho_same_14 (by decide) ?_
  refine W.widen (k := 0) (n := 0) (Nat.le_of_ble_eq_true rfl) (Nat.le_of_ble_eq_true rfl) ?_
  exact W.iret (v := (-1)) hx hb hr (fun t ht hW => ⟨⟨(-1), [], rfl, rfl, by rw [ht]; exact hP, va_K.moved hW.alike hK, hD⟩, hS.F ht⟩) hS.2.2 d_Ho_same_15
set_option maxRecDepth 100000 in
set_option maxHeartbeats 4000000 in
/-- DrawingHouseModel.same(II)I -/
theorem c_Mo_same_z2 (l : Launch) (D : va_G) (kA : Nat → ClassId) (a0 : Nat) (j : Nat) (v2 : Int32) (hj : j < 4) (hg2 : sp_Ho_isPlace v2 = 0) (hgM2 : sp_Mo_isPlace v2 = 0) : Ci l y_Mo_same z_Mo_same { frames := 2, cells := 0, slots := 0, locals := 42 } D classes (TY kA) [.ref a0, .int (nI j), .int v2] [] (fun r (_ : List va_W) => r = (-1)) (fun u => u) 0 0 := by
  intro sz
  refine k_met (cc := b_Mo_same) (maxL := 9) (ret := (some .int)) (by decide) rfl (Nat.le_of_ble_eq_true rfl) (fun p e s m below meth c ls X hl hB => ?_)
  obtain ⟨hsz, hP, hK, hD0, hN⟩ := hB
  subst hsz
  have hD := hD0.self (sz := s.heap.size)
  generalize hAe : va_A (cat []) s.heap.size = A at hD ⊢
  have hA : ∀ q : Nat, s.heap.size ≤ q → A q := fun q h => by rw [← hAe]; exact Or.inr h
  have hS : va_S A s.heap s.heap [] := va_S.rf
  obtain ⟨hx, hb, hml, hown, hts, hr, hlk, hnm⟩ := id X
  have hl : lv_has ls 9 [(0, .ref a0), (1, .int (nI j)), (2, .int v2)] := hl
  have hP : va_P D classes (cat []) s.heap := hP
  have hK : va_K D classes (TY kA) s := hK
  refine lv_iload_n (pc := 0) hx hb d_Mo_same_0 rfl (lv_at hl 1 rfl) ?_
  refine k_goI (gr := []) (k_rS (pc := 1) (As := [.int (nI j)]) (rest := []) X (c_Mo_isPlace l D kA (nI j) s.heap.size) rfl wm_2978 wm_9 wm_2976 wm_2977 1 (by decide +kernel) ⟨Nat.le_of_ble_eq_true rfl, Nat.le_of_ble_eq_true rfl⟩ rfl rfl (k_pre hN hK hP hD [] [] 0 rfl (by decide) rfl) rfl hl.1 rfl (Nat.le_of_ble_eq_true rfl) d_Mo_same_1 ⟨Nat.le_of_ble_eq_true rfl, Nat.le_of_ble_eq_true rfl⟩) hP hD hS hA [] [] 0 rfl (by decide) rfl rfl (fun r1 u2 H locs hu2 hP hD hS => ?_)
  subst hu2
  refine k_cst (v := 1) (placeM_ok hj) ?_
  have hP : va_P D classes (cat []) H := hP
  have hD : va_D A (cat []) := hD
  refine lv_if_eq (pc := 4) (tgt := 14) hx hb d_Mo_same_4 (by decide) (fun c1 => absurd c1 (by decide)) (fun c1 => ?_)
  refine lv_iload_n (pc := 7) hx hb d_Mo_same_7 rfl (lv_at hl 2 rfl) ?_
  refine k_goI (gr := []) (k_rS (pc := 8) (As := [.int v2]) (rest := []) X (c_Mo_isPlace l D kA v2 H.size) rfl wm_2978 wm_9 wm_2976 wm_2977 1 (by decide +kernel) ⟨Nat.le_of_ble_eq_true rfl, Nat.le_of_ble_eq_true rfl⟩ rfl rfl (k_pre hN hK hP hD [] [] 0 rfl (by decide) rfl) rfl hl.1 rfl (Nat.le_of_ble_eq_true rfl) d_Mo_same_8 ⟨Nat.le_of_ble_eq_true rfl, Nat.le_of_ble_eq_true rfl⟩) hP hD hS hA [] [] 0 rfl (by decide) rfl rfl (fun r3 u4 H locs hu4 hP hD hS => ?_)
  subst hu4
  have hP : va_P D classes (cat []) H := hP
  have hD : va_D A (cat []) := hD
  refine lv_if_ne (pc := 11) (tgt := 16) hx hb d_Mo_same_11 (by decide) (fun c1 => absurd (hgM2) c1) (fun c1 => ?_)
  refine lv_iconst (pc := 14) (v := -1) hx hb d_Mo_same_14 (by decide) ?_
  refine W.widen (k := 0) (n := 0) (Nat.le_of_ble_eq_true rfl) (Nat.le_of_ble_eq_true rfl) ?_
  exact W.iret (v := (-1)) hx hb hr (fun t ht hW => ⟨⟨(-1), [], rfl, rfl, by rw [ht]; exact hP, va_K.moved hW.alike hK, hD⟩, hS.F ht⟩) hS.2.2 d_Mo_same_15
set_option maxRecDepth 100000 in
set_option maxHeartbeats 4000000 in
/-- same, a fresh house -/
theorem lf_same_2 {p : Program} {e : Env} {s : State} {m : MethodId} {below : List Frame} {meth : Method} {c : Code} (l : Launch) {b : Nat} {xs : Nat → Int32} (C0 : lw_At p s m meth c b 6 xs) {D : va_G} {kA : Nat → ClassId} (h : Nat) (h2 : Nat) (q : Nat → Nat) (qm : Nat → Nat) (j : Nat) (v2 : Int32) (hj : j < 4) (hg2 : sp_Ho_isPlace v2 = 0) (hgM2 : sp_Mo_isPlace v2 = 0) (hv1 : xs 1 = nI j) (hv2 : xs 2 = v2) {H : Heap} {locs : List Loc} {ls : Array Slot} (hK : va_K D classes (TY kA) s) (hN : nst s) (hP : va_P D classes (cat [[(h, .inr (12, [.ref (q 0), .ref (q 1), .ref (q 2), .ref (q 3), .ref (q 4), .ref (q 5), .ref (q 6), .int 0, .int ((-1)), .ref (q 9), .ref (q 10), .int 0, .int 0, .ref (q 13), .int 0, .int 0, .null, .null, .null, .null, .null]))], [(h2, .inr (13, mF qm x0Mo y0Mo))]]) H) (hD : va_D (fun q : Nat => s.heap.size ≤ q) (cat [[(h, .inr (12, [.ref (q 0), .ref (q 1), .ref (q 2), .ref (q 3), .ref (q 4), .ref (q 5), .ref (q 6), .int 0, .int ((-1)), .ref (q 9), .ref (q 10), .int 0, .int 0, .ref (q 13), .int 0, .int 0, .null, .null, .null, .null, .null]))], [(h2, .inr (13, mF qm x0Mo y0Mo))]])) (hS : va_S (fun q : Nat => s.heap.size ≤ q) s.heap H locs) (hl : lv_has ls 4 [(3, .int 0), (2, .ref h2), (1, .ref h), (0, .ref b)]) : W p l e room_1 s m #[Value.ref b] below meth c H locs 368 365796 (lw_Z below #[Value.ref b] s) (F0 m 623 ls []) := by
  obtain ⟨hx, hb, hr, hml, hown, hts0, hX, hbl, hlocks, hgv⟩ := id C0
  have hts : ∀ w ∈ lw_g, w.before #[Value.ref b] s = true := fun w h => hts0 w (lw_gt h)
  have X : cx p s m #[Value.ref b] meth c b_law_law 4 ret "DrawingHouseLaw" meth.name := ⟨hx, hb, hml, hown, hts, hr, hlocks, rfl⟩
  obtain ⟨A, hAe⟩ : ∃ A : Nat → Prop, A = fun q : Nat => s.heap.size ≤ q := ⟨_, rfl⟩
  have hA : ∀ q : Nat, s.heap.size ≤ q → A q := fun q h => by rw [hAe]; exact h
  have hbA : ¬ A b := by rw [hAe]; exact Nat.not_le.mpr hbl
  rw [← hAe] at hD hS
  refine lv_aload_n (pc := 623) hx hb d_law_law_623 rfl (lv_at hl 2 rfl) ?_
  refine lv_aload_n (pc := 624) hx hb d_law_law_624 rfl (lv_at hl 3 rfl) ?_
  refine lv_iload_n (pc := 625) hx hb d_law_law_625 rfl (lv_at hl 0 rfl) ?_
  refine lv_iconst (pc := 626) (v := 1) hx hb d_law_law_626 (by decide) ?_
  refine lv_iadd (pc := 627) hx hb d_law_law_627 ?_
  refine k_cst (v := 1) (by decide) ?_
  refine va_sld (pc := 628) hx hb hX hbl hbA hS (by unfold vp_in; decide) d_law_law_628 ?_
  refine k_cst (v := nI j) hv1 ?_
  refine lv_aload_n (pc := 629) hx hb d_law_law_629 rfl (lv_at hl 3 rfl) ?_
  refine lv_iload_n (pc := 630) hx hb d_law_law_630 rfl (lv_at hl 0 rfl) ?_
  refine lv_iconst (pc := 631) (v := 2) hx hb d_law_law_631 (by decide) ?_
  refine lv_iadd (pc := 632) hx hb d_law_law_632 ?_
  refine k_cst (v := 2) (by decide) ?_
  refine va_sld (pc := 633) hx hb hX hbl hbA hS (by unfold vp_in; decide) d_law_law_633 ?_
  refine k_cst (v := v2) hv2 ?_
  refine k_goI (gr := [[(h, .inr (12, [.ref (q 0), .ref (q 1), .ref (q 2), .ref (q 3), .ref (q 4), .ref (q 5), .ref (q 6), .int 0, .int ((-1)), .ref (q 9), .ref (q 10), .int 0, .int 0, .ref (q 13), .int 0, .int 0, .null, .null, .null, .null, .null]))], [(h2, .inr (13, mF qm x0Mo y0Mo))]]) (k_rV (pc := 634) (As := [.int (nI j), .int v2]) (rest := []) X (c_Ho_same_z2 l D kA h j v2 hj hg2 hgM2 H.size) rfl wm_1026 wm_1 wm_1023 wm_1024 wm_1025 2 (by decide +kernel) ⟨Nat.le_of_ble_eq_true rfl, Nat.le_of_ble_eq_true rfl⟩ rfl rfl (va_recv hK hP (ci := 12) (q0 := 0) rfl rfl) (k_pre hN hK hP hD [] [0, 1] 2 rfl (by decide) rfl) rfl hl.1 rfl (Nat.le_of_ble_eq_true rfl) d_law_law_634 ⟨Nat.le_of_ble_eq_true rfl, Nat.le_of_ble_eq_true rfl⟩) hP hD hS hA [] [0, 1] 2 rfl (by decide) rfl rfl (fun r1 u2 H locs hu2 hP hD hS => ?_)
  obtain ⟨hP, hD⟩ := k_left hP hD
  subst hu2
  have hP : va_P D classes (cat [[(h, .inr (12, [.ref (q 0), .ref (q 1), .ref (q 2), .ref (q 3), .ref (q 4), .ref (q 5), .ref (q 6), .int 0, .int ((-1)), .ref (q 9), .ref (q 10), .int 0, .int 0, .ref (q 13), .int 0, .int 0, .null, .null, .null, .null, .null]))], [(h2, .inr (13, mF qm x0Mo y0Mo))]]) H := hP
  have hD : va_D A (cat [[(h, .inr (12, [.ref (q 0), .ref (q 1), .ref (q 2), .ref (q 3), .ref (q 4), .ref (q 5), .ref (q 6), .int 0, .int ((-1)), .ref (q 9), .ref (q 10), .int 0, .int 0, .ref (q 13), .int 0, .int 0, .null, .null, .null, .null, .null]))], [(h2, .inr (13, mF qm x0Mo y0Mo))]]) := hD
  refine lv_aload_n (pc := 637) hx hb d_law_law_637 rfl (lv_at hl 1 rfl) ?_
  refine lv_aload_n (pc := 638) hx hb d_law_law_638 rfl (lv_at hl 3 rfl) ?_
  refine lv_iload_n (pc := 639) hx hb d_law_law_639 rfl (lv_at hl 0 rfl) ?_
  refine lv_iconst (pc := 640) (v := 1) hx hb d_law_law_640 (by decide) ?_
  refine lv_iadd (pc := 641) hx hb d_law_law_641 ?_
  refine k_cst (v := 1) (by decide) ?_
  refine va_sld (pc := 642) hx hb hX hbl hbA hS (by unfold vp_in; decide) d_law_law_642 ?_
  refine k_cst (v := nI j) hv1 ?_
  refine lv_aload_n (pc := 643) hx hb d_law_law_643 rfl (lv_at hl 3 rfl) ?_
  refine lv_iload_n (pc := 644) hx hb d_law_law_644 rfl (lv_at hl 0 rfl) ?_
  refine lv_iconst (pc := 645) (v := 2) hx hb d_law_law_645 (by decide) ?_
  refine lv_iadd (pc := 646) hx hb d_law_law_646 ?_
  refine k_cst (v := 2) (by decide) ?_
  refine va_sld (pc := 647) hx hb hX hbl hbA hS (by unfold vp_in; decide) d_law_law_647 ?_
  refine k_cst (v := v2) hv2 ?_
  refine k_goI (gr := [[(h, .inr (12, [.ref (q 0), .ref (q 1), .ref (q 2), .ref (q 3), .ref (q 4), .ref (q 5), .ref (q 6), .int 0, .int ((-1)), .ref (q 9), .ref (q 10), .int 0, .int 0, .ref (q 13), .int 0, .int 0, .null, .null, .null, .null, .null]))], [(h2, .inr (13, mF qm x0Mo y0Mo))]]) (k_rV (pc := 648) (As := [.int (nI j), .int v2]) (rest := [.int ((-1))]) X (c_Mo_same_z2 l D kA h2 j v2 hj hg2 hgM2 H.size) rfl wm_3119 wm_9 wm_3116 wm_3117 wm_3118 2 (by decide +kernel) ⟨Nat.le_of_ble_eq_true rfl, Nat.le_of_ble_eq_true rfl⟩ rfl rfl (va_recv hK hP (ci := 13) (q0 := 1) rfl rfl) (k_pre hN hK hP hD [] [0, 1] 2 rfl (by decide) rfl) rfl hl.1 rfl (Nat.le_of_ble_eq_true rfl) d_law_law_648 ⟨Nat.le_of_ble_eq_true rfl, Nat.le_of_ble_eq_true rfl⟩) hP hD hS hA [] [0, 1] 2 rfl (by decide) rfl rfl (fun r3 u4 H locs hu4 hP hD hS => ?_)
  obtain ⟨hP, hD⟩ := k_left hP hD
  subst hu4
  have hP : va_P D classes (cat [[(h, .inr (12, [.ref (q 0), .ref (q 1), .ref (q 2), .ref (q 3), .ref (q 4), .ref (q 5), .ref (q 6), .int 0, .int ((-1)), .ref (q 9), .ref (q 10), .int 0, .int 0, .ref (q 13), .int 0, .int 0, .null, .null, .null, .null, .null]))], [(h2, .inr (13, mF qm x0Mo y0Mo))]]) H := hP
  have hD : va_D A (cat [[(h, .inr (12, [.ref (q 0), .ref (q 1), .ref (q 2), .ref (q 3), .ref (q 4), .ref (q 5), .ref (q 6), .int 0, .int ((-1)), .ref (q 9), .ref (q 10), .int 0, .int 0, .ref (q 13), .int 0, .int 0, .null, .null, .null, .null, .null]))], [(h2, .inr (13, mF qm x0Mo y0Mo))]]) := hD
  refine lv_icmp_eq (pc := 651) (tgt := 1295) hx hb d_law_law_651 (by decide) (fun _ => ?_) (fun c1 => absurd (by decide) c1)
  rw [hAe] at hS
  exact law_exit l C0 (Nat.le_of_ble_eq_true rfl) (Nat.le_of_ble_eq_true rfl) hS hl
set_option maxRecDepth 100000 in
set_option maxHeartbeats 4000000 in
/-- DrawingHouse.searchMap(LDrawingHouse$Graph;LDrawingHouse$Graph;[I)I -/
theorem c_Ho_searchMap_z1 (l : Launch) (D : va_G) (kA : Nat → ClassId) (a0 : Nat) (g : Nat → Nat → Nat) (j : Nat) (a1 : Nat) (a2 : Nat) (a3 : Nat) (a4 : Nat) (a5 : Nat) (a6 : Nat) (a7 : Nat) (a8 : Nat) (a9 : Nat) (a10 : Nat) (a11 : Nat) (a12 : Nat) (a13 : Nat) (a14 : Nat) (f0 : Nat → Int32) (hj : j < 4) : Ci l y_Ho_searchMap z_Ho_searchMap { frames := 1, cells := 0, slots := 0, locals := 23 } D classes (TY kA) [.ref a0, .ref (g 0 j), .ref (g 0 j), .ref a1] [[(g 0 j, .inr (3, [.int 0, .int 0, .int 1, .ref a2, .ref a3, .ref a4, .ref a5, .ref a6, .ref a7, .ref a8, .ref a9, .ref a10, .ref a11, .ref a12, .ref a13, .ref a14, .null, .int 0, .int 0]))], [(a1, .inl (kA 0, 24, .inl f0))]] (fun r (_ : Unit) => r = 1) (fun u => [[(g 0 j, .inr (3, [.int 0, .int 0, .int 1, .ref a2, .ref a3, .ref a4, .ref a5, .ref a6, .ref a7, .ref a8, .ref a9, .ref a10, .ref a11, .ref a12, .ref a13, .ref a14, .null, .int 0, .int 0]))], [(a1, .inl (kA 0, 24, .inl (fl f0 24 (-1))))]]) 0 0 := by
  intro sz
  refine k_met (cc := b_Ho_searchMap) (maxL := 9) (ret := (some .int)) (by decide) rfl (Nat.le_of_ble_eq_true rfl) (fun p e s m below meth c ls X hl hB => ?_)
  obtain ⟨hsz, hP, hK, hD0, hN⟩ := hB
  subst hsz
  have hD := hD0.self (sz := s.heap.size)
  generalize hAe : va_A (cat [[(g 0 j, .inr (3, [.int 0, .int 0, .int 1, .ref a2, .ref a3, .ref a4, .ref a5, .ref a6, .ref a7, .ref a8, .ref a9, .ref a10, .ref a11, .ref a12, .ref a13, .ref a14, .null, .int 0, .int 0]))], [(a1, .inl (kA 0, 24, .inl f0))]]) s.heap.size = A at hD ⊢
  have hA : ∀ q : Nat, s.heap.size ≤ q → A q := fun q h => by rw [← hAe]; exact Or.inr h
  have hS : va_S A s.heap s.heap [] := va_S.rf
  obtain ⟨hx, hb, hml, hown, hts, hr, hlk, hnm⟩ := id X
  have hl : lv_has ls 9 [(0, .ref a0), (1, .ref (g 0 j)), (2, .ref (g 0 j)), (3, .ref a1)] := hl
  have hP : va_P D classes (cat [[(g 0 j, .inr (3, [.int 0, .int 0, .int 1, .ref a2, .ref a3, .ref a4, .ref a5, .ref a6, .ref a7, .ref a8, .ref a9, .ref a10, .ref a11, .ref a12, .ref a13, .ref a14, .null, .int 0, .int 0]))], [(a1, .inl (kA 0, 24, .inl f0))]]) s.heap := hP
  have hK : va_K D classes (TY kA) s := hK
  refine lv_aload_n (pc := 0) hx hb d_Ho_searchMap_0 rfl (lv_at hl 1 rfl) ?_
  refine k_get (pc := 1) X hK hP 0 rfl rfl i_Gr 0 (by decide) wm_62 rfl rfl d_Ho_searchMap_1 ?_
  refine lv_istore (pc := 4) (lv' := [(4, .int 0), (0, .ref a0), (1, .ref (g 0 j)), (2, .ref (g 0 j)), (3, .ref a1)]) hx hb d_Ho_searchMap_4 hl (by decide) rfl (fun ls hl => ?_)
  refine lv_iconst (pc := 6) (v := 0) hx hb d_Ho_searchMap_6 (by decide) ?_
  refine lv_istore (pc := 7) (lv' := [(5, .int 0), (4, .int 0), (0, .ref a0), (1, .ref (g 0 j)), (2, .ref (g 0 j)), (3, .ref a1)]) hx hb d_Ho_searchMap_7 hl (by decide) rfl (fun ls hl => ?_)
  refine lv_iconst (pc := 9) (v := 0) hx hb d_Ho_searchMap_9 (by decide) ?_
  refine lv_istore (pc := 10) (lv' := [(6, .int 0), (5, .int 0), (4, .int 0), (0, .ref a0), (1, .ref (g 0 j)), (2, .ref (g 0 j)), (3, .ref a1)]) hx hb d_Ho_searchMap_10 hl (by decide) rfl (fun ls hl => ?_)
  refine lv_aload_n (pc := 12) hx hb d_Ho_searchMap_12 rfl (lv_at hl 6 rfl) ?_
  refine lv_iconst (pc := 13) (v := -1) hx hb d_Ho_searchMap_13 (by decide) ?_
  refine k_goV (gr := [[(g 0 j, .inr (3, [.int 0, .int 0, .int 1, .ref a2, .ref a3, .ref a4, .ref a5, .ref a6, .ref a7, .ref a8, .ref a9, .ref a10, .ref a11, .ref a12, .ref a13, .ref a14, .null, .int 0, .int 0]))]]) (k_rS (pc := 14) (As := [.ref a1, .int ((-1))]) (rest := []) X (c_fillI l D (TY kA) 0 (kA 0) rfl a1 24 (by decide) f0 (-1) s.heap.size) rfl wm_55 wm_4 wm_1031 wm_54 2 (by decide +kernel) ⟨Nat.le_of_ble_eq_true rfl, Nat.le_of_ble_eq_true rfl⟩ rfl rfl (k_pre hN hK hP hD [1] [0] 2 rfl (by decide) rfl) rfl hl.1 rfl (Nat.le_of_ble_eq_true rfl) d_Ho_searchMap_14 ⟨Nat.le_of_ble_eq_true rfl, Nat.le_of_ble_eq_true rfl⟩) hP hD hS hA [1] [0] 2 rfl (by decide) rfl rfl (fun u1 H locs hu1 hP hD hS => ?_)
  have hP : va_P D classes (cat [[(g 0 j, .inr (3, [.int 0, .int 0, .int 1, .ref a2, .ref a3, .ref a4, .ref a5, .ref a6, .ref a7, .ref a8, .ref a9, .ref a10, .ref a11, .ref a12, .ref a13, .ref a14, .null, .int 0, .int 0]))], [(a1, .inl (kA 0, 24, .inl (fl f0 24 (-1))))]]) H := hP
  have hD : va_D A (cat [[(g 0 j, .inr (3, [.int 0, .int 0, .int 1, .ref a2, .ref a3, .ref a4, .ref a5, .ref a6, .ref a7, .ref a8, .ref a9, .ref a10, .ref a11, .ref a12, .ref a13, .ref a14, .null, .int 0, .int 0]))], [(a1, .inl (kA 0, 24, .inl (fl f0 24 (-1))))]]) := hD
  refine lv_iconst (pc := 17) (v := 0) hx hb d_Ho_searchMap_17 (by decide) ?_
  refine lv_istore (pc := 18) (lv' := [(7, .int 0), (6, .int 0), (5, .int 0), (4, .int 0), (0, .ref a0), (1, .ref (g 0 j)), (2, .ref (g 0 j)), (3, .ref a1)]) hx hb d_Ho_searchMap_18 hl (by decide) rfl (fun ls hl => ?_)
  refine lv_iload (pc := 20) hx hb d_Ho_searchMap_20 (lv_at hl 0 rfl) ?_
  refine lv_ldcw (pc := 22) (v := 60000) hx hb hown (hts _ wm_1032) d_Ho_searchMap_22 ?_
  refine lv_icmp_ge (pc := 25) (tgt := 168) hx hb d_Ho_searchMap_25 (by decide) (fun c1 => absurd c1 (by decide)) (fun _ => ?_)
  refine lv_iload (pc := 28) hx hb d_Ho_searchMap_28 (lv_at hl 1 rfl) ?_
  refine lv_if_lt (pc := 30) (tgt := 168) hx hb d_Ho_searchMap_30 (by decide) (fun c1 => absurd c1 (by decide)) (fun c1 => ?_)
  refine lv_iload (pc := 33) hx hb d_Ho_searchMap_33 (lv_at hl 1 rfl) ?_
  refine lv_iload (pc := 35) hx hb d_Ho_searchMap_35 (lv_at hl 3 rfl) ?_
  refine lv_icmp_ge (pc := 37) (tgt := 168) hx hb d_Ho_searchMap_37 (by decide) (fun _ => ?_) (fun c1 => absurd (by decide) c1)
  refine lv_iload (pc := 168) hx hb d_Ho_searchMap_168 (lv_at hl 1 rfl) ?_
  refine lv_iload (pc := 170) hx hb d_Ho_searchMap_170 (lv_at hl 3 rfl) ?_
  refine lv_icmp_ne (pc := 172) (tgt := 179) hx hb d_Ho_searchMap_172 (by decide) (fun c1 => absurd (by decide) c1) (fun _ => ?_)
  refine lv_iconst (pc := 175) (v := 1) hx hb d_Ho_searchMap_175 (by decide) ?_
  refine lv_goto (pc := 176) (tgt := 180) hx hb d_Ho_searchMap_176 (by decide) ?_
  refine W.widen (k := 0) (n := 0) (Nat.le_of_ble_eq_true rfl) (Nat.le_of_ble_eq_true rfl) ?_
  exact W.iret (v := 1) hx hb hr (fun t ht hW => ⟨⟨1, (), rfl, rfl, by rw [ht]; exact hP, va_K.moved hW.alike hK, hD⟩, hS.F ht⟩) hS.2.2 d_Ho_searchMap_180
set_option maxRecDepth 100000 in
set_option maxHeartbeats 4000000 in
/-- DrawingHouse.same(II)I -/
theorem c_Ho_same_z3 (l : Launch) (D : va_G) (kA : Nat → ClassId) (a0 : Nat) (j : Nat) (a1 : Nat) (a2 : Nat) (a3 : Nat) (a4 : Nat) (a5 : Nat) (a6 : Nat) (a7 : Nat) (a8 : Nat) (a9 : Nat) (a10 : Nat) (g : Nat → Nat → Nat) (a11 : Nat) (a12 : Nat) (a13 : Nat) (a14 : Nat) (a15 : Nat) (a16 : Nat) (a17 : Nat) (a18 : Nat) (a19 : Nat) (a20 : Nat) (a21 : Nat) (a22 : Nat) (a23 : Nat) (f0 : Nat → Int32) (hj : j < 4) : Ci l y_Ho_same z_Ho_same { frames := 2, cells := 1, slots := 24, locals := 51 } D classes (TY kA) [.ref a0, .int (nI j), .int (nI j)] [[(a0, .inr (12, [.ref a1, .ref a2, .ref a3, .ref a4, .ref a5, .ref a6, .ref a7, .int 0, .int ((-1)), .ref a8, .ref a9, .int 0, .int 0, .ref a10, .int 0, .int 0, .null, .null, .null, .null, .null]))], [(a1, .inl (kA 4, 4, .inr (.inr (.inr (.inr (rr (g 0)))))))], [(g 0 j, .inr (3, [.int 0, .int 0, .int 1, .ref a11, .ref a12, .ref a13, .ref a14, .ref a15, .ref a16, .ref a17, .ref a18, .ref a19, .ref a20, .ref a21, .ref a22, .ref a23, .null, .int 0, .int 0]))], [(a7, .inl (kA 0, 24, .inl f0))]] (fun r (_ : List va_W) => r = 1) (fun u => u) 1 24 := by
  intro sz
  refine k_met (cc := b_Ho_same) (maxL := 7) (ret := (some .int)) (by decide) rfl (Nat.le_of_ble_eq_true rfl) (fun p e s m below meth c ls X hl hB => ?_)
  obtain ⟨hsz, hP, hK, hD0, hN⟩ := hB
  subst hsz
  have hD := hD0.self (sz := s.heap.size)
  generalize hAe : va_A (cat [[(a0, .inr (12, [.ref a1, .ref a2, .ref a3, .ref a4, .ref a5, .ref a6, .ref a7, .int 0, .int ((-1)), .ref a8, .ref a9, .int 0, .int 0, .ref a10, .int 0, .int 0, .null, .null, .null, .null, .null]))], [(a1, .inl (kA 4, 4, .inr (.inr (.inr (.inr (rr (g 0)))))))], [(g 0 j, .inr (3, [.int 0, .int 0, .int 1, .ref a11, .ref a12, .ref a13, .ref a14, .ref a15, .ref a16, .ref a17, .ref a18, .ref a19, .ref a20, .ref a21, .ref a22, .ref a23, .null, .int 0, .int 0]))], [(a7, .inl (kA 0, 24, .inl f0))]]) s.heap.size = A at hD ⊢
  have hA : ∀ q : Nat, s.heap.size ≤ q → A q := fun q h => by rw [← hAe]; exact Or.inr h
  have hS : va_S A s.heap s.heap [] := va_S.rf
  obtain ⟨hx, hb, hml, hown, hts, hr, hlk, hnm⟩ := id X
  have hl : lv_has ls 7 [(0, .ref a0), (1, .int (nI j)), (2, .int (nI j))] := hl
  have hP : va_P D classes (cat [[(a0, .inr (12, [.ref a1, .ref a2, .ref a3, .ref a4, .ref a5, .ref a6, .ref a7, .int 0, .int ((-1)), .ref a8, .ref a9, .int 0, .int 0, .ref a10, .int 0, .int 0, .null, .null, .null, .null, .null]))], [(a1, .inl (kA 4, 4, .inr (.inr (.inr (.inr (rr (g 0)))))))], [(g 0 j, .inr (3, [.int 0, .int 0, .int 1, .ref a11, .ref a12, .ref a13, .ref a14, .ref a15, .ref a16, .ref a17, .ref a18, .ref a19, .ref a20, .ref a21, .ref a22, .ref a23, .null, .int 0, .int 0]))], [(a7, .inl (kA 0, 24, .inl f0))]]) s.heap := hP
  have hK : va_K D classes (TY kA) s := hK
  refine lv_iload_n (pc := 0) hx hb d_Ho_same_0 rfl (lv_at hl 1 rfl) ?_
  refine k_goI (gr := [[(a0, .inr (12, [.ref a1, .ref a2, .ref a3, .ref a4, .ref a5, .ref a6, .ref a7, .int 0, .int ((-1)), .ref a8, .ref a9, .int 0, .int 0, .ref a10, .int 0, .int 0, .null, .null, .null, .null, .null]))], [(a1, .inl (kA 4, 4, .inr (.inr (.inr (.inr (rr (g 0)))))))], [(g 0 j, .inr (3, [.int 0, .int 0, .int 1, .ref a11, .ref a12, .ref a13, .ref a14, .ref a15, .ref a16, .ref a17, .ref a18, .ref a19, .ref a20, .ref a21, .ref a22, .ref a23, .null, .int 0, .int 0]))], [(a7, .inl (kA 0, 24, .inl f0))]]) (k_rS (pc := 1) (As := [.int (nI j)]) (rest := []) X (c_Ho_isPlace l D kA (nI j) s.heap.size) rfl wm_633 wm_1 wm_631 wm_632 1 (by decide +kernel) ⟨Nat.le_of_ble_eq_true rfl, Nat.le_of_ble_eq_true rfl⟩ rfl rfl (k_pre hN hK hP hD [] [0, 1, 2, 3] 4 rfl (by decide) rfl) rfl hl.1 rfl (Nat.le_of_ble_eq_true rfl) d_Ho_same_1 ⟨Nat.le_of_ble_eq_true rfl, Nat.le_of_ble_eq_true rfl⟩) hP hD hS hA [] [0, 1, 2, 3] 4 rfl (by decide) rfl rfl (fun r1 u2 H locs hu2 hP hD hS => ?_)
  subst hu2
  refine k_cst (v := 1) (place_ok hj) ?_
  have hP : va_P D classes (cat [[(a0, .inr (12, [.ref a1, .ref a2, .ref a3, .ref a4, .ref a5, .ref a6, .ref a7, .int 0, .int ((-1)), .ref a8, .ref a9, .int 0, .int 0, .ref a10, .int 0, .int 0, .null, .null, .null, .null, .null]))], [(a1, .inl (kA 4, 4, .inr (.inr (.inr (.inr (rr (g 0)))))))], [(g 0 j, .inr (3, [.int 0, .int 0, .int 1, .ref a11, .ref a12, .ref a13, .ref a14, .ref a15, .ref a16, .ref a17, .ref a18, .ref a19, .ref a20, .ref a21, .ref a22, .ref a23, .null, .int 0, .int 0]))], [(a7, .inl (kA 0, 24, .inl f0))]]) H := hP
  have hD : va_D A (cat [[(a0, .inr (12, [.ref a1, .ref a2, .ref a3, .ref a4, .ref a5, .ref a6, .ref a7, .int 0, .int ((-1)), .ref a8, .ref a9, .int 0, .int 0, .ref a10, .int 0, .int 0, .null, .null, .null, .null, .null]))], [(a1, .inl (kA 4, 4, .inr (.inr (.inr (.inr (rr (g 0)))))))], [(g 0 j, .inr (3, [.int 0, .int 0, .int 1, .ref a11, .ref a12, .ref a13, .ref a14, .ref a15, .ref a16, .ref a17, .ref a18, .ref a19, .ref a20, .ref a21, .ref a22, .ref a23, .null, .int 0, .int 0]))], [(a7, .inl (kA 0, 24, .inl f0))]]) := hD
  refine lv_if_eq (pc := 4) (tgt := 14) hx hb d_Ho_same_4 (by decide) (fun c1 => absurd c1 (by decide)) (fun c1 => ?_)
  refine lv_iload_n (pc := 7) hx hb d_Ho_same_7 rfl (lv_at hl 2 rfl) ?_
  refine k_goI (gr := [[(a0, .inr (12, [.ref a1, .ref a2, .ref a3, .ref a4, .ref a5, .ref a6, .ref a7, .int 0, .int ((-1)), .ref a8, .ref a9, .int 0, .int 0, .ref a10, .int 0, .int 0, .null, .null, .null, .null, .null]))], [(a1, .inl (kA 4, 4, .inr (.inr (.inr (.inr (rr (g 0)))))))], [(g 0 j, .inr (3, [.int 0, .int 0, .int 1, .ref a11, .ref a12, .ref a13, .ref a14, .ref a15, .ref a16, .ref a17, .ref a18, .ref a19, .ref a20, .ref a21, .ref a22, .ref a23, .null, .int 0, .int 0]))], [(a7, .inl (kA 0, 24, .inl f0))]]) (k_rS (pc := 8) (As := [.int (nI j)]) (rest := []) X (c_Ho_isPlace l D kA (nI j) H.size) rfl wm_633 wm_1 wm_631 wm_632 1 (by decide +kernel) ⟨Nat.le_of_ble_eq_true rfl, Nat.le_of_ble_eq_true rfl⟩ rfl rfl (k_pre hN hK hP hD [] [0, 1, 2, 3] 4 rfl (by decide) rfl) rfl hl.1 rfl (Nat.le_of_ble_eq_true rfl) d_Ho_same_8 ⟨Nat.le_of_ble_eq_true rfl, Nat.le_of_ble_eq_true rfl⟩) hP hD hS hA [] [0, 1, 2, 3] 4 rfl (by decide) rfl rfl (fun r3 u4 H locs hu4 hP hD hS => ?_)
  subst hu4
  refine k_cst (v := 1) (place_ok hj) ?_
  have hP : va_P D classes (cat [[(a0, .inr (12, [.ref a1, .ref a2, .ref a3, .ref a4, .ref a5, .ref a6, .ref a7, .int 0, .int ((-1)), .ref a8, .ref a9, .int 0, .int 0, .ref a10, .int 0, .int 0, .null, .null, .null, .null, .null]))], [(a1, .inl (kA 4, 4, .inr (.inr (.inr (.inr (rr (g 0)))))))], [(g 0 j, .inr (3, [.int 0, .int 0, .int 1, .ref a11, .ref a12, .ref a13, .ref a14, .ref a15, .ref a16, .ref a17, .ref a18, .ref a19, .ref a20, .ref a21, .ref a22, .ref a23, .null, .int 0, .int 0]))], [(a7, .inl (kA 0, 24, .inl f0))]]) H := hP
  have hD : va_D A (cat [[(a0, .inr (12, [.ref a1, .ref a2, .ref a3, .ref a4, .ref a5, .ref a6, .ref a7, .int 0, .int ((-1)), .ref a8, .ref a9, .int 0, .int 0, .ref a10, .int 0, .int 0, .null, .null, .null, .null, .null]))], [(a1, .inl (kA 4, 4, .inr (.inr (.inr (.inr (rr (g 0)))))))], [(g 0 j, .inr (3, [.int 0, .int 0, .int 1, .ref a11, .ref a12, .ref a13, .ref a14, .ref a15, .ref a16, .ref a17, .ref a18, .ref a19, .ref a20, .ref a21, .ref a22, .ref a23, .null, .int 0, .int 0]))], [(a7, .inl (kA 0, 24, .inl f0))]]) := hD
  refine lv_if_ne (pc := 11) (tgt := 16) hx hb d_Ho_same_11 (by decide) (fun c1 => ?_) (fun c1 => absurd c1 (by decide))
  refine lv_aload_n (pc := 16) hx hb d_Ho_same_16 rfl (lv_at hl 0 rfl) ?_
  refine lv_iconst (pc := 17) (v := 0) hx hb d_Ho_same_17 (by decide) ?_
  refine k_put (pc := 18) X hK hP hD hS 0 rfl rfl i_Ho t_Ho t_Ho_ok n_Ho 8 (by decide) wm_563 rfl (Or.inl rfl) rfl rfl (Nat.le_of_ble_eq_true rfl) d_Ho_same_18 (fun H locs hP hD hS => ?_)
  have hP : va_P D classes (cat [[(a0, .inr (12, [.ref a1, .ref a2, .ref a3, .ref a4, .ref a5, .ref a6, .ref a7, .int 0, .int 0, .ref a8, .ref a9, .int 0, .int 0, .ref a10, .int 0, .int 0, .null, .null, .null, .null, .null]))], [(a1, .inl (kA 4, 4, .inr (.inr (.inr (.inr (rr (g 0)))))))], [(g 0 j, .inr (3, [.int 0, .int 0, .int 1, .ref a11, .ref a12, .ref a13, .ref a14, .ref a15, .ref a16, .ref a17, .ref a18, .ref a19, .ref a20, .ref a21, .ref a22, .ref a23, .null, .int 0, .int 0]))], [(a7, .inl (kA 0, 24, .inl f0))]]) H := hP
  have hD : va_D A (cat [[(a0, .inr (12, [.ref a1, .ref a2, .ref a3, .ref a4, .ref a5, .ref a6, .ref a7, .int 0, .int 0, .ref a8, .ref a9, .int 0, .int 0, .ref a10, .int 0, .int 0, .null, .null, .null, .null, .null]))], [(a1, .inl (kA 4, 4, .inr (.inr (.inr (.inr (rr (g 0)))))))], [(g 0 j, .inr (3, [.int 0, .int 0, .int 1, .ref a11, .ref a12, .ref a13, .ref a14, .ref a15, .ref a16, .ref a17, .ref a18, .ref a19, .ref a20, .ref a21, .ref a22, .ref a23, .null, .int 0, .int 0]))], [(a7, .inl (kA 0, 24, .inl f0))]]) := hD
  refine lv_aload_n (pc := 21) hx hb d_Ho_same_21 rfl (lv_at hl 0 rfl) ?_
  refine k_get (pc := 22) X hK hP 0 rfl rfl i_Ho 0 (by decide) wm_555 rfl rfl d_Ho_same_22 ?_
  refine lv_iload_n (pc := 25) hx hb d_Ho_same_25 rfl (lv_at hl 1 rfl) ?_
  refine k_ald (pc := 26) hx hb hK hP 1 4 rfl rfl (j) rfl (by omega) (by decide) (rr_at (by omega)) d_Ho_same_26 ?_
  refine lv_astore_n (pc := 27) (lv' := [(3, .ref (g 0 j)), (0, .ref a0), (1, .int (nI j)), (2, .int (nI j))]) hx hb d_Ho_same_27 rfl hl (by decide) rfl (fun ls hl => ?_)
  refine lv_aload_n (pc := 28) hx hb d_Ho_same_28 rfl (lv_at hl 1 rfl) ?_
  refine k_get (pc := 29) X hK hP 0 rfl rfl i_Ho 0 (by decide) wm_555 rfl rfl d_Ho_same_29 ?_
  refine lv_iload_n (pc := 32) hx hb d_Ho_same_32 rfl (lv_at hl 3 rfl) ?_
  refine k_ald (pc := 33) hx hb hK hP 1 4 rfl rfl (j) rfl (by omega) (by decide) (rr_at (by omega)) d_Ho_same_33 ?_
  refine lv_astore (pc := 34) (lv' := [(4, .ref (g 0 j)), (3, .ref (g 0 j)), (0, .ref a0), (1, .int (nI j)), (2, .int (nI j))]) hx hb d_Ho_same_34 hl (by decide) rfl (fun ls hl => ?_)
  refine lv_aload_n (pc := 36) hx hb d_Ho_same_36 rfl (lv_at hl 1 rfl) ?_
  refine k_get (pc := 37) X hK hP 2 rfl rfl i_Gr 0 (by decide) wm_62 rfl rfl d_Ho_same_37 ?_
  refine lv_aload (pc := 40) hx hb d_Ho_same_40 (lv_at hl 0 rfl) ?_
  refine k_get (pc := 42) X hK hP 2 rfl rfl i_Gr 0 (by decide) wm_62 rfl rfl d_Ho_same_42 ?_
  refine lv_icmp_ne (pc := 45) (tgt := 60) hx hb d_Ho_same_45 (by decide) (fun c1 => absurd (by decide) c1) (fun _ => ?_)
  refine lv_aload_n (pc := 48) hx hb d_Ho_same_48 rfl (lv_at hl 1 rfl) ?_
  refine k_get (pc := 49) X hK hP 2 rfl rfl i_Gr 1 (by decide) wm_73 rfl rfl d_Ho_same_49 ?_
  refine lv_aload (pc := 52) hx hb d_Ho_same_52 (lv_at hl 0 rfl) ?_
  refine k_get (pc := 54) X hK hP 2 rfl rfl i_Gr 1 (by decide) wm_73 rfl rfl d_Ho_same_54 ?_
  refine lv_icmp_eq (pc := 57) (tgt := 62) hx hb d_Ho_same_57 (by decide) (fun _ => ?_) (fun c1 => absurd (by decide) c1)
  refine lv_bipush (pc := 62) (v := 24) hx hb d_Ho_same_62 (by decide) ?_
  refine k_newa (pc := 64) (atype := .int) X (ty := .int) (a0 := (24, .inl (fun _ => 0))) rfl rfl wm_193 hK hP hD hS hA 0 rfl (fun _ => rfl) (by decide) rfl (by decide) (Nat.le_of_ble_eq_true rfl) (Nat.le_of_ble_eq_true rfl) d_Ho_same_64 (fun q5 H hP hD hS => ?_)
  have hP : va_P D classes (cat [[(a0, .inr (12, [.ref a1, .ref a2, .ref a3, .ref a4, .ref a5, .ref a6, .ref a7, .int 0, .int 0, .ref a8, .ref a9, .int 0, .int 0, .ref a10, .int 0, .int 0, .null, .null, .null, .null, .null]))], [(a1, .inl (kA 4, 4, .inr (.inr (.inr (.inr (rr (g 0)))))))], [(g 0 j, .inr (3, [.int 0, .int 0, .int 1, .ref a11, .ref a12, .ref a13, .ref a14, .ref a15, .ref a16, .ref a17, .ref a18, .ref a19, .ref a20, .ref a21, .ref a22, .ref a23, .null, .int 0, .int 0]))], [(a7, .inl (kA 0, 24, .inl f0))], [(q5, .inl (kA 0, 24, .inl (fun _ => 0)))]]) H := hP
  have hD : va_D A (cat [[(a0, .inr (12, [.ref a1, .ref a2, .ref a3, .ref a4, .ref a5, .ref a6, .ref a7, .int 0, .int 0, .ref a8, .ref a9, .int 0, .int 0, .ref a10, .int 0, .int 0, .null, .null, .null, .null, .null]))], [(a1, .inl (kA 4, 4, .inr (.inr (.inr (.inr (rr (g 0)))))))], [(g 0 j, .inr (3, [.int 0, .int 0, .int 1, .ref a11, .ref a12, .ref a13, .ref a14, .ref a15, .ref a16, .ref a17, .ref a18, .ref a19, .ref a20, .ref a21, .ref a22, .ref a23, .null, .int 0, .int 0]))], [(a7, .inl (kA 0, 24, .inl f0))], [(q5, .inl (kA 0, 24, .inl (fun _ => 0)))]]) := hD
  refine W.widen (k := 1) (n := 24) (by omega) (by omega) ?_
  refine lv_astore (pc := 66) (lv' := [(5, .ref q5), (4, .ref (g 0 j)), (3, .ref (g 0 j)), (0, .ref a0), (1, .int (nI j)), (2, .int (nI j))]) hx hb d_Ho_same_66 hl (by decide) rfl (fun ls hl => ?_)
  refine lv_aload_n (pc := 68) hx hb d_Ho_same_68 rfl (lv_at hl 3 rfl) ?_
  refine lv_aload_n (pc := 69) hx hb d_Ho_same_69 rfl (lv_at hl 2 rfl) ?_
  refine lv_aload (pc := 70) hx hb d_Ho_same_70 (lv_at hl 1 rfl) ?_
  refine lv_aload (pc := 72) hx hb d_Ho_same_72 (lv_at hl 0 rfl) ?_
  refine k_goI (gr := [[(a0, .inr (12, [.ref a1, .ref a2, .ref a3, .ref a4, .ref a5, .ref a6, .ref a7, .int 0, .int 0, .ref a8, .ref a9, .int 0, .int 0, .ref a10, .int 0, .int 0, .null, .null, .null, .null, .null]))], [(a1, .inl (kA 4, 4, .inr (.inr (.inr (.inr (rr (g 0)))))))], [(a7, .inl (kA 0, 24, .inl f0))]]) (k_rV (pc := 74) (As := [.ref (g 0 j), .ref (g 0 j), .ref q5]) (rest := []) X (c_Ho_searchMap_z1 l D kA a0 g j q5 a11 a12 a13 a14 a15 a16 a17 a18 a19 a20 a21 a22 a23 (fun _ => 0) hj H.size) rfl wm_1030 wm_1 wm_1027 wm_1029 wv_3_5 3 (by decide +kernel) ⟨Nat.le_of_ble_eq_true rfl, Nat.le_of_ble_eq_true rfl⟩ rfl rfl (va_recv hK hP (ci := 12) (q0 := 0) rfl rfl) (k_pre hN hK hP hD [2, 4] [0, 1, 3] 5 rfl (by decide) rfl) rfl hl.1 rfl (Nat.le_of_ble_eq_true rfl) d_Ho_same_74 ⟨Nat.le_of_ble_eq_true rfl, Nat.le_of_ble_eq_true rfl⟩) hP hD hS hA [2, 4] [0, 1, 3] 5 rfl (by decide) rfl rfl (fun r6 u7 H locs hu7 hP hD hS => ?_)
  subst hu7
  have hP : va_P D classes (cat [[(a0, .inr (12, [.ref a1, .ref a2, .ref a3, .ref a4, .ref a5, .ref a6, .ref a7, .int 0, .int 0, .ref a8, .ref a9, .int 0, .int 0, .ref a10, .int 0, .int 0, .null, .null, .null, .null, .null]))], [(a1, .inl (kA 4, 4, .inr (.inr (.inr (.inr (rr (g 0)))))))], [(a7, .inl (kA 0, 24, .inl f0))], [(g 0 j, .inr (3, [.int 0, .int 0, .int 1, .ref a11, .ref a12, .ref a13, .ref a14, .ref a15, .ref a16, .ref a17, .ref a18, .ref a19, .ref a20, .ref a21, .ref a22, .ref a23, .null, .int 0, .int 0]))], [(q5, .inl (kA 0, 24, .inl (fl (fun _ => 0) 24 (-1))))]]) H := hP
  have hD : va_D A (cat [[(a0, .inr (12, [.ref a1, .ref a2, .ref a3, .ref a4, .ref a5, .ref a6, .ref a7, .int 0, .int 0, .ref a8, .ref a9, .int 0, .int 0, .ref a10, .int 0, .int 0, .null, .null, .null, .null, .null]))], [(a1, .inl (kA 4, 4, .inr (.inr (.inr (.inr (rr (g 0)))))))], [(a7, .inl (kA 0, 24, .inl f0))], [(g 0 j, .inr (3, [.int 0, .int 0, .int 1, .ref a11, .ref a12, .ref a13, .ref a14, .ref a15, .ref a16, .ref a17, .ref a18, .ref a19, .ref a20, .ref a21, .ref a22, .ref a23, .null, .int 0, .int 0]))], [(q5, .inl (kA 0, 24, .inl (fl (fun _ => 0) 24 (-1))))]]) := hD
  refine lv_istore (pc := 77) (lv' := [(6, .int 1), (5, .ref q5), (4, .ref (g 0 j)), (3, .ref (g 0 j)), (0, .ref a0), (1, .int (nI j)), (2, .int (nI j))]) hx hb d_Ho_same_77 hl (by decide) rfl (fun ls hl => ?_)
  refine lv_iload (pc := 79) hx hb d_Ho_same_79 (lv_at hl 0 rfl) ?_
  refine lv_iconst (pc := 81) (v := 1) hx hb d_Ho_same_81 (by decide) ?_
  refine lv_icmp_ne (pc := 82) (tgt := 108) hx hb d_Ho_same_82 (by decide) (fun c1 => absurd (by decide) c1) (fun _ => ?_)
  refine lv_aload_n (pc := 85) hx hb d_Ho_same_85 rfl (lv_at hl 4 rfl) ?_
  refine lv_aload_n (pc := 86) hx hb d_Ho_same_86 rfl (lv_at hl 3 rfl) ?_
  refine k_get (pc := 87) X hK hP 3 rfl rfl i_Gr 0 (by decide) wm_62 rfl rfl d_Ho_same_87 ?_
  refine k_put (pc := 90) X hK hP hD hS 0 rfl rfl i_Ho t_Ho t_Ho_ok n_Ho 7 (by decide) wm_562 rfl (Or.inl rfl) rfl rfl (Nat.le_of_ble_eq_true rfl) d_Ho_same_90 (fun H locs hP hD hS => ?_)
  have hP : va_P D classes (cat [[(a0, .inr (12, [.ref a1, .ref a2, .ref a3, .ref a4, .ref a5, .ref a6, .ref a7, .int 0, .int 0, .ref a8, .ref a9, .int 0, .int 0, .ref a10, .int 0, .int 0, .null, .null, .null, .null, .null]))], [(a1, .inl (kA 4, 4, .inr (.inr (.inr (.inr (rr (g 0)))))))], [(a7, .inl (kA 0, 24, .inl f0))], [(g 0 j, .inr (3, [.int 0, .int 0, .int 1, .ref a11, .ref a12, .ref a13, .ref a14, .ref a15, .ref a16, .ref a17, .ref a18, .ref a19, .ref a20, .ref a21, .ref a22, .ref a23, .null, .int 0, .int 0]))], [(q5, .inl (kA 0, 24, .inl (fl (fun _ => 0) 24 (-1))))]]) H := hP
  have hD : va_D A (cat [[(a0, .inr (12, [.ref a1, .ref a2, .ref a3, .ref a4, .ref a5, .ref a6, .ref a7, .int 0, .int 0, .ref a8, .ref a9, .int 0, .int 0, .ref a10, .int 0, .int 0, .null, .null, .null, .null, .null]))], [(a1, .inl (kA 4, 4, .inr (.inr (.inr (.inr (rr (g 0)))))))], [(a7, .inl (kA 0, 24, .inl f0))], [(g 0 j, .inr (3, [.int 0, .int 0, .int 1, .ref a11, .ref a12, .ref a13, .ref a14, .ref a15, .ref a16, .ref a17, .ref a18, .ref a19, .ref a20, .ref a21, .ref a22, .ref a23, .null, .int 0, .int 0]))], [(q5, .inl (kA 0, 24, .inl (fl (fun _ => 0) 24 (-1))))]]) := hD
  refine lv_aload (pc := 93) hx hb d_Ho_same_93 (lv_at hl 1 rfl) ?_
  refine lv_iconst (pc := 95) (v := 0) hx hb d_Ho_same_95 (by decide) ?_
  refine lv_aload_n (pc := 96) hx hb d_Ho_same_96 rfl (lv_at hl 4 rfl) ?_
  refine k_get (pc := 97) X hK hP 0 rfl rfl i_Ho 6 (by decide) wm_561 rfl rfl d_Ho_same_97 ?_
  refine lv_iconst (pc := 100) (v := 0) hx hb d_Ho_same_100 (by decide) ?_
  refine lv_aload_n (pc := 101) hx hb d_Ho_same_101 rfl (lv_at hl 3 rfl) ?_
  refine k_get (pc := 102) X hK hP 3 rfl rfl i_Gr 0 (by decide) wm_62 rfl rfl d_Ho_same_102 ?_
  refine k_cpy (pc := 105) hx hb (hml.trans hl.1.symm) hown (hts _ wm_1040) (hts _ wm_750) (hts _ wm_749) (hts _ wm_15) hK hP hD hS 4 2 0 0 rfl rfl rfl rfl rfl 0 0 0 (by decide) (by decide) (by decide) (by decide) (by decide) (by decide) (Nat.le_of_ble_eq_true rfl) (Nat.le_of_ble_eq_true rfl) (fun i hi => rfl) (Nat.le_of_ble_eq_true rfl) (ac_room (Nat.le_of_ble_eq_true rfl)) d_Ho_same_105 (fun H locs hP hD hS => ?_)
  have hP : va_P D classes (cat [[(a0, .inr (12, [.ref a1, .ref a2, .ref a3, .ref a4, .ref a5, .ref a6, .ref a7, .int 0, .int 0, .ref a8, .ref a9, .int 0, .int 0, .ref a10, .int 0, .int 0, .null, .null, .null, .null, .null]))], [(a1, .inl (kA 4, 4, .inr (.inr (.inr (.inr (rr (g 0)))))))], [(a7, .inl (kA 0, 24, .inl (va_cpy (fl (fun _ => 0) 24 (-1)) f0 0 0 0)))], [(g 0 j, .inr (3, [.int 0, .int 0, .int 1, .ref a11, .ref a12, .ref a13, .ref a14, .ref a15, .ref a16, .ref a17, .ref a18, .ref a19, .ref a20, .ref a21, .ref a22, .ref a23, .null, .int 0, .int 0]))], [(q5, .inl (kA 0, 24, .inl (fl (fun _ => 0) 24 (-1))))]]) H := hP
  have hD : va_D A (cat [[(a0, .inr (12, [.ref a1, .ref a2, .ref a3, .ref a4, .ref a5, .ref a6, .ref a7, .int 0, .int 0, .ref a8, .ref a9, .int 0, .int 0, .ref a10, .int 0, .int 0, .null, .null, .null, .null, .null]))], [(a1, .inl (kA 4, 4, .inr (.inr (.inr (.inr (rr (g 0)))))))], [(a7, .inl (kA 0, 24, .inl (va_cpy (fl (fun _ => 0) 24 (-1)) f0 0 0 0)))], [(g 0 j, .inr (3, [.int 0, .int 0, .int 1, .ref a11, .ref a12, .ref a13, .ref a14, .ref a15, .ref a16, .ref a17, .ref a18, .ref a19, .ref a20, .ref a21, .ref a22, .ref a23, .null, .int 0, .int 0]))], [(q5, .inl (kA 0, 24, .inl (fl (fun _ => 0) 24 (-1))))]]) := hD
  refine lv_iload (pc := 108) hx hb d_Ho_same_108 (lv_at hl 0 rfl) ?_
  refine W.widen (k := 1) (n := 24) (Nat.le_of_ble_eq_true rfl) (Nat.le_of_ble_eq_true rfl) ?_
  exact W.iret (v := 1) hx hb hr (fun t ht hW => ⟨⟨1, [[(a0, .inr (12, [.ref a1, .ref a2, .ref a3, .ref a4, .ref a5, .ref a6, .ref a7, .int 0, .int 0, .ref a8, .ref a9, .int 0, .int 0, .ref a10, .int 0, .int 0, .null, .null, .null, .null, .null]))], [(a1, .inl (kA 4, 4, .inr (.inr (.inr (.inr (rr (g 0)))))))], [(a7, .inl (kA 0, 24, .inl (va_cpy (fl (fun _ => 0) 24 (-1)) f0 0 0 0)))], [(g 0 j, .inr (3, [.int 0, .int 0, .int 1, .ref a11, .ref a12, .ref a13, .ref a14, .ref a15, .ref a16, .ref a17, .ref a18, .ref a19, .ref a20, .ref a21, .ref a22, .ref a23, .null, .int 0, .int 0]))], [(q5, .inl (kA 0, 24, .inl (fl (fun _ => 0) 24 (-1))))]], rfl, rfl, by rw [ht]; exact hP, va_K.moved hW.alike hK, hD⟩, hS.F ht⟩) hS.2.2 d_Ho_same_110
set_option maxRecDepth 100000 in
set_option maxHeartbeats 4000000 in
/-- DrawingHouseModel.same(II)I -/
theorem c_Mo_same_z3 (l : Launch) (D : va_G) (kA : Nat → ClassId) (a0 : Nat) (j : Nat) (qm : Nat → Nat) (hj : j < 4) : Ci l y_Mo_same z_Mo_same { frames := 2, cells := 0, slots := 0, locals := 42 } D classes (TY kA) [.ref a0, .int (nI j), .int (nI j)] [[(a0, .inr (13, mF qm x0Mo y0Mo))], [(qm 3, .inl (kA 0, 4, .inl (fun _ => 0)))], [(qm 2, .inl (kA 0, 66836, .inl all0))]] (fun r (_ : List va_W) => r = 1) (fun u => u) 0 0 := by
  intro sz
  refine k_met (cc := b_Mo_same) (maxL := 9) (ret := (some .int)) (by decide) rfl (Nat.le_of_ble_eq_true rfl) (fun p e s m below meth c ls X hl hB => ?_)
  obtain ⟨hsz, hP, hK, hD0, hN⟩ := hB
  subst hsz
  have hD := hD0.self (sz := s.heap.size)
  generalize hAe : va_A (cat [[(a0, .inr (13, mF qm x0Mo y0Mo))], [(qm 3, .inl (kA 0, 4, .inl (fun _ => 0)))], [(qm 2, .inl (kA 0, 66836, .inl all0))]]) s.heap.size = A at hD ⊢
  have hA : ∀ q : Nat, s.heap.size ≤ q → A q := fun q h => by rw [← hAe]; exact Or.inr h
  have hS : va_S A s.heap s.heap [] := va_S.rf
  obtain ⟨hx, hb, hml, hown, hts, hr, hlk, hnm⟩ := id X
  have hl : lv_has ls 9 [(0, .ref a0), (1, .int (nI j)), (2, .int (nI j))] := hl
  have hP : va_P D classes (cat [[(a0, .inr (13, mF qm x0Mo y0Mo))], [(qm 3, .inl (kA 0, 4, .inl (fun _ => 0)))], [(qm 2, .inl (kA 0, 66836, .inl all0))]]) s.heap := hP
  have hK : va_K D classes (TY kA) s := hK
  refine lv_iload_n (pc := 0) hx hb d_Mo_same_0 rfl (lv_at hl 1 rfl) ?_
  refine k_goI (gr := [[(a0, .inr (13, mF qm x0Mo y0Mo))], [(qm 3, .inl (kA 0, 4, .inl (fun _ => 0)))], [(qm 2, .inl (kA 0, 66836, .inl all0))]]) (k_rS (pc := 1) (As := [.int (nI j)]) (rest := []) X (c_Mo_isPlace l D kA (nI j) s.heap.size) rfl wm_2978 wm_9 wm_2976 wm_2977 1 (by decide +kernel) ⟨Nat.le_of_ble_eq_true rfl, Nat.le_of_ble_eq_true rfl⟩ rfl rfl (k_pre hN hK hP hD [] [0, 1, 2] 3 rfl (by decide) rfl) rfl hl.1 rfl (Nat.le_of_ble_eq_true rfl) d_Mo_same_1 ⟨Nat.le_of_ble_eq_true rfl, Nat.le_of_ble_eq_true rfl⟩) hP hD hS hA [] [0, 1, 2] 3 rfl (by decide) rfl rfl (fun r1 u2 H locs hu2 hP hD hS => ?_)
  subst hu2
  refine k_cst (v := 1) (placeM_ok hj) ?_
  have hP : va_P D classes (cat [[(a0, .inr (13, mF qm x0Mo y0Mo))], [(qm 3, .inl (kA 0, 4, .inl (fun _ => 0)))], [(qm 2, .inl (kA 0, 66836, .inl all0))]]) H := hP
  have hD : va_D A (cat [[(a0, .inr (13, mF qm x0Mo y0Mo))], [(qm 3, .inl (kA 0, 4, .inl (fun _ => 0)))], [(qm 2, .inl (kA 0, 66836, .inl all0))]]) := hD
  refine lv_if_eq (pc := 4) (tgt := 14) hx hb d_Mo_same_4 (by decide) (fun c1 => absurd c1 (by decide)) (fun c1 => ?_)
  refine lv_iload_n (pc := 7) hx hb d_Mo_same_7 rfl (lv_at hl 2 rfl) ?_
  refine k_goI (gr := [[(a0, .inr (13, mF qm x0Mo y0Mo))], [(qm 3, .inl (kA 0, 4, .inl (fun _ => 0)))], [(qm 2, .inl (kA 0, 66836, .inl all0))]]) (k_rS (pc := 8) (As := [.int (nI j)]) (rest := []) X (c_Mo_isPlace l D kA (nI j) H.size) rfl wm_2978 wm_9 wm_2976 wm_2977 1 (by decide +kernel) ⟨Nat.le_of_ble_eq_true rfl, Nat.le_of_ble_eq_true rfl⟩ rfl rfl (k_pre hN hK hP hD [] [0, 1, 2] 3 rfl (by decide) rfl) rfl hl.1 rfl (Nat.le_of_ble_eq_true rfl) d_Mo_same_8 ⟨Nat.le_of_ble_eq_true rfl, Nat.le_of_ble_eq_true rfl⟩) hP hD hS hA [] [0, 1, 2] 3 rfl (by decide) rfl rfl (fun r3 u4 H locs hu4 hP hD hS => ?_)
  subst hu4
  refine k_cst (v := 1) (placeM_ok hj) ?_
  have hP : va_P D classes (cat [[(a0, .inr (13, mF qm x0Mo y0Mo))], [(qm 3, .inl (kA 0, 4, .inl (fun _ => 0)))], [(qm 2, .inl (kA 0, 66836, .inl all0))]]) H := hP
  have hD : va_D A (cat [[(a0, .inr (13, mF qm x0Mo y0Mo))], [(qm 3, .inl (kA 0, 4, .inl (fun _ => 0)))], [(qm 2, .inl (kA 0, 66836, .inl all0))]]) := hD
  refine lv_if_ne (pc := 11) (tgt := 16) hx hb d_Mo_same_11 (by decide) (fun c1 => ?_) (fun c1 => absurd c1 (by decide))
  refine lv_aload_n (pc := 16) hx hb d_Mo_same_16 rfl (lv_at hl 0 rfl) ?_
  refine lv_iload_n (pc := 17) hx hb d_Mo_same_17 rfl (lv_at hl 1 rfl) ?_
  refine lv_aload_n (pc := 18) hx hb d_Mo_same_18 rfl (lv_at hl 0 rfl) ?_
  refine k_get (pc := 19) (v := .ref (qm 3)) X hK hP 0 rfl rfl i_Mo 3 (by decide) wm_2436 rfl rfl d_Mo_same_19 ?_
  refine lv_iload_n (pc := 22) hx hb d_Mo_same_22 rfl (lv_at hl 1 rfl) ?_
  refine k_ild (pc := 23) hx hb hK hP 1 0 rfl rfl (j) rfl (by omega) (by decide) d_Mo_same_23 ?_
  refine k_cst (v := 0) (by rfl) ?_
  refine k_goI (gr := [[(a0, .inr (13, mF qm x0Mo y0Mo))], [(qm 3, .inl (kA 0, 4, .inl (fun _ => 0)))], [(qm 2, .inl (kA 0, 66836, .inl all0))]]) (k_rS (pc := 24) (As := [.int (nI j), .int 0]) (rest := [.ref a0]) X (c_Mo_rowOf l D kA j 0 H.size) rfl wm_2420 wm_9 wm_2418 wm_2419 2 (by decide +kernel) ⟨Nat.le_of_ble_eq_true rfl, Nat.le_of_ble_eq_true rfl⟩ rfl rfl (k_pre hN hK hP hD [] [0, 1, 2] 3 rfl (by decide) rfl) rfl hl.1 rfl (Nat.le_of_ble_eq_true rfl) d_Mo_same_24 ⟨Nat.le_of_ble_eq_true rfl, Nat.le_of_ble_eq_true rfl⟩) hP hD hS hA [] [0, 1, 2] 3 rfl (by decide) rfl rfl (fun r5 u6 H locs hu6 hP hD hS => ?_)
  subst hu6
  have hP : va_P D classes (cat [[(a0, .inr (13, mF qm x0Mo y0Mo))], [(qm 3, .inl (kA 0, 4, .inl (fun _ => 0)))], [(qm 2, .inl (kA 0, 66836, .inl all0))]]) H := hP
  have hD : va_D A (cat [[(a0, .inr (13, mF qm x0Mo y0Mo))], [(qm 3, .inl (kA 0, 4, .inl (fun _ => 0)))], [(qm 2, .inl (kA 0, 66836, .inl all0))]]) := hD
  refine k_put (pc := 27) X hK hP hD hS 0 rfl rfl i_Mo t_Mo t_Mo_ok n_Mo 28 (by decide) wm_2461 rfl (Or.inl rfl) rfl rfl (Nat.le_of_ble_eq_true rfl) d_Mo_same_27 (fun H locs hP hD hS => ?_)
  have hP : va_P D classes (cat [[(a0, .inr (13, mF qm (va_up x0Mo 28 (nI (539 * (31 * j + 0)))) y0Mo))], [(qm 3, .inl (kA 0, 4, .inl (fun _ => 0)))], [(qm 2, .inl (kA 0, 66836, .inl all0))]]) H := hP
  have hD : va_D A (cat [[(a0, .inr (13, mF qm (va_up x0Mo 28 (nI (539 * (31 * j + 0)))) y0Mo))], [(qm 3, .inl (kA 0, 4, .inl (fun _ => 0)))], [(qm 2, .inl (kA 0, 66836, .inl all0))]]) := hD
  refine lv_aload_n (pc := 30) hx hb d_Mo_same_30 rfl (lv_at hl 0 rfl) ?_
  refine lv_iload_n (pc := 31) hx hb d_Mo_same_31 rfl (lv_at hl 2 rfl) ?_
  refine lv_aload_n (pc := 32) hx hb d_Mo_same_32 rfl (lv_at hl 0 rfl) ?_
  refine k_get (pc := 33) (v := .ref (qm 3)) X hK hP 0 rfl rfl i_Mo 3 (by decide) wm_2436 rfl rfl d_Mo_same_33 ?_
  refine lv_iload_n (pc := 36) hx hb d_Mo_same_36 rfl (lv_at hl 2 rfl) ?_
  refine k_ild (pc := 37) hx hb hK hP 1 0 rfl rfl (j) rfl (by omega) (by decide) d_Mo_same_37 ?_
  refine k_cst (v := 0) (by rfl) ?_
  refine k_goI (gr := [[(a0, .inr (13, mF qm (va_up x0Mo 28 (nI (539 * (31 * j + 0)))) y0Mo))], [(qm 3, .inl (kA 0, 4, .inl (fun _ => 0)))], [(qm 2, .inl (kA 0, 66836, .inl all0))]]) (k_rS (pc := 38) (As := [.int (nI j), .int 0]) (rest := [.ref a0]) X (c_Mo_rowOf l D kA j 0 H.size) rfl wm_2420 wm_9 wm_2418 wm_2419 2 (by decide +kernel) ⟨Nat.le_of_ble_eq_true rfl, Nat.le_of_ble_eq_true rfl⟩ rfl rfl (k_pre hN hK hP hD [] [0, 1, 2] 3 rfl (by decide) rfl) rfl hl.1 rfl (Nat.le_of_ble_eq_true rfl) d_Mo_same_38 ⟨Nat.le_of_ble_eq_true rfl, Nat.le_of_ble_eq_true rfl⟩) hP hD hS hA [] [0, 1, 2] 3 rfl (by decide) rfl rfl (fun r7 u8 H locs hu8 hP hD hS => ?_)
  subst hu8
  have hP : va_P D classes (cat [[(a0, .inr (13, mF qm (va_up x0Mo 28 (nI (539 * (31 * j + 0)))) y0Mo))], [(qm 3, .inl (kA 0, 4, .inl (fun _ => 0)))], [(qm 2, .inl (kA 0, 66836, .inl all0))]]) H := hP
  have hD : va_D A (cat [[(a0, .inr (13, mF qm (va_up x0Mo 28 (nI (539 * (31 * j + 0)))) y0Mo))], [(qm 3, .inl (kA 0, 4, .inl (fun _ => 0)))], [(qm 2, .inl (kA 0, 66836, .inl all0))]]) := hD
  refine k_put (pc := 41) X hK hP hD hS 0 rfl rfl i_Mo t_Mo t_Mo_ok n_Mo 29 (by decide) wm_2462 rfl (Or.inl rfl) rfl rfl (Nat.le_of_ble_eq_true rfl) d_Mo_same_41 (fun H locs hP hD hS => ?_)
  have hP : va_P D classes (cat [[(a0, .inr (13, mF qm (va_up (va_up x0Mo 28 (nI (539 * (31 * j + 0)))) 29 (nI (539 * (31 * j + 0)))) y0Mo))], [(qm 3, .inl (kA 0, 4, .inl (fun _ => 0)))], [(qm 2, .inl (kA 0, 66836, .inl all0))]]) H := hP
  have hD : va_D A (cat [[(a0, .inr (13, mF qm (va_up (va_up x0Mo 28 (nI (539 * (31 * j + 0)))) 29 (nI (539 * (31 * j + 0)))) y0Mo))], [(qm 3, .inl (kA 0, 4, .inl (fun _ => 0)))], [(qm 2, .inl (kA 0, 66836, .inl all0))]]) := hD
  refine lv_aload_n (pc := 44) hx hb d_Mo_same_44 rfl (lv_at hl 0 rfl) ?_
  refine k_get (pc := 45) (v := .ref (qm 2)) X hK hP 0 rfl rfl i_Mo 2 (by decide) wm_2435 rfl rfl d_Mo_same_45 ?_
  refine lv_aload_n (pc := 48) hx hb d_Mo_same_48 rfl (lv_at hl 0 rfl) ?_
  refine k_get (pc := 49) (v := .int (nI (539 * (31 * j + 0)))) X hK hP 0 rfl rfl i_Mo 28 (by decide) wm_2461 rfl rfl d_Mo_same_49 ?_
  refine k_ild (pc := 52) hx hb hK hP 2 0 rfl rfl (539 * (31 * j + 0)) rfl (by omega) (by decide) d_Mo_same_52 ?_
  refine k_cst (v := 0) (all0_e hj (o := 0) (by omega) (by decide) rfl) ?_
  refine lv_istore_n (pc := 53) (lv' := [(3, .int 0), (0, .ref a0), (1, .int (nI j)), (2, .int (nI j))]) hx hb d_Mo_same_53 rfl hl (by decide) rfl (fun ls hl => ?_)
  refine lv_aload_n (pc := 54) hx hb d_Mo_same_54 rfl (lv_at hl 1 rfl) ?_
  refine lv_iconst (pc := 55) (v := 0) hx hb d_Mo_same_55 (by decide) ?_
  refine k_put (pc := 56) X hK hP hD hS 0 rfl rfl i_Mo t_Mo t_Mo_ok n_Mo 27 (by decide) wm_2460 rfl (Or.inl rfl) rfl rfl (Nat.le_of_ble_eq_true rfl) d_Mo_same_56 (fun H locs hP hD hS => ?_)
  have hP : va_P D classes (cat [[(a0, .inr (13, mF qm (va_up (va_up x0Mo 28 (nI (539 * (31 * j + 0)))) 29 (nI (539 * (31 * j + 0)))) y0Mo))], [(qm 3, .inl (kA 0, 4, .inl (fun _ => 0)))], [(qm 2, .inl (kA 0, 66836, .inl all0))]]) H := hP
  have hD : va_D A (cat [[(a0, .inr (13, mF qm (va_up (va_up x0Mo 28 (nI (539 * (31 * j + 0)))) 29 (nI (539 * (31 * j + 0)))) y0Mo))], [(qm 3, .inl (kA 0, 4, .inl (fun _ => 0)))], [(qm 2, .inl (kA 0, 66836, .inl all0))]]) := hD
  refine lv_aload_n (pc := 59) hx hb d_Mo_same_59 rfl (lv_at hl 1 rfl) ?_
  refine lv_iconst (pc := 60) (v := 1) hx hb d_Mo_same_60 (by decide) ?_
  refine k_put (pc := 61) X hK hP hD hS 0 rfl rfl i_Mo t_Mo t_Mo_ok n_Mo 30 (by decide) wm_2463 rfl (Or.inl rfl) rfl rfl (Nat.le_of_ble_eq_true rfl) d_Mo_same_61 (fun H locs hP hD hS => ?_)
  have hP : va_P D classes (cat [[(a0, .inr (13, mF qm (va_up (va_up (va_up x0Mo 28 (nI (539 * (31 * j + 0)))) 29 (nI (539 * (31 * j + 0)))) 30 1) y0Mo))], [(qm 3, .inl (kA 0, 4, .inl (fun _ => 0)))], [(qm 2, .inl (kA 0, 66836, .inl all0))]]) H := hP
  have hD : va_D A (cat [[(a0, .inr (13, mF qm (va_up (va_up (va_up x0Mo 28 (nI (539 * (31 * j + 0)))) 29 (nI (539 * (31 * j + 0)))) 30 1) y0Mo))], [(qm 3, .inl (kA 0, 4, .inl (fun _ => 0)))], [(qm 2, .inl (kA 0, 66836, .inl all0))]]) := hD
  refine lv_iload_n (pc := 64) hx hb d_Mo_same_64 rfl (lv_at hl 0 rfl) ?_
  refine lv_aload_n (pc := 65) hx hb d_Mo_same_65 rfl (lv_at hl 1 rfl) ?_
  refine k_get (pc := 66) (v := .ref (qm 2)) X hK hP 0 rfl rfl i_Mo 2 (by decide) wm_2435 rfl rfl d_Mo_same_66 ?_
  refine lv_aload_n (pc := 69) hx hb d_Mo_same_69 rfl (lv_at hl 1 rfl) ?_
  refine k_get (pc := 70) (v := .int (nI (539 * (31 * j + 0)))) X hK hP 0 rfl rfl i_Mo 29 (by decide) wm_2462 rfl rfl d_Mo_same_70 ?_
  refine k_ild (pc := 73) hx hb hK hP 2 0 rfl rfl (539 * (31 * j + 0)) rfl (by omega) (by decide) d_Mo_same_73 ?_
  refine k_cst (v := 0) (all0_e hj (o := 0) (by omega) (by decide) rfl) ?_
  refine lv_icmp_ne (pc := 74) (tgt := 102) hx hb d_Mo_same_74 (by decide) (fun c1 => absurd (by decide) c1) (fun _ => ?_)
  refine lv_aload_n (pc := 77) hx hb d_Mo_same_77 rfl (lv_at hl 1 rfl) ?_
  refine k_get (pc := 78) (v := .ref (qm 2)) X hK hP 0 rfl rfl i_Mo 2 (by decide) wm_2435 rfl rfl d_Mo_same_78 ?_
  refine lv_aload_n (pc := 81) hx hb d_Mo_same_81 rfl (lv_at hl 1 rfl) ?_
  refine k_get (pc := 82) (v := .int (nI (539 * (31 * j + 0)))) X hK hP 0 rfl rfl i_Mo 28 (by decide) wm_2461 rfl rfl d_Mo_same_82 ?_
  refine lv_iconst (pc := 85) (v := 1) hx hb d_Mo_same_85 (by decide) ?_
  refine k_add (pc := 86) (x := 539 * (31 * j + 0)) (y := 1) hx hb d_Mo_same_86 ?_
  refine k_ild (pc := 87) hx hb hK hP 2 0 rfl rfl ((539 * (31 * j + 0)) + 1) rfl (by omega) (by decide) d_Mo_same_87 ?_
  refine k_cst (v := 0) (all0_e hj (o := 1) (by omega) (by decide) rfl) ?_
  refine lv_aload_n (pc := 88) hx hb d_Mo_same_88 rfl (lv_at hl 1 rfl) ?_
  refine k_get (pc := 89) (v := .ref (qm 2)) X hK hP 0 rfl rfl i_Mo 2 (by decide) wm_2435 rfl rfl d_Mo_same_89 ?_
  refine lv_aload_n (pc := 92) hx hb d_Mo_same_92 rfl (lv_at hl 1 rfl) ?_
  refine k_get (pc := 93) (v := .int (nI (539 * (31 * j + 0)))) X hK hP 0 rfl rfl i_Mo 29 (by decide) wm_2462 rfl rfl d_Mo_same_93 ?_
  refine lv_iconst (pc := 96) (v := 1) hx hb d_Mo_same_96 (by decide) ?_
  refine k_add (pc := 97) (x := 539 * (31 * j + 0)) (y := 1) hx hb d_Mo_same_97 ?_
  refine k_ild (pc := 98) hx hb hK hP 2 0 rfl rfl ((539 * (31 * j + 0)) + 1) rfl (by omega) (by decide) d_Mo_same_98 ?_
  refine k_cst (v := 0) (all0_e hj (o := 1) (by omega) (by decide) rfl) ?_
  refine lv_icmp_eq (pc := 99) (tgt := 104) hx hb d_Mo_same_99 (by decide) (fun _ => ?_) (fun c1 => absurd (by decide) c1)
  refine lv_iconst (pc := 104) (v := 0) hx hb d_Mo_same_104 (by decide) ?_
  refine lv_istore (pc := 105) (lv' := [(4, .int 0), (3, .int 0), (0, .ref a0), (1, .int (nI j)), (2, .int (nI j))]) hx hb d_Mo_same_105 hl (by decide) rfl (fun ls hl => ?_)
  refine lv_iconst (pc := 107) (v := 0) hx hb d_Mo_same_107 (by decide) ?_
  refine lv_istore (pc := 108) (lv' := [(5, .int 0), (4, .int 0), (3, .int 0), (0, .ref a0), (1, .int (nI j)), (2, .int (nI j))]) hx hb d_Mo_same_108 hl (by decide) rfl (fun ls hl => ?_)
  refine lv_iload (pc := 110) hx hb d_Mo_same_110 (lv_at hl 0 rfl) ?_
  refine lv_iload_n (pc := 112) hx hb d_Mo_same_112 rfl (lv_at hl 2 rfl) ?_
  refine lv_icmp_ge (pc := 113) (tgt := 130) hx hb d_Mo_same_113 (by decide) (fun _ => ?_) (fun c1 => absurd (by decide) c1)
  refine lv_iload (pc := 130) hx hb d_Mo_same_130 (lv_at hl 1 rfl) ?_
  refine lv_if_lt (pc := 132) (tgt := 294) hx hb d_Mo_same_132 (by decide) (fun c1 => absurd c1 (by decide)) (fun c1 => ?_)
  refine lv_iload (pc := 135) hx hb d_Mo_same_135 (lv_at hl 1 rfl) ?_
  refine lv_iload_n (pc := 137) hx hb d_Mo_same_137 rfl (lv_at hl 2 rfl) ?_
  refine lv_icmp_ge (pc := 138) (tgt := 294) hx hb d_Mo_same_138 (by decide) (fun _ => ?_) (fun c1 => absurd (by decide) c1)
  refine lv_iload (pc := 294) hx hb d_Mo_same_294 (lv_at hl 1 rfl) ?_
  refine lv_if_ge (pc := 296) (tgt := 301) hx hb d_Mo_same_296 (by decide) (fun c1 => ?_) (fun c1 => absurd (by decide) c1)
  refine lv_aload_n (pc := 301) hx hb d_Mo_same_301 rfl (lv_at hl 3 rfl) ?_
  refine lv_iconst (pc := 302) (v := 1) hx hb d_Mo_same_302 (by decide) ?_
  refine k_put (pc := 303) X hK hP hD hS 0 rfl rfl i_Mo t_Mo t_Mo_ok n_Mo 25 (by decide) wm_2458 rfl (Or.inl rfl) rfl rfl (Nat.le_of_ble_eq_true rfl) d_Mo_same_303 (fun H locs hP hD hS => ?_)
  have hP : va_P D classes (cat [[(a0, .inr (13, mF qm (va_up (va_up (va_up (va_up x0Mo 25 1) 28 (nI (539 * (31 * j + 0)))) 29 (nI (539 * (31 * j + 0)))) 30 1) y0Mo))], [(qm 3, .inl (kA 0, 4, .inl (fun _ => 0)))], [(qm 2, .inl (kA 0, 66836, .inl all0))]]) H := hP
  have hD : va_D A (cat [[(a0, .inr (13, mF qm (va_up (va_up (va_up (va_up x0Mo 25 1) 28 (nI (539 * (31 * j + 0)))) 29 (nI (539 * (31 * j + 0)))) 30 1) y0Mo))], [(qm 3, .inl (kA 0, 4, .inl (fun _ => 0)))], [(qm 2, .inl (kA 0, 66836, .inl all0))]]) := hD
  refine lv_aload_n (pc := 306) hx hb d_Mo_same_306 rfl (lv_at hl 3 rfl) ?_
  refine lv_iload_n (pc := 307) hx hb d_Mo_same_307 rfl (lv_at hl 2 rfl) ?_
  refine k_put (pc := 308) X hK hP hD hS 0 rfl rfl i_Mo t_Mo t_Mo_ok n_Mo 26 (by decide) wm_2459 rfl (Or.inl rfl) rfl rfl (Nat.le_of_ble_eq_true rfl) d_Mo_same_308 (fun H locs hP hD hS => ?_)
  have hP : va_P D classes (cat [[(a0, .inr (13, mF qm (va_up (va_up (va_up (va_up x0Mo 25 1) 28 (nI (539 * (31 * j + 0)))) 29 (nI (539 * (31 * j + 0)))) 30 1) y0Mo))], [(qm 3, .inl (kA 0, 4, .inl (fun _ => 0)))], [(qm 2, .inl (kA 0, 66836, .inl all0))]]) H := hP
  have hD : va_D A (cat [[(a0, .inr (13, mF qm (va_up (va_up (va_up (va_up x0Mo 25 1) 28 (nI (539 * (31 * j + 0)))) 29 (nI (539 * (31 * j + 0)))) 30 1) y0Mo))], [(qm 3, .inl (kA 0, 4, .inl (fun _ => 0)))], [(qm 2, .inl (kA 0, 66836, .inl all0))]]) := hD
  refine lv_iconst (pc := 311) (v := 0) hx hb d_Mo_same_311 (by decide) ?_
  refine lv_istore (pc := 312) (lv' := [(5, .int 0), (4, .int 0), (3, .int 0), (0, .ref a0), (1, .int (nI j)), (2, .int (nI j))]) hx hb d_Mo_same_312 hl (by decide) rfl (fun ls hl => ?_)
  refine lv_iload (pc := 314) hx hb d_Mo_same_314 (lv_at hl 0 rfl) ?_
  refine lv_iload_n (pc := 316) hx hb d_Mo_same_316 rfl (lv_at hl 2 rfl) ?_
  refine lv_icmp_ge (pc := 317) (tgt := 340) hx hb d_Mo_same_317 (by decide) (fun _ => ?_) (fun c1 => absurd (by decide) c1)
  refine lv_iconst (pc := 340) (v := 1) hx hb d_Mo_same_340 (by decide) ?_
  refine W.widen (k := 0) (n := 0) (Nat.le_of_ble_eq_true rfl) (Nat.le_of_ble_eq_true rfl) ?_
  exact W.iret (v := 1) hx hb hr (fun t ht hW => ⟨⟨1, [[(a0, .inr (13, mF qm (va_up (va_up (va_up (va_up x0Mo 25 1) 28 (nI (539 * (31 * j + 0)))) 29 (nI (539 * (31 * j + 0)))) 30 1) y0Mo))], [(qm 3, .inl (kA 0, 4, .inl (fun _ => 0)))], [(qm 2, .inl (kA 0, 66836, .inl all0))]], rfl, rfl, by rw [ht]; exact hP, va_K.moved hW.alike hK, hD⟩, hS.F ht⟩) hS.2.2 d_Mo_same_341
set_option maxRecDepth 100000 in
set_option maxHeartbeats 4000000 in
/-- same, a fresh house -/
theorem lf_same_3 {p : Program} {e : Env} {s : State} {m : MethodId} {below : List Frame} {meth : Method} {c : Code} (l : Launch) {b : Nat} {xs : Nat → Int32} (C0 : lw_At p s m meth c b 6 xs) {D : va_G} {kA : Nat → ClassId} (h : Nat) (h2 : Nat) (q : Nat → Nat) (qg : Nat → Nat) (qm : Nat → Nat) (g : Nat → Nat → Nat) (j : Nat) (hj : j < 4) (hv1 : xs 1 = nI j) (hv2 : xs 2 = nI j) {H : Heap} {locs : List Loc} {ls : Array Slot} (hK : va_K D classes (TY kA) s) (hN : nst s) (hP : va_P D classes (cat [[(h, .inr (12, [.ref (q 0), .ref (q 1), .ref (q 2), .ref (q 3), .ref (q 4), .ref (q 5), .ref (q 6), .int 0, .int ((-1)), .ref (q 9), .ref (q 10), .int 0, .int 0, .ref (q 13), .int 0, .int 0, .null, .null, .null, .null, .null]))], [(q 0, .inl (kA 4, 4, .inr (.inr (.inr (.inr (rr (g 0)))))))], [(g 0 j, .inr (3, [.int 0, .int 0, .int 1, .ref (qg 3), .ref (qg 4), .ref (qg 5), .ref (qg 6), .ref (qg 7), .ref (qg 8), .ref (qg 9), .ref (qg 10), .ref (qg 11), .ref (qg 12), .ref (qg 13), .ref (qg 14), .ref (qg 15), .null, .int 0, .int 0]))], [(q 6, .inl (kA 0, 24, .inl (fun _ => 0)))], [(h2, .inr (13, mF qm x0Mo y0Mo))], [(qm 3, .inl (kA 0, 4, .inl (fun _ => 0)))], [(qm 2, .inl (kA 0, 66836, .inl all0))]]) H) (hD : va_D (fun q : Nat => s.heap.size ≤ q) (cat [[(h, .inr (12, [.ref (q 0), .ref (q 1), .ref (q 2), .ref (q 3), .ref (q 4), .ref (q 5), .ref (q 6), .int 0, .int ((-1)), .ref (q 9), .ref (q 10), .int 0, .int 0, .ref (q 13), .int 0, .int 0, .null, .null, .null, .null, .null]))], [(q 0, .inl (kA 4, 4, .inr (.inr (.inr (.inr (rr (g 0)))))))], [(g 0 j, .inr (3, [.int 0, .int 0, .int 1, .ref (qg 3), .ref (qg 4), .ref (qg 5), .ref (qg 6), .ref (qg 7), .ref (qg 8), .ref (qg 9), .ref (qg 10), .ref (qg 11), .ref (qg 12), .ref (qg 13), .ref (qg 14), .ref (qg 15), .null, .int 0, .int 0]))], [(q 6, .inl (kA 0, 24, .inl (fun _ => 0)))], [(h2, .inr (13, mF qm x0Mo y0Mo))], [(qm 3, .inl (kA 0, 4, .inl (fun _ => 0)))], [(qm 2, .inl (kA 0, 66836, .inl all0))]])) (hS : va_S (fun q : Nat => s.heap.size ≤ q) s.heap H locs) (hl : lv_has ls 4 [(3, .int 0), (2, .ref h2), (1, .ref h), (0, .ref b)]) : W p l e room_1 s m #[Value.ref b] below meth c H locs 368 365796 (lw_Z below #[Value.ref b] s) (F0 m 623 ls []) := by
  obtain ⟨hx, hb, hr, hml, hown, hts0, hX, hbl, hlocks, hgv⟩ := id C0
  have hts : ∀ w ∈ lw_g, w.before #[Value.ref b] s = true := fun w h => hts0 w (lw_gt h)
  have X : cx p s m #[Value.ref b] meth c b_law_law 4 ret "DrawingHouseLaw" meth.name := ⟨hx, hb, hml, hown, hts, hr, hlocks, rfl⟩
  obtain ⟨A, hAe⟩ : ∃ A : Nat → Prop, A = fun q : Nat => s.heap.size ≤ q := ⟨_, rfl⟩
  have hA : ∀ q : Nat, s.heap.size ≤ q → A q := fun q h => by rw [hAe]; exact h
  have hbA : ¬ A b := by rw [hAe]; exact Nat.not_le.mpr hbl
  rw [← hAe] at hD hS
  refine lv_aload_n (pc := 623) hx hb d_law_law_623 rfl (lv_at hl 2 rfl) ?_
  refine lv_aload_n (pc := 624) hx hb d_law_law_624 rfl (lv_at hl 3 rfl) ?_
  refine lv_iload_n (pc := 625) hx hb d_law_law_625 rfl (lv_at hl 0 rfl) ?_
  refine lv_iconst (pc := 626) (v := 1) hx hb d_law_law_626 (by decide) ?_
  refine lv_iadd (pc := 627) hx hb d_law_law_627 ?_
  refine k_cst (v := 1) (by decide) ?_
  refine va_sld (pc := 628) hx hb hX hbl hbA hS (by unfold vp_in; decide) d_law_law_628 ?_
  refine k_cst (v := nI j) hv1 ?_
  refine lv_aload_n (pc := 629) hx hb d_law_law_629 rfl (lv_at hl 3 rfl) ?_
  refine lv_iload_n (pc := 630) hx hb d_law_law_630 rfl (lv_at hl 0 rfl) ?_
  refine lv_iconst (pc := 631) (v := 2) hx hb d_law_law_631 (by decide) ?_
  refine lv_iadd (pc := 632) hx hb d_law_law_632 ?_
  refine k_cst (v := 2) (by decide) ?_
  refine va_sld (pc := 633) hx hb hX hbl hbA hS (by unfold vp_in; decide) d_law_law_633 ?_
  refine k_cst (v := nI j) hv2 ?_
  refine k_goI (gr := [[(h2, .inr (13, mF qm x0Mo y0Mo))], [(qm 3, .inl (kA 0, 4, .inl (fun _ => 0)))], [(qm 2, .inl (kA 0, 66836, .inl all0))]]) (k_rV (pc := 634) (As := [.int (nI j), .int (nI j)]) (rest := []) X (c_Ho_same_z3 l D kA h j (q 0) (q 1) (q 2) (q 3) (q 4) (q 5) (q 6) (q 9) (q 10) (q 13) g (qg 3) (qg 4) (qg 5) (qg 6) (qg 7) (qg 8) (qg 9) (qg 10) (qg 11) (qg 12) (qg 13) (qg 14) (qg 15) (fun _ => 0) hj H.size) rfl wm_1026 wm_1 wm_1023 wm_1024 wm_1025 2 (by decide +kernel) ⟨Nat.le_of_ble_eq_true rfl, Nat.le_of_ble_eq_true rfl⟩ rfl rfl (va_recv hK hP (ci := 12) (q0 := 0) rfl rfl) (k_pre hN hK hP hD [0, 1, 2, 3] [4, 5, 6] 7 rfl (by decide) rfl) rfl hl.1 rfl (Nat.le_of_ble_eq_true rfl) d_law_law_634 ⟨Nat.le_of_ble_eq_true rfl, Nat.le_of_ble_eq_true rfl⟩) hP hD hS hA [0, 1, 2, 3] [4, 5, 6] 7 rfl (by decide) rfl rfl (fun r1 u2 H locs hu2 hP hD hS => ?_)
  obtain ⟨hP, hD⟩ := k_left hP hD
  subst hu2
  have hP : va_P D classes (cat [[(h2, .inr (13, mF qm x0Mo y0Mo))], [(qm 3, .inl (kA 0, 4, .inl (fun _ => 0)))], [(qm 2, .inl (kA 0, 66836, .inl all0))]]) H := hP
  have hD : va_D A (cat [[(h2, .inr (13, mF qm x0Mo y0Mo))], [(qm 3, .inl (kA 0, 4, .inl (fun _ => 0)))], [(qm 2, .inl (kA 0, 66836, .inl all0))]]) := hD
  refine W.widen (k := 369) (n := 365820) (by omega) (by omega) ?_
  refine lv_aload_n (pc := 637) hx hb d_law_law_637 rfl (lv_at hl 1 rfl) ?_
  refine lv_aload_n (pc := 638) hx hb d_law_law_638 rfl (lv_at hl 3 rfl) ?_
  refine lv_iload_n (pc := 639) hx hb d_law_law_639 rfl (lv_at hl 0 rfl) ?_
  refine lv_iconst (pc := 640) (v := 1) hx hb d_law_law_640 (by decide) ?_
  refine lv_iadd (pc := 641) hx hb d_law_law_641 ?_
  refine k_cst (v := 1) (by decide) ?_
  refine va_sld (pc := 642) hx hb hX hbl hbA hS (by unfold vp_in; decide) d_law_law_642 ?_
  refine k_cst (v := nI j) hv1 ?_
  refine lv_aload_n (pc := 643) hx hb d_law_law_643 rfl (lv_at hl 3 rfl) ?_
  refine lv_iload_n (pc := 644) hx hb d_law_law_644 rfl (lv_at hl 0 rfl) ?_
  refine lv_iconst (pc := 645) (v := 2) hx hb d_law_law_645 (by decide) ?_
  refine lv_iadd (pc := 646) hx hb d_law_law_646 ?_
  refine k_cst (v := 2) (by decide) ?_
  refine va_sld (pc := 647) hx hb hX hbl hbA hS (by unfold vp_in; decide) d_law_law_647 ?_
  refine k_cst (v := nI j) hv2 ?_
  refine k_goI (gr := []) (k_rV (pc := 648) (As := [.int (nI j), .int (nI j)]) (rest := [.int 1]) X (c_Mo_same_z3 l D kA h2 j qm hj H.size) rfl wm_3119 wm_9 wm_3116 wm_3117 wm_3118 2 (by decide +kernel) ⟨Nat.le_of_ble_eq_true rfl, Nat.le_of_ble_eq_true rfl⟩ rfl rfl (va_recv hK hP (ci := 13) (q0 := 0) rfl rfl) (k_pre hN hK hP hD [0, 1, 2] [] 3 rfl (by decide) rfl) rfl hl.1 rfl (Nat.le_of_ble_eq_true rfl) d_law_law_648 ⟨Nat.le_of_ble_eq_true rfl, Nat.le_of_ble_eq_true rfl⟩) hP hD hS hA [0, 1, 2] [] 3 rfl (by decide) rfl rfl (fun r3 u4 H locs hu4 hP hD hS => ?_)
  obtain ⟨hP, hD⟩ := k_left hP hD
  subst hu4
  have hP : va_P D classes (cat []) H := hP
  have hD : va_D A (cat []) := hD
  refine lv_icmp_eq (pc := 651) (tgt := 1295) hx hb d_law_law_651 (by decide) (fun _ => ?_) (fun c1 => absurd (by decide) c1)
  rw [hAe] at hS
  exact law_exit l C0 (Nat.le_of_ble_eq_true rfl) (Nat.le_of_ble_eq_true rfl) hS hl
set_option maxRecDepth 100000 in
set_option maxHeartbeats 4000000 in
/-- DrawingHouse.searchMap(LDrawingHouse$Graph;LDrawingHouse$Graph;[I)I -/
theorem c_Ho_searchMap_z2 (l : Launch) (D : va_G) (kA : Nat → ClassId) (a0 : Nat) (g : Nat → Nat → Nat) (j : Nat) (k : Nat) (a1 : Nat) (a2 : Nat) (a3 : Nat) (a4 : Nat) (a5 : Nat) (a6 : Nat) (a7 : Nat) (a8 : Nat) (a9 : Nat) (a10 : Nat) (a11 : Nat) (a12 : Nat) (a13 : Nat) (a14 : Nat) (f0 : Nat → Int32) (hj : j < 4) (hk : k < 4) : Ci l y_Ho_searchMap z_Ho_searchMap { frames := 1, cells := 0, slots := 0, locals := 23 } D classes (TY kA) [.ref a0, .ref (g 0 j), .ref (g 0 k), .ref a1] [[(g 0 j, .inr (3, [.int 0, .int 0, .int 1, .ref a2, .ref a3, .ref a4, .ref a5, .ref a6, .ref a7, .ref a8, .ref a9, .ref a10, .ref a11, .ref a12, .ref a13, .ref a14, .null, .int 0, .int 0]))], [(a1, .inl (kA 0, 24, .inl f0))]] (fun r (_ : Unit) => r = 1) (fun u => [[(g 0 j, .inr (3, [.int 0, .int 0, .int 1, .ref a2, .ref a3, .ref a4, .ref a5, .ref a6, .ref a7, .ref a8, .ref a9, .ref a10, .ref a11, .ref a12, .ref a13, .ref a14, .null, .int 0, .int 0]))], [(a1, .inl (kA 0, 24, .inl (fl f0 24 (-1))))]]) 0 0 := by
  intro sz
  refine k_met (cc := b_Ho_searchMap) (maxL := 9) (ret := (some .int)) (by decide) rfl (Nat.le_of_ble_eq_true rfl) (fun p e s m below meth c ls X hl hB => ?_)
  obtain ⟨hsz, hP, hK, hD0, hN⟩ := hB
  subst hsz
  have hD := hD0.self (sz := s.heap.size)
  generalize hAe : va_A (cat [[(g 0 j, .inr (3, [.int 0, .int 0, .int 1, .ref a2, .ref a3, .ref a4, .ref a5, .ref a6, .ref a7, .ref a8, .ref a9, .ref a10, .ref a11, .ref a12, .ref a13, .ref a14, .null, .int 0, .int 0]))], [(a1, .inl (kA 0, 24, .inl f0))]]) s.heap.size = A at hD ⊢
  have hA : ∀ q : Nat, s.heap.size ≤ q → A q := fun q h => by rw [← hAe]; exact Or.inr h
  have hS : va_S A s.heap s.heap [] := va_S.rf
  obtain ⟨hx, hb, hml, hown, hts, hr, hlk, hnm⟩ := id X
  have hl : lv_has ls 9 [(0, .ref a0), (1, .ref (g 0 j)), (2, .ref (g 0 k)), (3, .ref a1)] := hl
  have hP : va_P D classes (cat [[(g 0 j, .inr (3, [.int 0, .int 0, .int 1, .ref a2, .ref a3, .ref a4, .ref a5, .ref a6, .ref a7, .ref a8, .ref a9, .ref a10, .ref a11, .ref a12, .ref a13, .ref a14, .null, .int 0, .int 0]))], [(a1, .inl (kA 0, 24, .inl f0))]]) s.heap := hP
  have hK : va_K D classes (TY kA) s := hK
  refine lv_aload_n (pc := 0) hx hb d_Ho_searchMap_0 rfl (lv_at hl 1 rfl) ?_
  refine k_get (pc := 1) X hK hP 0 rfl rfl i_Gr 0 (by decide) wm_62 rfl rfl d_Ho_searchMap_1 ?_
  refine lv_istore (pc := 4) (lv' := [(4, .int 0), (0, .ref a0), (1, .ref (g 0 j)), (2, .ref (g 0 k)), (3, .ref a1)]) hx hb d_Ho_searchMap_4 hl (by decide) rfl (fun ls hl => ?_)
  refine lv_iconst (pc := 6) (v := 0) hx hb d_Ho_searchMap_6 (by decide) ?_
  refine lv_istore (pc := 7) (lv' := [(5, .int 0), (4, .int 0), (0, .ref a0), (1, .ref (g 0 j)), (2, .ref (g 0 k)), (3, .ref a1)]) hx hb d_Ho_searchMap_7 hl (by decide) rfl (fun ls hl => ?_)
  refine lv_iconst (pc := 9) (v := 0) hx hb d_Ho_searchMap_9 (by decide) ?_
  refine lv_istore (pc := 10) (lv' := [(6, .int 0), (5, .int 0), (4, .int 0), (0, .ref a0), (1, .ref (g 0 j)), (2, .ref (g 0 k)), (3, .ref a1)]) hx hb d_Ho_searchMap_10 hl (by decide) rfl (fun ls hl => ?_)
  refine lv_aload_n (pc := 12) hx hb d_Ho_searchMap_12 rfl (lv_at hl 6 rfl) ?_
  refine lv_iconst (pc := 13) (v := -1) hx hb d_Ho_searchMap_13 (by decide) ?_
  refine k_goV (gr := [[(g 0 j, .inr (3, [.int 0, .int 0, .int 1, .ref a2, .ref a3, .ref a4, .ref a5, .ref a6, .ref a7, .ref a8, .ref a9, .ref a10, .ref a11, .ref a12, .ref a13, .ref a14, .null, .int 0, .int 0]))]]) (k_rS (pc := 14) (As := [.ref a1, .int ((-1))]) (rest := []) X (c_fillI l D (TY kA) 0 (kA 0) rfl a1 24 (by decide) f0 (-1) s.heap.size) rfl wm_55 wm_4 wm_1031 wm_54 2 (by decide +kernel) ⟨Nat.le_of_ble_eq_true rfl, Nat.le_of_ble_eq_true rfl⟩ rfl rfl (k_pre hN hK hP hD [1] [0] 2 rfl (by decide) rfl) rfl hl.1 rfl (Nat.le_of_ble_eq_true rfl) d_Ho_searchMap_14 ⟨Nat.le_of_ble_eq_true rfl, Nat.le_of_ble_eq_true rfl⟩) hP hD hS hA [1] [0] 2 rfl (by decide) rfl rfl (fun u1 H locs hu1 hP hD hS => ?_)
  have hP : va_P D classes (cat [[(g 0 j, .inr (3, [.int 0, .int 0, .int 1, .ref a2, .ref a3, .ref a4, .ref a5, .ref a6, .ref a7, .ref a8, .ref a9, .ref a10, .ref a11, .ref a12, .ref a13, .ref a14, .null, .int 0, .int 0]))], [(a1, .inl (kA 0, 24, .inl (fl f0 24 (-1))))]]) H := hP
  have hD : va_D A (cat [[(g 0 j, .inr (3, [.int 0, .int 0, .int 1, .ref a2, .ref a3, .ref a4, .ref a5, .ref a6, .ref a7, .ref a8, .ref a9, .ref a10, .ref a11, .ref a12, .ref a13, .ref a14, .null, .int 0, .int 0]))], [(a1, .inl (kA 0, 24, .inl (fl f0 24 (-1))))]]) := hD
  refine lv_iconst (pc := 17) (v := 0) hx hb d_Ho_searchMap_17 (by decide) ?_
  refine lv_istore (pc := 18) (lv' := [(7, .int 0), (6, .int 0), (5, .int 0), (4, .int 0), (0, .ref a0), (1, .ref (g 0 j)), (2, .ref (g 0 k)), (3, .ref a1)]) hx hb d_Ho_searchMap_18 hl (by decide) rfl (fun ls hl => ?_)
  refine lv_iload (pc := 20) hx hb d_Ho_searchMap_20 (lv_at hl 0 rfl) ?_
  refine lv_ldcw (pc := 22) (v := 60000) hx hb hown (hts _ wm_1032) d_Ho_searchMap_22 ?_
  refine lv_icmp_ge (pc := 25) (tgt := 168) hx hb d_Ho_searchMap_25 (by decide) (fun c1 => absurd c1 (by decide)) (fun _ => ?_)
  refine lv_iload (pc := 28) hx hb d_Ho_searchMap_28 (lv_at hl 1 rfl) ?_
  refine lv_if_lt (pc := 30) (tgt := 168) hx hb d_Ho_searchMap_30 (by decide) (fun c1 => absurd c1 (by decide)) (fun c1 => ?_)
  refine lv_iload (pc := 33) hx hb d_Ho_searchMap_33 (lv_at hl 1 rfl) ?_
  refine lv_iload (pc := 35) hx hb d_Ho_searchMap_35 (lv_at hl 3 rfl) ?_
  refine lv_icmp_ge (pc := 37) (tgt := 168) hx hb d_Ho_searchMap_37 (by decide) (fun _ => ?_) (fun c1 => absurd (by decide) c1)
  refine lv_iload (pc := 168) hx hb d_Ho_searchMap_168 (lv_at hl 1 rfl) ?_
  refine lv_iload (pc := 170) hx hb d_Ho_searchMap_170 (lv_at hl 3 rfl) ?_
  refine lv_icmp_ne (pc := 172) (tgt := 179) hx hb d_Ho_searchMap_172 (by decide) (fun c1 => absurd (by decide) c1) (fun _ => ?_)
  refine lv_iconst (pc := 175) (v := 1) hx hb d_Ho_searchMap_175 (by decide) ?_
  refine lv_goto (pc := 176) (tgt := 180) hx hb d_Ho_searchMap_176 (by decide) ?_
  refine W.widen (k := 0) (n := 0) (Nat.le_of_ble_eq_true rfl) (Nat.le_of_ble_eq_true rfl) ?_
  exact W.iret (v := 1) hx hb hr (fun t ht hW => ⟨⟨1, (), rfl, rfl, by rw [ht]; exact hP, va_K.moved hW.alike hK, hD⟩, hS.F ht⟩) hS.2.2 d_Ho_searchMap_180
set_option maxRecDepth 100000 in
set_option maxHeartbeats 4000000 in
/-- DrawingHouse.same(II)I -/
theorem c_Ho_same_z4 (l : Launch) (D : va_G) (kA : Nat → ClassId) (a0 : Nat) (j : Nat) (k : Nat) (a1 : Nat) (a2 : Nat) (a3 : Nat) (a4 : Nat) (a5 : Nat) (a6 : Nat) (a7 : Nat) (a8 : Nat) (a9 : Nat) (a10 : Nat) (g : Nat → Nat → Nat) (a11 : Nat) (a12 : Nat) (a13 : Nat) (a14 : Nat) (a15 : Nat) (a16 : Nat) (a17 : Nat) (a18 : Nat) (a19 : Nat) (a20 : Nat) (a21 : Nat) (a22 : Nat) (a23 : Nat) (a24 : Nat) (a25 : Nat) (a26 : Nat) (a27 : Nat) (a28 : Nat) (a29 : Nat) (a30 : Nat) (a31 : Nat) (a32 : Nat) (a33 : Nat) (a34 : Nat) (a35 : Nat) (a36 : Nat) (f0 : Nat → Int32) (hj : j < 4) (hk : k < 4) : Ci l y_Ho_same z_Ho_same { frames := 2, cells := 1, slots := 24, locals := 51 } D classes (TY kA) [.ref a0, .int (nI j), .int (nI k)] [[(a0, .inr (12, [.ref a1, .ref a2, .ref a3, .ref a4, .ref a5, .ref a6, .ref a7, .int 0, .int ((-1)), .ref a8, .ref a9, .int 0, .int 0, .ref a10, .int 0, .int 0, .null, .null, .null, .null, .null]))], [(a1, .inl (kA 4, 4, .inr (.inr (.inr (.inr (rr (g 0)))))))], [(g 0 j, .inr (3, [.int 0, .int 0, .int 1, .ref a11, .ref a12, .ref a13, .ref a14, .ref a15, .ref a16, .ref a17, .ref a18, .ref a19, .ref a20, .ref a21, .ref a22, .ref a23, .null, .int 0, .int 0]))], [(g 0 k, .inr (3, [.int 0, .int 0, .int 1, .ref a24, .ref a25, .ref a26, .ref a27, .ref a28, .ref a29, .ref a30, .ref a31, .ref a32, .ref a33, .ref a34, .ref a35, .ref a36, .null, .int 0, .int 0]))], [(a7, .inl (kA 0, 24, .inl f0))]] (fun r (_ : List va_W) => r = 1) (fun u => u) 1 24 := by
  intro sz
  refine k_met (cc := b_Ho_same) (maxL := 7) (ret := (some .int)) (by decide) rfl (Nat.le_of_ble_eq_true rfl) (fun p e s m below meth c ls X hl hB => ?_)
  obtain ⟨hsz, hP, hK, hD0, hN⟩ := hB
  subst hsz
  have hD := hD0.self (sz := s.heap.size)
  generalize hAe : va_A (cat [[(a0, .inr (12, [.ref a1, .ref a2, .ref a3, .ref a4, .ref a5, .ref a6, .ref a7, .int 0, .int ((-1)), .ref a8, .ref a9, .int 0, .int 0, .ref a10, .int 0, .int 0, .null, .null, .null, .null, .null]))], [(a1, .inl (kA 4, 4, .inr (.inr (.inr (.inr (rr (g 0)))))))], [(g 0 j, .inr (3, [.int 0, .int 0, .int 1, .ref a11, .ref a12, .ref a13, .ref a14, .ref a15, .ref a16, .ref a17, .ref a18, .ref a19, .ref a20, .ref a21, .ref a22, .ref a23, .null, .int 0, .int 0]))], [(g 0 k, .inr (3, [.int 0, .int 0, .int 1, .ref a24, .ref a25, .ref a26, .ref a27, .ref a28, .ref a29, .ref a30, .ref a31, .ref a32, .ref a33, .ref a34, .ref a35, .ref a36, .null, .int 0, .int 0]))], [(a7, .inl (kA 0, 24, .inl f0))]]) s.heap.size = A at hD ⊢
  have hA : ∀ q : Nat, s.heap.size ≤ q → A q := fun q h => by rw [← hAe]; exact Or.inr h
  have hS : va_S A s.heap s.heap [] := va_S.rf
  obtain ⟨hx, hb, hml, hown, hts, hr, hlk, hnm⟩ := id X
  have hl : lv_has ls 7 [(0, .ref a0), (1, .int (nI j)), (2, .int (nI k))] := hl
  have hP : va_P D classes (cat [[(a0, .inr (12, [.ref a1, .ref a2, .ref a3, .ref a4, .ref a5, .ref a6, .ref a7, .int 0, .int ((-1)), .ref a8, .ref a9, .int 0, .int 0, .ref a10, .int 0, .int 0, .null, .null, .null, .null, .null]))], [(a1, .inl (kA 4, 4, .inr (.inr (.inr (.inr (rr (g 0)))))))], [(g 0 j, .inr (3, [.int 0, .int 0, .int 1, .ref a11, .ref a12, .ref a13, .ref a14, .ref a15, .ref a16, .ref a17, .ref a18, .ref a19, .ref a20, .ref a21, .ref a22, .ref a23, .null, .int 0, .int 0]))], [(g 0 k, .inr (3, [.int 0, .int 0, .int 1, .ref a24, .ref a25, .ref a26, .ref a27, .ref a28, .ref a29, .ref a30, .ref a31, .ref a32, .ref a33, .ref a34, .ref a35, .ref a36, .null, .int 0, .int 0]))], [(a7, .inl (kA 0, 24, .inl f0))]]) s.heap := hP
  have hK : va_K D classes (TY kA) s := hK
  refine lv_iload_n (pc := 0) hx hb d_Ho_same_0 rfl (lv_at hl 1 rfl) ?_
  refine k_goI (gr := [[(a0, .inr (12, [.ref a1, .ref a2, .ref a3, .ref a4, .ref a5, .ref a6, .ref a7, .int 0, .int ((-1)), .ref a8, .ref a9, .int 0, .int 0, .ref a10, .int 0, .int 0, .null, .null, .null, .null, .null]))], [(a1, .inl (kA 4, 4, .inr (.inr (.inr (.inr (rr (g 0)))))))], [(g 0 j, .inr (3, [.int 0, .int 0, .int 1, .ref a11, .ref a12, .ref a13, .ref a14, .ref a15, .ref a16, .ref a17, .ref a18, .ref a19, .ref a20, .ref a21, .ref a22, .ref a23, .null, .int 0, .int 0]))], [(g 0 k, .inr (3, [.int 0, .int 0, .int 1, .ref a24, .ref a25, .ref a26, .ref a27, .ref a28, .ref a29, .ref a30, .ref a31, .ref a32, .ref a33, .ref a34, .ref a35, .ref a36, .null, .int 0, .int 0]))], [(a7, .inl (kA 0, 24, .inl f0))]]) (k_rS (pc := 1) (As := [.int (nI j)]) (rest := []) X (c_Ho_isPlace l D kA (nI j) s.heap.size) rfl wm_633 wm_1 wm_631 wm_632 1 (by decide +kernel) ⟨Nat.le_of_ble_eq_true rfl, Nat.le_of_ble_eq_true rfl⟩ rfl rfl (k_pre hN hK hP hD [] [0, 1, 2, 3, 4] 5 rfl (by decide) rfl) rfl hl.1 rfl (Nat.le_of_ble_eq_true rfl) d_Ho_same_1 ⟨Nat.le_of_ble_eq_true rfl, Nat.le_of_ble_eq_true rfl⟩) hP hD hS hA [] [0, 1, 2, 3, 4] 5 rfl (by decide) rfl rfl (fun r1 u2 H locs hu2 hP hD hS => ?_)
  subst hu2
  refine k_cst (v := 1) (place_ok hj) ?_
  have hP : va_P D classes (cat [[(a0, .inr (12, [.ref a1, .ref a2, .ref a3, .ref a4, .ref a5, .ref a6, .ref a7, .int 0, .int ((-1)), .ref a8, .ref a9, .int 0, .int 0, .ref a10, .int 0, .int 0, .null, .null, .null, .null, .null]))], [(a1, .inl (kA 4, 4, .inr (.inr (.inr (.inr (rr (g 0)))))))], [(g 0 j, .inr (3, [.int 0, .int 0, .int 1, .ref a11, .ref a12, .ref a13, .ref a14, .ref a15, .ref a16, .ref a17, .ref a18, .ref a19, .ref a20, .ref a21, .ref a22, .ref a23, .null, .int 0, .int 0]))], [(g 0 k, .inr (3, [.int 0, .int 0, .int 1, .ref a24, .ref a25, .ref a26, .ref a27, .ref a28, .ref a29, .ref a30, .ref a31, .ref a32, .ref a33, .ref a34, .ref a35, .ref a36, .null, .int 0, .int 0]))], [(a7, .inl (kA 0, 24, .inl f0))]]) H := hP
  have hD : va_D A (cat [[(a0, .inr (12, [.ref a1, .ref a2, .ref a3, .ref a4, .ref a5, .ref a6, .ref a7, .int 0, .int ((-1)), .ref a8, .ref a9, .int 0, .int 0, .ref a10, .int 0, .int 0, .null, .null, .null, .null, .null]))], [(a1, .inl (kA 4, 4, .inr (.inr (.inr (.inr (rr (g 0)))))))], [(g 0 j, .inr (3, [.int 0, .int 0, .int 1, .ref a11, .ref a12, .ref a13, .ref a14, .ref a15, .ref a16, .ref a17, .ref a18, .ref a19, .ref a20, .ref a21, .ref a22, .ref a23, .null, .int 0, .int 0]))], [(g 0 k, .inr (3, [.int 0, .int 0, .int 1, .ref a24, .ref a25, .ref a26, .ref a27, .ref a28, .ref a29, .ref a30, .ref a31, .ref a32, .ref a33, .ref a34, .ref a35, .ref a36, .null, .int 0, .int 0]))], [(a7, .inl (kA 0, 24, .inl f0))]]) := hD
  refine lv_if_eq (pc := 4) (tgt := 14) hx hb d_Ho_same_4 (by decide) (fun c1 => absurd c1 (by decide)) (fun c1 => ?_)
  refine lv_iload_n (pc := 7) hx hb d_Ho_same_7 rfl (lv_at hl 2 rfl) ?_
  refine k_goI (gr := [[(a0, .inr (12, [.ref a1, .ref a2, .ref a3, .ref a4, .ref a5, .ref a6, .ref a7, .int 0, .int ((-1)), .ref a8, .ref a9, .int 0, .int 0, .ref a10, .int 0, .int 0, .null, .null, .null, .null, .null]))], [(a1, .inl (kA 4, 4, .inr (.inr (.inr (.inr (rr (g 0)))))))], [(g 0 j, .inr (3, [.int 0, .int 0, .int 1, .ref a11, .ref a12, .ref a13, .ref a14, .ref a15, .ref a16, .ref a17, .ref a18, .ref a19, .ref a20, .ref a21, .ref a22, .ref a23, .null, .int 0, .int 0]))], [(g 0 k, .inr (3, [.int 0, .int 0, .int 1, .ref a24, .ref a25, .ref a26, .ref a27, .ref a28, .ref a29, .ref a30, .ref a31, .ref a32, .ref a33, .ref a34, .ref a35, .ref a36, .null, .int 0, .int 0]))], [(a7, .inl (kA 0, 24, .inl f0))]]) (k_rS (pc := 8) (As := [.int (nI k)]) (rest := []) X (c_Ho_isPlace l D kA (nI k) H.size) rfl wm_633 wm_1 wm_631 wm_632 1 (by decide +kernel) ⟨Nat.le_of_ble_eq_true rfl, Nat.le_of_ble_eq_true rfl⟩ rfl rfl (k_pre hN hK hP hD [] [0, 1, 2, 3, 4] 5 rfl (by decide) rfl) rfl hl.1 rfl (Nat.le_of_ble_eq_true rfl) d_Ho_same_8 ⟨Nat.le_of_ble_eq_true rfl, Nat.le_of_ble_eq_true rfl⟩) hP hD hS hA [] [0, 1, 2, 3, 4] 5 rfl (by decide) rfl rfl (fun r3 u4 H locs hu4 hP hD hS => ?_)
  subst hu4
  refine k_cst (v := 1) (place_ok hk) ?_
  have hP : va_P D classes (cat [[(a0, .inr (12, [.ref a1, .ref a2, .ref a3, .ref a4, .ref a5, .ref a6, .ref a7, .int 0, .int ((-1)), .ref a8, .ref a9, .int 0, .int 0, .ref a10, .int 0, .int 0, .null, .null, .null, .null, .null]))], [(a1, .inl (kA 4, 4, .inr (.inr (.inr (.inr (rr (g 0)))))))], [(g 0 j, .inr (3, [.int 0, .int 0, .int 1, .ref a11, .ref a12, .ref a13, .ref a14, .ref a15, .ref a16, .ref a17, .ref a18, .ref a19, .ref a20, .ref a21, .ref a22, .ref a23, .null, .int 0, .int 0]))], [(g 0 k, .inr (3, [.int 0, .int 0, .int 1, .ref a24, .ref a25, .ref a26, .ref a27, .ref a28, .ref a29, .ref a30, .ref a31, .ref a32, .ref a33, .ref a34, .ref a35, .ref a36, .null, .int 0, .int 0]))], [(a7, .inl (kA 0, 24, .inl f0))]]) H := hP
  have hD : va_D A (cat [[(a0, .inr (12, [.ref a1, .ref a2, .ref a3, .ref a4, .ref a5, .ref a6, .ref a7, .int 0, .int ((-1)), .ref a8, .ref a9, .int 0, .int 0, .ref a10, .int 0, .int 0, .null, .null, .null, .null, .null]))], [(a1, .inl (kA 4, 4, .inr (.inr (.inr (.inr (rr (g 0)))))))], [(g 0 j, .inr (3, [.int 0, .int 0, .int 1, .ref a11, .ref a12, .ref a13, .ref a14, .ref a15, .ref a16, .ref a17, .ref a18, .ref a19, .ref a20, .ref a21, .ref a22, .ref a23, .null, .int 0, .int 0]))], [(g 0 k, .inr (3, [.int 0, .int 0, .int 1, .ref a24, .ref a25, .ref a26, .ref a27, .ref a28, .ref a29, .ref a30, .ref a31, .ref a32, .ref a33, .ref a34, .ref a35, .ref a36, .null, .int 0, .int 0]))], [(a7, .inl (kA 0, 24, .inl f0))]]) := hD
  refine lv_if_ne (pc := 11) (tgt := 16) hx hb d_Ho_same_11 (by decide) (fun c1 => ?_) (fun c1 => absurd c1 (by decide))
  refine lv_aload_n (pc := 16) hx hb d_Ho_same_16 rfl (lv_at hl 0 rfl) ?_
  refine lv_iconst (pc := 17) (v := 0) hx hb d_Ho_same_17 (by decide) ?_
  refine k_put (pc := 18) X hK hP hD hS 0 rfl rfl i_Ho t_Ho t_Ho_ok n_Ho 8 (by decide) wm_563 rfl (Or.inl rfl) rfl rfl (Nat.le_of_ble_eq_true rfl) d_Ho_same_18 (fun H locs hP hD hS => ?_)
  have hP : va_P D classes (cat [[(a0, .inr (12, [.ref a1, .ref a2, .ref a3, .ref a4, .ref a5, .ref a6, .ref a7, .int 0, .int 0, .ref a8, .ref a9, .int 0, .int 0, .ref a10, .int 0, .int 0, .null, .null, .null, .null, .null]))], [(a1, .inl (kA 4, 4, .inr (.inr (.inr (.inr (rr (g 0)))))))], [(g 0 j, .inr (3, [.int 0, .int 0, .int 1, .ref a11, .ref a12, .ref a13, .ref a14, .ref a15, .ref a16, .ref a17, .ref a18, .ref a19, .ref a20, .ref a21, .ref a22, .ref a23, .null, .int 0, .int 0]))], [(g 0 k, .inr (3, [.int 0, .int 0, .int 1, .ref a24, .ref a25, .ref a26, .ref a27, .ref a28, .ref a29, .ref a30, .ref a31, .ref a32, .ref a33, .ref a34, .ref a35, .ref a36, .null, .int 0, .int 0]))], [(a7, .inl (kA 0, 24, .inl f0))]]) H := hP
  have hD : va_D A (cat [[(a0, .inr (12, [.ref a1, .ref a2, .ref a3, .ref a4, .ref a5, .ref a6, .ref a7, .int 0, .int 0, .ref a8, .ref a9, .int 0, .int 0, .ref a10, .int 0, .int 0, .null, .null, .null, .null, .null]))], [(a1, .inl (kA 4, 4, .inr (.inr (.inr (.inr (rr (g 0)))))))], [(g 0 j, .inr (3, [.int 0, .int 0, .int 1, .ref a11, .ref a12, .ref a13, .ref a14, .ref a15, .ref a16, .ref a17, .ref a18, .ref a19, .ref a20, .ref a21, .ref a22, .ref a23, .null, .int 0, .int 0]))], [(g 0 k, .inr (3, [.int 0, .int 0, .int 1, .ref a24, .ref a25, .ref a26, .ref a27, .ref a28, .ref a29, .ref a30, .ref a31, .ref a32, .ref a33, .ref a34, .ref a35, .ref a36, .null, .int 0, .int 0]))], [(a7, .inl (kA 0, 24, .inl f0))]]) := hD
  refine lv_aload_n (pc := 21) hx hb d_Ho_same_21 rfl (lv_at hl 0 rfl) ?_
  refine k_get (pc := 22) X hK hP 0 rfl rfl i_Ho 0 (by decide) wm_555 rfl rfl d_Ho_same_22 ?_
  refine lv_iload_n (pc := 25) hx hb d_Ho_same_25 rfl (lv_at hl 1 rfl) ?_
  refine k_ald (pc := 26) hx hb hK hP 1 4 rfl rfl (j) rfl (by omega) (by decide) (rr_at (by omega)) d_Ho_same_26 ?_
  refine lv_astore_n (pc := 27) (lv' := [(3, .ref (g 0 j)), (0, .ref a0), (1, .int (nI j)), (2, .int (nI k))]) hx hb d_Ho_same_27 rfl hl (by decide) rfl (fun ls hl => ?_)
  refine lv_aload_n (pc := 28) hx hb d_Ho_same_28 rfl (lv_at hl 1 rfl) ?_
  refine k_get (pc := 29) X hK hP 0 rfl rfl i_Ho 0 (by decide) wm_555 rfl rfl d_Ho_same_29 ?_
  refine lv_iload_n (pc := 32) hx hb d_Ho_same_32 rfl (lv_at hl 3 rfl) ?_
  refine k_ald (pc := 33) hx hb hK hP 1 4 rfl rfl (k) rfl (by omega) (by decide) (rr_at (by omega)) d_Ho_same_33 ?_
  refine lv_astore (pc := 34) (lv' := [(4, .ref (g 0 k)), (3, .ref (g 0 j)), (0, .ref a0), (1, .int (nI j)), (2, .int (nI k))]) hx hb d_Ho_same_34 hl (by decide) rfl (fun ls hl => ?_)
  refine lv_aload_n (pc := 36) hx hb d_Ho_same_36 rfl (lv_at hl 1 rfl) ?_
  refine k_get (pc := 37) X hK hP 2 rfl rfl i_Gr 0 (by decide) wm_62 rfl rfl d_Ho_same_37 ?_
  refine lv_aload (pc := 40) hx hb d_Ho_same_40 (lv_at hl 0 rfl) ?_
  refine k_get (pc := 42) X hK hP 3 rfl rfl i_Gr 0 (by decide) wm_62 rfl rfl d_Ho_same_42 ?_
  refine lv_icmp_ne (pc := 45) (tgt := 60) hx hb d_Ho_same_45 (by decide) (fun c1 => absurd (by decide) c1) (fun _ => ?_)
  refine lv_aload_n (pc := 48) hx hb d_Ho_same_48 rfl (lv_at hl 1 rfl) ?_
  refine k_get (pc := 49) X hK hP 2 rfl rfl i_Gr 1 (by decide) wm_73 rfl rfl d_Ho_same_49 ?_
  refine lv_aload (pc := 52) hx hb d_Ho_same_52 (lv_at hl 0 rfl) ?_
  refine k_get (pc := 54) X hK hP 3 rfl rfl i_Gr 1 (by decide) wm_73 rfl rfl d_Ho_same_54 ?_
  refine lv_icmp_eq (pc := 57) (tgt := 62) hx hb d_Ho_same_57 (by decide) (fun _ => ?_) (fun c1 => absurd (by decide) c1)
  refine lv_bipush (pc := 62) (v := 24) hx hb d_Ho_same_62 (by decide) ?_
  refine k_newa (pc := 64) (atype := .int) X (ty := .int) (a0 := (24, .inl (fun _ => 0))) rfl rfl wm_193 hK hP hD hS hA 0 rfl (fun _ => rfl) (by decide) rfl (by decide) (Nat.le_of_ble_eq_true rfl) (Nat.le_of_ble_eq_true rfl) d_Ho_same_64 (fun q5 H hP hD hS => ?_)
  have hP : va_P D classes (cat [[(a0, .inr (12, [.ref a1, .ref a2, .ref a3, .ref a4, .ref a5, .ref a6, .ref a7, .int 0, .int 0, .ref a8, .ref a9, .int 0, .int 0, .ref a10, .int 0, .int 0, .null, .null, .null, .null, .null]))], [(a1, .inl (kA 4, 4, .inr (.inr (.inr (.inr (rr (g 0)))))))], [(g 0 j, .inr (3, [.int 0, .int 0, .int 1, .ref a11, .ref a12, .ref a13, .ref a14, .ref a15, .ref a16, .ref a17, .ref a18, .ref a19, .ref a20, .ref a21, .ref a22, .ref a23, .null, .int 0, .int 0]))], [(g 0 k, .inr (3, [.int 0, .int 0, .int 1, .ref a24, .ref a25, .ref a26, .ref a27, .ref a28, .ref a29, .ref a30, .ref a31, .ref a32, .ref a33, .ref a34, .ref a35, .ref a36, .null, .int 0, .int 0]))], [(a7, .inl (kA 0, 24, .inl f0))], [(q5, .inl (kA 0, 24, .inl (fun _ => 0)))]]) H := hP
  have hD : va_D A (cat [[(a0, .inr (12, [.ref a1, .ref a2, .ref a3, .ref a4, .ref a5, .ref a6, .ref a7, .int 0, .int 0, .ref a8, .ref a9, .int 0, .int 0, .ref a10, .int 0, .int 0, .null, .null, .null, .null, .null]))], [(a1, .inl (kA 4, 4, .inr (.inr (.inr (.inr (rr (g 0)))))))], [(g 0 j, .inr (3, [.int 0, .int 0, .int 1, .ref a11, .ref a12, .ref a13, .ref a14, .ref a15, .ref a16, .ref a17, .ref a18, .ref a19, .ref a20, .ref a21, .ref a22, .ref a23, .null, .int 0, .int 0]))], [(g 0 k, .inr (3, [.int 0, .int 0, .int 1, .ref a24, .ref a25, .ref a26, .ref a27, .ref a28, .ref a29, .ref a30, .ref a31, .ref a32, .ref a33, .ref a34, .ref a35, .ref a36, .null, .int 0, .int 0]))], [(a7, .inl (kA 0, 24, .inl f0))], [(q5, .inl (kA 0, 24, .inl (fun _ => 0)))]]) := hD
  refine W.widen (k := 1) (n := 24) (by omega) (by omega) ?_
  refine lv_astore (pc := 66) (lv' := [(5, .ref q5), (4, .ref (g 0 k)), (3, .ref (g 0 j)), (0, .ref a0), (1, .int (nI j)), (2, .int (nI k))]) hx hb d_Ho_same_66 hl (by decide) rfl (fun ls hl => ?_)
  refine lv_aload_n (pc := 68) hx hb d_Ho_same_68 rfl (lv_at hl 3 rfl) ?_
  refine lv_aload_n (pc := 69) hx hb d_Ho_same_69 rfl (lv_at hl 2 rfl) ?_
  refine lv_aload (pc := 70) hx hb d_Ho_same_70 (lv_at hl 1 rfl) ?_
  refine lv_aload (pc := 72) hx hb d_Ho_same_72 (lv_at hl 0 rfl) ?_
  refine k_goI (gr := [[(a0, .inr (12, [.ref a1, .ref a2, .ref a3, .ref a4, .ref a5, .ref a6, .ref a7, .int 0, .int 0, .ref a8, .ref a9, .int 0, .int 0, .ref a10, .int 0, .int 0, .null, .null, .null, .null, .null]))], [(a1, .inl (kA 4, 4, .inr (.inr (.inr (.inr (rr (g 0)))))))], [(g 0 k, .inr (3, [.int 0, .int 0, .int 1, .ref a24, .ref a25, .ref a26, .ref a27, .ref a28, .ref a29, .ref a30, .ref a31, .ref a32, .ref a33, .ref a34, .ref a35, .ref a36, .null, .int 0, .int 0]))], [(a7, .inl (kA 0, 24, .inl f0))]]) (k_rV (pc := 74) (As := [.ref (g 0 j), .ref (g 0 k), .ref q5]) (rest := []) X (c_Ho_searchMap_z2 l D kA a0 g j k q5 a11 a12 a13 a14 a15 a16 a17 a18 a19 a20 a21 a22 a23 (fun _ => 0) hj hk H.size) rfl wm_1030 wm_1 wm_1027 wm_1029 wv_3_5 3 (by decide +kernel) ⟨Nat.le_of_ble_eq_true rfl, Nat.le_of_ble_eq_true rfl⟩ rfl rfl (va_recv hK hP (ci := 12) (q0 := 0) rfl rfl) (k_pre hN hK hP hD [2, 5] [0, 1, 3, 4] 6 rfl (by decide) rfl) rfl hl.1 rfl (Nat.le_of_ble_eq_true rfl) d_Ho_same_74 ⟨Nat.le_of_ble_eq_true rfl, Nat.le_of_ble_eq_true rfl⟩) hP hD hS hA [2, 5] [0, 1, 3, 4] 6 rfl (by decide) rfl rfl (fun r6 u7 H locs hu7 hP hD hS => ?_)
  subst hu7
  have hP : va_P D classes (cat [[(a0, .inr (12, [.ref a1, .ref a2, .ref a3, .ref a4, .ref a5, .ref a6, .ref a7, .int 0, .int 0, .ref a8, .ref a9, .int 0, .int 0, .ref a10, .int 0, .int 0, .null, .null, .null, .null, .null]))], [(a1, .inl (kA 4, 4, .inr (.inr (.inr (.inr (rr (g 0)))))))], [(g 0 k, .inr (3, [.int 0, .int 0, .int 1, .ref a24, .ref a25, .ref a26, .ref a27, .ref a28, .ref a29, .ref a30, .ref a31, .ref a32, .ref a33, .ref a34, .ref a35, .ref a36, .null, .int 0, .int 0]))], [(a7, .inl (kA 0, 24, .inl f0))], [(g 0 j, .inr (3, [.int 0, .int 0, .int 1, .ref a11, .ref a12, .ref a13, .ref a14, .ref a15, .ref a16, .ref a17, .ref a18, .ref a19, .ref a20, .ref a21, .ref a22, .ref a23, .null, .int 0, .int 0]))], [(q5, .inl (kA 0, 24, .inl (fl (fun _ => 0) 24 (-1))))]]) H := hP
  have hD : va_D A (cat [[(a0, .inr (12, [.ref a1, .ref a2, .ref a3, .ref a4, .ref a5, .ref a6, .ref a7, .int 0, .int 0, .ref a8, .ref a9, .int 0, .int 0, .ref a10, .int 0, .int 0, .null, .null, .null, .null, .null]))], [(a1, .inl (kA 4, 4, .inr (.inr (.inr (.inr (rr (g 0)))))))], [(g 0 k, .inr (3, [.int 0, .int 0, .int 1, .ref a24, .ref a25, .ref a26, .ref a27, .ref a28, .ref a29, .ref a30, .ref a31, .ref a32, .ref a33, .ref a34, .ref a35, .ref a36, .null, .int 0, .int 0]))], [(a7, .inl (kA 0, 24, .inl f0))], [(g 0 j, .inr (3, [.int 0, .int 0, .int 1, .ref a11, .ref a12, .ref a13, .ref a14, .ref a15, .ref a16, .ref a17, .ref a18, .ref a19, .ref a20, .ref a21, .ref a22, .ref a23, .null, .int 0, .int 0]))], [(q5, .inl (kA 0, 24, .inl (fl (fun _ => 0) 24 (-1))))]]) := hD
  refine lv_istore (pc := 77) (lv' := [(6, .int 1), (5, .ref q5), (4, .ref (g 0 k)), (3, .ref (g 0 j)), (0, .ref a0), (1, .int (nI j)), (2, .int (nI k))]) hx hb d_Ho_same_77 hl (by decide) rfl (fun ls hl => ?_)
  refine lv_iload (pc := 79) hx hb d_Ho_same_79 (lv_at hl 0 rfl) ?_
  refine lv_iconst (pc := 81) (v := 1) hx hb d_Ho_same_81 (by decide) ?_
  refine lv_icmp_ne (pc := 82) (tgt := 108) hx hb d_Ho_same_82 (by decide) (fun c1 => absurd (by decide) c1) (fun _ => ?_)
  refine lv_aload_n (pc := 85) hx hb d_Ho_same_85 rfl (lv_at hl 4 rfl) ?_
  refine lv_aload_n (pc := 86) hx hb d_Ho_same_86 rfl (lv_at hl 3 rfl) ?_
  refine k_get (pc := 87) X hK hP 4 rfl rfl i_Gr 0 (by decide) wm_62 rfl rfl d_Ho_same_87 ?_
  refine k_put (pc := 90) X hK hP hD hS 0 rfl rfl i_Ho t_Ho t_Ho_ok n_Ho 7 (by decide) wm_562 rfl (Or.inl rfl) rfl rfl (Nat.le_of_ble_eq_true rfl) d_Ho_same_90 (fun H locs hP hD hS => ?_)
  have hP : va_P D classes (cat [[(a0, .inr (12, [.ref a1, .ref a2, .ref a3, .ref a4, .ref a5, .ref a6, .ref a7, .int 0, .int 0, .ref a8, .ref a9, .int 0, .int 0, .ref a10, .int 0, .int 0, .null, .null, .null, .null, .null]))], [(a1, .inl (kA 4, 4, .inr (.inr (.inr (.inr (rr (g 0)))))))], [(g 0 k, .inr (3, [.int 0, .int 0, .int 1, .ref a24, .ref a25, .ref a26, .ref a27, .ref a28, .ref a29, .ref a30, .ref a31, .ref a32, .ref a33, .ref a34, .ref a35, .ref a36, .null, .int 0, .int 0]))], [(a7, .inl (kA 0, 24, .inl f0))], [(g 0 j, .inr (3, [.int 0, .int 0, .int 1, .ref a11, .ref a12, .ref a13, .ref a14, .ref a15, .ref a16, .ref a17, .ref a18, .ref a19, .ref a20, .ref a21, .ref a22, .ref a23, .null, .int 0, .int 0]))], [(q5, .inl (kA 0, 24, .inl (fl (fun _ => 0) 24 (-1))))]]) H := hP
  have hD : va_D A (cat [[(a0, .inr (12, [.ref a1, .ref a2, .ref a3, .ref a4, .ref a5, .ref a6, .ref a7, .int 0, .int 0, .ref a8, .ref a9, .int 0, .int 0, .ref a10, .int 0, .int 0, .null, .null, .null, .null, .null]))], [(a1, .inl (kA 4, 4, .inr (.inr (.inr (.inr (rr (g 0)))))))], [(g 0 k, .inr (3, [.int 0, .int 0, .int 1, .ref a24, .ref a25, .ref a26, .ref a27, .ref a28, .ref a29, .ref a30, .ref a31, .ref a32, .ref a33, .ref a34, .ref a35, .ref a36, .null, .int 0, .int 0]))], [(a7, .inl (kA 0, 24, .inl f0))], [(g 0 j, .inr (3, [.int 0, .int 0, .int 1, .ref a11, .ref a12, .ref a13, .ref a14, .ref a15, .ref a16, .ref a17, .ref a18, .ref a19, .ref a20, .ref a21, .ref a22, .ref a23, .null, .int 0, .int 0]))], [(q5, .inl (kA 0, 24, .inl (fl (fun _ => 0) 24 (-1))))]]) := hD
  refine lv_aload (pc := 93) hx hb d_Ho_same_93 (lv_at hl 1 rfl) ?_
  refine lv_iconst (pc := 95) (v := 0) hx hb d_Ho_same_95 (by decide) ?_
  refine lv_aload_n (pc := 96) hx hb d_Ho_same_96 rfl (lv_at hl 4 rfl) ?_
  refine k_get (pc := 97) X hK hP 0 rfl rfl i_Ho 6 (by decide) wm_561 rfl rfl d_Ho_same_97 ?_
  refine lv_iconst (pc := 100) (v := 0) hx hb d_Ho_same_100 (by decide) ?_
  refine lv_aload_n (pc := 101) hx hb d_Ho_same_101 rfl (lv_at hl 3 rfl) ?_
  refine k_get (pc := 102) X hK hP 4 rfl rfl i_Gr 0 (by decide) wm_62 rfl rfl d_Ho_same_102 ?_
  refine k_cpy (pc := 105) hx hb (hml.trans hl.1.symm) hown (hts _ wm_1040) (hts _ wm_750) (hts _ wm_749) (hts _ wm_15) hK hP hD hS 5 3 0 0 rfl rfl rfl rfl rfl 0 0 0 (by decide) (by decide) (by decide) (by decide) (by decide) (by decide) (Nat.le_of_ble_eq_true rfl) (Nat.le_of_ble_eq_true rfl) (fun i hi => rfl) (Nat.le_of_ble_eq_true rfl) (ac_room (Nat.le_of_ble_eq_true rfl)) d_Ho_same_105 (fun H locs hP hD hS => ?_)
  have hP : va_P D classes (cat [[(a0, .inr (12, [.ref a1, .ref a2, .ref a3, .ref a4, .ref a5, .ref a6, .ref a7, .int 0, .int 0, .ref a8, .ref a9, .int 0, .int 0, .ref a10, .int 0, .int 0, .null, .null, .null, .null, .null]))], [(a1, .inl (kA 4, 4, .inr (.inr (.inr (.inr (rr (g 0)))))))], [(g 0 k, .inr (3, [.int 0, .int 0, .int 1, .ref a24, .ref a25, .ref a26, .ref a27, .ref a28, .ref a29, .ref a30, .ref a31, .ref a32, .ref a33, .ref a34, .ref a35, .ref a36, .null, .int 0, .int 0]))], [(a7, .inl (kA 0, 24, .inl (va_cpy (fl (fun _ => 0) 24 (-1)) f0 0 0 0)))], [(g 0 j, .inr (3, [.int 0, .int 0, .int 1, .ref a11, .ref a12, .ref a13, .ref a14, .ref a15, .ref a16, .ref a17, .ref a18, .ref a19, .ref a20, .ref a21, .ref a22, .ref a23, .null, .int 0, .int 0]))], [(q5, .inl (kA 0, 24, .inl (fl (fun _ => 0) 24 (-1))))]]) H := hP
  have hD : va_D A (cat [[(a0, .inr (12, [.ref a1, .ref a2, .ref a3, .ref a4, .ref a5, .ref a6, .ref a7, .int 0, .int 0, .ref a8, .ref a9, .int 0, .int 0, .ref a10, .int 0, .int 0, .null, .null, .null, .null, .null]))], [(a1, .inl (kA 4, 4, .inr (.inr (.inr (.inr (rr (g 0)))))))], [(g 0 k, .inr (3, [.int 0, .int 0, .int 1, .ref a24, .ref a25, .ref a26, .ref a27, .ref a28, .ref a29, .ref a30, .ref a31, .ref a32, .ref a33, .ref a34, .ref a35, .ref a36, .null, .int 0, .int 0]))], [(a7, .inl (kA 0, 24, .inl (va_cpy (fl (fun _ => 0) 24 (-1)) f0 0 0 0)))], [(g 0 j, .inr (3, [.int 0, .int 0, .int 1, .ref a11, .ref a12, .ref a13, .ref a14, .ref a15, .ref a16, .ref a17, .ref a18, .ref a19, .ref a20, .ref a21, .ref a22, .ref a23, .null, .int 0, .int 0]))], [(q5, .inl (kA 0, 24, .inl (fl (fun _ => 0) 24 (-1))))]]) := hD
  refine lv_iload (pc := 108) hx hb d_Ho_same_108 (lv_at hl 0 rfl) ?_
  refine W.widen (k := 1) (n := 24) (Nat.le_of_ble_eq_true rfl) (Nat.le_of_ble_eq_true rfl) ?_
  exact W.iret (v := 1) hx hb hr (fun t ht hW => ⟨⟨1, [[(a0, .inr (12, [.ref a1, .ref a2, .ref a3, .ref a4, .ref a5, .ref a6, .ref a7, .int 0, .int 0, .ref a8, .ref a9, .int 0, .int 0, .ref a10, .int 0, .int 0, .null, .null, .null, .null, .null]))], [(a1, .inl (kA 4, 4, .inr (.inr (.inr (.inr (rr (g 0)))))))], [(g 0 k, .inr (3, [.int 0, .int 0, .int 1, .ref a24, .ref a25, .ref a26, .ref a27, .ref a28, .ref a29, .ref a30, .ref a31, .ref a32, .ref a33, .ref a34, .ref a35, .ref a36, .null, .int 0, .int 0]))], [(a7, .inl (kA 0, 24, .inl (va_cpy (fl (fun _ => 0) 24 (-1)) f0 0 0 0)))], [(g 0 j, .inr (3, [.int 0, .int 0, .int 1, .ref a11, .ref a12, .ref a13, .ref a14, .ref a15, .ref a16, .ref a17, .ref a18, .ref a19, .ref a20, .ref a21, .ref a22, .ref a23, .null, .int 0, .int 0]))], [(q5, .inl (kA 0, 24, .inl (fl (fun _ => 0) 24 (-1))))]], rfl, rfl, by rw [ht]; exact hP, va_K.moved hW.alike hK, hD⟩, hS.F ht⟩) hS.2.2 d_Ho_same_110
set_option maxRecDepth 100000 in
set_option maxHeartbeats 4000000 in
/-- DrawingHouseModel.same(II)I -/
theorem c_Mo_same_z4 (l : Launch) (D : va_G) (kA : Nat → ClassId) (a0 : Nat) (j : Nat) (k : Nat) (qm : Nat → Nat) (hj : j < 4) (hk : k < 4) : Ci l y_Mo_same z_Mo_same { frames := 2, cells := 0, slots := 0, locals := 42 } D classes (TY kA) [.ref a0, .int (nI j), .int (nI k)] [[(a0, .inr (13, mF qm x0Mo y0Mo))], [(qm 3, .inl (kA 0, 4, .inl (fun _ => 0)))], [(qm 2, .inl (kA 0, 66836, .inl all0))]] (fun r (_ : List va_W) => r = 1) (fun u => u) 0 0 := by
  intro sz
  refine k_met (cc := b_Mo_same) (maxL := 9) (ret := (some .int)) (by decide) rfl (Nat.le_of_ble_eq_true rfl) (fun p e s m below meth c ls X hl hB => ?_)
  obtain ⟨hsz, hP, hK, hD0, hN⟩ := hB
  subst hsz
  have hD := hD0.self (sz := s.heap.size)
  generalize hAe : va_A (cat [[(a0, .inr (13, mF qm x0Mo y0Mo))], [(qm 3, .inl (kA 0, 4, .inl (fun _ => 0)))], [(qm 2, .inl (kA 0, 66836, .inl all0))]]) s.heap.size = A at hD ⊢
  have hA : ∀ q : Nat, s.heap.size ≤ q → A q := fun q h => by rw [← hAe]; exact Or.inr h
  have hS : va_S A s.heap s.heap [] := va_S.rf
  obtain ⟨hx, hb, hml, hown, hts, hr, hlk, hnm⟩ := id X
  have hl : lv_has ls 9 [(0, .ref a0), (1, .int (nI j)), (2, .int (nI k))] := hl
  have hP : va_P D classes (cat [[(a0, .inr (13, mF qm x0Mo y0Mo))], [(qm 3, .inl (kA 0, 4, .inl (fun _ => 0)))], [(qm 2, .inl (kA 0, 66836, .inl all0))]]) s.heap := hP
  have hK : va_K D classes (TY kA) s := hK
  refine lv_iload_n (pc := 0) hx hb d_Mo_same_0 rfl (lv_at hl 1 rfl) ?_
  refine k_goI (gr := [[(a0, .inr (13, mF qm x0Mo y0Mo))], [(qm 3, .inl (kA 0, 4, .inl (fun _ => 0)))], [(qm 2, .inl (kA 0, 66836, .inl all0))]]) (k_rS (pc := 1) (As := [.int (nI j)]) (rest := []) X (c_Mo_isPlace l D kA (nI j) s.heap.size) rfl wm_2978 wm_9 wm_2976 wm_2977 1 (by decide +kernel) ⟨Nat.le_of_ble_eq_true rfl, Nat.le_of_ble_eq_true rfl⟩ rfl rfl (k_pre hN hK hP hD [] [0, 1, 2] 3 rfl (by decide) rfl) rfl hl.1 rfl (Nat.le_of_ble_eq_true rfl) d_Mo_same_1 ⟨Nat.le_of_ble_eq_true rfl, Nat.le_of_ble_eq_true rfl⟩) hP hD hS hA [] [0, 1, 2] 3 rfl (by decide) rfl rfl (fun r1 u2 H locs hu2 hP hD hS => ?_)
  subst hu2
  refine k_cst (v := 1) (placeM_ok hj) ?_
  have hP : va_P D classes (cat [[(a0, .inr (13, mF qm x0Mo y0Mo))], [(qm 3, .inl (kA 0, 4, .inl (fun _ => 0)))], [(qm 2, .inl (kA 0, 66836, .inl all0))]]) H := hP
  have hD : va_D A (cat [[(a0, .inr (13, mF qm x0Mo y0Mo))], [(qm 3, .inl (kA 0, 4, .inl (fun _ => 0)))], [(qm 2, .inl (kA 0, 66836, .inl all0))]]) := hD
  refine lv_if_eq (pc := 4) (tgt := 14) hx hb d_Mo_same_4 (by decide) (fun c1 => absurd c1 (by decide)) (fun c1 => ?_)
  refine lv_iload_n (pc := 7) hx hb d_Mo_same_7 rfl (lv_at hl 2 rfl) ?_
  refine k_goI (gr := [[(a0, .inr (13, mF qm x0Mo y0Mo))], [(qm 3, .inl (kA 0, 4, .inl (fun _ => 0)))], [(qm 2, .inl (kA 0, 66836, .inl all0))]]) (k_rS (pc := 8) (As := [.int (nI k)]) (rest := []) X (c_Mo_isPlace l D kA (nI k) H.size) rfl wm_2978 wm_9 wm_2976 wm_2977 1 (by decide +kernel) ⟨Nat.le_of_ble_eq_true rfl, Nat.le_of_ble_eq_true rfl⟩ rfl rfl (k_pre hN hK hP hD [] [0, 1, 2] 3 rfl (by decide) rfl) rfl hl.1 rfl (Nat.le_of_ble_eq_true rfl) d_Mo_same_8 ⟨Nat.le_of_ble_eq_true rfl, Nat.le_of_ble_eq_true rfl⟩) hP hD hS hA [] [0, 1, 2] 3 rfl (by decide) rfl rfl (fun r3 u4 H locs hu4 hP hD hS => ?_)
  subst hu4
  refine k_cst (v := 1) (placeM_ok hk) ?_
  have hP : va_P D classes (cat [[(a0, .inr (13, mF qm x0Mo y0Mo))], [(qm 3, .inl (kA 0, 4, .inl (fun _ => 0)))], [(qm 2, .inl (kA 0, 66836, .inl all0))]]) H := hP
  have hD : va_D A (cat [[(a0, .inr (13, mF qm x0Mo y0Mo))], [(qm 3, .inl (kA 0, 4, .inl (fun _ => 0)))], [(qm 2, .inl (kA 0, 66836, .inl all0))]]) := hD
  refine lv_if_ne (pc := 11) (tgt := 16) hx hb d_Mo_same_11 (by decide) (fun c1 => ?_) (fun c1 => absurd c1 (by decide))
  refine lv_aload_n (pc := 16) hx hb d_Mo_same_16 rfl (lv_at hl 0 rfl) ?_
  refine lv_iload_n (pc := 17) hx hb d_Mo_same_17 rfl (lv_at hl 1 rfl) ?_
  refine lv_aload_n (pc := 18) hx hb d_Mo_same_18 rfl (lv_at hl 0 rfl) ?_
  refine k_get (pc := 19) (v := .ref (qm 3)) X hK hP 0 rfl rfl i_Mo 3 (by decide) wm_2436 rfl rfl d_Mo_same_19 ?_
  refine lv_iload_n (pc := 22) hx hb d_Mo_same_22 rfl (lv_at hl 1 rfl) ?_
  refine k_ild (pc := 23) hx hb hK hP 1 0 rfl rfl (j) rfl (by omega) (by decide) d_Mo_same_23 ?_
  refine k_cst (v := 0) (by rfl) ?_
  refine k_goI (gr := [[(a0, .inr (13, mF qm x0Mo y0Mo))], [(qm 3, .inl (kA 0, 4, .inl (fun _ => 0)))], [(qm 2, .inl (kA 0, 66836, .inl all0))]]) (k_rS (pc := 24) (As := [.int (nI j), .int 0]) (rest := [.ref a0]) X (c_Mo_rowOf l D kA j 0 H.size) rfl wm_2420 wm_9 wm_2418 wm_2419 2 (by decide +kernel) ⟨Nat.le_of_ble_eq_true rfl, Nat.le_of_ble_eq_true rfl⟩ rfl rfl (k_pre hN hK hP hD [] [0, 1, 2] 3 rfl (by decide) rfl) rfl hl.1 rfl (Nat.le_of_ble_eq_true rfl) d_Mo_same_24 ⟨Nat.le_of_ble_eq_true rfl, Nat.le_of_ble_eq_true rfl⟩) hP hD hS hA [] [0, 1, 2] 3 rfl (by decide) rfl rfl (fun r5 u6 H locs hu6 hP hD hS => ?_)
  subst hu6
  have hP : va_P D classes (cat [[(a0, .inr (13, mF qm x0Mo y0Mo))], [(qm 3, .inl (kA 0, 4, .inl (fun _ => 0)))], [(qm 2, .inl (kA 0, 66836, .inl all0))]]) H := hP
  have hD : va_D A (cat [[(a0, .inr (13, mF qm x0Mo y0Mo))], [(qm 3, .inl (kA 0, 4, .inl (fun _ => 0)))], [(qm 2, .inl (kA 0, 66836, .inl all0))]]) := hD
  refine k_put (pc := 27) X hK hP hD hS 0 rfl rfl i_Mo t_Mo t_Mo_ok n_Mo 28 (by decide) wm_2461 rfl (Or.inl rfl) rfl rfl (Nat.le_of_ble_eq_true rfl) d_Mo_same_27 (fun H locs hP hD hS => ?_)
  have hP : va_P D classes (cat [[(a0, .inr (13, mF qm (va_up x0Mo 28 (nI (539 * (31 * j + 0)))) y0Mo))], [(qm 3, .inl (kA 0, 4, .inl (fun _ => 0)))], [(qm 2, .inl (kA 0, 66836, .inl all0))]]) H := hP
  have hD : va_D A (cat [[(a0, .inr (13, mF qm (va_up x0Mo 28 (nI (539 * (31 * j + 0)))) y0Mo))], [(qm 3, .inl (kA 0, 4, .inl (fun _ => 0)))], [(qm 2, .inl (kA 0, 66836, .inl all0))]]) := hD
  refine lv_aload_n (pc := 30) hx hb d_Mo_same_30 rfl (lv_at hl 0 rfl) ?_
  refine lv_iload_n (pc := 31) hx hb d_Mo_same_31 rfl (lv_at hl 2 rfl) ?_
  refine lv_aload_n (pc := 32) hx hb d_Mo_same_32 rfl (lv_at hl 0 rfl) ?_
  refine k_get (pc := 33) (v := .ref (qm 3)) X hK hP 0 rfl rfl i_Mo 3 (by decide) wm_2436 rfl rfl d_Mo_same_33 ?_
  refine lv_iload_n (pc := 36) hx hb d_Mo_same_36 rfl (lv_at hl 2 rfl) ?_
  refine k_ild (pc := 37) hx hb hK hP 1 0 rfl rfl (k) rfl (by omega) (by decide) d_Mo_same_37 ?_
  refine k_cst (v := 0) (by rfl) ?_
  refine k_goI (gr := [[(a0, .inr (13, mF qm (va_up x0Mo 28 (nI (539 * (31 * j + 0)))) y0Mo))], [(qm 3, .inl (kA 0, 4, .inl (fun _ => 0)))], [(qm 2, .inl (kA 0, 66836, .inl all0))]]) (k_rS (pc := 38) (As := [.int (nI k), .int 0]) (rest := [.ref a0]) X (c_Mo_rowOf l D kA k 0 H.size) rfl wm_2420 wm_9 wm_2418 wm_2419 2 (by decide +kernel) ⟨Nat.le_of_ble_eq_true rfl, Nat.le_of_ble_eq_true rfl⟩ rfl rfl (k_pre hN hK hP hD [] [0, 1, 2] 3 rfl (by decide) rfl) rfl hl.1 rfl (Nat.le_of_ble_eq_true rfl) d_Mo_same_38 ⟨Nat.le_of_ble_eq_true rfl, Nat.le_of_ble_eq_true rfl⟩) hP hD hS hA [] [0, 1, 2] 3 rfl (by decide) rfl rfl (fun r7 u8 H locs hu8 hP hD hS => ?_)
  subst hu8
  have hP : va_P D classes (cat [[(a0, .inr (13, mF qm (va_up x0Mo 28 (nI (539 * (31 * j + 0)))) y0Mo))], [(qm 3, .inl (kA 0, 4, .inl (fun _ => 0)))], [(qm 2, .inl (kA 0, 66836, .inl all0))]]) H := hP
  have hD : va_D A (cat [[(a0, .inr (13, mF qm (va_up x0Mo 28 (nI (539 * (31 * j + 0)))) y0Mo))], [(qm 3, .inl (kA 0, 4, .inl (fun _ => 0)))], [(qm 2, .inl (kA 0, 66836, .inl all0))]]) := hD
  refine k_put (pc := 41) X hK hP hD hS 0 rfl rfl i_Mo t_Mo t_Mo_ok n_Mo 29 (by decide) wm_2462 rfl (Or.inl rfl) rfl rfl (Nat.le_of_ble_eq_true rfl) d_Mo_same_41 (fun H locs hP hD hS => ?_)
  have hP : va_P D classes (cat [[(a0, .inr (13, mF qm (va_up (va_up x0Mo 28 (nI (539 * (31 * j + 0)))) 29 (nI (539 * (31 * k + 0)))) y0Mo))], [(qm 3, .inl (kA 0, 4, .inl (fun _ => 0)))], [(qm 2, .inl (kA 0, 66836, .inl all0))]]) H := hP
  have hD : va_D A (cat [[(a0, .inr (13, mF qm (va_up (va_up x0Mo 28 (nI (539 * (31 * j + 0)))) 29 (nI (539 * (31 * k + 0)))) y0Mo))], [(qm 3, .inl (kA 0, 4, .inl (fun _ => 0)))], [(qm 2, .inl (kA 0, 66836, .inl all0))]]) := hD
  refine lv_aload_n (pc := 44) hx hb d_Mo_same_44 rfl (lv_at hl 0 rfl) ?_
  refine k_get (pc := 45) (v := .ref (qm 2)) X hK hP 0 rfl rfl i_Mo 2 (by decide) wm_2435 rfl rfl d_Mo_same_45 ?_
  refine lv_aload_n (pc := 48) hx hb d_Mo_same_48 rfl (lv_at hl 0 rfl) ?_
  refine k_get (pc := 49) (v := .int (nI (539 * (31 * j + 0)))) X hK hP 0 rfl rfl i_Mo 28 (by decide) wm_2461 rfl rfl d_Mo_same_49 ?_
  refine k_ild (pc := 52) hx hb hK hP 2 0 rfl rfl (539 * (31 * j + 0)) rfl (by omega) (by decide) d_Mo_same_52 ?_
  refine k_cst (v := 0) (all0_e hj (o := 0) (by omega) (by decide) rfl) ?_
  refine lv_istore_n (pc := 53) (lv' := [(3, .int 0), (0, .ref a0), (1, .int (nI j)), (2, .int (nI k))]) hx hb d_Mo_same_53 rfl hl (by decide) rfl (fun ls hl => ?_)
  refine lv_aload_n (pc := 54) hx hb d_Mo_same_54 rfl (lv_at hl 1 rfl) ?_
  refine lv_iconst (pc := 55) (v := 0) hx hb d_Mo_same_55 (by decide) ?_
  refine k_put (pc := 56) X hK hP hD hS 0 rfl rfl i_Mo t_Mo t_Mo_ok n_Mo 27 (by decide) wm_2460 rfl (Or.inl rfl) rfl rfl (Nat.le_of_ble_eq_true rfl) d_Mo_same_56 (fun H locs hP hD hS => ?_)
  have hP : va_P D classes (cat [[(a0, .inr (13, mF qm (va_up (va_up x0Mo 28 (nI (539 * (31 * j + 0)))) 29 (nI (539 * (31 * k + 0)))) y0Mo))], [(qm 3, .inl (kA 0, 4, .inl (fun _ => 0)))], [(qm 2, .inl (kA 0, 66836, .inl all0))]]) H := hP
  have hD : va_D A (cat [[(a0, .inr (13, mF qm (va_up (va_up x0Mo 28 (nI (539 * (31 * j + 0)))) 29 (nI (539 * (31 * k + 0)))) y0Mo))], [(qm 3, .inl (kA 0, 4, .inl (fun _ => 0)))], [(qm 2, .inl (kA 0, 66836, .inl all0))]]) := hD
  refine lv_aload_n (pc := 59) hx hb d_Mo_same_59 rfl (lv_at hl 1 rfl) ?_
  refine lv_iconst (pc := 60) (v := 1) hx hb d_Mo_same_60 (by decide) ?_
  refine k_put (pc := 61) X hK hP hD hS 0 rfl rfl i_Mo t_Mo t_Mo_ok n_Mo 30 (by decide) wm_2463 rfl (Or.inl rfl) rfl rfl (Nat.le_of_ble_eq_true rfl) d_Mo_same_61 (fun H locs hP hD hS => ?_)
  have hP : va_P D classes (cat [[(a0, .inr (13, mF qm (va_up (va_up (va_up x0Mo 28 (nI (539 * (31 * j + 0)))) 29 (nI (539 * (31 * k + 0)))) 30 1) y0Mo))], [(qm 3, .inl (kA 0, 4, .inl (fun _ => 0)))], [(qm 2, .inl (kA 0, 66836, .inl all0))]]) H := hP
  have hD : va_D A (cat [[(a0, .inr (13, mF qm (va_up (va_up (va_up x0Mo 28 (nI (539 * (31 * j + 0)))) 29 (nI (539 * (31 * k + 0)))) 30 1) y0Mo))], [(qm 3, .inl (kA 0, 4, .inl (fun _ => 0)))], [(qm 2, .inl (kA 0, 66836, .inl all0))]]) := hD
  refine lv_iload_n (pc := 64) hx hb d_Mo_same_64 rfl (lv_at hl 0 rfl) ?_
  refine lv_aload_n (pc := 65) hx hb d_Mo_same_65 rfl (lv_at hl 1 rfl) ?_
  refine k_get (pc := 66) (v := .ref (qm 2)) X hK hP 0 rfl rfl i_Mo 2 (by decide) wm_2435 rfl rfl d_Mo_same_66 ?_
  refine lv_aload_n (pc := 69) hx hb d_Mo_same_69 rfl (lv_at hl 1 rfl) ?_
  refine k_get (pc := 70) (v := .int (nI (539 * (31 * k + 0)))) X hK hP 0 rfl rfl i_Mo 29 (by decide) wm_2462 rfl rfl d_Mo_same_70 ?_
  refine k_ild (pc := 73) hx hb hK hP 2 0 rfl rfl (539 * (31 * k + 0)) rfl (by omega) (by decide) d_Mo_same_73 ?_
  refine k_cst (v := 0) (all0_e hk (o := 0) (by omega) (by decide) rfl) ?_
  refine lv_icmp_ne (pc := 74) (tgt := 102) hx hb d_Mo_same_74 (by decide) (fun c1 => absurd (by decide) c1) (fun _ => ?_)
  refine lv_aload_n (pc := 77) hx hb d_Mo_same_77 rfl (lv_at hl 1 rfl) ?_
  refine k_get (pc := 78) (v := .ref (qm 2)) X hK hP 0 rfl rfl i_Mo 2 (by decide) wm_2435 rfl rfl d_Mo_same_78 ?_
  refine lv_aload_n (pc := 81) hx hb d_Mo_same_81 rfl (lv_at hl 1 rfl) ?_
  refine k_get (pc := 82) (v := .int (nI (539 * (31 * j + 0)))) X hK hP 0 rfl rfl i_Mo 28 (by decide) wm_2461 rfl rfl d_Mo_same_82 ?_
  refine lv_iconst (pc := 85) (v := 1) hx hb d_Mo_same_85 (by decide) ?_
  refine k_add (pc := 86) (x := 539 * (31 * j + 0)) (y := 1) hx hb d_Mo_same_86 ?_
  refine k_ild (pc := 87) hx hb hK hP 2 0 rfl rfl ((539 * (31 * j + 0)) + 1) rfl (by omega) (by decide) d_Mo_same_87 ?_
  refine k_cst (v := 0) (all0_e hj (o := 1) (by omega) (by decide) rfl) ?_
  refine lv_aload_n (pc := 88) hx hb d_Mo_same_88 rfl (lv_at hl 1 rfl) ?_
  refine k_get (pc := 89) (v := .ref (qm 2)) X hK hP 0 rfl rfl i_Mo 2 (by decide) wm_2435 rfl rfl d_Mo_same_89 ?_
  refine lv_aload_n (pc := 92) hx hb d_Mo_same_92 rfl (lv_at hl 1 rfl) ?_
  refine k_get (pc := 93) (v := .int (nI (539 * (31 * k + 0)))) X hK hP 0 rfl rfl i_Mo 29 (by decide) wm_2462 rfl rfl d_Mo_same_93 ?_
  refine lv_iconst (pc := 96) (v := 1) hx hb d_Mo_same_96 (by decide) ?_
  refine k_add (pc := 97) (x := 539 * (31 * k + 0)) (y := 1) hx hb d_Mo_same_97 ?_
  refine k_ild (pc := 98) hx hb hK hP 2 0 rfl rfl ((539 * (31 * k + 0)) + 1) rfl (by omega) (by decide) d_Mo_same_98 ?_
  refine k_cst (v := 0) (all0_e hk (o := 1) (by omega) (by decide) rfl) ?_
  refine lv_icmp_eq (pc := 99) (tgt := 104) hx hb d_Mo_same_99 (by decide) (fun _ => ?_) (fun c1 => absurd (by decide) c1)
  refine lv_iconst (pc := 104) (v := 0) hx hb d_Mo_same_104 (by decide) ?_
  refine lv_istore (pc := 105) (lv' := [(4, .int 0), (3, .int 0), (0, .ref a0), (1, .int (nI j)), (2, .int (nI k))]) hx hb d_Mo_same_105 hl (by decide) rfl (fun ls hl => ?_)
  refine lv_iconst (pc := 107) (v := 0) hx hb d_Mo_same_107 (by decide) ?_
  refine lv_istore (pc := 108) (lv' := [(5, .int 0), (4, .int 0), (3, .int 0), (0, .ref a0), (1, .int (nI j)), (2, .int (nI k))]) hx hb d_Mo_same_108 hl (by decide) rfl (fun ls hl => ?_)
  refine lv_iload (pc := 110) hx hb d_Mo_same_110 (lv_at hl 0 rfl) ?_
  refine lv_iload_n (pc := 112) hx hb d_Mo_same_112 rfl (lv_at hl 2 rfl) ?_
  refine lv_icmp_ge (pc := 113) (tgt := 130) hx hb d_Mo_same_113 (by decide) (fun _ => ?_) (fun c1 => absurd (by decide) c1)
  refine lv_iload (pc := 130) hx hb d_Mo_same_130 (lv_at hl 1 rfl) ?_
  refine lv_if_lt (pc := 132) (tgt := 294) hx hb d_Mo_same_132 (by decide) (fun c1 => absurd c1 (by decide)) (fun c1 => ?_)
  refine lv_iload (pc := 135) hx hb d_Mo_same_135 (lv_at hl 1 rfl) ?_
  refine lv_iload_n (pc := 137) hx hb d_Mo_same_137 rfl (lv_at hl 2 rfl) ?_
  refine lv_icmp_ge (pc := 138) (tgt := 294) hx hb d_Mo_same_138 (by decide) (fun _ => ?_) (fun c1 => absurd (by decide) c1)
  refine lv_iload (pc := 294) hx hb d_Mo_same_294 (lv_at hl 1 rfl) ?_
  refine lv_if_ge (pc := 296) (tgt := 301) hx hb d_Mo_same_296 (by decide) (fun c1 => ?_) (fun c1 => absurd (by decide) c1)
  refine lv_aload_n (pc := 301) hx hb d_Mo_same_301 rfl (lv_at hl 3 rfl) ?_
  refine lv_iconst (pc := 302) (v := 1) hx hb d_Mo_same_302 (by decide) ?_
  refine k_put (pc := 303) X hK hP hD hS 0 rfl rfl i_Mo t_Mo t_Mo_ok n_Mo 25 (by decide) wm_2458 rfl (Or.inl rfl) rfl rfl (Nat.le_of_ble_eq_true rfl) d_Mo_same_303 (fun H locs hP hD hS => ?_)
  have hP : va_P D classes (cat [[(a0, .inr (13, mF qm (va_up (va_up (va_up (va_up x0Mo 25 1) 28 (nI (539 * (31 * j + 0)))) 29 (nI (539 * (31 * k + 0)))) 30 1) y0Mo))], [(qm 3, .inl (kA 0, 4, .inl (fun _ => 0)))], [(qm 2, .inl (kA 0, 66836, .inl all0))]]) H := hP
  have hD : va_D A (cat [[(a0, .inr (13, mF qm (va_up (va_up (va_up (va_up x0Mo 25 1) 28 (nI (539 * (31 * j + 0)))) 29 (nI (539 * (31 * k + 0)))) 30 1) y0Mo))], [(qm 3, .inl (kA 0, 4, .inl (fun _ => 0)))], [(qm 2, .inl (kA 0, 66836, .inl all0))]]) := hD
  refine lv_aload_n (pc := 306) hx hb d_Mo_same_306 rfl (lv_at hl 3 rfl) ?_
  refine lv_iload_n (pc := 307) hx hb d_Mo_same_307 rfl (lv_at hl 2 rfl) ?_
  refine k_put (pc := 308) X hK hP hD hS 0 rfl rfl i_Mo t_Mo t_Mo_ok n_Mo 26 (by decide) wm_2459 rfl (Or.inl rfl) rfl rfl (Nat.le_of_ble_eq_true rfl) d_Mo_same_308 (fun H locs hP hD hS => ?_)
  have hP : va_P D classes (cat [[(a0, .inr (13, mF qm (va_up (va_up (va_up (va_up x0Mo 25 1) 28 (nI (539 * (31 * j + 0)))) 29 (nI (539 * (31 * k + 0)))) 30 1) y0Mo))], [(qm 3, .inl (kA 0, 4, .inl (fun _ => 0)))], [(qm 2, .inl (kA 0, 66836, .inl all0))]]) H := hP
  have hD : va_D A (cat [[(a0, .inr (13, mF qm (va_up (va_up (va_up (va_up x0Mo 25 1) 28 (nI (539 * (31 * j + 0)))) 29 (nI (539 * (31 * k + 0)))) 30 1) y0Mo))], [(qm 3, .inl (kA 0, 4, .inl (fun _ => 0)))], [(qm 2, .inl (kA 0, 66836, .inl all0))]]) := hD
  refine lv_iconst (pc := 311) (v := 0) hx hb d_Mo_same_311 (by decide) ?_
  refine lv_istore (pc := 312) (lv' := [(5, .int 0), (4, .int 0), (3, .int 0), (0, .ref a0), (1, .int (nI j)), (2, .int (nI k))]) hx hb d_Mo_same_312 hl (by decide) rfl (fun ls hl => ?_)
  refine lv_iload (pc := 314) hx hb d_Mo_same_314 (lv_at hl 0 rfl) ?_
  refine lv_iload_n (pc := 316) hx hb d_Mo_same_316 rfl (lv_at hl 2 rfl) ?_
  refine lv_icmp_ge (pc := 317) (tgt := 340) hx hb d_Mo_same_317 (by decide) (fun _ => ?_) (fun c1 => absurd (by decide) c1)
  refine lv_iconst (pc := 340) (v := 1) hx hb d_Mo_same_340 (by decide) ?_
  refine W.widen (k := 0) (n := 0) (Nat.le_of_ble_eq_true rfl) (Nat.le_of_ble_eq_true rfl) ?_
  exact W.iret (v := 1) hx hb hr (fun t ht hW => ⟨⟨1, [[(a0, .inr (13, mF qm (va_up (va_up (va_up (va_up x0Mo 25 1) 28 (nI (539 * (31 * j + 0)))) 29 (nI (539 * (31 * k + 0)))) 30 1) y0Mo))], [(qm 3, .inl (kA 0, 4, .inl (fun _ => 0)))], [(qm 2, .inl (kA 0, 66836, .inl all0))]], rfl, rfl, by rw [ht]; exact hP, va_K.moved hW.alike hK, hD⟩, hS.F ht⟩) hS.2.2 d_Mo_same_341
set_option maxRecDepth 100000 in
set_option maxHeartbeats 4000000 in
/-- same, a fresh house -/
theorem lf_same_4 {p : Program} {e : Env} {s : State} {m : MethodId} {below : List Frame} {meth : Method} {c : Code} (l : Launch) {b : Nat} {xs : Nat → Int32} (C0 : lw_At p s m meth c b 6 xs) {D : va_G} {kA : Nat → ClassId} (h : Nat) (h2 : Nat) (q : Nat → Nat) (qg : Nat → Nat) (qm : Nat → Nat) (g : Nat → Nat → Nat) (j : Nat) (k : Nat) (qh : Nat → Nat) (hj : j < 4) (hk : k < 4) (hv1 : xs 1 = nI j) (hv2 : xs 2 = nI k) {H : Heap} {locs : List Loc} {ls : Array Slot} (hK : va_K D classes (TY kA) s) (hN : nst s) (hP : va_P D classes (cat [[(h, .inr (12, [.ref (q 0), .ref (q 1), .ref (q 2), .ref (q 3), .ref (q 4), .ref (q 5), .ref (q 6), .int 0, .int ((-1)), .ref (q 9), .ref (q 10), .int 0, .int 0, .ref (q 13), .int 0, .int 0, .null, .null, .null, .null, .null]))], [(q 0, .inl (kA 4, 4, .inr (.inr (.inr (.inr (rr (g 0)))))))], [(g 0 j, .inr (3, [.int 0, .int 0, .int 1, .ref (qg 3), .ref (qg 4), .ref (qg 5), .ref (qg 6), .ref (qg 7), .ref (qg 8), .ref (qg 9), .ref (qg 10), .ref (qg 11), .ref (qg 12), .ref (qg 13), .ref (qg 14), .ref (qg 15), .null, .int 0, .int 0]))], [(g 0 k, .inr (3, [.int 0, .int 0, .int 1, .ref (qh 3), .ref (qh 4), .ref (qh 5), .ref (qh 6), .ref (qh 7), .ref (qh 8), .ref (qh 9), .ref (qh 10), .ref (qh 11), .ref (qh 12), .ref (qh 13), .ref (qh 14), .ref (qh 15), .null, .int 0, .int 0]))], [(q 6, .inl (kA 0, 24, .inl (fun _ => 0)))], [(h2, .inr (13, mF qm x0Mo y0Mo))], [(qm 3, .inl (kA 0, 4, .inl (fun _ => 0)))], [(qm 2, .inl (kA 0, 66836, .inl all0))]]) H) (hD : va_D (fun q : Nat => s.heap.size ≤ q) (cat [[(h, .inr (12, [.ref (q 0), .ref (q 1), .ref (q 2), .ref (q 3), .ref (q 4), .ref (q 5), .ref (q 6), .int 0, .int ((-1)), .ref (q 9), .ref (q 10), .int 0, .int 0, .ref (q 13), .int 0, .int 0, .null, .null, .null, .null, .null]))], [(q 0, .inl (kA 4, 4, .inr (.inr (.inr (.inr (rr (g 0)))))))], [(g 0 j, .inr (3, [.int 0, .int 0, .int 1, .ref (qg 3), .ref (qg 4), .ref (qg 5), .ref (qg 6), .ref (qg 7), .ref (qg 8), .ref (qg 9), .ref (qg 10), .ref (qg 11), .ref (qg 12), .ref (qg 13), .ref (qg 14), .ref (qg 15), .null, .int 0, .int 0]))], [(g 0 k, .inr (3, [.int 0, .int 0, .int 1, .ref (qh 3), .ref (qh 4), .ref (qh 5), .ref (qh 6), .ref (qh 7), .ref (qh 8), .ref (qh 9), .ref (qh 10), .ref (qh 11), .ref (qh 12), .ref (qh 13), .ref (qh 14), .ref (qh 15), .null, .int 0, .int 0]))], [(q 6, .inl (kA 0, 24, .inl (fun _ => 0)))], [(h2, .inr (13, mF qm x0Mo y0Mo))], [(qm 3, .inl (kA 0, 4, .inl (fun _ => 0)))], [(qm 2, .inl (kA 0, 66836, .inl all0))]])) (hS : va_S (fun q : Nat => s.heap.size ≤ q) s.heap H locs) (hl : lv_has ls 4 [(3, .int 0), (2, .ref h2), (1, .ref h), (0, .ref b)]) : W p l e room_1 s m #[Value.ref b] below meth c H locs 368 365796 (lw_Z below #[Value.ref b] s) (F0 m 623 ls []) := by
  obtain ⟨hx, hb, hr, hml, hown, hts0, hX, hbl, hlocks, hgv⟩ := id C0
  have hts : ∀ w ∈ lw_g, w.before #[Value.ref b] s = true := fun w h => hts0 w (lw_gt h)
  have X : cx p s m #[Value.ref b] meth c b_law_law 4 ret "DrawingHouseLaw" meth.name := ⟨hx, hb, hml, hown, hts, hr, hlocks, rfl⟩
  obtain ⟨A, hAe⟩ : ∃ A : Nat → Prop, A = fun q : Nat => s.heap.size ≤ q := ⟨_, rfl⟩
  have hA : ∀ q : Nat, s.heap.size ≤ q → A q := fun q h => by rw [hAe]; exact h
  have hbA : ¬ A b := by rw [hAe]; exact Nat.not_le.mpr hbl
  rw [← hAe] at hD hS
  refine lv_aload_n (pc := 623) hx hb d_law_law_623 rfl (lv_at hl 2 rfl) ?_
  refine lv_aload_n (pc := 624) hx hb d_law_law_624 rfl (lv_at hl 3 rfl) ?_
  refine lv_iload_n (pc := 625) hx hb d_law_law_625 rfl (lv_at hl 0 rfl) ?_
  refine lv_iconst (pc := 626) (v := 1) hx hb d_law_law_626 (by decide) ?_
  refine lv_iadd (pc := 627) hx hb d_law_law_627 ?_
  refine k_cst (v := 1) (by decide) ?_
  refine va_sld (pc := 628) hx hb hX hbl hbA hS (by unfold vp_in; decide) d_law_law_628 ?_
  refine k_cst (v := nI j) hv1 ?_
  refine lv_aload_n (pc := 629) hx hb d_law_law_629 rfl (lv_at hl 3 rfl) ?_
  refine lv_iload_n (pc := 630) hx hb d_law_law_630 rfl (lv_at hl 0 rfl) ?_
  refine lv_iconst (pc := 631) (v := 2) hx hb d_law_law_631 (by decide) ?_
  refine lv_iadd (pc := 632) hx hb d_law_law_632 ?_
  refine k_cst (v := 2) (by decide) ?_
  refine va_sld (pc := 633) hx hb hX hbl hbA hS (by unfold vp_in; decide) d_law_law_633 ?_
  refine k_cst (v := nI k) hv2 ?_
  refine k_goI (gr := [[(h2, .inr (13, mF qm x0Mo y0Mo))], [(qm 3, .inl (kA 0, 4, .inl (fun _ => 0)))], [(qm 2, .inl (kA 0, 66836, .inl all0))]]) (k_rV (pc := 634) (As := [.int (nI j), .int (nI k)]) (rest := []) X (c_Ho_same_z4 l D kA h j k (q 0) (q 1) (q 2) (q 3) (q 4) (q 5) (q 6) (q 9) (q 10) (q 13) g (qg 3) (qg 4) (qg 5) (qg 6) (qg 7) (qg 8) (qg 9) (qg 10) (qg 11) (qg 12) (qg 13) (qg 14) (qg 15) (qh 3) (qh 4) (qh 5) (qh 6) (qh 7) (qh 8) (qh 9) (qh 10) (qh 11) (qh 12) (qh 13) (qh 14) (qh 15) (fun _ => 0) hj hk H.size) rfl wm_1026 wm_1 wm_1023 wm_1024 wm_1025 2 (by decide +kernel) ⟨Nat.le_of_ble_eq_true rfl, Nat.le_of_ble_eq_true rfl⟩ rfl rfl (va_recv hK hP (ci := 12) (q0 := 0) rfl rfl) (k_pre hN hK hP hD [0, 1, 2, 3, 4] [5, 6, 7] 8 rfl (by decide) rfl) rfl hl.1 rfl (Nat.le_of_ble_eq_true rfl) d_law_law_634 ⟨Nat.le_of_ble_eq_true rfl, Nat.le_of_ble_eq_true rfl⟩) hP hD hS hA [0, 1, 2, 3, 4] [5, 6, 7] 8 rfl (by decide) rfl rfl (fun r1 u2 H locs hu2 hP hD hS => ?_)
  obtain ⟨hP, hD⟩ := k_left hP hD
  subst hu2
  have hP : va_P D classes (cat [[(h2, .inr (13, mF qm x0Mo y0Mo))], [(qm 3, .inl (kA 0, 4, .inl (fun _ => 0)))], [(qm 2, .inl (kA 0, 66836, .inl all0))]]) H := hP
  have hD : va_D A (cat [[(h2, .inr (13, mF qm x0Mo y0Mo))], [(qm 3, .inl (kA 0, 4, .inl (fun _ => 0)))], [(qm 2, .inl (kA 0, 66836, .inl all0))]]) := hD
  refine W.widen (k := 369) (n := 365820) (by omega) (by omega) ?_
  refine lv_aload_n (pc := 637) hx hb d_law_law_637 rfl (lv_at hl 1 rfl) ?_
  refine lv_aload_n (pc := 638) hx hb d_law_law_638 rfl (lv_at hl 3 rfl) ?_
  refine lv_iload_n (pc := 639) hx hb d_law_law_639 rfl (lv_at hl 0 rfl) ?_
  refine lv_iconst (pc := 640) (v := 1) hx hb d_law_law_640 (by decide) ?_
  refine lv_iadd (pc := 641) hx hb d_law_law_641 ?_
  refine k_cst (v := 1) (by decide) ?_
  refine va_sld (pc := 642) hx hb hX hbl hbA hS (by unfold vp_in; decide) d_law_law_642 ?_
  refine k_cst (v := nI j) hv1 ?_
  refine lv_aload_n (pc := 643) hx hb d_law_law_643 rfl (lv_at hl 3 rfl) ?_
  refine lv_iload_n (pc := 644) hx hb d_law_law_644 rfl (lv_at hl 0 rfl) ?_
  refine lv_iconst (pc := 645) (v := 2) hx hb d_law_law_645 (by decide) ?_
  refine lv_iadd (pc := 646) hx hb d_law_law_646 ?_
  refine k_cst (v := 2) (by decide) ?_
  refine va_sld (pc := 647) hx hb hX hbl hbA hS (by unfold vp_in; decide) d_law_law_647 ?_
  refine k_cst (v := nI k) hv2 ?_
  refine k_goI (gr := []) (k_rV (pc := 648) (As := [.int (nI j), .int (nI k)]) (rest := [.int 1]) X (c_Mo_same_z4 l D kA h2 j k qm hj hk H.size) rfl wm_3119 wm_9 wm_3116 wm_3117 wm_3118 2 (by decide +kernel) ⟨Nat.le_of_ble_eq_true rfl, Nat.le_of_ble_eq_true rfl⟩ rfl rfl (va_recv hK hP (ci := 13) (q0 := 0) rfl rfl) (k_pre hN hK hP hD [0, 1, 2] [] 3 rfl (by decide) rfl) rfl hl.1 rfl (Nat.le_of_ble_eq_true rfl) d_law_law_648 ⟨Nat.le_of_ble_eq_true rfl, Nat.le_of_ble_eq_true rfl⟩) hP hD hS hA [0, 1, 2] [] 3 rfl (by decide) rfl rfl (fun r3 u4 H locs hu4 hP hD hS => ?_)
  obtain ⟨hP, hD⟩ := k_left hP hD
  subst hu4
  have hP : va_P D classes (cat []) H := hP
  have hD : va_D A (cat []) := hD
  refine lv_icmp_eq (pc := 651) (tgt := 1295) hx hb d_law_law_651 (by decide) (fun _ => ?_) (fun c1 => absurd (by decide) c1)
  rw [hAe] at hS
  exact law_exit l C0 (Nat.le_of_ble_eq_true rfl) (Nat.le_of_ble_eq_true rfl) hS hl
set_option maxRecDepth 100000 in
set_option maxHeartbeats 8000000 in
/-- same: the case of the law -/
theorem op_same {p : Program} {e : Env} {s : State} {m : MethodId} {below : List Frame} {meth : Method} {c : Code} (l : Launch) {b : Nat} {xs : Nat → Int32} (C0 : lw_At p s m meth c b 6 xs) {D : va_G} {kA : Nat → ClassId} (h h2 : Nat) (u1 : Nat → Nat → Nat) (qm : Nat → Nat) (v1 : Int32) (v2 : Int32) (hv1 : xs 1 = v1) (hv2 : xs 2 = v2) {H : Heap} {locs : List Loc} {ls : Array Slot} (hK : va_K D classes (TY kA) s) (hN : nst s) (hpost : u1 50 1 = u1 0 4 ∧ u1 50 3 = u1 0 5 ∧ u1 50 2 = u1 1 4 ∧ u1 50 4 = u1 3 1 ∧ u1 8 0 = u1 50 5 ∧ u1 12 0 = u1 50 9 ∧ u1 16 0 = u1 50 13 ∧ u1 20 0 = u1 50 17) (hP : va_P D classes (cat [cat (sHo kA h u1), cat (sMo kA h2 qm)]) H) (hD : va_D (fun q : Nat => s.heap.size ≤ q) (cat [cat (sHo kA h u1), cat (sMo kA h2 qm)])) (hS : va_S (fun q : Nat => s.heap.size ≤ q) s.heap H locs) (hl : lv_has ls 4 [(3, .int 0), (2, .ref h2), (1, .ref h), (0, .ref b)]) : W p l e room_1 s m #[Value.ref b] below meth c H locs 368 365796 (lw_Z below #[Value.ref b] s) (F0 m 623 ls []) := by
  rcases place_no v1 with hg | ⟨j, hj, ej⟩
  · have hgM : sp_Mo_isPlace v1 = 0 := by rw [← place_iff]; exact hg
    obtain ⟨q, qg, qf, qn, qd, qr, qs, qe, qp, g, hP, hD⟩ := big (j := 0) (by decide) hpost hP hD
    obtain ⟨hP, hD⟩ := k_drop (sg := bH kA h q qg qf qn qd qr qs qe qp g 0 ++ bM kA h2 qm) (gc := [[(h, .inr (12, [.ref (q 0), .ref (q 1), .ref (q 2), .ref (q 3), .ref (q 4), .ref (q 5), .ref (q 6), .int 0, .int ((-1)), .ref (q 9), .ref (q 10), .int 0, .int 0, .ref (q 13), .int 0, .int 0, .null, .null, .null, .null, .null]))], [(h2, .inr (13, mF qm x0Mo y0Mo))]]) hP hD [1, 2, 3, 4, 5, 6, 7, 8, 9, 10, 11, 12, 13, 14, 15, 16, 17, 18, 19, 20, 21, 22, 23, 24, 25, 26, 27, 28, 29, 30, 31, 32, 33, 34, 35, 36, 37, 38, 39, 40, 41, 42, 43, 44, 45, 46, 47, 48, 49, 50, 51, 52, 53, 54, 55, 56, 57, 58, 59, 60, 61, 62, 63, 64, 65, 66, 67, 68, 69, 70, 71, 72, 73, 74, 75, 76, 77, 78, 79, 80, 81, 82, 83, 84, 85, 86, 87, 88, 89, 90, 91, 92, 93, 94, 95, 96, 97, 98, 100, 101, 102, 103, 104, 105, 106, 107, 108, 109, 110, 111, 112, 113, 114, 115, 116, 117, 118, 119, 120, 121, 122, 123, 124, 125, 126, 127, 128, 129, 130, 131, 132, 133, 134, 135, 136, 137, 138, 139, 140, 141, 142, 143, 144, 145, 146, 147, 148, 149, 150, 151, 152, 153, 154, 155, 156, 157, 158, 159, 160, 161, 162, 163, 164, 165, 166, 167, 168, 169, 170, 171, 172, 173, 174, 175, 176, 177, 178, 179, 180, 181, 182, 183, 184, 185, 186, 187, 188, 189, 190, 191, 192, 193, 194, 195, 196, 197, 198, 199, 200, 201, 202, 203, 204, 205, 206, 207, 208, 209, 210, 211, 212, 213, 214, 215, 216, 217] [0, 99] 218 rfl (by decide +kernel) rfl
    exact lf_same_1 l C0 h h2 q qm v1 v2 hg hgM hv1 hv2 hK hN hP hD hS hl
  · subst ej
    rcases place_no v2 with hg2 | ⟨k, hk, ek⟩
    · have hgM2 : sp_Mo_isPlace v2 = 0 := by rw [← place_iff]; exact hg2
      obtain ⟨q, qg, qf, qn, qd, qr, qs, qe, qp, g, hP, hD⟩ := big (j := j) hj hpost hP hD
      obtain ⟨hP, hD⟩ := k_drop (sg := bH kA h q qg qf qn qd qr qs qe qp g j ++ bM kA h2 qm) (gc := [[(h, .inr (12, [.ref (q 0), .ref (q 1), .ref (q 2), .ref (q 3), .ref (q 4), .ref (q 5), .ref (q 6), .int 0, .int ((-1)), .ref (q 9), .ref (q 10), .int 0, .int 0, .ref (q 13), .int 0, .int 0, .null, .null, .null, .null, .null]))], [(h2, .inr (13, mF qm x0Mo y0Mo))]]) hP hD [1, 2, 3, 4, 5, 6, 7, 8, 9, 10, 11, 12, 13, 14, 15, 16, 17, 18, 19, 20, 21, 22, 23, 24, 25, 26, 27, 28, 29, 30, 31, 32, 33, 34, 35, 36, 37, 38, 39, 40, 41, 42, 43, 44, 45, 46, 47, 48, 49, 50, 51, 52, 53, 54, 55, 56, 57, 58, 59, 60, 61, 62, 63, 64, 65, 66, 67, 68, 69, 70, 71, 72, 73, 74, 75, 76, 77, 78, 79, 80, 81, 82, 83, 84, 85, 86, 87, 88, 89, 90, 91, 92, 93, 94, 95, 96, 97, 98, 100, 101, 102, 103, 104, 105, 106, 107, 108, 109, 110, 111, 112, 113, 114, 115, 116, 117, 118, 119, 120, 121, 122, 123, 124, 125, 126, 127, 128, 129, 130, 131, 132, 133, 134, 135, 136, 137, 138, 139, 140, 141, 142, 143, 144, 145, 146, 147, 148, 149, 150, 151, 152, 153, 154, 155, 156, 157, 158, 159, 160, 161, 162, 163, 164, 165, 166, 167, 168, 169, 170, 171, 172, 173, 174, 175, 176, 177, 178, 179, 180, 181, 182, 183, 184, 185, 186, 187, 188, 189, 190, 191, 192, 193, 194, 195, 196, 197, 198, 199, 200, 201, 202, 203, 204, 205, 206, 207, 208, 209, 210, 211, 212, 213, 214, 215, 216, 217] [0, 99] 218 rfl (by decide +kernel) rfl
      exact lf_same_2 l C0 h h2 q qm j v2 hj hg2 hgM2 hv1 hv2 hK hN hP hD hS hl
    · subst ek
      by_cases hne : j = k
      · subst hne
        obtain ⟨q, qg, qf, qn, qd, qr, qs, qe, qp, g, hP, hD⟩ := big (j := j) hj hpost hP hD
        obtain ⟨hP, hD⟩ := k_drop (sg := bH kA h q qg qf qn qd qr qs qe qp g j ++ bM kA h2 qm) (gc := [[(h, .inr (12, [.ref (q 0), .ref (q 1), .ref (q 2), .ref (q 3), .ref (q 4), .ref (q 5), .ref (q 6), .int 0, .int ((-1)), .ref (q 9), .ref (q 10), .int 0, .int 0, .ref (q 13), .int 0, .int 0, .null, .null, .null, .null, .null]))], [(q 0, .inl (kA 4, 4, .inr (.inr (.inr (.inr (rr (g 0)))))))], [(g 0 j, .inr (3, [.int 0, .int 0, .int 1, .ref (qg 3), .ref (qg 4), .ref (qg 5), .ref (qg 6), .ref (qg 7), .ref (qg 8), .ref (qg 9), .ref (qg 10), .ref (qg 11), .ref (qg 12), .ref (qg 13), .ref (qg 14), .ref (qg 15), .null, .int 0, .int 0]))], [(q 6, .inl (kA 0, 24, .inl (fun _ => 0)))], [(h2, .inr (13, mF qm x0Mo y0Mo))], [(qm 3, .inl (kA 0, 4, .inl (fun _ => 0)))], [(qm 2, .inl (kA 0, 66836, .inl all0))]]) hP hD [2, 3, 4, 6, 7, 8, 10, 11, 12, 13, 14, 15, 16, 17, 18, 19, 20, 21, 22, 23, 24, 25, 26, 27, 28, 29, 30, 31, 32, 33, 34, 35, 36, 37, 38, 39, 40, 41, 42, 43, 44, 45, 46, 47, 48, 49, 50, 51, 52, 53, 54, 55, 56, 57, 58, 59, 60, 61, 62, 63, 64, 65, 66, 67, 68, 69, 70, 71, 72, 73, 74, 75, 76, 77, 78, 79, 80, 81, 82, 83, 84, 85, 86, 87, 88, 89, 90, 91, 92, 93, 94, 95, 96, 97, 98, 101, 102, 103, 104, 105, 107, 108, 109, 110, 111, 112, 113, 114, 115, 116, 117, 118, 119, 120, 121, 122, 123, 124, 125, 126, 127, 128, 129, 130, 131, 132, 133, 134, 135, 136, 137, 138, 139, 140, 141, 142, 143, 144, 145, 146, 147, 148, 149, 150, 151, 152, 153, 154, 155, 156, 157, 158, 159, 160, 161, 162, 163, 164, 165, 166, 167, 168, 169, 170, 171, 172, 173, 174, 175, 176, 177, 178, 179, 180, 181, 182, 183, 184, 185, 186, 187, 188, 189, 190, 191, 192, 193, 194, 195, 196, 197, 198, 199, 200, 201, 202, 203, 204, 205, 206, 207, 208, 209, 210, 211, 212, 213, 214, 215, 216, 217] [0, 1, 9, 5, 99, 106, 100] 218 rfl (by decide +kernel) rfl
        exact lf_same_3 l C0 h h2 q qg qm g j hj hv1 hv2 hK hN hP hD hS hl
      · obtain ⟨q, qg, qf, qn, qd, qr, qs, qe, qp, qh, g, hP, hD⟩ := big2 hj hk hne hpost hP hD
        obtain ⟨hP, hD⟩ := k_drop (sg := bH kA h q qg qf qn qd qr qs qe qp g j ++ (bG kA g k qh ++ bM kA h2 qm)) (gc := [[(h, .inr (12, [.ref (q 0), .ref (q 1), .ref (q 2), .ref (q 3), .ref (q 4), .ref (q 5), .ref (q 6), .int 0, .int ((-1)), .ref (q 9), .ref (q 10), .int 0, .int 0, .ref (q 13), .int 0, .int 0, .null, .null, .null, .null, .null]))], [(q 0, .inl (kA 4, 4, .inr (.inr (.inr (.inr (rr (g 0)))))))], [(g 0 j, .inr (3, [.int 0, .int 0, .int 1, .ref (qg 3), .ref (qg 4), .ref (qg 5), .ref (qg 6), .ref (qg 7), .ref (qg 8), .ref (qg 9), .ref (qg 10), .ref (qg 11), .ref (qg 12), .ref (qg 13), .ref (qg 14), .ref (qg 15), .null, .int 0, .int 0]))], [(g 0 k, .inr (3, [.int 0, .int 0, .int 1, .ref (qh 3), .ref (qh 4), .ref (qh 5), .ref (qh 6), .ref (qh 7), .ref (qh 8), .ref (qh 9), .ref (qh 10), .ref (qh 11), .ref (qh 12), .ref (qh 13), .ref (qh 14), .ref (qh 15), .null, .int 0, .int 0]))], [(q 6, .inl (kA 0, 24, .inl (fun _ => 0)))], [(h2, .inr (13, mF qm x0Mo y0Mo))], [(qm 3, .inl (kA 0, 4, .inl (fun _ => 0)))], [(qm 2, .inl (kA 0, 66836, .inl all0))]]) hP hD [2, 3, 4, 6, 7, 8, 10, 11, 12, 13, 14, 15, 16, 17, 18, 19, 20, 21, 22, 23, 24, 25, 26, 27, 28, 29, 30, 31, 32, 33, 34, 35, 36, 37, 38, 39, 40, 41, 42, 43, 44, 45, 46, 47, 48, 49, 50, 51, 52, 53, 54, 55, 56, 57, 58, 59, 60, 61, 62, 63, 64, 65, 66, 67, 68, 69, 70, 71, 72, 73, 74, 75, 76, 77, 78, 79, 80, 81, 82, 83, 84, 85, 86, 87, 88, 89, 90, 91, 92, 93, 94, 95, 96, 97, 98, 100, 101, 102, 103, 104, 105, 106, 107, 108, 109, 110, 111, 112, 115, 116, 117, 118, 119, 121, 122, 123, 124, 125, 126, 127, 128, 129, 130, 131, 132, 133, 134, 135, 136, 137, 138, 139, 140, 141, 142, 143, 144, 145, 146, 147, 148, 149, 150, 151, 152, 153, 154, 155, 156, 157, 158, 159, 160, 161, 162, 163, 164, 165, 166, 167, 168, 169, 170, 171, 172, 173, 174, 175, 176, 177, 178, 179, 180, 181, 182, 183, 184, 185, 186, 187, 188, 189, 190, 191, 192, 193, 194, 195, 196, 197, 198, 199, 200, 201, 202, 203, 204, 205, 206, 207, 208, 209, 210, 211, 212, 213, 214, 215, 216, 217, 218, 219, 220, 221, 222, 223, 224, 225, 226, 227, 228, 229, 230, 231] [0, 1, 9, 99, 5, 113, 120, 114] 232 rfl (by decide +kernel) rfl
        exact lf_same_4 l C0 h h2 q qg qm g j k qh hj hk hv1 hv2 hK hN hP hD hS hl
