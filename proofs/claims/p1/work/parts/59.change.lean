theorem wm_737 : (Cond.instanceMethod ({ cls := "DrawingHouse$Graph", name := "findNode", desc := "([BII)I" } : MethodName) : Cond) ∈ lw_g := lw_gi (lw_c4 (List.mem_of_getElem? (i := 17) rfl)) rfl
theorem wm_738 : (Cond.selects "DrawingHouse$Graph" ({ cls := "DrawingHouse$Graph", name := "findNode", desc := "([BII)I" } : MethodName) ({ cls := "DrawingHouse$Graph", name := "findNode", desc := "([BII)I" } : MethodName) : Cond) ∈ lw_g := lw_gi (lw_c4 (List.mem_of_getElem? (i := 18) rfl)) rfl
theorem wm_739 : (Cond.code ({ cls := "DrawingHouse$Graph", name := "findNode", desc := "([BII)I" } : MethodName) prog_5_method_12_code (5 : Nat) (Option.some ClassFile.FieldType.int) : Cond) ∈ lw_g := lw_gi (lw_c4 (List.mem_of_getElem? (i := 19) rfl)) rfl
theorem wm_745 : (Cond.instanceMethod ({ cls := "DrawingHouse$Graph", name := "addNode", desc := "([BIII)I" } : MethodName) : Cond) ∈ lw_g := lw_gi (lw_c4 (List.mem_of_getElem? (i := 25) rfl)) rfl
theorem wm_746 : (Cond.selects "DrawingHouse$Graph" ({ cls := "DrawingHouse$Graph", name := "addNode", desc := "([BIII)I" } : MethodName) ({ cls := "DrawingHouse$Graph", name := "addNode", desc := "([BIII)I" } : MethodName) : Cond) ∈ lw_g := lw_gi (lw_c4 (List.mem_of_getElem? (i := 26) rfl)) rfl
theorem wm_747 : (Cond.code ({ cls := "DrawingHouse$Graph", name := "addNode", desc := "([BIII)I" } : MethodName) prog_5_method_14_code (6 : Nat) (Option.some ClassFile.FieldType.int) : Cond) ∈ lw_g := lw_gi (lw_c4 (List.mem_of_getElem? (i := 27) rfl)) rfl
theorem wm_951 : (Cond.methodLink "DrawingHouseLaw" (50 : Nat) ({ cls := "DrawingHouse", name := "change", desc := "(IIII)I" } : MethodName) : Cond) ∈ lw_g := lw_gi (lw_c4 (List.mem_of_getElem? (i := 231) rfl)) rfl
theorem wm_952 : (Cond.instanceMethod ({ cls := "DrawingHouse", name := "change", desc := "(IIII)I" } : MethodName) : Cond) ∈ lw_g := lw_gi (lw_c4 (List.mem_of_getElem? (i := 232) rfl)) rfl
theorem wm_953 : (Cond.selects "DrawingHouse" ({ cls := "DrawingHouse", name := "change", desc := "(IIII)I" } : MethodName) ({ cls := "DrawingHouse", name := "change", desc := "(IIII)I" } : MethodName) : Cond) ∈ lw_g := lw_gi (lw_c4 (List.mem_of_getElem? (i := 233) rfl)) rfl
theorem wm_954 : (Cond.code ({ cls := "DrawingHouse", name := "change", desc := "(IIII)I" } : MethodName) prog_1_method_10_code (6 : Nat) (Option.some ClassFile.FieldType.int) : Cond) ∈ lw_g := lw_gi (lw_c4 (List.mem_of_getElem? (i := 234) rfl)) rfl
theorem wm_955 : (Cond.methodLink "DrawingHouse" (236 : Nat) ({ cls := "DrawingHouse$Graph", name := "mayAlter", desc := "(III)Z" } : MethodName) : Cond) ∈ lw_g := lw_gi (lw_c4 (List.mem_of_getElem? (i := 235) rfl)) rfl
theorem wm_956 : (Cond.instanceMethod ({ cls := "DrawingHouse$Graph", name := "mayAlter", desc := "(III)Z" } : MethodName) : Cond) ∈ lw_g := lw_gi (lw_c4 (List.mem_of_getElem? (i := 236) rfl)) rfl
theorem wm_957 : (Cond.selects "DrawingHouse$Graph" ({ cls := "DrawingHouse$Graph", name := "mayAlter", desc := "(III)Z" } : MethodName) ({ cls := "DrawingHouse$Graph", name := "mayAlter", desc := "(III)Z" } : MethodName) : Cond) ∈ lw_g := lw_gi (lw_c4 (List.mem_of_getElem? (i := 237) rfl)) rfl
theorem wm_958 : (Cond.code ({ cls := "DrawingHouse$Graph", name := "mayAlter", desc := "(III)Z" } : MethodName) prog_5_method_18_code (4 : Nat) (Option.some ClassFile.FieldType.boolean) : Cond) ∈ lw_g := lw_gi (lw_c4 (List.mem_of_getElem? (i := 238) rfl)) rfl
theorem wm_959 : (Cond.methodLink "DrawingHouse$Graph" (104 : Nat) ({ cls := "DrawingHouse$Graph", name := "hasGroup", desc := "(I)Z" } : MethodName) : Cond) ∈ lw_g := lw_gi (lw_c4 (List.mem_of_getElem? (i := 239) rfl)) rfl
theorem wm_960 : (Cond.methodLink "DrawingHouse$Graph" (108 : Nat) ({ cls := "DrawingHouse$Graph", name := "hasNextName", desc := "()Z" } : MethodName) : Cond) ∈ lw_g := lw_gi (lw_c5 (List.mem_of_getElem? (i := 0) rfl)) rfl
theorem wm_962 : (Cond.instanceMethod ({ cls := "DrawingHouse$Graph", name := "hasNextName", desc := "()Z" } : MethodName) : Cond) ∈ lw_g := lw_gi (lw_c5 (List.mem_of_getElem? (i := 2) rfl)) rfl
theorem wm_963 : (Cond.code ({ cls := "DrawingHouse$Graph", name := "hasNextName", desc := "()Z" } : MethodName) prog_5_method_20_code (3 : Nat) (Option.some ClassFile.FieldType.boolean) : Cond) ∈ lw_g := lw_gi (lw_c5 (List.mem_of_getElem? (i := 3) rfl)) rfl
theorem wm_964 : (Cond.methodLink "DrawingHouse$Graph" (118 : Nat) ({ cls := "DrawingHouse$Graph", name := "nextName", desc := "([B)I" } : MethodName) : Cond) ∈ lw_g := lw_gi (lw_c5 (List.mem_of_getElem? (i := 4) rfl)) rfl
theorem wm_966 : (Cond.instanceMethod ({ cls := "DrawingHouse$Graph", name := "nextName", desc := "([B)I" } : MethodName) : Cond) ∈ lw_g := lw_gi (lw_c5 (List.mem_of_getElem? (i := 6) rfl)) rfl
theorem wm_967 : (Cond.code ({ cls := "DrawingHouse$Graph", name := "nextName", desc := "([B)I" } : MethodName) prog_5_method_19_code (2 : Nat) (Option.some ClassFile.FieldType.int) : Cond) ∈ lw_g := lw_gi (lw_c5 (List.mem_of_getElem? (i := 7) rfl)) rfl
theorem wm_968 : (Cond.methodLink "DrawingHouse$Graph" (122 : Nat) ({ cls := "DrawingHouse$Graph", name := "findNode", desc := "([BII)I" } : MethodName) : Cond) ∈ lw_g := lw_gi (lw_c5 (List.mem_of_getElem? (i := 8) rfl)) rfl
theorem wm_969 : (Cond.methodLink "DrawingHouse$Graph" (112 : Nat) ({ cls := "DrawingHouse$Graph", name := "hasNode", desc := "(I)Z" } : MethodName) : Cond) ∈ lw_g := lw_gi (lw_c5 (List.mem_of_getElem? (i := 9) rfl)) rfl
theorem wm_971 : (Cond.methodLink "DrawingHouse$Graph" (115 : Nat) ({ cls := "DrawingHouse$Graph", name := "hasEdge", desc := "(I)Z" } : MethodName) : Cond) ∈ lw_g := lw_gi (lw_c5 (List.mem_of_getElem? (i := 11) rfl)) rfl
theorem wm_972 : (Cond.methodLink "DrawingHouse" (240 : Nat) ({ cls := "DrawingHouse$Graph", name := "alter", desc := "(III)I" } : MethodName) : Cond) ∈ lw_g := lw_gi (lw_c5 (List.mem_of_getElem? (i := 12) rfl)) rfl
theorem wm_973 : (Cond.instanceMethod ({ cls := "DrawingHouse$Graph", name := "alter", desc := "(III)I" } : MethodName) : Cond) ∈ lw_g := lw_gi (lw_c5 (List.mem_of_getElem? (i := 13) rfl)) rfl
theorem wm_974 : (Cond.selects "DrawingHouse$Graph" ({ cls := "DrawingHouse$Graph", name := "alter", desc := "(III)I" } : MethodName) ({ cls := "DrawingHouse$Graph", name := "alter", desc := "(III)I" } : MethodName) : Cond) ∈ lw_g := lw_gi (lw_c5 (List.mem_of_getElem? (i := 14) rfl)) rfl
theorem wm_975 : (Cond.code ({ cls := "DrawingHouse$Graph", name := "alter", desc := "(III)I" } : MethodName) prog_5_method_21_code (5 : Nat) (Option.some ClassFile.FieldType.int) : Cond) ∈ lw_g := lw_gi (lw_c5 (List.mem_of_getElem? (i := 15) rfl)) rfl
theorem wm_976 : (Cond.methodLink "DrawingHouse$Graph" (126 : Nat) ({ cls := "DrawingHouse$Graph", name := "pack", desc := "(I)V" } : MethodName) : Cond) ∈ lw_g := lw_gi (lw_c5 (List.mem_of_getElem? (i := 16) rfl)) rfl
theorem wm_978 : (Cond.instanceMethod ({ cls := "DrawingHouse$Graph", name := "pack", desc := "(I)V" } : MethodName) : Cond) ∈ lw_g := lw_gi (lw_c5 (List.mem_of_getElem? (i := 18) rfl)) rfl
theorem wm_979 : (Cond.code ({ cls := "DrawingHouse$Graph", name := "pack", desc := "(I)V" } : MethodName) prog_5_method_26_code (4 : Nat) (Option.none : Option ClassFile.FieldType) : Cond) ∈ lw_g := lw_gi (lw_c5 (List.mem_of_getElem? (i := 19) rfl)) rfl
theorem wm_980 : (Cond.methodLink "DrawingHouse$Graph" (149 : Nat) ({ cls := "DrawingHouse$Graph", name := "fourLetters", desc := "(I)I" } : MethodName) : Cond) ∈ lw_g := lw_gi (lw_c5 (List.mem_of_getElem? (i := 20) rfl)) rfl
theorem wm_982 : (Cond.instanceMethod ({ cls := "DrawingHouse$Graph", name := "fourLetters", desc := "(I)I" } : MethodName) : Cond) ∈ lw_g := lw_gi (lw_c5 (List.mem_of_getElem? (i := 22) rfl)) rfl
theorem wm_983 : (Cond.code ({ cls := "DrawingHouse$Graph", name := "fourLetters", desc := "(I)I" } : MethodName) prog_5_method_28_code (2 : Nat) (Option.some ClassFile.FieldType.int) : Cond) ∈ lw_g := lw_gi (lw_c5 (List.mem_of_getElem? (i := 23) rfl)) rfl
theorem wm_984 : (Cond.methodLink "DrawingHouse$Graph" (129 : Nat) ({ cls := "DrawingHouse$Graph", name := "perform", desc := "(III)I" } : MethodName) : Cond) ∈ lw_g := lw_gi (lw_c5 (List.mem_of_getElem? (i := 24) rfl)) rfl
theorem wm_986 : (Cond.instanceMethod ({ cls := "DrawingHouse$Graph", name := "perform", desc := "(III)I" } : MethodName) : Cond) ∈ lw_g := lw_gi (lw_c5 (List.mem_of_getElem? (i := 26) rfl)) rfl
theorem wm_987 : (Cond.code ({ cls := "DrawingHouse$Graph", name := "perform", desc := "(III)I" } : MethodName) prog_5_method_22_code (6 : Nat) (Option.some ClassFile.FieldType.int) : Cond) ∈ lw_g := lw_gi (lw_c5 (List.mem_of_getElem? (i := 27) rfl)) rfl
theorem wm_988 : (Cond.methodLink "DrawingHouse$Graph" (133 : Nat) ({ cls := "DrawingHouse$Graph", name := "addNode", desc := "([BIII)I" } : MethodName) : Cond) ∈ lw_g := lw_gi (lw_c5 (List.mem_of_getElem? (i := 28) rfl)) rfl
theorem wm_3084 : (Cond.methodLink "DrawingHouseLaw" (53 : Nat) ({ cls := "DrawingHouseModel", name := "change", desc := "(IIII)I" } : MethodName) : Cond) ∈ lw_g := lw_gi (lw_c13 (List.mem_of_getElem? (i := 204) rfl)) rfl
theorem wm_3085 : (Cond.instanceMethod ({ cls := "DrawingHouseModel", name := "change", desc := "(IIII)I" } : MethodName) : Cond) ∈ lw_g := lw_gi (lw_c13 (List.mem_of_getElem? (i := 205) rfl)) rfl
theorem wm_3086 : (Cond.selects "DrawingHouseModel" ({ cls := "DrawingHouseModel", name := "change", desc := "(IIII)I" } : MethodName) ({ cls := "DrawingHouseModel", name := "change", desc := "(IIII)I" } : MethodName) : Cond) ∈ lw_g := lw_gi (lw_c13 (List.mem_of_getElem? (i := 206) rfl)) rfl
theorem wm_3087 : (Cond.code ({ cls := "DrawingHouseModel", name := "change", desc := "(IIII)I" } : MethodName) prog_15_method_44_code (5 : Nat) (Option.some ClassFile.FieldType.int) : Cond) ∈ lw_g := lw_gi (lw_c13 (List.mem_of_getElem? (i := 207) rfl)) rfl
theorem wm_3092 : (Cond.methodLink "DrawingHouseModel" (530 : Nat) ({ cls := "DrawingHouseModel", name := "newNode", desc := "(II)I" } : MethodName) : Cond) ∈ lw_g := lw_gi (lw_c13 (List.mem_of_getElem? (i := 212) rfl)) rfl
theorem wm_3094 : (Cond.instanceMethod ({ cls := "DrawingHouseModel", name := "newNode", desc := "(II)I" } : MethodName) : Cond) ∈ lw_g := lw_gi (lw_c13 (List.mem_of_getElem? (i := 214) rfl)) rfl
theorem wm_3095 : (Cond.code ({ cls := "DrawingHouseModel", name := "newNode", desc := "(II)I" } : MethodName) prog_15_method_46_code (8 : Nat) (Option.some ClassFile.FieldType.int) : Cond) ∈ lw_g := lw_gi (lw_c13 (List.mem_of_getElem? (i := 215) rfl)) rfl
theorem wm_3096 : (Cond.methodLink "DrawingHouseModel" (533 : Nat) ({ cls := "DrawingHouseModel", name := "step", desc := "(I)V" } : MethodName) : Cond) ∈ lw_g := lw_gi (lw_c13 (List.mem_of_getElem? (i := 216) rfl)) rfl
theorem wm_3098 : (Cond.instanceMethod ({ cls := "DrawingHouseModel", name := "step", desc := "(I)V" } : MethodName) : Cond) ∈ lw_g := lw_gi (lw_c13 (List.mem_of_getElem? (i := 218) rfl)) rfl
theorem wm_3099 : (Cond.code ({ cls := "DrawingHouseModel", name := "step", desc := "(I)V" } : MethodName) prog_15_method_43_code (4 : Nat) (Option.none : Option ClassFile.FieldType) : Cond) ∈ lw_g := lw_gi (lw_c13 (List.mem_of_getElem? (i := 219) rfl)) rfl
theorem wm_3108 : (Cond.methodLink "DrawingHouseModel" (542 : Nat) ({ cls := "DrawingHouseModel", name := "becomes", desc := "(IIZII)I" } : MethodName) : Cond) ∈ lw_g := lw_gi (lw_c13 (List.mem_of_getElem? (i := 228) rfl)) rfl
theorem wm_3110 : (Cond.instanceMethod ({ cls := "DrawingHouseModel", name := "becomes", desc := "(IIZII)I" } : MethodName) : Cond) ∈ lw_g := lw_gi (lw_c13 (List.mem_of_getElem? (i := 230) rfl)) rfl
theorem wm_3111 : (Cond.code ({ cls := "DrawingHouseModel", name := "becomes", desc := "(IIZII)I" } : MethodName) prog_15_method_45_code (6 : Nat) (Option.some ClassFile.FieldType.int) : Cond) ∈ lw_g := lw_gi (lw_c13 (List.mem_of_getElem? (i := 231) rfl)) rfl
theorem wv_2_12 : (Cond.selects "DrawingHouse$Graph" ⟨"DrawingHouse$Graph", "hasNextName", "()Z"⟩ ⟨"DrawingHouse$Graph", "hasNextName", "()Z"⟩ : Cond) ∈ lw_g := lw_gi (List.mem_append_left _ (List.mem_map.mpr ⟨_, lw_v1 (List.mem_of_getElem? (i := 10) rfl), rfl⟩)) rfl
theorem wv_2_13 : (Cond.selects "DrawingHouse$Graph" ⟨"DrawingHouse$Graph", "nextName", "([B)I"⟩ ⟨"DrawingHouse$Graph", "nextName", "([B)I"⟩ : Cond) ∈ lw_g := lw_gi (List.mem_append_left _ (List.mem_map.mpr ⟨_, lw_v1 (List.mem_of_getElem? (i := 11) rfl), rfl⟩)) rfl
theorem wv_2_14 : (Cond.selects "DrawingHouse$Graph" ⟨"DrawingHouse$Graph", "pack", "(I)V"⟩ ⟨"DrawingHouse$Graph", "pack", "(I)V"⟩ : Cond) ∈ lw_g := lw_gi (List.mem_append_left _ (List.mem_map.mpr ⟨_, lw_v1 (List.mem_of_getElem? (i := 12) rfl), rfl⟩)) rfl
theorem wv_2_15 : (Cond.selects "DrawingHouse$Graph" ⟨"DrawingHouse$Graph", "fourLetters", "(I)I"⟩ ⟨"DrawingHouse$Graph", "fourLetters", "(I)I"⟩ : Cond) ∈ lw_g := lw_gi (List.mem_append_left _ (List.mem_map.mpr ⟨_, lw_v1 (List.mem_of_getElem? (i := 13) rfl), rfl⟩)) rfl
theorem wv_3_0 : (Cond.selects "DrawingHouse$Graph" ⟨"DrawingHouse$Graph", "perform", "(III)I"⟩ ⟨"DrawingHouse$Graph", "perform", "(III)I"⟩ : Cond) ∈ lw_g := lw_gi (List.mem_append_left _ (List.mem_map.mpr ⟨_, lw_v1 (List.mem_of_getElem? (i := 14) rfl), rfl⟩)) rfl
theorem wv_14_3 : (Cond.selects "DrawingHouseModel" ⟨"DrawingHouseModel", "newNode", "(II)I"⟩ ⟨"DrawingHouseModel", "newNode", "(II)I"⟩ : Cond) ∈ lw_g := lw_gi (List.mem_append_left _ (List.mem_map.mpr ⟨_, lw_v3 (List.mem_of_getElem? (i := 0) rfl), rfl⟩)) rfl
theorem wv_14_4 : (Cond.selects "DrawingHouseModel" ⟨"DrawingHouseModel", "step", "(I)V"⟩ ⟨"DrawingHouseModel", "step", "(I)V"⟩ : Cond) ∈ lw_g := lw_gi (List.mem_append_left _ (List.mem_map.mpr ⟨_, lw_v3 (List.mem_of_getElem? (i := 1) rfl), rfl⟩)) rfl
theorem wv_14_7 : (Cond.selects "DrawingHouseModel" ⟨"DrawingHouseModel", "becomes", "(IIZII)I"⟩ ⟨"DrawingHouseModel", "becomes", "(IIZII)I"⟩ : Cond) ∈ lw_g := lw_gi (List.mem_append_left _ (List.mem_map.mpr ⟨_, lw_v3 (List.mem_of_getElem? (i := 2) rfl), rfl⟩)) rfl
abbrev b_Ho_change : ByteArray := prog_1_method_10_code
def y_Ho_change : MethodName := ⟨"DrawingHouse", "change", "(IIII)I"⟩
abbrev z_Ho_change : List Cond := Cond.code y_Ho_change b_Ho_change 6 (some .int) :: lw_g
theorem d_Ho_change_0 : decode b_Ho_change 0 = .ok (.iload_n 1, 1) := by decide +kernel
theorem d_Ho_change_1 : decode b_Ho_change 1 = .ok (.invokestatic 115, 3) := by decide +kernel
theorem d_Ho_change_4 : decode b_Ho_change 4 = .ok (.ifCond .eq 19, 3) := by decide +kernel
theorem d_Ho_change_7 : decode b_Ho_change 7 = .ok (.aload_n 0, 1) := by decide +kernel
theorem d_Ho_change_8 : decode b_Ho_change 8 = .ok (.getfield 13, 3) := by decide +kernel
theorem d_Ho_change_11 : decode b_Ho_change 11 = .ok (.iload_n 1, 1) := by decide +kernel
theorem d_Ho_change_12 : decode b_Ho_change 12 = .ok (.aaload, 1) := by decide +kernel
theorem d_Ho_change_13 : decode b_Ho_change 13 = .ok (.iload_n 2, 1) := by decide +kernel
theorem d_Ho_change_14 : decode b_Ho_change 14 = .ok (.iload_n 3, 1) := by decide +kernel
theorem d_Ho_change_15 : decode b_Ho_change 15 = .ok (.iload 4, 2) := by decide +kernel
theorem d_Ho_change_17 : decode b_Ho_change 17 = .ok (.invokevirtual 236, 3) := by decide +kernel
theorem d_Ho_change_20 : decode b_Ho_change 20 = .ok (.ifCond .ne 5, 3) := by decide +kernel
theorem d_Ho_change_23 : decode b_Ho_change 23 = .ok (.iconst (-1), 1) := by decide +kernel
theorem d_Ho_change_24 : decode b_Ho_change 24 = .ok (.ireturn, 1) := by decide +kernel
theorem d_Ho_change_25 : decode b_Ho_change 25 = .ok (.aload_n 0, 1) := by decide +kernel
theorem d_Ho_change_26 : decode b_Ho_change 26 = .ok (.getfield 13, 3) := by decide +kernel
theorem d_Ho_change_29 : decode b_Ho_change 29 = .ok (.iload_n 1, 1) := by decide +kernel
theorem d_Ho_change_30 : decode b_Ho_change 30 = .ok (.aaload, 1) := by decide +kernel
theorem d_Ho_change_31 : decode b_Ho_change 31 = .ok (.iload_n 2, 1) := by decide +kernel
theorem d_Ho_change_32 : decode b_Ho_change 32 = .ok (.iload_n 3, 1) := by decide +kernel
theorem d_Ho_change_33 : decode b_Ho_change 33 = .ok (.iload 4, 2) := by decide +kernel
theorem d_Ho_change_35 : decode b_Ho_change 35 = .ok (.invokevirtual 240, 3) := by decide +kernel
theorem d_Ho_change_38 : decode b_Ho_change 38 = .ok (.istore 5, 2) := by decide +kernel
theorem d_Ho_change_40 : decode b_Ho_change 40 = .ok (.aload_n 0, 1) := by decide +kernel
theorem d_Ho_change_41 : decode b_Ho_change 41 = .ok (.iload_n 1, 1) := by decide +kernel
theorem d_Ho_change_42 : decode b_Ho_change 42 = .ok (.invokevirtual 129, 3) := by decide +kernel
theorem d_Ho_change_45 : decode b_Ho_change 45 = .ok (.iload 5, 2) := by decide +kernel
theorem d_Ho_change_47 : decode b_Ho_change 47 = .ok (.ireturn, 1) := by decide +kernel
abbrev b_Mo_change : ByteArray := prog_15_method_44_code
def y_Mo_change : MethodName := ⟨"DrawingHouseModel", "change", "(IIII)I"⟩
abbrev z_Mo_change : List Cond := Cond.code y_Mo_change b_Mo_change 5 (some .int) :: lw_g
theorem d_Mo_change_0 : decode b_Mo_change 0 = .ok (.iload_n 1, 1) := by decide +kernel
theorem d_Mo_change_1 : decode b_Mo_change 1 = .ok (.invokestatic 521, 3) := by decide +kernel
theorem d_Mo_change_4 : decode b_Mo_change 4 = .ok (.ifCond .ne 5, 3) := by decide +kernel
theorem d_Mo_change_7 : decode b_Mo_change 7 = .ok (.iconst (-1), 1) := by decide +kernel
theorem d_Mo_change_8 : decode b_Mo_change 8 = .ok (.ireturn, 1) := by decide +kernel
theorem d_Mo_change_9 : decode b_Mo_change 9 = .ok (.aload_n 0, 1) := by decide +kernel
theorem d_Mo_change_10 : decode b_Mo_change 10 = .ok (.iload_n 1, 1) := by decide +kernel
theorem d_Mo_change_11 : decode b_Mo_change 11 = .ok (.invokevirtual 527, 3) := by decide +kernel
theorem d_Mo_change_14 : decode b_Mo_change 14 = .ok (.iload_n 2, 1) := by decide +kernel
theorem d_Mo_change_15 : decode b_Mo_change 15 = .ok (.tableswitch 355 0 7 #[45, 52, 128, 156, 184, 226, 268, 314], 45) := by decide +kernel
theorem d_Mo_change_60 : decode b_Mo_change 60 = .ok (.aload_n 0, 1) := by decide +kernel
theorem d_Mo_change_61 : decode b_Mo_change 61 = .ok (.iload_n 1, 1) := by decide +kernel
theorem d_Mo_change_62 : decode b_Mo_change 62 = .ok (.iload_n 3, 1) := by decide +kernel
theorem d_Mo_change_63 : decode b_Mo_change 63 = .ok (.invokevirtual 530, 3) := by decide +kernel
theorem d_Mo_change_66 : decode b_Mo_change 66 = .ok (.ireturn, 1) := by decide +kernel
theorem d_Mo_change_67 : decode b_Mo_change 67 = .ok (.iload_n 3, 1) := by decide +kernel
theorem d_Mo_change_68 : decode b_Mo_change 68 = .ok (.iconst 0, 1) := by decide +kernel
theorem d_Mo_change_69 : decode b_Mo_change 69 = .ok (.aload_n 0, 1) := by decide +kernel
theorem d_Mo_change_70 : decode b_Mo_change 70 = .ok (.invokevirtual 475, 3) := by decide +kernel
theorem d_Mo_change_73 : decode b_Mo_change 73 = .ok (.iconst 1, 1) := by decide +kernel
theorem d_Mo_change_74 : decode b_Mo_change 74 = .ok (.isub, 1) := by decide +kernel
theorem d_Mo_change_75 : decode b_Mo_change 75 = .ok (.invokestatic 387, 3) := by decide +kernel
theorem d_Mo_change_78 : decode b_Mo_change 78 = .ok (.ifCond .eq 43, 3) := by decide +kernel
theorem d_Mo_change_121 : decode b_Mo_change 121 = .ok (.iconst (-1), 1) := by decide +kernel
theorem d_Mo_change_122 : decode b_Mo_change 122 = .ok (.ireturn, 1) := by decide +kernel
theorem d_Mo_change_143 : decode b_Mo_change 143 = .ok (.iload_n 3, 1) := by decide +kernel
theorem d_Mo_change_144 : decode b_Mo_change 144 = .ok (.iconst 0, 1) := by decide +kernel
theorem d_Mo_change_145 : decode b_Mo_change 145 = .ok (.aload_n 0, 1) := by decide +kernel
theorem d_Mo_change_146 : decode b_Mo_change 146 = .ok (.invokevirtual 401, 3) := by decide +kernel
theorem d_Mo_change_149 : decode b_Mo_change 149 = .ok (.iconst 1, 1) := by decide +kernel
theorem d_Mo_change_150 : decode b_Mo_change 150 = .ok (.isub, 1) := by decide +kernel
theorem d_Mo_change_151 : decode b_Mo_change 151 = .ok (.invokestatic 387, 3) := by decide +kernel
theorem d_Mo_change_154 : decode b_Mo_change 154 = .ok (.ifCond .ne 5, 3) := by decide +kernel
theorem d_Mo_change_157 : decode b_Mo_change 157 = .ok (.iconst (-1), 1) := by decide +kernel
theorem d_Mo_change_158 : decode b_Mo_change 158 = .ok (.ireturn, 1) := by decide +kernel
theorem d_Mo_change_171 : decode b_Mo_change 171 = .ok (.iload_n 3, 1) := by decide +kernel
theorem d_Mo_change_172 : decode b_Mo_change 172 = .ok (.iconst 0, 1) := by decide +kernel
theorem d_Mo_change_173 : decode b_Mo_change 173 = .ok (.aload_n 0, 1) := by decide +kernel
theorem d_Mo_change_174 : decode b_Mo_change 174 = .ok (.invokevirtual 475, 3) := by decide +kernel
theorem d_Mo_change_177 : decode b_Mo_change 177 = .ok (.iconst 1, 1) := by decide +kernel
theorem d_Mo_change_178 : decode b_Mo_change 178 = .ok (.isub, 1) := by decide +kernel
theorem d_Mo_change_179 : decode b_Mo_change 179 = .ok (.invokestatic 387, 3) := by decide +kernel
theorem d_Mo_change_182 : decode b_Mo_change 182 = .ok (.ifCond .ne 5, 3) := by decide +kernel
theorem d_Mo_change_185 : decode b_Mo_change 185 = .ok (.iconst (-1), 1) := by decide +kernel
theorem d_Mo_change_186 : decode b_Mo_change 186 = .ok (.ireturn, 1) := by decide +kernel
theorem d_Mo_change_199 : decode b_Mo_change 199 = .ok (.aload_n 0, 1) := by decide +kernel
theorem d_Mo_change_200 : decode b_Mo_change 200 = .ok (.iload_n 1, 1) := by decide +kernel
theorem d_Mo_change_201 : decode b_Mo_change 201 = .ok (.sipush 219, 3) := by decide +kernel
theorem d_Mo_change_204 : decode b_Mo_change 204 = .ok (.iload_n 3, 1) := by decide +kernel
theorem d_Mo_change_205 : decode b_Mo_change 205 = .ok (.iconst 0, 1) := by decide +kernel
theorem d_Mo_change_206 : decode b_Mo_change 206 = .ok (.aload_n 0, 1) := by decide +kernel
theorem d_Mo_change_207 : decode b_Mo_change 207 = .ok (.invokevirtual 475, 3) := by decide +kernel
theorem d_Mo_change_210 : decode b_Mo_change 210 = .ok (.iconst 1, 1) := by decide +kernel
theorem d_Mo_change_211 : decode b_Mo_change 211 = .ok (.isub, 1) := by decide +kernel
theorem d_Mo_change_212 : decode b_Mo_change 212 = .ok (.invokestatic 387, 3) := by decide +kernel
theorem d_Mo_change_215 : decode b_Mo_change 215 = .ok (.ifCond .eq 18, 3) := by decide +kernel
theorem d_Mo_change_233 : decode b_Mo_change 233 = .ok (.iconst 0, 1) := by decide +kernel
theorem d_Mo_change_234 : decode b_Mo_change 234 = .ok (.iload_n 3, 1) := by decide +kernel
theorem d_Mo_change_235 : decode b_Mo_change 235 = .ok (.iload 4, 2) := by decide +kernel
theorem d_Mo_change_237 : decode b_Mo_change 237 = .ok (.invokevirtual 542, 3) := by decide +kernel
theorem d_Mo_change_240 : decode b_Mo_change 240 = .ok (.ireturn, 1) := by decide +kernel
theorem d_Mo_change_241 : decode b_Mo_change 241 = .ok (.aload_n 0, 1) := by decide +kernel
theorem d_Mo_change_242 : decode b_Mo_change 242 = .ok (.iload_n 1, 1) := by decide +kernel
theorem d_Mo_change_243 : decode b_Mo_change 243 = .ok (.sipush 363, 3) := by decide +kernel
theorem d_Mo_change_246 : decode b_Mo_change 246 = .ok (.iload_n 3, 1) := by decide +kernel
theorem d_Mo_change_247 : decode b_Mo_change 247 = .ok (.iconst 0, 1) := by decide +kernel
theorem d_Mo_change_248 : decode b_Mo_change 248 = .ok (.aload_n 0, 1) := by decide +kernel
theorem d_Mo_change_249 : decode b_Mo_change 249 = .ok (.invokevirtual 401, 3) := by decide +kernel
theorem d_Mo_change_252 : decode b_Mo_change 252 = .ok (.iconst 1, 1) := by decide +kernel
theorem d_Mo_change_253 : decode b_Mo_change 253 = .ok (.isub, 1) := by decide +kernel
theorem d_Mo_change_254 : decode b_Mo_change 254 = .ok (.invokestatic 387, 3) := by decide +kernel
theorem d_Mo_change_257 : decode b_Mo_change 257 = .ok (.ifCond .eq 18, 3) := by decide +kernel
theorem d_Mo_change_275 : decode b_Mo_change 275 = .ok (.iconst 0, 1) := by decide +kernel
theorem d_Mo_change_276 : decode b_Mo_change 276 = .ok (.iload_n 3, 1) := by decide +kernel
theorem d_Mo_change_277 : decode b_Mo_change 277 = .ok (.iload 4, 2) := by decide +kernel
theorem d_Mo_change_279 : decode b_Mo_change 279 = .ok (.invokevirtual 542, 3) := by decide +kernel
theorem d_Mo_change_282 : decode b_Mo_change 282 = .ok (.ireturn, 1) := by decide +kernel
theorem d_Mo_change_283 : decode b_Mo_change 283 = .ok (.aload_n 0, 1) := by decide +kernel
theorem d_Mo_change_284 : decode b_Mo_change 284 = .ok (.iload_n 1, 1) := by decide +kernel
theorem d_Mo_change_285 : decode b_Mo_change 285 = .ok (.sipush 243, 3) := by decide +kernel
theorem d_Mo_change_288 : decode b_Mo_change 288 = .ok (.iload_n 3, 1) := by decide +kernel
theorem d_Mo_change_289 : decode b_Mo_change 289 = .ok (.iconst 0, 1) := by decide +kernel
theorem d_Mo_change_290 : decode b_Mo_change 290 = .ok (.aload_n 0, 1) := by decide +kernel
theorem d_Mo_change_291 : decode b_Mo_change 291 = .ok (.invokevirtual 475, 3) := by decide +kernel
theorem d_Mo_change_294 : decode b_Mo_change 294 = .ok (.iconst 1, 1) := by decide +kernel
theorem d_Mo_change_295 : decode b_Mo_change 295 = .ok (.isub, 1) := by decide +kernel
theorem d_Mo_change_296 : decode b_Mo_change 296 = .ok (.invokestatic 387, 3) := by decide +kernel
theorem d_Mo_change_299 : decode b_Mo_change 299 = .ok (.ifCond .eq 22, 3) := by decide +kernel
theorem d_Mo_change_321 : decode b_Mo_change 321 = .ok (.iconst 0, 1) := by decide +kernel
theorem d_Mo_change_322 : decode b_Mo_change 322 = .ok (.iload_n 3, 1) := by decide +kernel
theorem d_Mo_change_323 : decode b_Mo_change 323 = .ok (.iload 4, 2) := by decide +kernel
theorem d_Mo_change_325 : decode b_Mo_change 325 = .ok (.invokevirtual 542, 3) := by decide +kernel
theorem d_Mo_change_328 : decode b_Mo_change 328 = .ok (.ireturn, 1) := by decide +kernel
theorem d_Mo_change_329 : decode b_Mo_change 329 = .ok (.aload_n 0, 1) := by decide +kernel
theorem d_Mo_change_330 : decode b_Mo_change 330 = .ok (.iload_n 1, 1) := by decide +kernel
theorem d_Mo_change_331 : decode b_Mo_change 331 = .ok (.sipush 411, 3) := by decide +kernel
theorem d_Mo_change_334 : decode b_Mo_change 334 = .ok (.iload_n 3, 1) := by decide +kernel
theorem d_Mo_change_335 : decode b_Mo_change 335 = .ok (.iconst 0, 1) := by decide +kernel
theorem d_Mo_change_336 : decode b_Mo_change 336 = .ok (.aload_n 0, 1) := by decide +kernel
theorem d_Mo_change_337 : decode b_Mo_change 337 = .ok (.invokevirtual 401, 3) := by decide +kernel
theorem d_Mo_change_340 : decode b_Mo_change 340 = .ok (.iconst 1, 1) := by decide +kernel
theorem d_Mo_change_341 : decode b_Mo_change 341 = .ok (.isub, 1) := by decide +kernel
theorem d_Mo_change_342 : decode b_Mo_change 342 = .ok (.invokestatic 387, 3) := by decide +kernel
theorem d_Mo_change_345 : decode b_Mo_change 345 = .ok (.ifCond .eq 17, 3) := by decide +kernel
theorem d_Mo_change_362 : decode b_Mo_change 362 = .ok (.iconst 0, 1) := by decide +kernel
theorem d_Mo_change_363 : decode b_Mo_change 363 = .ok (.iload_n 3, 1) := by decide +kernel
theorem d_Mo_change_364 : decode b_Mo_change 364 = .ok (.iload 4, 2) := by decide +kernel
theorem d_Mo_change_366 : decode b_Mo_change 366 = .ok (.invokevirtual 542, 3) := by decide +kernel
theorem d_Mo_change_369 : decode b_Mo_change 369 = .ok (.ireturn, 1) := by decide +kernel
theorem d_Mo_change_370 : decode b_Mo_change 370 = .ok (.iconst (-1), 1) := by decide +kernel
theorem d_Mo_change_371 : decode b_Mo_change 371 = .ok (.ireturn, 1) := by decide +kernel
abbrev b_Gr_mayAlter : ByteArray := prog_5_method_18_code
def y_Gr_mayAlter : MethodName := ⟨"DrawingHouse$Graph", "mayAlter", "(III)Z"⟩
abbrev z_Gr_mayAlter : List Cond := Cond.code y_Gr_mayAlter b_Gr_mayAlter 4 (some .boolean) :: lw_g
theorem d_Gr_mayAlter_0 : decode b_Gr_mayAlter 0 = .ok (.iload_n 1, 1) := by decide +kernel
theorem d_Gr_mayAlter_1 : decode b_Gr_mayAlter 1 = .ok (.tableswitch 230 0 7 #[47, 77, 123, 129, 135, 160, 185, 207], 47) := by decide +kernel
theorem d_Gr_mayAlter_48 : decode b_Gr_mayAlter 48 = .ok (.aload_n 0, 1) := by decide +kernel
theorem d_Gr_mayAlter_49 : decode b_Gr_mayAlter 49 = .ok (.iload_n 2, 1) := by decide +kernel
theorem d_Gr_mayAlter_50 : decode b_Gr_mayAlter 50 = .ok (.invokevirtual 104, 3) := by decide +kernel
theorem d_Gr_mayAlter_53 : decode b_Gr_mayAlter 53 = .ok (.ifCond .eq 23, 3) := by decide +kernel
theorem d_Gr_mayAlter_56 : decode b_Gr_mayAlter 56 = .ok (.aload_n 0, 1) := by decide +kernel
theorem d_Gr_mayAlter_57 : decode b_Gr_mayAlter 57 = .ok (.getfield 9, 3) := by decide +kernel
theorem d_Gr_mayAlter_60 : decode b_Gr_mayAlter 60 = .ok (.bipush 24, 2) := by decide +kernel
theorem d_Gr_mayAlter_62 : decode b_Gr_mayAlter 62 = .ok (.if_icmp .ge 14, 3) := by decide +kernel
theorem d_Gr_mayAlter_65 : decode b_Gr_mayAlter 65 = .ok (.aload_n 0, 1) := by decide +kernel
theorem d_Gr_mayAlter_66 : decode b_Gr_mayAlter 66 = .ok (.invokevirtual 108, 3) := by decide +kernel
theorem d_Gr_mayAlter_69 : decode b_Gr_mayAlter 69 = .ok (.ifCond .ne 7, 3) := by decide +kernel
theorem d_Gr_mayAlter_72 : decode b_Gr_mayAlter 72 = .ok (.iconst 1, 1) := by decide +kernel
theorem d_Gr_mayAlter_73 : decode b_Gr_mayAlter 73 = .ok (.goto 4, 3) := by decide +kernel
theorem d_Gr_mayAlter_76 : decode b_Gr_mayAlter 76 = .ok (.iconst 0, 1) := by decide +kernel
theorem d_Gr_mayAlter_77 : decode b_Gr_mayAlter 77 = .ok (.ireturn, 1) := by decide +kernel
theorem d_Gr_mayAlter_78 : decode b_Gr_mayAlter 78 = .ok (.aload_n 0, 1) := by decide +kernel
theorem d_Gr_mayAlter_79 : decode b_Gr_mayAlter 79 = .ok (.iload_n 2, 1) := by decide +kernel
theorem d_Gr_mayAlter_80 : decode b_Gr_mayAlter 80 = .ok (.invokevirtual 112, 3) := by decide +kernel
theorem d_Gr_mayAlter_83 : decode b_Gr_mayAlter 83 = .ok (.ifCond .eq 39, 3) := by decide +kernel
theorem d_Gr_mayAlter_122 : decode b_Gr_mayAlter 122 = .ok (.iconst 0, 1) := by decide +kernel
theorem d_Gr_mayAlter_123 : decode b_Gr_mayAlter 123 = .ok (.ireturn, 1) := by decide +kernel
theorem d_Gr_mayAlter_124 : decode b_Gr_mayAlter 124 = .ok (.aload_n 0, 1) := by decide +kernel
theorem d_Gr_mayAlter_125 : decode b_Gr_mayAlter 125 = .ok (.iload_n 2, 1) := by decide +kernel
theorem d_Gr_mayAlter_126 : decode b_Gr_mayAlter 126 = .ok (.invokevirtual 115, 3) := by decide +kernel
theorem d_Gr_mayAlter_129 : decode b_Gr_mayAlter 129 = .ok (.ireturn, 1) := by decide +kernel
theorem d_Gr_mayAlter_130 : decode b_Gr_mayAlter 130 = .ok (.aload_n 0, 1) := by decide +kernel
theorem d_Gr_mayAlter_131 : decode b_Gr_mayAlter 131 = .ok (.iload_n 2, 1) := by decide +kernel
theorem d_Gr_mayAlter_132 : decode b_Gr_mayAlter 132 = .ok (.invokevirtual 112, 3) := by decide +kernel
theorem d_Gr_mayAlter_135 : decode b_Gr_mayAlter 135 = .ok (.ireturn, 1) := by decide +kernel
theorem d_Gr_mayAlter_136 : decode b_Gr_mayAlter 136 = .ok (.aload_n 0, 1) := by decide +kernel
theorem d_Gr_mayAlter_137 : decode b_Gr_mayAlter 137 = .ok (.iload_n 2, 1) := by decide +kernel
theorem d_Gr_mayAlter_138 : decode b_Gr_mayAlter 138 = .ok (.invokevirtual 112, 3) := by decide +kernel
theorem d_Gr_mayAlter_141 : decode b_Gr_mayAlter 141 = .ok (.ifCond .eq 18, 3) := by decide +kernel
theorem d_Gr_mayAlter_159 : decode b_Gr_mayAlter 159 = .ok (.iconst 0, 1) := by decide +kernel
theorem d_Gr_mayAlter_160 : decode b_Gr_mayAlter 160 = .ok (.ireturn, 1) := by decide +kernel
theorem d_Gr_mayAlter_161 : decode b_Gr_mayAlter 161 = .ok (.aload_n 0, 1) := by decide +kernel
theorem d_Gr_mayAlter_162 : decode b_Gr_mayAlter 162 = .ok (.iload_n 2, 1) := by decide +kernel
theorem d_Gr_mayAlter_163 : decode b_Gr_mayAlter 163 = .ok (.invokevirtual 115, 3) := by decide +kernel
theorem d_Gr_mayAlter_166 : decode b_Gr_mayAlter 166 = .ok (.ifCond .eq 18, 3) := by decide +kernel
theorem d_Gr_mayAlter_184 : decode b_Gr_mayAlter 184 = .ok (.iconst 0, 1) := by decide +kernel
theorem d_Gr_mayAlter_185 : decode b_Gr_mayAlter 185 = .ok (.ireturn, 1) := by decide +kernel
theorem d_Gr_mayAlter_186 : decode b_Gr_mayAlter 186 = .ok (.aload_n 0, 1) := by decide +kernel
theorem d_Gr_mayAlter_187 : decode b_Gr_mayAlter 187 = .ok (.iload_n 2, 1) := by decide +kernel
theorem d_Gr_mayAlter_188 : decode b_Gr_mayAlter 188 = .ok (.invokevirtual 112, 3) := by decide +kernel
theorem d_Gr_mayAlter_191 : decode b_Gr_mayAlter 191 = .ok (.ifCond .eq 15, 3) := by decide +kernel
theorem d_Gr_mayAlter_206 : decode b_Gr_mayAlter 206 = .ok (.iconst 0, 1) := by decide +kernel
theorem d_Gr_mayAlter_207 : decode b_Gr_mayAlter 207 = .ok (.ireturn, 1) := by decide +kernel
theorem d_Gr_mayAlter_208 : decode b_Gr_mayAlter 208 = .ok (.aload_n 0, 1) := by decide +kernel
theorem d_Gr_mayAlter_209 : decode b_Gr_mayAlter 209 = .ok (.iload_n 2, 1) := by decide +kernel
theorem d_Gr_mayAlter_210 : decode b_Gr_mayAlter 210 = .ok (.invokevirtual 115, 3) := by decide +kernel
theorem d_Gr_mayAlter_213 : decode b_Gr_mayAlter 213 = .ok (.ifCond .eq 16, 3) := by decide +kernel
theorem d_Gr_mayAlter_229 : decode b_Gr_mayAlter 229 = .ok (.iconst 0, 1) := by decide +kernel
theorem d_Gr_mayAlter_230 : decode b_Gr_mayAlter 230 = .ok (.ireturn, 1) := by decide +kernel
theorem d_Gr_mayAlter_231 : decode b_Gr_mayAlter 231 = .ok (.iconst 0, 1) := by decide +kernel
theorem d_Gr_mayAlter_232 : decode b_Gr_mayAlter 232 = .ok (.ireturn, 1) := by decide +kernel
abbrev b_Mo_newNode : ByteArray := prog_15_method_46_code
def y_Mo_newNode : MethodName := ⟨"DrawingHouseModel", "newNode", "(II)I"⟩
abbrev z_Mo_newNode : List Cond := Cond.code y_Mo_newNode b_Mo_newNode 8 (some .int) :: lw_g
theorem d_Mo_newNode_0 : decode b_Mo_newNode 0 = .ok (.aload_n 0, 1) := by decide +kernel
theorem d_Mo_newNode_1 : decode b_Mo_newNode 1 = .ok (.invokevirtual 475, 3) := by decide +kernel
theorem d_Mo_newNode_4 : decode b_Mo_newNode 4 = .ok (.istore_n 3, 1) := by decide +kernel
theorem d_Mo_newNode_5 : decode b_Mo_newNode 5 = .ok (.iload_n 3, 1) := by decide +kernel
theorem d_Mo_newNode_6 : decode b_Mo_newNode 6 = .ok (.bipush 24, 2) := by decide +kernel
theorem d_Mo_newNode_8 : decode b_Mo_newNode 8 = .ok (.if_icmp .eq 17, 3) := by decide +kernel
theorem d_Mo_newNode_11 : decode b_Mo_newNode 11 = .ok (.iload_n 2, 1) := by decide +kernel
theorem d_Mo_newNode_12 : decode b_Mo_newNode 12 = .ok (.iconst 0, 1) := by decide +kernel
theorem d_Mo_newNode_13 : decode b_Mo_newNode 13 = .ok (.aload_n 0, 1) := by decide +kernel
theorem d_Mo_newNode_14 : decode b_Mo_newNode 14 = .ok (.invokevirtual 509, 3) := by decide +kernel
theorem d_Mo_newNode_17 : decode b_Mo_newNode 17 = .ok (.iconst 1, 1) := by decide +kernel
theorem d_Mo_newNode_18 : decode b_Mo_newNode 18 = .ok (.isub, 1) := by decide +kernel
theorem d_Mo_newNode_19 : decode b_Mo_newNode 19 = .ok (.invokestatic 387, 3) := by decide +kernel
theorem d_Mo_newNode_22 : decode b_Mo_newNode 22 = .ok (.ifCond .ne 5, 3) := by decide +kernel
theorem d_Mo_newNode_25 : decode b_Mo_newNode 25 = .ok (.iconst (-1), 1) := by decide +kernel
theorem d_Mo_newNode_26 : decode b_Mo_newNode 26 = .ok (.ireturn, 1) := by decide +kernel
theorem d_Mo_newNode_27 : decode b_Mo_newNode 27 = .ok (.iload_n 3, 1) := by decide +kernel
theorem d_Mo_newNode_28 : decode b_Mo_newNode 28 = .ok (.bipush 9, 2) := by decide +kernel
theorem d_Mo_newNode_30 : decode b_Mo_newNode 30 = .ok (.if_icmp .le 7, 3) := by decide +kernel
theorem d_Mo_newNode_37 : decode b_Mo_newNode 37 = .ok (.iconst 1, 1) := by decide +kernel
theorem d_Mo_newNode_38 : decode b_Mo_newNode 38 = .ok (.istore 4, 2) := by decide +kernel
theorem d_Mo_newNode_40 : decode b_Mo_newNode 40 = .ok (.iconst 0, 1) := by decide +kernel
theorem d_Mo_newNode_41 : decode b_Mo_newNode 41 = .ok (.istore 5, 2) := by decide +kernel
theorem d_Mo_newNode_43 : decode b_Mo_newNode 43 = .ok (.iload 5, 2) := by decide +kernel
theorem d_Mo_newNode_45 : decode b_Mo_newNode 45 = .ok (.iload_n 3, 1) := by decide +kernel
theorem d_Mo_newNode_46 : decode b_Mo_newNode 46 = .ok (.if_icmp .ge 107, 3) := by decide +kernel
theorem d_Mo_newNode_153 : decode b_Mo_newNode 153 = .ok (.aload_n 0, 1) := by decide +kernel
theorem d_Mo_newNode_154 : decode b_Mo_newNode 154 = .ok (.iload_n 1, 1) := by decide +kernel
theorem d_Mo_newNode_155 : decode b_Mo_newNode 155 = .ok (.invokevirtual 533, 3) := by decide +kernel
theorem d_Mo_newNode_158 : decode b_Mo_newNode 158 = .ok (.aload_n 0, 1) := by decide +kernel
theorem d_Mo_newNode_159 : decode b_Mo_newNode 159 = .ok (.getfield 16, 3) := by decide +kernel
theorem d_Mo_newNode_162 : decode b_Mo_newNode 162 = .ok (.aload_n 0, 1) := by decide +kernel
theorem d_Mo_newNode_163 : decode b_Mo_newNode 163 = .ok (.getfield 391, 3) := by decide +kernel
theorem d_Mo_newNode_166 : decode b_Mo_newNode 166 = .ok (.dup2, 1) := by decide +kernel
theorem d_Mo_newNode_167 : decode b_Mo_newNode 167 = .ok (.iaload, 1) := by decide +kernel
theorem d_Mo_newNode_168 : decode b_Mo_newNode 168 = .ok (.iconst 1, 1) := by decide +kernel
theorem d_Mo_newNode_169 : decode b_Mo_newNode 169 = .ok (.iadd, 1) := by decide +kernel
theorem d_Mo_newNode_170 : decode b_Mo_newNode 170 = .ok (.iastore, 1) := by decide +kernel
theorem d_Mo_newNode_171 : decode b_Mo_newNode 171 = .ok (.aload_n 0, 1) := by decide +kernel
theorem d_Mo_newNode_172 : decode b_Mo_newNode 172 = .ok (.getfield 391, 3) := by decide +kernel
theorem d_Mo_newNode_175 : decode b_Mo_newNode 175 = .ok (.iconst 3, 1) := by decide +kernel
theorem d_Mo_newNode_176 : decode b_Mo_newNode 176 = .ok (.iadd, 1) := by decide +kernel
theorem d_Mo_newNode_177 : decode b_Mo_newNode 177 = .ok (.bipush 8, 2) := by decide +kernel
theorem d_Mo_newNode_179 : decode b_Mo_newNode 179 = .ok (.iload_n 3, 1) := by decide +kernel
theorem d_Mo_newNode_180 : decode b_Mo_newNode 180 = .ok (.imul, 1) := by decide +kernel
theorem d_Mo_newNode_181 : decode b_Mo_newNode 181 = .ok (.iadd, 1) := by decide +kernel
theorem d_Mo_newNode_182 : decode b_Mo_newNode 182 = .ok (.istore 5, 2) := by decide +kernel
theorem d_Mo_newNode_184 : decode b_Mo_newNode 184 = .ok (.iconst 0, 1) := by decide +kernel
theorem d_Mo_newNode_185 : decode b_Mo_newNode 185 = .ok (.istore 6, 2) := by decide +kernel
theorem d_Mo_newNode_187 : decode b_Mo_newNode 187 = .ok (.iload 6, 2) := by decide +kernel
theorem d_Mo_newNode_189 : decode b_Mo_newNode 189 = .ok (.bipush 8, 2) := by decide +kernel
theorem d_Mo_newNode_191 : decode b_Mo_newNode 191 = .ok (.if_icmp .ge 20, 3) := by decide +kernel
theorem d_Mo_newNode_194 : decode b_Mo_newNode 194 = .ok (.aload_n 0, 1) := by decide +kernel
theorem d_Mo_newNode_195 : decode b_Mo_newNode 195 = .ok (.getfield 16, 3) := by decide +kernel
theorem d_Mo_newNode_198 : decode b_Mo_newNode 198 = .ok (.iload 5, 2) := by decide +kernel
theorem d_Mo_newNode_200 : decode b_Mo_newNode 200 = .ok (.iload 6, 2) := by decide +kernel
theorem d_Mo_newNode_202 : decode b_Mo_newNode 202 = .ok (.iadd, 1) := by decide +kernel
theorem d_Mo_newNode_203 : decode b_Mo_newNode 203 = .ok (.iconst 0, 1) := by decide +kernel
theorem d_Mo_newNode_204 : decode b_Mo_newNode 204 = .ok (.iastore, 1) := by decide +kernel
theorem d_Mo_newNode_205 : decode b_Mo_newNode 205 = .ok (.iinc 6 1, 3) := by decide +kernel
theorem d_Mo_newNode_208 : decode b_Mo_newNode 208 = .ok (.goto (-21), 3) := by decide +kernel
theorem d_Mo_newNode_211 : decode b_Mo_newNode 211 = .ok (.aload_n 0, 1) := by decide +kernel
theorem d_Mo_newNode_212 : decode b_Mo_newNode 212 = .ok (.getfield 16, 3) := by decide +kernel
theorem d_Mo_newNode_215 : decode b_Mo_newNode 215 = .ok (.iload 5, 2) := by decide +kernel
theorem d_Mo_newNode_217 : decode b_Mo_newNode 217 = .ok (.bipush 110, 2) := by decide +kernel
theorem d_Mo_newNode_219 : decode b_Mo_newNode 219 = .ok (.iastore, 1) := by decide +kernel
theorem d_Mo_newNode_220 : decode b_Mo_newNode 220 = .ok (.iload 4, 2) := by decide +kernel
theorem d_Mo_newNode_222 : decode b_Mo_newNode 222 = .ok (.iconst 2, 1) := by decide +kernel
theorem d_Mo_newNode_223 : decode b_Mo_newNode 223 = .ok (.if_icmp .ne 19, 3) := by decide +kernel
theorem d_Mo_newNode_242 : decode b_Mo_newNode 242 = .ok (.aload_n 0, 1) := by decide +kernel
theorem d_Mo_newNode_243 : decode b_Mo_newNode 243 = .ok (.getfield 16, 3) := by decide +kernel
theorem d_Mo_newNode_246 : decode b_Mo_newNode 246 = .ok (.iload 5, 2) := by decide +kernel
theorem d_Mo_newNode_248 : decode b_Mo_newNode 248 = .ok (.iload 4, 2) := by decide +kernel
theorem d_Mo_newNode_250 : decode b_Mo_newNode 250 = .ok (.iadd, 1) := by decide +kernel
theorem d_Mo_newNode_251 : decode b_Mo_newNode 251 = .ok (.bipush 48, 2) := by decide +kernel
theorem d_Mo_newNode_253 : decode b_Mo_newNode 253 = .ok (.iload_n 3, 1) := by decide +kernel
theorem d_Mo_newNode_254 : decode b_Mo_newNode 254 = .ok (.bipush 10, 2) := by decide +kernel
theorem d_Mo_newNode_256 : decode b_Mo_newNode 256 = .ok (.irem, 1) := by decide +kernel
theorem d_Mo_newNode_257 : decode b_Mo_newNode 257 = .ok (.iadd, 1) := by decide +kernel
theorem d_Mo_newNode_258 : decode b_Mo_newNode 258 = .ok (.iastore, 1) := by decide +kernel
theorem d_Mo_newNode_259 : decode b_Mo_newNode 259 = .ok (.aload_n 0, 1) := by decide +kernel
theorem d_Mo_newNode_260 : decode b_Mo_newNode 260 = .ok (.getfield 16, 3) := by decide +kernel
theorem d_Mo_newNode_263 : decode b_Mo_newNode 263 = .ok (.aload_n 0, 1) := by decide +kernel
theorem d_Mo_newNode_264 : decode b_Mo_newNode 264 = .ok (.getfield 391, 3) := by decide +kernel
theorem d_Mo_newNode_267 : decode b_Mo_newNode 267 = .ok (.sipush 195, 3) := by decide +kernel
theorem d_Mo_newNode_270 : decode b_Mo_newNode 270 = .ok (.iadd, 1) := by decide +kernel
theorem d_Mo_newNode_271 : decode b_Mo_newNode 271 = .ok (.iload_n 3, 1) := by decide +kernel
theorem d_Mo_newNode_272 : decode b_Mo_newNode 272 = .ok (.iadd, 1) := by decide +kernel
theorem d_Mo_newNode_273 : decode b_Mo_newNode 273 = .ok (.iload 4, 2) := by decide +kernel
theorem d_Mo_newNode_275 : decode b_Mo_newNode 275 = .ok (.iconst 1, 1) := by decide +kernel
theorem d_Mo_newNode_276 : decode b_Mo_newNode 276 = .ok (.iadd, 1) := by decide +kernel
theorem d_Mo_newNode_277 : decode b_Mo_newNode 277 = .ok (.iastore, 1) := by decide +kernel
theorem d_Mo_newNode_278 : decode b_Mo_newNode 278 = .ok (.aload_n 0, 1) := by decide +kernel
theorem d_Mo_newNode_279 : decode b_Mo_newNode 279 = .ok (.getfield 16, 3) := by decide +kernel
theorem d_Mo_newNode_282 : decode b_Mo_newNode 282 = .ok (.aload_n 0, 1) := by decide +kernel
theorem d_Mo_newNode_283 : decode b_Mo_newNode 283 = .ok (.getfield 391, 3) := by decide +kernel
theorem d_Mo_newNode_286 : decode b_Mo_newNode 286 = .ok (.sipush 219, 3) := by decide +kernel
theorem d_Mo_newNode_289 : decode b_Mo_newNode 289 = .ok (.iadd, 1) := by decide +kernel
theorem d_Mo_newNode_290 : decode b_Mo_newNode 290 = .ok (.iload_n 3, 1) := by decide +kernel
theorem d_Mo_newNode_291 : decode b_Mo_newNode 291 = .ok (.iadd, 1) := by decide +kernel
theorem d_Mo_newNode_292 : decode b_Mo_newNode 292 = .ok (.iconst 1, 1) := by decide +kernel
theorem d_Mo_newNode_293 : decode b_Mo_newNode 293 = .ok (.iastore, 1) := by decide +kernel
theorem d_Mo_newNode_294 : decode b_Mo_newNode 294 = .ok (.aload_n 0, 1) := by decide +kernel
theorem d_Mo_newNode_295 : decode b_Mo_newNode 295 = .ok (.getfield 16, 3) := by decide +kernel
theorem d_Mo_newNode_298 : decode b_Mo_newNode 298 = .ok (.aload_n 0, 1) := by decide +kernel
theorem d_Mo_newNode_299 : decode b_Mo_newNode 299 = .ok (.getfield 391, 3) := by decide +kernel
theorem d_Mo_newNode_302 : decode b_Mo_newNode 302 = .ok (.sipush 243, 3) := by decide +kernel
theorem d_Mo_newNode_305 : decode b_Mo_newNode 305 = .ok (.iadd, 1) := by decide +kernel
theorem d_Mo_newNode_306 : decode b_Mo_newNode 306 = .ok (.iload_n 3, 1) := by decide +kernel
theorem d_Mo_newNode_307 : decode b_Mo_newNode 307 = .ok (.iadd, 1) := by decide +kernel
theorem d_Mo_newNode_308 : decode b_Mo_newNode 308 = .ok (.iload_n 2, 1) := by decide +kernel
theorem d_Mo_newNode_309 : decode b_Mo_newNode 309 = .ok (.iastore, 1) := by decide +kernel
theorem d_Mo_newNode_310 : decode b_Mo_newNode 310 = .ok (.iload_n 3, 1) := by decide +kernel
theorem d_Mo_newNode_311 : decode b_Mo_newNode 311 = .ok (.ireturn, 1) := by decide +kernel
abbrev b_Gr_nextName : ByteArray := prog_5_method_19_code
def y_Gr_nextName : MethodName := ⟨"DrawingHouse$Graph", "nextName", "([B)I"⟩
abbrev z_Gr_nextName : List Cond := Cond.code y_Gr_nextName b_Gr_nextName 2 (some .int) :: lw_g
theorem d_Gr_nextName_0 : decode b_Gr_nextName 0 = .ok (.aload_n 1, 1) := by decide +kernel
theorem d_Gr_nextName_1 : decode b_Gr_nextName 1 = .ok (.iconst 0, 1) := by decide +kernel
theorem d_Gr_nextName_2 : decode b_Gr_nextName 2 = .ok (.bipush 110, 2) := by decide +kernel
theorem d_Gr_nextName_4 : decode b_Gr_nextName 4 = .ok (.bastore, 1) := by decide +kernel
theorem d_Gr_nextName_5 : decode b_Gr_nextName 5 = .ok (.aload_n 0, 1) := by decide +kernel
theorem d_Gr_nextName_6 : decode b_Gr_nextName 6 = .ok (.getfield 9, 3) := by decide +kernel
theorem d_Gr_nextName_9 : decode b_Gr_nextName 9 = .ok (.bipush 10, 2) := by decide +kernel
theorem d_Gr_nextName_11 : decode b_Gr_nextName 11 = .ok (.if_icmp .ge 16, 3) := by decide +kernel
theorem d_Gr_nextName_14 : decode b_Gr_nextName 14 = .ok (.aload_n 1, 1) := by decide +kernel
theorem d_Gr_nextName_15 : decode b_Gr_nextName 15 = .ok (.iconst 1, 1) := by decide +kernel
theorem d_Gr_nextName_16 : decode b_Gr_nextName 16 = .ok (.bipush 48, 2) := by decide +kernel
theorem d_Gr_nextName_18 : decode b_Gr_nextName 18 = .ok (.aload_n 0, 1) := by decide +kernel
theorem d_Gr_nextName_19 : decode b_Gr_nextName 19 = .ok (.getfield 9, 3) := by decide +kernel
theorem d_Gr_nextName_22 : decode b_Gr_nextName 22 = .ok (.iadd, 1) := by decide +kernel
theorem d_Gr_nextName_23 : decode b_Gr_nextName 23 = .ok (.i2b, 1) := by decide +kernel
theorem d_Gr_nextName_24 : decode b_Gr_nextName 24 = .ok (.bastore, 1) := by decide +kernel
theorem d_Gr_nextName_25 : decode b_Gr_nextName 25 = .ok (.iconst 2, 1) := by decide +kernel
theorem d_Gr_nextName_26 : decode b_Gr_nextName 26 = .ok (.ireturn, 1) := by decide +kernel
abbrev b_Gr_findNode : ByteArray := prog_5_method_12_code
def y_Gr_findNode : MethodName := ⟨"DrawingHouse$Graph", "findNode", "([BII)I"⟩
abbrev z_Gr_findNode : List Cond := Cond.code y_Gr_findNode b_Gr_findNode 5 (some .int) :: lw_g
theorem d_Gr_findNode_0 : decode b_Gr_findNode 0 = .ok (.iconst 0, 1) := by decide +kernel
theorem d_Gr_findNode_1 : decode b_Gr_findNode 1 = .ok (.istore 4, 2) := by decide +kernel
theorem d_Gr_findNode_3 : decode b_Gr_findNode 3 = .ok (.iload 4, 2) := by decide +kernel
theorem d_Gr_findNode_5 : decode b_Gr_findNode 5 = .ok (.aload_n 0, 1) := by decide +kernel
theorem d_Gr_findNode_6 : decode b_Gr_findNode 6 = .ok (.getfield 9, 3) := by decide +kernel
theorem d_Gr_findNode_9 : decode b_Gr_findNode 9 = .ok (.if_icmp .ge 34, 3) := by decide +kernel
theorem d_Gr_findNode_43 : decode b_Gr_findNode 43 = .ok (.iconst (-1), 1) := by decide +kernel
theorem d_Gr_findNode_44 : decode b_Gr_findNode 44 = .ok (.ireturn, 1) := by decide +kernel
abbrev b_Gr_hasNextName : ByteArray := prog_5_method_20_code
def y_Gr_hasNextName : MethodName := ⟨"DrawingHouse$Graph", "hasNextName", "()Z"⟩
abbrev z_Gr_hasNextName : List Cond := Cond.code y_Gr_hasNextName b_Gr_hasNextName 3 (some .boolean) :: lw_g
theorem d_Gr_hasNextName_0 : decode b_Gr_hasNextName 0 = .ok (.iconst 3, 1) := by decide +kernel
theorem d_Gr_hasNextName_1 : decode b_Gr_hasNextName 1 = .ok (.newarray .byte, 2) := by decide +kernel
theorem d_Gr_hasNextName_3 : decode b_Gr_hasNextName 3 = .ok (.astore_n 1, 1) := by decide +kernel
theorem d_Gr_hasNextName_4 : decode b_Gr_hasNextName 4 = .ok (.aload_n 0, 1) := by decide +kernel
theorem d_Gr_hasNextName_5 : decode b_Gr_hasNextName 5 = .ok (.aload_n 1, 1) := by decide +kernel
theorem d_Gr_hasNextName_6 : decode b_Gr_hasNextName 6 = .ok (.invokevirtual 118, 3) := by decide +kernel
theorem d_Gr_hasNextName_9 : decode b_Gr_hasNextName 9 = .ok (.istore_n 2, 1) := by decide +kernel
theorem d_Gr_hasNextName_10 : decode b_Gr_hasNextName 10 = .ok (.aload_n 0, 1) := by decide +kernel
theorem d_Gr_hasNextName_11 : decode b_Gr_hasNextName 11 = .ok (.aload_n 1, 1) := by decide +kernel
theorem d_Gr_hasNextName_12 : decode b_Gr_hasNextName 12 = .ok (.iconst 0, 1) := by decide +kernel
theorem d_Gr_hasNextName_13 : decode b_Gr_hasNextName 13 = .ok (.iload_n 2, 1) := by decide +kernel
theorem d_Gr_hasNextName_14 : decode b_Gr_hasNextName 14 = .ok (.invokevirtual 122, 3) := by decide +kernel
theorem d_Gr_hasNextName_17 : decode b_Gr_hasNextName 17 = .ok (.iconst (-1), 1) := by decide +kernel
theorem d_Gr_hasNextName_18 : decode b_Gr_hasNextName 18 = .ok (.if_icmp .eq 7, 3) := by decide +kernel
theorem d_Gr_hasNextName_25 : decode b_Gr_hasNextName 25 = .ok (.iconst 0, 1) := by decide +kernel
theorem d_Gr_hasNextName_26 : decode b_Gr_hasNextName 26 = .ok (.ireturn, 1) := by decide +kernel
abbrev b_Gr_pack : ByteArray := prog_5_method_26_code
def y_Gr_pack : MethodName := ⟨"DrawingHouse$Graph", "pack", "(I)V"⟩
abbrev z_Gr_pack : List Cond := Cond.code y_Gr_pack b_Gr_pack 4 none :: lw_g
theorem d_Gr_pack_0 : decode b_Gr_pack 0 = .ok (.iload_n 1, 1) := by decide +kernel
theorem d_Gr_pack_1 : decode b_Gr_pack 1 = .ok (.bipush 122, 2) := by decide +kernel
theorem d_Gr_pack_3 : decode b_Gr_pack 3 = .ok (.imul, 1) := by decide +kernel
theorem d_Gr_pack_4 : decode b_Gr_pack 4 = .ok (.istore_n 2, 1) := by decide +kernel
theorem d_Gr_pack_5 : decode b_Gr_pack 5 = .ok (.aload_n 0, 1) := by decide +kernel
theorem d_Gr_pack_6 : decode b_Gr_pack 6 = .ok (.getfield 62, 3) := by decide +kernel
theorem d_Gr_pack_9 : decode b_Gr_pack 9 = .ok (.iload_n 2, 1) := by decide +kernel
theorem d_Gr_pack_10 : decode b_Gr_pack 10 = .ok (.aload_n 0, 1) := by decide +kernel
theorem d_Gr_pack_11 : decode b_Gr_pack 11 = .ok (.getfield 9, 3) := by decide +kernel
theorem d_Gr_pack_14 : decode b_Gr_pack 14 = .ok (.iastore, 1) := by decide +kernel
theorem d_Gr_pack_15 : decode b_Gr_pack 15 = .ok (.aload_n 0, 1) := by decide +kernel
theorem d_Gr_pack_16 : decode b_Gr_pack 16 = .ok (.getfield 62, 3) := by decide +kernel
theorem d_Gr_pack_19 : decode b_Gr_pack 19 = .ok (.iload_n 2, 1) := by decide +kernel
theorem d_Gr_pack_20 : decode b_Gr_pack 20 = .ok (.iconst 1, 1) := by decide +kernel
theorem d_Gr_pack_21 : decode b_Gr_pack 21 = .ok (.iadd, 1) := by decide +kernel
theorem d_Gr_pack_22 : decode b_Gr_pack 22 = .ok (.aload_n 0, 1) := by decide +kernel
theorem d_Gr_pack_23 : decode b_Gr_pack 23 = .ok (.getfield 15, 3) := by decide +kernel
theorem d_Gr_pack_26 : decode b_Gr_pack 26 = .ok (.iastore, 1) := by decide +kernel
theorem d_Gr_pack_27 : decode b_Gr_pack 27 = .ok (.iinc 2 2, 3) := by decide +kernel
theorem d_Gr_pack_30 : decode b_Gr_pack 30 = .ok (.iconst 0, 1) := by decide +kernel
theorem d_Gr_pack_31 : decode b_Gr_pack 31 = .ok (.istore_n 3, 1) := by decide +kernel
theorem d_Gr_pack_32 : decode b_Gr_pack 32 = .ok (.iload_n 3, 1) := by decide +kernel
theorem d_Gr_pack_33 : decode b_Gr_pack 33 = .ok (.aload_n 0, 1) := by decide +kernel
theorem d_Gr_pack_34 : decode b_Gr_pack 34 = .ok (.getfield 9, 3) := by decide +kernel
theorem d_Gr_pack_37 : decode b_Gr_pack 37 = .ok (.if_icmp .ge 78, 3) := by decide +kernel
theorem d_Gr_pack_40 : decode b_Gr_pack 40 = .ok (.aload_n 0, 1) := by decide +kernel
theorem d_Gr_pack_41 : decode b_Gr_pack 41 = .ok (.getfield 62, 3) := by decide +kernel
theorem d_Gr_pack_44 : decode b_Gr_pack 44 = .ok (.iload_n 2, 1) := by decide +kernel
theorem d_Gr_pack_45 : decode b_Gr_pack 45 = .ok (.aload_n 0, 1) := by decide +kernel
theorem d_Gr_pack_46 : decode b_Gr_pack 46 = .ok (.iload_n 3, 1) := by decide +kernel
theorem d_Gr_pack_47 : decode b_Gr_pack 47 = .ok (.bipush 8, 2) := by decide +kernel
theorem d_Gr_pack_49 : decode b_Gr_pack 49 = .ok (.imul, 1) := by decide +kernel
theorem d_Gr_pack_50 : decode b_Gr_pack 50 = .ok (.invokevirtual 149, 3) := by decide +kernel
theorem d_Gr_pack_53 : decode b_Gr_pack 53 = .ok (.iastore, 1) := by decide +kernel
theorem d_Gr_pack_54 : decode b_Gr_pack 54 = .ok (.aload_n 0, 1) := by decide +kernel
theorem d_Gr_pack_55 : decode b_Gr_pack 55 = .ok (.getfield 62, 3) := by decide +kernel
theorem d_Gr_pack_58 : decode b_Gr_pack 58 = .ok (.iload_n 2, 1) := by decide +kernel
theorem d_Gr_pack_59 : decode b_Gr_pack 59 = .ok (.iconst 1, 1) := by decide +kernel
theorem d_Gr_pack_60 : decode b_Gr_pack 60 = .ok (.iadd, 1) := by decide +kernel
theorem d_Gr_pack_61 : decode b_Gr_pack 61 = .ok (.aload_n 0, 1) := by decide +kernel
theorem d_Gr_pack_62 : decode b_Gr_pack 62 = .ok (.iload_n 3, 1) := by decide +kernel
theorem d_Gr_pack_63 : decode b_Gr_pack 63 = .ok (.bipush 8, 2) := by decide +kernel
theorem d_Gr_pack_65 : decode b_Gr_pack 65 = .ok (.imul, 1) := by decide +kernel
theorem d_Gr_pack_66 : decode b_Gr_pack 66 = .ok (.iconst 4, 1) := by decide +kernel
theorem d_Gr_pack_67 : decode b_Gr_pack 67 = .ok (.iadd, 1) := by decide +kernel
theorem d_Gr_pack_68 : decode b_Gr_pack 68 = .ok (.invokevirtual 149, 3) := by decide +kernel
theorem d_Gr_pack_71 : decode b_Gr_pack 71 = .ok (.iastore, 1) := by decide +kernel
theorem d_Gr_pack_72 : decode b_Gr_pack 72 = .ok (.aload_n 0, 1) := by decide +kernel
theorem d_Gr_pack_73 : decode b_Gr_pack 73 = .ok (.getfield 62, 3) := by decide +kernel
theorem d_Gr_pack_76 : decode b_Gr_pack 76 = .ok (.iload_n 2, 1) := by decide +kernel
theorem d_Gr_pack_77 : decode b_Gr_pack 77 = .ok (.iconst 2, 1) := by decide +kernel
theorem d_Gr_pack_78 : decode b_Gr_pack 78 = .ok (.iadd, 1) := by decide +kernel
theorem d_Gr_pack_79 : decode b_Gr_pack 79 = .ok (.aload_n 0, 1) := by decide +kernel
theorem d_Gr_pack_80 : decode b_Gr_pack 80 = .ok (.getfield 25, 3) := by decide +kernel
theorem d_Gr_pack_83 : decode b_Gr_pack 83 = .ok (.iload_n 3, 1) := by decide +kernel
theorem d_Gr_pack_84 : decode b_Gr_pack 84 = .ok (.iaload, 1) := by decide +kernel
theorem d_Gr_pack_85 : decode b_Gr_pack 85 = .ok (.aload_n 0, 1) := by decide +kernel
theorem d_Gr_pack_86 : decode b_Gr_pack 86 = .ok (.getfield 29, 3) := by decide +kernel
theorem d_Gr_pack_89 : decode b_Gr_pack 89 = .ok (.iload_n 3, 1) := by decide +kernel
theorem d_Gr_pack_90 : decode b_Gr_pack 90 = .ok (.iaload, 1) := by decide +kernel
theorem d_Gr_pack_91 : decode b_Gr_pack 91 = .ok (.bipush 8, 2) := by decide +kernel
theorem d_Gr_pack_93 : decode b_Gr_pack 93 = .ok (.ishl, 1) := by decide +kernel
theorem d_Gr_pack_94 : decode b_Gr_pack 94 = .ok (.ior, 1) := by decide +kernel
theorem d_Gr_pack_95 : decode b_Gr_pack 95 = .ok (.aload_n 0, 1) := by decide +kernel
theorem d_Gr_pack_96 : decode b_Gr_pack 96 = .ok (.getfield 32, 3) := by decide +kernel
theorem d_Gr_pack_99 : decode b_Gr_pack 99 = .ok (.iload_n 3, 1) := by decide +kernel
theorem d_Gr_pack_100 : decode b_Gr_pack 100 = .ok (.iaload, 1) := by decide +kernel
theorem d_Gr_pack_101 : decode b_Gr_pack 101 = .ok (.bipush 16, 2) := by decide +kernel
theorem d_Gr_pack_103 : decode b_Gr_pack 103 = .ok (.ishl, 1) := by decide +kernel
theorem d_Gr_pack_104 : decode b_Gr_pack 104 = .ok (.ior, 1) := by decide +kernel
theorem d_Gr_pack_105 : decode b_Gr_pack 105 = .ok (.iastore, 1) := by decide +kernel
theorem d_Gr_pack_106 : decode b_Gr_pack 106 = .ok (.iinc 2 3, 3) := by decide +kernel
theorem d_Gr_pack_109 : decode b_Gr_pack 109 = .ok (.iinc 3 1, 3) := by decide +kernel
theorem d_Gr_pack_112 : decode b_Gr_pack 112 = .ok (.goto (-80), 3) := by decide +kernel
theorem d_Gr_pack_115 : decode b_Gr_pack 115 = .ok (.iload_n 1, 1) := by decide +kernel
theorem d_Gr_pack_116 : decode b_Gr_pack 116 = .ok (.bipush 122, 2) := by decide +kernel
theorem d_Gr_pack_118 : decode b_Gr_pack 118 = .ok (.imul, 1) := by decide +kernel
theorem d_Gr_pack_119 : decode b_Gr_pack 119 = .ok (.iconst 2, 1) := by decide +kernel
theorem d_Gr_pack_120 : decode b_Gr_pack 120 = .ok (.iadd, 1) := by decide +kernel
theorem d_Gr_pack_121 : decode b_Gr_pack 121 = .ok (.bipush 72, 2) := by decide +kernel
theorem d_Gr_pack_123 : decode b_Gr_pack 123 = .ok (.iadd, 1) := by decide +kernel
theorem d_Gr_pack_124 : decode b_Gr_pack 124 = .ok (.istore_n 2, 1) := by decide +kernel
theorem d_Gr_pack_125 : decode b_Gr_pack 125 = .ok (.iconst 0, 1) := by decide +kernel
theorem d_Gr_pack_126 : decode b_Gr_pack 126 = .ok (.istore_n 3, 1) := by decide +kernel
theorem d_Gr_pack_127 : decode b_Gr_pack 127 = .ok (.iload_n 3, 1) := by decide +kernel
theorem d_Gr_pack_128 : decode b_Gr_pack 128 = .ok (.aload_n 0, 1) := by decide +kernel
theorem d_Gr_pack_129 : decode b_Gr_pack 129 = .ok (.getfield 15, 3) := by decide +kernel
theorem d_Gr_pack_132 : decode b_Gr_pack 132 = .ok (.if_icmp .ge 53, 3) := by decide +kernel
theorem d_Gr_pack_185 : decode b_Gr_pack 185 = .ok (.return_, 1) := by decide +kernel
abbrev b_Gr_addNode : ByteArray := prog_5_method_14_code
def y_Gr_addNode : MethodName := ⟨"DrawingHouse$Graph", "addNode", "([BIII)I"⟩
abbrev z_Gr_addNode : List Cond := Cond.code y_Gr_addNode b_Gr_addNode 6 (some .int) :: lw_g
theorem d_Gr_addNode_0 : decode b_Gr_addNode 0 = .ok (.aload_n 0, 1) := by decide +kernel
theorem d_Gr_addNode_1 : decode b_Gr_addNode 1 = .ok (.getfield 9, 3) := by decide +kernel
theorem d_Gr_addNode_4 : decode b_Gr_addNode 4 = .ok (.istore 5, 2) := by decide +kernel
theorem d_Gr_addNode_6 : decode b_Gr_addNode 6 = .ok (.aload_n 1, 1) := by decide +kernel
theorem d_Gr_addNode_7 : decode b_Gr_addNode 7 = .ok (.iload_n 2, 1) := by decide +kernel
theorem d_Gr_addNode_8 : decode b_Gr_addNode 8 = .ok (.aload_n 0, 1) := by decide +kernel
theorem d_Gr_addNode_9 : decode b_Gr_addNode 9 = .ok (.getfield 21, 3) := by decide +kernel
theorem d_Gr_addNode_12 : decode b_Gr_addNode 12 = .ok (.iload 5, 2) := by decide +kernel
theorem d_Gr_addNode_14 : decode b_Gr_addNode 14 = .ok (.bipush 8, 2) := by decide +kernel
theorem d_Gr_addNode_16 : decode b_Gr_addNode 16 = .ok (.imul, 1) := by decide +kernel
theorem d_Gr_addNode_17 : decode b_Gr_addNode 17 = .ok (.iload_n 3, 1) := by decide +kernel
theorem d_Gr_addNode_18 : decode b_Gr_addNode 18 = .ok (.invokestatic 77, 3) := by decide +kernel
theorem d_Gr_addNode_21 : decode b_Gr_addNode 21 = .ok (.aload_n 0, 1) := by decide +kernel
theorem d_Gr_addNode_22 : decode b_Gr_addNode 22 = .ok (.getfield 25, 3) := by decide +kernel
theorem d_Gr_addNode_25 : decode b_Gr_addNode 25 = .ok (.iload 5, 2) := by decide +kernel
theorem d_Gr_addNode_27 : decode b_Gr_addNode 27 = .ok (.iload_n 3, 1) := by decide +kernel
theorem d_Gr_addNode_28 : decode b_Gr_addNode 28 = .ok (.iastore, 1) := by decide +kernel
theorem d_Gr_addNode_29 : decode b_Gr_addNode 29 = .ok (.aload_n 0, 1) := by decide +kernel
theorem d_Gr_addNode_30 : decode b_Gr_addNode 30 = .ok (.getfield 29, 3) := by decide +kernel
theorem d_Gr_addNode_33 : decode b_Gr_addNode 33 = .ok (.iload 5, 2) := by decide +kernel
theorem d_Gr_addNode_35 : decode b_Gr_addNode 35 = .ok (.iconst 1, 1) := by decide +kernel
theorem d_Gr_addNode_36 : decode b_Gr_addNode 36 = .ok (.iastore, 1) := by decide +kernel
theorem d_Gr_addNode_37 : decode b_Gr_addNode 37 = .ok (.aload_n 0, 1) := by decide +kernel
theorem d_Gr_addNode_38 : decode b_Gr_addNode 38 = .ok (.getfield 32, 3) := by decide +kernel
theorem d_Gr_addNode_41 : decode b_Gr_addNode 41 = .ok (.iload 5, 2) := by decide +kernel
theorem d_Gr_addNode_43 : decode b_Gr_addNode 43 = .ok (.iload 4, 2) := by decide +kernel
theorem d_Gr_addNode_45 : decode b_Gr_addNode 45 = .ok (.iastore, 1) := by decide +kernel
theorem d_Gr_addNode_46 : decode b_Gr_addNode 46 = .ok (.aload_n 0, 1) := by decide +kernel
theorem d_Gr_addNode_47 : decode b_Gr_addNode 47 = .ok (.getfield 56, 3) := by decide +kernel
theorem d_Gr_addNode_50 : decode b_Gr_addNode 50 = .ok (.iload 5, 2) := by decide +kernel
theorem d_Gr_addNode_52 : decode b_Gr_addNode 52 = .ok (.iconst 0, 1) := by decide +kernel
theorem d_Gr_addNode_53 : decode b_Gr_addNode 53 = .ok (.iastore, 1) := by decide +kernel
theorem d_Gr_addNode_54 : decode b_Gr_addNode 54 = .ok (.aload_n 0, 1) := by decide +kernel
theorem d_Gr_addNode_55 : decode b_Gr_addNode 55 = .ok (.dup, 1) := by decide +kernel
theorem d_Gr_addNode_56 : decode b_Gr_addNode 56 = .ok (.getfield 9, 3) := by decide +kernel
theorem d_Gr_addNode_59 : decode b_Gr_addNode 59 = .ok (.iconst 1, 1) := by decide +kernel
theorem d_Gr_addNode_60 : decode b_Gr_addNode 60 = .ok (.iadd, 1) := by decide +kernel
theorem d_Gr_addNode_61 : decode b_Gr_addNode 61 = .ok (.putfield 9, 3) := by decide +kernel
theorem d_Gr_addNode_64 : decode b_Gr_addNode 64 = .ok (.iload 5, 2) := by decide +kernel
theorem d_Gr_addNode_66 : decode b_Gr_addNode 66 = .ok (.ireturn, 1) := by decide +kernel
abbrev b_Gr_perform : ByteArray := prog_5_method_22_code
def y_Gr_perform : MethodName := ⟨"DrawingHouse$Graph", "perform", "(III)I"⟩
abbrev z_Gr_perform : List Cond := Cond.code y_Gr_perform b_Gr_perform 6 (some .int) :: lw_g
theorem d_Gr_perform_0 : decode b_Gr_perform 0 = .ok (.iload_n 1, 1) := by decide +kernel
theorem d_Gr_perform_1 : decode b_Gr_perform 1 = .ok (.tableswitch 125 0 6 #[43, 67, 75, 87, 95, 105, 115], 43) := by decide +kernel
theorem d_Gr_perform_44 : decode b_Gr_perform 44 = .ok (.iconst 3, 1) := by decide +kernel
theorem d_Gr_perform_45 : decode b_Gr_perform 45 = .ok (.newarray .byte, 2) := by decide +kernel
theorem d_Gr_perform_47 : decode b_Gr_perform 47 = .ok (.astore 4, 2) := by decide +kernel
theorem d_Gr_perform_49 : decode b_Gr_perform 49 = .ok (.aload_n 0, 1) := by decide +kernel
theorem d_Gr_perform_50 : decode b_Gr_perform 50 = .ok (.aload 4, 2) := by decide +kernel
theorem d_Gr_perform_52 : decode b_Gr_perform 52 = .ok (.invokevirtual 118, 3) := by decide +kernel
theorem d_Gr_perform_55 : decode b_Gr_perform 55 = .ok (.istore 5, 2) := by decide +kernel
theorem d_Gr_perform_57 : decode b_Gr_perform 57 = .ok (.aload_n 0, 1) := by decide +kernel
theorem d_Gr_perform_58 : decode b_Gr_perform 58 = .ok (.aload 4, 2) := by decide +kernel
theorem d_Gr_perform_60 : decode b_Gr_perform 60 = .ok (.iconst 0, 1) := by decide +kernel
theorem d_Gr_perform_61 : decode b_Gr_perform 61 = .ok (.iload 5, 2) := by decide +kernel
theorem d_Gr_perform_63 : decode b_Gr_perform 63 = .ok (.iload_n 2, 1) := by decide +kernel
theorem d_Gr_perform_64 : decode b_Gr_perform 64 = .ok (.invokevirtual 133, 3) := by decide +kernel
theorem d_Gr_perform_67 : decode b_Gr_perform 67 = .ok (.ireturn, 1) := by decide +kernel
abbrev b_Gr_fourLetters : ByteArray := prog_5_method_28_code
def y_Gr_fourLetters : MethodName := ⟨"DrawingHouse$Graph", "fourLetters", "(I)I"⟩
abbrev z_Gr_fourLetters : List Cond := Cond.code y_Gr_fourLetters b_Gr_fourLetters 2 (some .int) :: lw_g
theorem d_Gr_fourLetters_0 : decode b_Gr_fourLetters 0 = .ok (.aload_n 0, 1) := by decide +kernel
theorem d_Gr_fourLetters_1 : decode b_Gr_fourLetters 1 = .ok (.getfield 21, 3) := by decide +kernel
theorem d_Gr_fourLetters_4 : decode b_Gr_fourLetters 4 = .ok (.iload_n 1, 1) := by decide +kernel
theorem d_Gr_fourLetters_5 : decode b_Gr_fourLetters 5 = .ok (.baload, 1) := by decide +kernel
theorem d_Gr_fourLetters_6 : decode b_Gr_fourLetters 6 = .ok (.aload_n 0, 1) := by decide +kernel
theorem d_Gr_fourLetters_7 : decode b_Gr_fourLetters 7 = .ok (.getfield 21, 3) := by decide +kernel
theorem d_Gr_fourLetters_10 : decode b_Gr_fourLetters 10 = .ok (.iload_n 1, 1) := by decide +kernel
theorem d_Gr_fourLetters_11 : decode b_Gr_fourLetters 11 = .ok (.iconst 1, 1) := by decide +kernel
theorem d_Gr_fourLetters_12 : decode b_Gr_fourLetters 12 = .ok (.iadd, 1) := by decide +kernel
theorem d_Gr_fourLetters_13 : decode b_Gr_fourLetters 13 = .ok (.baload, 1) := by decide +kernel
theorem d_Gr_fourLetters_14 : decode b_Gr_fourLetters 14 = .ok (.bipush 8, 2) := by decide +kernel
theorem d_Gr_fourLetters_16 : decode b_Gr_fourLetters 16 = .ok (.ishl, 1) := by decide +kernel
theorem d_Gr_fourLetters_17 : decode b_Gr_fourLetters 17 = .ok (.ior, 1) := by decide +kernel
theorem d_Gr_fourLetters_18 : decode b_Gr_fourLetters 18 = .ok (.aload_n 0, 1) := by decide +kernel
theorem d_Gr_fourLetters_19 : decode b_Gr_fourLetters 19 = .ok (.getfield 21, 3) := by decide +kernel
theorem d_Gr_fourLetters_22 : decode b_Gr_fourLetters 22 = .ok (.iload_n 1, 1) := by decide +kernel
theorem d_Gr_fourLetters_23 : decode b_Gr_fourLetters 23 = .ok (.iconst 2, 1) := by decide +kernel
theorem d_Gr_fourLetters_24 : decode b_Gr_fourLetters 24 = .ok (.iadd, 1) := by decide +kernel
theorem d_Gr_fourLetters_25 : decode b_Gr_fourLetters 25 = .ok (.baload, 1) := by decide +kernel
theorem d_Gr_fourLetters_26 : decode b_Gr_fourLetters 26 = .ok (.bipush 16, 2) := by decide +kernel
theorem d_Gr_fourLetters_28 : decode b_Gr_fourLetters 28 = .ok (.ishl, 1) := by decide +kernel
theorem d_Gr_fourLetters_29 : decode b_Gr_fourLetters 29 = .ok (.ior, 1) := by decide +kernel
theorem d_Gr_fourLetters_30 : decode b_Gr_fourLetters 30 = .ok (.aload_n 0, 1) := by decide +kernel
theorem d_Gr_fourLetters_31 : decode b_Gr_fourLetters 31 = .ok (.getfield 21, 3) := by decide +kernel
theorem d_Gr_fourLetters_34 : decode b_Gr_fourLetters 34 = .ok (.iload_n 1, 1) := by decide +kernel
theorem d_Gr_fourLetters_35 : decode b_Gr_fourLetters 35 = .ok (.iconst 3, 1) := by decide +kernel
theorem d_Gr_fourLetters_36 : decode b_Gr_fourLetters 36 = .ok (.iadd, 1) := by decide +kernel
theorem d_Gr_fourLetters_37 : decode b_Gr_fourLetters 37 = .ok (.baload, 1) := by decide +kernel
theorem d_Gr_fourLetters_38 : decode b_Gr_fourLetters 38 = .ok (.bipush 24, 2) := by decide +kernel
theorem d_Gr_fourLetters_40 : decode b_Gr_fourLetters 40 = .ok (.ishl, 1) := by decide +kernel
theorem d_Gr_fourLetters_41 : decode b_Gr_fourLetters 41 = .ok (.ior, 1) := by decide +kernel
theorem d_Gr_fourLetters_42 : decode b_Gr_fourLetters 42 = .ok (.ireturn, 1) := by decide +kernel
abbrev b_Gr_alter : ByteArray := prog_5_method_21_code
def y_Gr_alter : MethodName := ⟨"DrawingHouse$Graph", "alter", "(III)I"⟩
abbrev z_Gr_alter : List Cond := Cond.code y_Gr_alter b_Gr_alter 5 (some .int) :: lw_g
theorem d_Gr_alter_0 : decode b_Gr_alter 0 = .ok (.aload_n 0, 1) := by decide +kernel
theorem d_Gr_alter_1 : decode b_Gr_alter 1 = .ok (.getfield 62, 3) := by decide +kernel
theorem d_Gr_alter_4 : decode b_Gr_alter 4 = .ok (.ifnonnull 12, 3) := by decide +kernel
theorem d_Gr_alter_7 : decode b_Gr_alter 7 = .ok (.aload_n 0, 1) := by decide +kernel
theorem d_Gr_alter_8 : decode b_Gr_alter 8 = .ok (.sipush 3782, 3) := by decide +kernel
theorem d_Gr_alter_11 : decode b_Gr_alter 11 = .ok (.newarray .int, 2) := by decide +kernel
theorem d_Gr_alter_13 : decode b_Gr_alter 13 = .ok (.putfield 62, 3) := by decide +kernel
theorem d_Gr_alter_16 : decode b_Gr_alter 16 = .ok (.aload_n 0, 1) := by decide +kernel
theorem d_Gr_alter_17 : decode b_Gr_alter 17 = .ok (.aload_n 0, 1) := by decide +kernel
theorem d_Gr_alter_18 : decode b_Gr_alter 18 = .ok (.getfield 65, 3) := by decide +kernel
theorem d_Gr_alter_21 : decode b_Gr_alter 21 = .ok (.invokevirtual 126, 3) := by decide +kernel
theorem d_Gr_alter_24 : decode b_Gr_alter 24 = .ok (.aload_n 0, 1) := by decide +kernel
theorem d_Gr_alter_25 : decode b_Gr_alter 25 = .ok (.iload_n 1, 1) := by decide +kernel
theorem d_Gr_alter_26 : decode b_Gr_alter 26 = .ok (.iload_n 2, 1) := by decide +kernel
theorem d_Gr_alter_27 : decode b_Gr_alter 27 = .ok (.iload_n 3, 1) := by decide +kernel
theorem d_Gr_alter_28 : decode b_Gr_alter 28 = .ok (.invokevirtual 129, 3) := by decide +kernel
theorem d_Gr_alter_31 : decode b_Gr_alter 31 = .ok (.istore 4, 2) := by decide +kernel
theorem d_Gr_alter_33 : decode b_Gr_alter 33 = .ok (.aload_n 0, 1) := by decide +kernel
theorem d_Gr_alter_34 : decode b_Gr_alter 34 = .ok (.getfield 65, 3) := by decide +kernel
theorem d_Gr_alter_37 : decode b_Gr_alter 37 = .ok (.bipush 30, 2) := by decide +kernel
theorem d_Gr_alter_39 : decode b_Gr_alter 39 = .ok (.if_icmp .ne 23, 3) := by decide +kernel
theorem d_Gr_alter_62 : decode b_Gr_alter 62 = .ok (.aload_n 0, 1) := by decide +kernel
theorem d_Gr_alter_63 : decode b_Gr_alter 63 = .ok (.dup, 1) := by decide +kernel
theorem d_Gr_alter_64 : decode b_Gr_alter 64 = .ok (.getfield 65, 3) := by decide +kernel
theorem d_Gr_alter_67 : decode b_Gr_alter 67 = .ok (.iconst 1, 1) := by decide +kernel
theorem d_Gr_alter_68 : decode b_Gr_alter 68 = .ok (.iadd, 1) := by decide +kernel
theorem d_Gr_alter_69 : decode b_Gr_alter 69 = .ok (.putfield 65, 3) := by decide +kernel
theorem d_Gr_alter_72 : decode b_Gr_alter 72 = .ok (.aload_n 0, 1) := by decide +kernel
theorem d_Gr_alter_73 : decode b_Gr_alter 73 = .ok (.iconst 0, 1) := by decide +kernel
theorem d_Gr_alter_74 : decode b_Gr_alter 74 = .ok (.putfield 68, 3) := by decide +kernel
theorem d_Gr_alter_77 : decode b_Gr_alter 77 = .ok (.aload_n 0, 1) := by decide +kernel
theorem d_Gr_alter_78 : decode b_Gr_alter 78 = .ok (.aload_n 0, 1) := by decide +kernel
theorem d_Gr_alter_79 : decode b_Gr_alter 79 = .ok (.getfield 65, 3) := by decide +kernel
theorem d_Gr_alter_82 : decode b_Gr_alter 82 = .ok (.invokevirtual 126, 3) := by decide +kernel
theorem d_Gr_alter_85 : decode b_Gr_alter 85 = .ok (.iload 4, 2) := by decide +kernel
theorem d_Gr_alter_87 : decode b_Gr_alter 87 = .ok (.ireturn, 1) := by decide +kernel
abbrev b_Mo_step : ByteArray := prog_15_method_43_code
def y_Mo_step : MethodName := ⟨"DrawingHouseModel", "step", "(I)V"⟩
abbrev z_Mo_step : List Cond := Cond.code y_Mo_step b_Mo_step 4 none :: lw_g
theorem d_Mo_step_0 : decode b_Mo_step 0 = .ok (.aload_n 0, 1) := by decide +kernel
theorem d_Mo_step_1 : decode b_Mo_step 1 = .ok (.getfield 20, 3) := by decide +kernel
theorem d_Mo_step_4 : decode b_Mo_step 4 = .ok (.iload_n 1, 1) := by decide +kernel
theorem d_Mo_step_5 : decode b_Mo_step 5 = .ok (.iaload, 1) := by decide +kernel
theorem d_Mo_step_6 : decode b_Mo_step 6 = .ok (.bipush 30, 2) := by decide +kernel
theorem d_Mo_step_8 : decode b_Mo_step 8 = .ok (.if_icmp .ne 52, 3) := by decide +kernel
theorem d_Mo_step_60 : decode b_Mo_step 60 = .ok (.iload_n 1, 1) := by decide +kernel
theorem d_Mo_step_61 : decode b_Mo_step 61 = .ok (.aload_n 0, 1) := by decide +kernel
theorem d_Mo_step_62 : decode b_Mo_step 62 = .ok (.getfield 20, 3) := by decide +kernel
theorem d_Mo_step_65 : decode b_Mo_step 65 = .ok (.iload_n 1, 1) := by decide +kernel
theorem d_Mo_step_66 : decode b_Mo_step 66 = .ok (.iaload, 1) := by decide +kernel
theorem d_Mo_step_67 : decode b_Mo_step 67 = .ok (.invokestatic 372, 3) := by decide +kernel
theorem d_Mo_step_70 : decode b_Mo_step 70 = .ok (.istore_n 2, 1) := by decide +kernel
theorem d_Mo_step_71 : decode b_Mo_step 71 = .ok (.iconst 0, 1) := by decide +kernel
theorem d_Mo_step_72 : decode b_Mo_step 72 = .ok (.istore_n 3, 1) := by decide +kernel
theorem d_Mo_step_73 : decode b_Mo_step 73 = .ok (.iload_n 3, 1) := by decide +kernel
theorem d_Mo_step_74 : decode b_Mo_step 74 = .ok (.sipush 539, 3) := by decide +kernel
theorem d_Mo_step_77 : decode b_Mo_step 77 = .ok (.if_icmp .ge 29, 3) := by decide +kernel
theorem d_Mo_step_80 : decode b_Mo_step 80 = .ok (.aload_n 0, 1) := by decide +kernel
theorem d_Mo_step_81 : decode b_Mo_step 81 = .ok (.getfield 16, 3) := by decide +kernel
theorem d_Mo_step_84 : decode b_Mo_step 84 = .ok (.iload_n 2, 1) := by decide +kernel
theorem d_Mo_step_85 : decode b_Mo_step 85 = .ok (.sipush 539, 3) := by decide +kernel
theorem d_Mo_step_88 : decode b_Mo_step 88 = .ok (.iadd, 1) := by decide +kernel
theorem d_Mo_step_89 : decode b_Mo_step 89 = .ok (.iload_n 3, 1) := by decide +kernel
theorem d_Mo_step_90 : decode b_Mo_step 90 = .ok (.iadd, 1) := by decide +kernel
theorem d_Mo_step_91 : decode b_Mo_step 91 = .ok (.aload_n 0, 1) := by decide +kernel
theorem d_Mo_step_92 : decode b_Mo_step 92 = .ok (.getfield 16, 3) := by decide +kernel
theorem d_Mo_step_95 : decode b_Mo_step 95 = .ok (.iload_n 2, 1) := by decide +kernel
theorem d_Mo_step_96 : decode b_Mo_step 96 = .ok (.iload_n 3, 1) := by decide +kernel
theorem d_Mo_step_97 : decode b_Mo_step 97 = .ok (.iadd, 1) := by decide +kernel
theorem d_Mo_step_98 : decode b_Mo_step 98 = .ok (.iaload, 1) := by decide +kernel
theorem d_Mo_step_99 : decode b_Mo_step 99 = .ok (.iastore, 1) := by decide +kernel
theorem d_Mo_step_100 : decode b_Mo_step 100 = .ok (.iinc 3 1, 3) := by decide +kernel
theorem d_Mo_step_103 : decode b_Mo_step 103 = .ok (.goto (-30), 3) := by decide +kernel
theorem d_Mo_step_106 : decode b_Mo_step 106 = .ok (.aload_n 0, 1) := by decide +kernel
theorem d_Mo_step_107 : decode b_Mo_step 107 = .ok (.getfield 20, 3) := by decide +kernel
theorem d_Mo_step_110 : decode b_Mo_step 110 = .ok (.iload_n 1, 1) := by decide +kernel
theorem d_Mo_step_111 : decode b_Mo_step 111 = .ok (.dup2, 1) := by decide +kernel
theorem d_Mo_step_112 : decode b_Mo_step 112 = .ok (.iaload, 1) := by decide +kernel
theorem d_Mo_step_113 : decode b_Mo_step 113 = .ok (.iconst 1, 1) := by decide +kernel
theorem d_Mo_step_114 : decode b_Mo_step 114 = .ok (.iadd, 1) := by decide +kernel
theorem d_Mo_step_115 : decode b_Mo_step 115 = .ok (.iastore, 1) := by decide +kernel
theorem d_Mo_step_116 : decode b_Mo_step 116 = .ok (.aload_n 0, 1) := by decide +kernel
theorem d_Mo_step_117 : decode b_Mo_step 117 = .ok (.getfield 23, 3) := by decide +kernel
theorem d_Mo_step_120 : decode b_Mo_step 120 = .ok (.iload_n 1, 1) := by decide +kernel
theorem d_Mo_step_121 : decode b_Mo_step 121 = .ok (.aload_n 0, 1) := by decide +kernel
theorem d_Mo_step_122 : decode b_Mo_step 122 = .ok (.getfield 20, 3) := by decide +kernel
theorem d_Mo_step_125 : decode b_Mo_step 125 = .ok (.iload_n 1, 1) := by decide +kernel
theorem d_Mo_step_126 : decode b_Mo_step 126 = .ok (.iaload, 1) := by decide +kernel
theorem d_Mo_step_127 : decode b_Mo_step 127 = .ok (.iastore, 1) := by decide +kernel
theorem d_Mo_step_128 : decode b_Mo_step 128 = .ok (.aload_n 0, 1) := by decide +kernel
theorem d_Mo_step_129 : decode b_Mo_step 129 = .ok (.iload_n 1, 1) := by decide +kernel
theorem d_Mo_step_130 : decode b_Mo_step 130 = .ok (.invokevirtual 527, 3) := by decide +kernel
theorem d_Mo_step_133 : decode b_Mo_step 133 = .ok (.aload_n 0, 1) := by decide +kernel
theorem d_Mo_step_134 : decode b_Mo_step 134 = .ok (.iload_n 1, 1) := by decide +kernel
theorem d_Mo_step_135 : decode b_Mo_step 135 = .ok (.invokevirtual 524, 3) := by decide +kernel
theorem d_Mo_step_138 : decode b_Mo_step 138 = .ok (.return_, 1) := by decide +kernel
abbrev b_Mo_becomes : ByteArray := prog_15_method_45_code
def y_Mo_becomes : MethodName := ⟨"DrawingHouseModel", "becomes", "(IIZII)I"⟩
abbrev z_Mo_becomes : List Cond := Cond.code y_Mo_becomes b_Mo_becomes 6 (some .int) :: lw_g
theorem d_Mo_becomes_0 : decode b_Mo_becomes 0 = .ok (.iload_n 3, 1) := by decide +kernel
theorem d_Mo_becomes_1 : decode b_Mo_becomes 1 = .ok (.ifCond .ne 5, 3) := by decide +kernel
theorem d_Mo_becomes_4 : decode b_Mo_becomes 4 = .ok (.iconst (-1), 1) := by decide +kernel
theorem d_Mo_becomes_5 : decode b_Mo_becomes 5 = .ok (.ireturn, 1) := by decide +kernel
theorem d_law_law_494 : decode b_law_law 494 = .ok (.aload_n 1, 1) := by decide +kernel
theorem d_law_law_495 : decode b_law_law 495 = .ok (.aload_n 0, 1) := by decide +kernel
theorem d_law_law_496 : decode b_law_law 496 = .ok (.iload_n 3, 1) := by decide +kernel
theorem d_law_law_497 : decode b_law_law 497 = .ok (.iconst 1, 1) := by decide +kernel
theorem d_law_law_498 : decode b_law_law 498 = .ok (.iadd, 1) := by decide +kernel
theorem d_law_law_499 : decode b_law_law 499 = .ok (.iaload, 1) := by decide +kernel
theorem d_law_law_500 : decode b_law_law 500 = .ok (.aload_n 0, 1) := by decide +kernel
theorem d_law_law_501 : decode b_law_law 501 = .ok (.iload_n 3, 1) := by decide +kernel
theorem d_law_law_502 : decode b_law_law 502 = .ok (.iconst 2, 1) := by decide +kernel
theorem d_law_law_503 : decode b_law_law 503 = .ok (.iadd, 1) := by decide +kernel
theorem d_law_law_504 : decode b_law_law 504 = .ok (.iaload, 1) := by decide +kernel
theorem d_law_law_505 : decode b_law_law 505 = .ok (.aload_n 0, 1) := by decide +kernel
theorem d_law_law_506 : decode b_law_law 506 = .ok (.iload_n 3, 1) := by decide +kernel
theorem d_law_law_507 : decode b_law_law 507 = .ok (.iconst 3, 1) := by decide +kernel
theorem d_law_law_508 : decode b_law_law 508 = .ok (.iadd, 1) := by decide +kernel
theorem d_law_law_509 : decode b_law_law 509 = .ok (.iaload, 1) := by decide +kernel
theorem d_law_law_510 : decode b_law_law 510 = .ok (.aload_n 0, 1) := by decide +kernel
theorem d_law_law_511 : decode b_law_law 511 = .ok (.iload_n 3, 1) := by decide +kernel
theorem d_law_law_512 : decode b_law_law 512 = .ok (.iconst 4, 1) := by decide +kernel
theorem d_law_law_513 : decode b_law_law 513 = .ok (.iadd, 1) := by decide +kernel
theorem d_law_law_514 : decode b_law_law 514 = .ok (.iaload, 1) := by decide +kernel
theorem d_law_law_515 : decode b_law_law 515 = .ok (.invokevirtual 50, 3) := by decide +kernel
theorem d_law_law_518 : decode b_law_law 518 = .ok (.aload_n 2, 1) := by decide +kernel
theorem d_law_law_519 : decode b_law_law 519 = .ok (.aload_n 0, 1) := by decide +kernel
theorem d_law_law_520 : decode b_law_law 520 = .ok (.iload_n 3, 1) := by decide +kernel
theorem d_law_law_521 : decode b_law_law 521 = .ok (.iconst 1, 1) := by decide +kernel
theorem d_law_law_522 : decode b_law_law 522 = .ok (.iadd, 1) := by decide +kernel
theorem d_law_law_523 : decode b_law_law 523 = .ok (.iaload, 1) := by decide +kernel
theorem d_law_law_524 : decode b_law_law 524 = .ok (.aload_n 0, 1) := by decide +kernel
theorem d_law_law_525 : decode b_law_law 525 = .ok (.iload_n 3, 1) := by decide +kernel
theorem d_law_law_526 : decode b_law_law 526 = .ok (.iconst 2, 1) := by decide +kernel
theorem d_law_law_527 : decode b_law_law 527 = .ok (.iadd, 1) := by decide +kernel
theorem d_law_law_528 : decode b_law_law 528 = .ok (.iaload, 1) := by decide +kernel
theorem d_law_law_529 : decode b_law_law 529 = .ok (.aload_n 0, 1) := by decide +kernel
theorem d_law_law_530 : decode b_law_law 530 = .ok (.iload_n 3, 1) := by decide +kernel
theorem d_law_law_531 : decode b_law_law 531 = .ok (.iconst 3, 1) := by decide +kernel
theorem d_law_law_532 : decode b_law_law 532 = .ok (.iadd, 1) := by decide +kernel
theorem d_law_law_533 : decode b_law_law 533 = .ok (.iaload, 1) := by decide +kernel
theorem d_law_law_534 : decode b_law_law 534 = .ok (.aload_n 0, 1) := by decide +kernel
theorem d_law_law_535 : decode b_law_law 535 = .ok (.iload_n 3, 1) := by decide +kernel
theorem d_law_law_536 : decode b_law_law 536 = .ok (.iconst 4, 1) := by decide +kernel
theorem d_law_law_537 : decode b_law_law 537 = .ok (.iadd, 1) := by decide +kernel
theorem d_law_law_538 : decode b_law_law 538 = .ok (.iaload, 1) := by decide +kernel
theorem d_law_law_539 : decode b_law_law 539 = .ok (.invokevirtual 53, 3) := by decide +kernel
theorem d_law_law_542 : decode b_law_law 542 = .ok (.if_icmp .eq 753, 3) := by decide +kernel
set_option maxRecDepth 100000 in
set_option maxHeartbeats 4000000 in
/-- DrawingHouse.change(IIII)I -/
theorem c_Ho_change_z1 (l : Launch) (D : va_G) (kA : Nat → ClassId) (a0 : Nat) (v1 : Int32) (v2 : Int32) (v3 : Int32) (v4 : Int32) (hg : sp_Ho_isPlace v1 = 0) (hgM : sp_Mo_isPlace v1 = 0) : Ci l y_Ho_change z_Ho_change { frames := 1, cells := 0, slots := 0, locals := 20 } D classes (TY kA) [.ref a0, .int v1, .int v2, .int v3, .int v4] [] (fun r (_ : List va_W) => r = (-1)) (fun u => u) 0 0 := by
  intro sz
  refine k_met (cc := b_Ho_change) (maxL := 6) (ret := (some .int)) (by decide) rfl (Nat.le_of_ble_eq_true rfl) (fun p e s m below meth c ls X hl hB => ?_)
  obtain ⟨hsz, hP, hK, hD0, hN⟩ := hB
  subst hsz
  have hD := hD0.self (sz := s.heap.size)
  generalize hAe : va_A (cat []) s.heap.size = A at hD ⊢
  have hA : ∀ q : Nat, s.heap.size ≤ q → A q := fun q h => by rw [← hAe]; exact Or.inr h
  have hS : va_S A s.heap s.heap [] := va_S.rf
  obtain ⟨hx, hb, hml, hown, hts, hr, hlk, hnm⟩ := id X
  have hl : lv_has ls 6 [(0, .ref a0), (1, .int v1), (2, .int v2), (3, .int v3), (4, .int v4)] := hl
  have hP : va_P D classes (cat []) s.heap := hP
  have hK : va_K D classes (TY kA) s := hK
  refine lv_iload_n (pc := 0) hx hb d_Ho_change_0 rfl (lv_at hl 1 rfl) ?_
  refine k_goI (gr := []) (k_rS (pc := 1) (As := [.int v1]) (rest := []) X (c_Ho_isPlace l D kA v1 s.heap.size) rfl wm_633 wm_1 wm_631 wm_632 1 (by decide +kernel) ⟨Nat.le_of_ble_eq_true rfl, Nat.le_of_ble_eq_true rfl⟩ rfl rfl (k_pre hN hK hP hD [] [] 0 rfl (by decide) rfl) rfl hl.1 rfl (Nat.le_of_ble_eq_true rfl) d_Ho_change_1 ⟨Nat.le_of_ble_eq_true rfl, Nat.le_of_ble_eq_true rfl⟩) hP hD hS hA [] [] 0 rfl (by decide) rfl rfl (fun r1 u2 H locs hu2 hP hD hS => ?_)
  subst hu2
  have hP : va_P D classes (cat []) H := hP
  have hD : va_D A (cat []) := hD
  refine lv_if_eq (pc := 4) (tgt := 23) hx hb d_Ho_change_4 (by decide) (fun c1 => ?_) (fun c1 => absurd (hg) c1)
  refine lv_iconst (pc := 23) (v := -1) hx hb d_Ho_change_23 (by decide) ?_
  refine W.widen (k := 0) (n := 0) (Nat.le_of_ble_eq_true rfl) (Nat.le_of_ble_eq_true rfl) ?_
  exact W.iret (v := (-1)) hx hb hr (fun t ht hW => ⟨⟨(-1), [], rfl, rfl, by rw [ht]; exact hP, va_K.moved hW.alike hK, hD⟩, hS.F ht⟩) hS.2.2 d_Ho_change_24
set_option maxRecDepth 100000 in
set_option maxHeartbeats 4000000 in
/-- DrawingHouseModel.change(IIII)I -/
theorem c_Mo_change_z1 (l : Launch) (D : va_G) (kA : Nat → ClassId) (a0 : Nat) (v1 : Int32) (v2 : Int32) (v3 : Int32) (v4 : Int32) (hg : sp_Ho_isPlace v1 = 0) (hgM : sp_Mo_isPlace v1 = 0) : Ci l y_Mo_change z_Mo_change { frames := 2, cells := 0, slots := 0, locals := 42 } D classes (TY kA) [.ref a0, .int v1, .int v2, .int v3, .int v4] [] (fun r (_ : List va_W) => r = (-1)) (fun u => u) 0 0 := by
  intro sz
  refine k_met (cc := b_Mo_change) (maxL := 5) (ret := (some .int)) (by decide) rfl (Nat.le_of_ble_eq_true rfl) (fun p e s m below meth c ls X hl hB => ?_)
  obtain ⟨hsz, hP, hK, hD0, hN⟩ := hB
  subst hsz
  have hD := hD0.self (sz := s.heap.size)
  generalize hAe : va_A (cat []) s.heap.size = A at hD ⊢
  have hA : ∀ q : Nat, s.heap.size ≤ q → A q := fun q h => by rw [← hAe]; exact Or.inr h
  have hS : va_S A s.heap s.heap [] := va_S.rf
  obtain ⟨hx, hb, hml, hown, hts, hr, hlk, hnm⟩ := id X
  have hl : lv_has ls 5 [(0, .ref a0), (1, .int v1), (2, .int v2), (3, .int v3), (4, .int v4)] := hl
  have hP : va_P D classes (cat []) s.heap := hP
  have hK : va_K D classes (TY kA) s := hK
  refine lv_iload_n (pc := 0) hx hb d_Mo_change_0 rfl (lv_at hl 1 rfl) ?_
  refine k_goI (gr := []) (k_rS (pc := 1) (As := [.int v1]) (rest := []) X (c_Mo_isPlace l D kA v1 s.heap.size) rfl wm_2978 wm_9 wm_2976 wm_2977 1 (by decide +kernel) ⟨Nat.le_of_ble_eq_true rfl, Nat.le_of_ble_eq_true rfl⟩ rfl rfl (k_pre hN hK hP hD [] [] 0 rfl (by decide) rfl) rfl hl.1 rfl (Nat.le_of_ble_eq_true rfl) d_Mo_change_1 ⟨Nat.le_of_ble_eq_true rfl, Nat.le_of_ble_eq_true rfl⟩) hP hD hS hA [] [] 0 rfl (by decide) rfl rfl (fun r1 u2 H locs hu2 hP hD hS => ?_)
  subst hu2
  have hP : va_P D classes (cat []) H := hP
  have hD : va_D A (cat []) := hD
  refine lv_if_ne (pc := 4) (tgt := 9) hx hb d_Mo_change_4 (by decide) (fun c1 => absurd (hgM) c1) (fun c1 => ?_)
  refine lv_iconst (pc := 7) (v := -1) hx hb d_Mo_change_7 (by decide) ?_
  refine W.widen (k := 0) (n := 0) (Nat.le_of_ble_eq_true rfl) (Nat.le_of_ble_eq_true rfl) ?_
  exact W.iret (v := (-1)) hx hb hr (fun t ht hW => ⟨⟨(-1), [], rfl, rfl, by rw [ht]; exact hP, va_K.moved hW.alike hK, hD⟩, hS.F ht⟩) hS.2.2 d_Mo_change_8
set_option maxRecDepth 100000 in
set_option maxHeartbeats 4000000 in
/-- change, a fresh house -/
theorem lf_change_1 {p : Program} {e : Env} {s : State} {m : MethodId} {below : List Frame} {meth : Method} {c : Code} (l : Launch) {b : Nat} {xs : Nat → Int32} (C0 : lw_At p s m meth c b 6 xs) {D : va_G} {kA : Nat → ClassId} (h : Nat) (h2 : Nat) (q : Nat → Nat) (qm : Nat → Nat) (v1 : Int32) (v2 : Int32) (v3 : Int32) (v4 : Int32) (hg : sp_Ho_isPlace v1 = 0) (hgM : sp_Mo_isPlace v1 = 0) (hv1 : xs 1 = v1) (hv2 : xs 2 = v2) (hv3 : xs 3 = v3) (hv4 : xs 4 = v4) {H : Heap} {locs : List Loc} {ls : Array Slot} (hK : va_K D classes (TY kA) s) (hN : nst s) (hP : va_P D classes (cat [[(h, .inr (12, [.ref (q 0), .ref (q 1), .ref (q 2), .ref (q 3), .ref (q 4), .ref (q 5), .ref (q 6), .int 0, .int ((-1)), .ref (q 9), .ref (q 10), .int 0, .int 0, .ref (q 13), .int 0, .int 0, .null, .null, .null, .null, .null]))], [(h2, .inr (13, mF qm x0Mo y0Mo))]]) H) (hD : va_D (fun q : Nat => s.heap.size ≤ q) (cat [[(h, .inr (12, [.ref (q 0), .ref (q 1), .ref (q 2), .ref (q 3), .ref (q 4), .ref (q 5), .ref (q 6), .int 0, .int ((-1)), .ref (q 9), .ref (q 10), .int 0, .int 0, .ref (q 13), .int 0, .int 0, .null, .null, .null, .null, .null]))], [(h2, .inr (13, mF qm x0Mo y0Mo))]])) (hS : va_S (fun q : Nat => s.heap.size ≤ q) s.heap H locs) (hl : lv_has ls 4 [(3, .int 0), (2, .ref h2), (1, .ref h), (0, .ref b)]) : W p l e room_1 s m #[Value.ref b] below meth c H locs 368 365796 (lw_Z below #[Value.ref b] s) (F0 m 494 ls []) := by
  obtain ⟨hx, hb, hr, hml, hown, hts0, hX, hbl, hlocks, hgv⟩ := id C0
  have hts : ∀ w ∈ lw_g, w.before #[Value.ref b] s = true := fun w h => hts0 w (lw_gt h)
  have X : cx p s m #[Value.ref b] meth c b_law_law 4 ret "DrawingHouseLaw" meth.name := ⟨hx, hb, hml, hown, hts, hr, hlocks, rfl⟩
  obtain ⟨A, hAe⟩ : ∃ A : Nat → Prop, A = fun q : Nat => s.heap.size ≤ q := ⟨_, rfl⟩
  have hA : ∀ q : Nat, s.heap.size ≤ q → A q := fun q h => by rw [hAe]; exact h
  have hbA : ¬ A b := by rw [hAe]; exact Nat.not_le.mpr hbl
  rw [← hAe] at hD hS
  refine lv_aload_n (pc := 494) hx hb d_law_law_494 rfl (lv_at hl 2 rfl) ?_
  refine lv_aload_n (pc := 495) hx hb d_law_law_495 rfl (lv_at hl 3 rfl) ?_
  refine lv_iload_n (pc := 496) hx hb d_law_law_496 rfl (lv_at hl 0 rfl) ?_
  refine lv_iconst (pc := 497) (v := 1) hx hb d_law_law_497 (by decide) ?_
  refine lv_iadd (pc := 498) hx hb d_law_law_498 ?_
  refine k_cst (v := 1) (by decide) ?_
  refine va_sld (pc := 499) hx hb hX hbl hbA hS (by unfold vp_in; decide) d_law_law_499 ?_
  refine k_cst (v := v1) hv1 ?_
  refine lv_aload_n (pc := 500) hx hb d_law_law_500 rfl (lv_at hl 3 rfl) ?_
  refine lv_iload_n (pc := 501) hx hb d_law_law_501 rfl (lv_at hl 0 rfl) ?_
  refine lv_iconst (pc := 502) (v := 2) hx hb d_law_law_502 (by decide) ?_
  refine lv_iadd (pc := 503) hx hb d_law_law_503 ?_
  refine k_cst (v := 2) (by decide) ?_
  refine va_sld (pc := 504) hx hb hX hbl hbA hS (by unfold vp_in; decide) d_law_law_504 ?_
  refine k_cst (v := v2) hv2 ?_
  refine lv_aload_n (pc := 505) hx hb d_law_law_505 rfl (lv_at hl 3 rfl) ?_
  refine lv_iload_n (pc := 506) hx hb d_law_law_506 rfl (lv_at hl 0 rfl) ?_
  refine lv_iconst (pc := 507) (v := 3) hx hb d_law_law_507 (by decide) ?_
  refine lv_iadd (pc := 508) hx hb d_law_law_508 ?_
  refine k_cst (v := 3) (by decide) ?_
  refine va_sld (pc := 509) hx hb hX hbl hbA hS (by unfold vp_in; decide) d_law_law_509 ?_
  refine k_cst (v := v3) hv3 ?_
  refine lv_aload_n (pc := 510) hx hb d_law_law_510 rfl (lv_at hl 3 rfl) ?_
  refine lv_iload_n (pc := 511) hx hb d_law_law_511 rfl (lv_at hl 0 rfl) ?_
  refine lv_iconst (pc := 512) (v := 4) hx hb d_law_law_512 (by decide) ?_
  refine lv_iadd (pc := 513) hx hb d_law_law_513 ?_
  refine k_cst (v := 4) (by decide) ?_
  refine va_sld (pc := 514) hx hb hX hbl hbA hS (by unfold vp_in; decide) d_law_law_514 ?_
  refine k_cst (v := v4) hv4 ?_
  refine k_goI (gr := [[(h, .inr (12, [.ref (q 0), .ref (q 1), .ref (q 2), .ref (q 3), .ref (q 4), .ref (q 5), .ref (q 6), .int 0, .int ((-1)), .ref (q 9), .ref (q 10), .int 0, .int 0, .ref (q 13), .int 0, .int 0, .null, .null, .null, .null, .null]))], [(h2, .inr (13, mF qm x0Mo y0Mo))]]) (k_rV (pc := 515) (As := [.int v1, .int v2, .int v3, .int v4]) (rest := []) X (c_Ho_change_z1 l D kA h v1 v2 v3 v4 hg hgM H.size) rfl wm_954 wm_1 wm_951 wm_952 wm_953 4 (by decide +kernel) ⟨Nat.le_of_ble_eq_true rfl, Nat.le_of_ble_eq_true rfl⟩ rfl rfl (va_recv hK hP (ci := 12) (q0 := 0) rfl rfl) (k_pre hN hK hP hD [] [0, 1] 2 rfl (by decide) rfl) rfl hl.1 rfl (Nat.le_of_ble_eq_true rfl) d_law_law_515 ⟨Nat.le_of_ble_eq_true rfl, Nat.le_of_ble_eq_true rfl⟩) hP hD hS hA [] [0, 1] 2 rfl (by decide) rfl rfl (fun r1 u2 H locs hu2 hP hD hS => ?_)
  obtain ⟨hP, hD⟩ := k_left hP hD
  subst hu2
  have hP : va_P D classes (cat [[(h, .inr (12, [.ref (q 0), .ref (q 1), .ref (q 2), .ref (q 3), .ref (q 4), .ref (q 5), .ref (q 6), .int 0, .int ((-1)), .ref (q 9), .ref (q 10), .int 0, .int 0, .ref (q 13), .int 0, .int 0, .null, .null, .null, .null, .null]))], [(h2, .inr (13, mF qm x0Mo y0Mo))]]) H := hP
  have hD : va_D A (cat [[(h, .inr (12, [.ref (q 0), .ref (q 1), .ref (q 2), .ref (q 3), .ref (q 4), .ref (q 5), .ref (q 6), .int 0, .int ((-1)), .ref (q 9), .ref (q 10), .int 0, .int 0, .ref (q 13), .int 0, .int 0, .null, .null, .null, .null, .null]))], [(h2, .inr (13, mF qm x0Mo y0Mo))]]) := hD
  refine lv_aload_n (pc := 518) hx hb d_law_law_518 rfl (lv_at hl 1 rfl) ?_
  refine lv_aload_n (pc := 519) hx hb d_law_law_519 rfl (lv_at hl 3 rfl) ?_
  refine lv_iload_n (pc := 520) hx hb d_law_law_520 rfl (lv_at hl 0 rfl) ?_
  refine lv_iconst (pc := 521) (v := 1) hx hb d_law_law_521 (by decide) ?_
  refine lv_iadd (pc := 522) hx hb d_law_law_522 ?_
  refine k_cst (v := 1) (by decide) ?_
  refine va_sld (pc := 523) hx hb hX hbl hbA hS (by unfold vp_in; decide) d_law_law_523 ?_
  refine k_cst (v := v1) hv1 ?_
  refine lv_aload_n (pc := 524) hx hb d_law_law_524 rfl (lv_at hl 3 rfl) ?_
  refine lv_iload_n (pc := 525) hx hb d_law_law_525 rfl (lv_at hl 0 rfl) ?_
  refine lv_iconst (pc := 526) (v := 2) hx hb d_law_law_526 (by decide) ?_
  refine lv_iadd (pc := 527) hx hb d_law_law_527 ?_
  refine k_cst (v := 2) (by decide) ?_
  refine va_sld (pc := 528) hx hb hX hbl hbA hS (by unfold vp_in; decide) d_law_law_528 ?_
  refine k_cst (v := v2) hv2 ?_
  refine lv_aload_n (pc := 529) hx hb d_law_law_529 rfl (lv_at hl 3 rfl) ?_
  refine lv_iload_n (pc := 530) hx hb d_law_law_530 rfl (lv_at hl 0 rfl) ?_
  refine lv_iconst (pc := 531) (v := 3) hx hb d_law_law_531 (by decide) ?_
  refine lv_iadd (pc := 532) hx hb d_law_law_532 ?_
  refine k_cst (v := 3) (by decide) ?_
  refine va_sld (pc := 533) hx hb hX hbl hbA hS (by unfold vp_in; decide) d_law_law_533 ?_
  refine k_cst (v := v3) hv3 ?_
  refine lv_aload_n (pc := 534) hx hb d_law_law_534 rfl (lv_at hl 3 rfl) ?_
  refine lv_iload_n (pc := 535) hx hb d_law_law_535 rfl (lv_at hl 0 rfl) ?_
  refine lv_iconst (pc := 536) (v := 4) hx hb d_law_law_536 (by decide) ?_
  refine lv_iadd (pc := 537) hx hb d_law_law_537 ?_
  refine k_cst (v := 4) (by decide) ?_
  refine va_sld (pc := 538) hx hb hX hbl hbA hS (by unfold vp_in; decide) d_law_law_538 ?_
  refine k_cst (v := v4) hv4 ?_
  refine k_goI (gr := [[(h, .inr (12, [.ref (q 0), .ref (q 1), .ref (q 2), .ref (q 3), .ref (q 4), .ref (q 5), .ref (q 6), .int 0, .int ((-1)), .ref (q 9), .ref (q 10), .int 0, .int 0, .ref (q 13), .int 0, .int 0, .null, .null, .null, .null, .null]))], [(h2, .inr (13, mF qm x0Mo y0Mo))]]) (k_rV (pc := 539) (As := [.int v1, .int v2, .int v3, .int v4]) (rest := [.int ((-1))]) X (c_Mo_change_z1 l D kA h2 v1 v2 v3 v4 hg hgM H.size) rfl wm_3087 wm_9 wm_3084 wm_3085 wm_3086 4 (by decide +kernel) ⟨Nat.le_of_ble_eq_true rfl, Nat.le_of_ble_eq_true rfl⟩ rfl rfl (va_recv hK hP (ci := 13) (q0 := 1) rfl rfl) (k_pre hN hK hP hD [] [0, 1] 2 rfl (by decide) rfl) rfl hl.1 rfl (Nat.le_of_ble_eq_true rfl) d_law_law_539 ⟨Nat.le_of_ble_eq_true rfl, Nat.le_of_ble_eq_true rfl⟩) hP hD hS hA [] [0, 1] 2 rfl (by decide) rfl rfl (fun r3 u4 H locs hu4 hP hD hS => ?_)
  obtain ⟨hP, hD⟩ := k_left hP hD
  subst hu4
  have hP : va_P D classes (cat [[(h, .inr (12, [.ref (q 0), .ref (q 1), .ref (q 2), .ref (q 3), .ref (q 4), .ref (q 5), .ref (q 6), .int 0, .int ((-1)), .ref (q 9), .ref (q 10), .int 0, .int 0, .ref (q 13), .int 0, .int 0, .null, .null, .null, .null, .null]))], [(h2, .inr (13, mF qm x0Mo y0Mo))]]) H := hP
  have hD : va_D A (cat [[(h, .inr (12, [.ref (q 0), .ref (q 1), .ref (q 2), .ref (q 3), .ref (q 4), .ref (q 5), .ref (q 6), .int 0, .int ((-1)), .ref (q 9), .ref (q 10), .int 0, .int 0, .ref (q 13), .int 0, .int 0, .null, .null, .null, .null, .null]))], [(h2, .inr (13, mF qm x0Mo y0Mo))]]) := hD
  refine lv_icmp_eq (pc := 542) (tgt := 1295) hx hb d_law_law_542 (by decide) (fun _ => ?_) (fun c1 => absurd (by decide) c1)
  rw [hAe] at hS
  exact law_exit l C0 (Nat.le_of_ble_eq_true rfl) (Nat.le_of_ble_eq_true rfl) hS hl
set_option maxRecDepth 100000 in
set_option maxHeartbeats 4000000 in
/-- DrawingHouse$Graph.mayAlter(III)Z -/
theorem c_Gr_mayAlter_z1 (l : Launch) (D : va_G) (kA : Nat → ClassId) (g : Nat → Nat → Nat) (j : Nat) (v2 : Int32) (v3 : Int32) (v4 : Int32) (hj : j < 4) (hs2 : v2.toInt < 0 ∨ ((8 : Int) - 1 < v2.toInt)) : Ci l y_Gr_mayAlter z_Gr_mayAlter { frames := 0, cells := 0, slots := 0, locals := 0 } D classes (TY kA) [.ref (g 0 j), .int v2, .int v3, .int v4] [] (fun r (_ : Unit) => r = 0) (fun u => []) 0 0 := by
  intro sz
  refine k_met (cc := b_Gr_mayAlter) (maxL := 4) (ret := (some .boolean)) (by decide) rfl (Nat.le_of_ble_eq_true rfl) (fun p e s m below meth c ls X hl hB => ?_)
  obtain ⟨hsz, hP, hK, hD0, hN⟩ := hB
  subst hsz
  have hD := hD0.self (sz := s.heap.size)
  generalize hAe : va_A (cat []) s.heap.size = A at hD ⊢
  have hA : ∀ q : Nat, s.heap.size ≤ q → A q := fun q h => by rw [← hAe]; exact Or.inr h
  have hS : va_S A s.heap s.heap [] := va_S.rf
  obtain ⟨hx, hb, hml, hown, hts, hr, hlk, hnm⟩ := id X
  have hl : lv_has ls 4 [(0, .ref (g 0 j)), (1, .int v2), (2, .int v3), (3, .int v4)] := hl
  have hP : va_P D classes (cat []) s.heap := hP
  have hK : va_K D classes (TY kA) s := hK
  refine lv_iload_n (pc := 0) hx hb d_Gr_mayAlter_0 rfl (lv_at hl 1 rfl) ?_
  refine lv_tableOut (pc := 1) (tgt := 231) hx hb d_Gr_mayAlter_1 hs2 (by decide) ?_
  refine lv_iconst (pc := 231) (v := 0) hx hb d_Gr_mayAlter_231 (by decide) ?_
  refine W.widen (k := 0) (n := 0) (Nat.le_of_ble_eq_true rfl) (Nat.le_of_ble_eq_true rfl) ?_
  exact W.zret (v := 0) hx hb hr rfl (fun t ht hW => ⟨⟨0, (), rfl, rfl, by rw [ht]; exact hP, va_K.moved hW.alike hK, hD⟩, hS.F ht⟩) hS.2.2 d_Gr_mayAlter_232
set_option maxRecDepth 100000 in
set_option maxHeartbeats 4000000 in
/-- DrawingHouse.change(IIII)I -/
theorem c_Ho_change_z2 (l : Launch) (D : va_G) (kA : Nat → ClassId) (a0 : Nat) (j : Nat) (v2 : Int32) (v3 : Int32) (v4 : Int32) (a1 : Nat) (a2 : Nat) (a3 : Nat) (a4 : Nat) (a5 : Nat) (a6 : Nat) (a7 : Nat) (a8 : Nat) (a9 : Nat) (a10 : Nat) (g : Nat → Nat → Nat) (a11 : Nat) (a12 : Nat) (a13 : Nat) (a14 : Nat) (a15 : Nat) (a16 : Nat) (a17 : Nat) (a18 : Nat) (a19 : Nat) (a20 : Nat) (a21 : Nat) (a22 : Nat) (a23 : Nat) (hj : j < 4) (hs2 : v2.toInt < 0 ∨ ((8 : Int) - 1 < v2.toInt)) : Ci l y_Ho_change z_Ho_change { frames := 1, cells := 0, slots := 0, locals := 23 } D classes (TY kA) [.ref a0, .int (nI j), .int v2, .int v3, .int v4] [[(a0, .inr (12, [.ref a1, .ref a2, .ref a3, .ref a4, .ref a5, .ref a6, .ref a7, .int 0, .int ((-1)), .ref a8, .ref a9, .int 0, .int 0, .ref a10, .int 0, .int 0, .null, .null, .null, .null, .null]))], [(a1, .inl (kA 4, 4, .inr (.inr (.inr (.inr (rr (g 0)))))))], [(g 0 j, .inr (3, [.int 0, .int 0, .int 1, .ref a11, .ref a12, .ref a13, .ref a14, .ref a15, .ref a16, .ref a17, .ref a18, .ref a19, .ref a20, .ref a21, .ref a22, .ref a23, .null, .int 0, .int 0]))]] (fun r (_ : List va_W) => r = (-1)) (fun u => u) 0 0 := by
  intro sz
  refine k_met (cc := b_Ho_change) (maxL := 6) (ret := (some .int)) (by decide) rfl (Nat.le_of_ble_eq_true rfl) (fun p e s m below meth c ls X hl hB => ?_)
  obtain ⟨hsz, hP, hK, hD0, hN⟩ := hB
  subst hsz
  have hD := hD0.self (sz := s.heap.size)
  generalize hAe : va_A (cat [[(a0, .inr (12, [.ref a1, .ref a2, .ref a3, .ref a4, .ref a5, .ref a6, .ref a7, .int 0, .int ((-1)), .ref a8, .ref a9, .int 0, .int 0, .ref a10, .int 0, .int 0, .null, .null, .null, .null, .null]))], [(a1, .inl (kA 4, 4, .inr (.inr (.inr (.inr (rr (g 0)))))))], [(g 0 j, .inr (3, [.int 0, .int 0, .int 1, .ref a11, .ref a12, .ref a13, .ref a14, .ref a15, .ref a16, .ref a17, .ref a18, .ref a19, .ref a20, .ref a21, .ref a22, .ref a23, .null, .int 0, .int 0]))]]) s.heap.size = A at hD ⊢
  have hA : ∀ q : Nat, s.heap.size ≤ q → A q := fun q h => by rw [← hAe]; exact Or.inr h
  have hS : va_S A s.heap s.heap [] := va_S.rf
  obtain ⟨hx, hb, hml, hown, hts, hr, hlk, hnm⟩ := id X
  have hl : lv_has ls 6 [(0, .ref a0), (1, .int (nI j)), (2, .int v2), (3, .int v3), (4, .int v4)] := hl
  have hP : va_P D classes (cat [[(a0, .inr (12, [.ref a1, .ref a2, .ref a3, .ref a4, .ref a5, .ref a6, .ref a7, .int 0, .int ((-1)), .ref a8, .ref a9, .int 0, .int 0, .ref a10, .int 0, .int 0, .null, .null, .null, .null, .null]))], [(a1, .inl (kA 4, 4, .inr (.inr (.inr (.inr (rr (g 0)))))))], [(g 0 j, .inr (3, [.int 0, .int 0, .int 1, .ref a11, .ref a12, .ref a13, .ref a14, .ref a15, .ref a16, .ref a17, .ref a18, .ref a19, .ref a20, .ref a21, .ref a22, .ref a23, .null, .int 0, .int 0]))]]) s.heap := hP
  have hK : va_K D classes (TY kA) s := hK
  refine lv_iload_n (pc := 0) hx hb d_Ho_change_0 rfl (lv_at hl 1 rfl) ?_
  refine k_goI (gr := [[(a0, .inr (12, [.ref a1, .ref a2, .ref a3, .ref a4, .ref a5, .ref a6, .ref a7, .int 0, .int ((-1)), .ref a8, .ref a9, .int 0, .int 0, .ref a10, .int 0, .int 0, .null, .null, .null, .null, .null]))], [(a1, .inl (kA 4, 4, .inr (.inr (.inr (.inr (rr (g 0)))))))], [(g 0 j, .inr (3, [.int 0, .int 0, .int 1, .ref a11, .ref a12, .ref a13, .ref a14, .ref a15, .ref a16, .ref a17, .ref a18, .ref a19, .ref a20, .ref a21, .ref a22, .ref a23, .null, .int 0, .int 0]))]]) (k_rS (pc := 1) (As := [.int (nI j)]) (rest := []) X (c_Ho_isPlace l D kA (nI j) s.heap.size) rfl wm_633 wm_1 wm_631 wm_632 1 (by decide +kernel) ⟨Nat.le_of_ble_eq_true rfl, Nat.le_of_ble_eq_true rfl⟩ rfl rfl (k_pre hN hK hP hD [] [0, 1, 2] 3 rfl (by decide) rfl) rfl hl.1 rfl (Nat.le_of_ble_eq_true rfl) d_Ho_change_1 ⟨Nat.le_of_ble_eq_true rfl, Nat.le_of_ble_eq_true rfl⟩) hP hD hS hA [] [0, 1, 2] 3 rfl (by decide) rfl rfl (fun r1 u2 H locs hu2 hP hD hS => ?_)
  subst hu2
  refine k_cst (v := 1) (place_ok hj) ?_
  have hP : va_P D classes (cat [[(a0, .inr (12, [.ref a1, .ref a2, .ref a3, .ref a4, .ref a5, .ref a6, .ref a7, .int 0, .int ((-1)), .ref a8, .ref a9, .int 0, .int 0, .ref a10, .int 0, .int 0, .null, .null, .null, .null, .null]))], [(a1, .inl (kA 4, 4, .inr (.inr (.inr (.inr (rr (g 0)))))))], [(g 0 j, .inr (3, [.int 0, .int 0, .int 1, .ref a11, .ref a12, .ref a13, .ref a14, .ref a15, .ref a16, .ref a17, .ref a18, .ref a19, .ref a20, .ref a21, .ref a22, .ref a23, .null, .int 0, .int 0]))]]) H := hP
  have hD : va_D A (cat [[(a0, .inr (12, [.ref a1, .ref a2, .ref a3, .ref a4, .ref a5, .ref a6, .ref a7, .int 0, .int ((-1)), .ref a8, .ref a9, .int 0, .int 0, .ref a10, .int 0, .int 0, .null, .null, .null, .null, .null]))], [(a1, .inl (kA 4, 4, .inr (.inr (.inr (.inr (rr (g 0)))))))], [(g 0 j, .inr (3, [.int 0, .int 0, .int 1, .ref a11, .ref a12, .ref a13, .ref a14, .ref a15, .ref a16, .ref a17, .ref a18, .ref a19, .ref a20, .ref a21, .ref a22, .ref a23, .null, .int 0, .int 0]))]]) := hD
  refine lv_if_eq (pc := 4) (tgt := 23) hx hb d_Ho_change_4 (by decide) (fun c1 => absurd c1 (by decide)) (fun c1 => ?_)
  refine lv_aload_n (pc := 7) hx hb d_Ho_change_7 rfl (lv_at hl 0 rfl) ?_
  refine k_get (pc := 8) X hK hP 0 rfl rfl i_Ho 0 (by decide) wm_555 rfl rfl d_Ho_change_8 ?_
  refine lv_iload_n (pc := 11) hx hb d_Ho_change_11 rfl (lv_at hl 1 rfl) ?_
  refine k_ald (pc := 12) hx hb hK hP 1 4 rfl rfl (j) rfl (by omega) (by decide) (rr_at (by omega)) d_Ho_change_12 ?_
  refine lv_iload_n (pc := 13) hx hb d_Ho_change_13 rfl (lv_at hl 2 rfl) ?_
  refine lv_iload_n (pc := 14) hx hb d_Ho_change_14 rfl (lv_at hl 3 rfl) ?_
  refine lv_iload (pc := 15) hx hb d_Ho_change_15 (lv_at hl 4 rfl) ?_
  refine k_goI (gr := [[(a0, .inr (12, [.ref a1, .ref a2, .ref a3, .ref a4, .ref a5, .ref a6, .ref a7, .int 0, .int ((-1)), .ref a8, .ref a9, .int 0, .int 0, .ref a10, .int 0, .int 0, .null, .null, .null, .null, .null]))], [(a1, .inl (kA 4, 4, .inr (.inr (.inr (.inr (rr (g 0)))))))], [(g 0 j, .inr (3, [.int 0, .int 0, .int 1, .ref a11, .ref a12, .ref a13, .ref a14, .ref a15, .ref a16, .ref a17, .ref a18, .ref a19, .ref a20, .ref a21, .ref a22, .ref a23, .null, .int 0, .int 0]))]]) (k_rV (pc := 17) (As := [.int v2, .int v3, .int v4]) (rest := []) X (c_Gr_mayAlter_z1 l D kA g j v2 v3 v4 hj hs2 H.size) rfl wm_958 wm_3 wm_955 wm_956 wm_957 3 (by decide +kernel) ⟨Nat.le_of_ble_eq_true rfl, Nat.le_of_ble_eq_true rfl⟩ rfl rfl (va_recv hK hP (ci := 3) (q0 := 2) rfl rfl) (k_pre hN hK hP hD [] [0, 1, 2] 3 rfl (by decide) rfl) rfl hl.1 rfl (Nat.le_of_ble_eq_true rfl) d_Ho_change_17 ⟨Nat.le_of_ble_eq_true rfl, Nat.le_of_ble_eq_true rfl⟩) hP hD hS hA [] [0, 1, 2] 3 rfl (by decide) rfl rfl (fun r3 u4 H locs hu4 hP hD hS => ?_)
  subst hu4
  have hP : va_P D classes (cat [[(a0, .inr (12, [.ref a1, .ref a2, .ref a3, .ref a4, .ref a5, .ref a6, .ref a7, .int 0, .int ((-1)), .ref a8, .ref a9, .int 0, .int 0, .ref a10, .int 0, .int 0, .null, .null, .null, .null, .null]))], [(a1, .inl (kA 4, 4, .inr (.inr (.inr (.inr (rr (g 0)))))))], [(g 0 j, .inr (3, [.int 0, .int 0, .int 1, .ref a11, .ref a12, .ref a13, .ref a14, .ref a15, .ref a16, .ref a17, .ref a18, .ref a19, .ref a20, .ref a21, .ref a22, .ref a23, .null, .int 0, .int 0]))]]) H := hP
  have hD : va_D A (cat [[(a0, .inr (12, [.ref a1, .ref a2, .ref a3, .ref a4, .ref a5, .ref a6, .ref a7, .int 0, .int ((-1)), .ref a8, .ref a9, .int 0, .int 0, .ref a10, .int 0, .int 0, .null, .null, .null, .null, .null]))], [(a1, .inl (kA 4, 4, .inr (.inr (.inr (.inr (rr (g 0)))))))], [(g 0 j, .inr (3, [.int 0, .int 0, .int 1, .ref a11, .ref a12, .ref a13, .ref a14, .ref a15, .ref a16, .ref a17, .ref a18, .ref a19, .ref a20, .ref a21, .ref a22, .ref a23, .null, .int 0, .int 0]))]]) := hD
  refine lv_if_ne (pc := 20) (tgt := 25) hx hb d_Ho_change_20 (by decide) (fun c1 => absurd (by decide) c1) (fun c1 => ?_)
  refine lv_iconst (pc := 23) (v := -1) hx hb d_Ho_change_23 (by decide) ?_
  refine W.widen (k := 0) (n := 0) (Nat.le_of_ble_eq_true rfl) (Nat.le_of_ble_eq_true rfl) ?_
  exact W.iret (v := (-1)) hx hb hr (fun t ht hW => ⟨⟨(-1), [[(a0, .inr (12, [.ref a1, .ref a2, .ref a3, .ref a4, .ref a5, .ref a6, .ref a7, .int 0, .int ((-1)), .ref a8, .ref a9, .int 0, .int 0, .ref a10, .int 0, .int 0, .null, .null, .null, .null, .null]))], [(a1, .inl (kA 4, 4, .inr (.inr (.inr (.inr (rr (g 0)))))))], [(g 0 j, .inr (3, [.int 0, .int 0, .int 1, .ref a11, .ref a12, .ref a13, .ref a14, .ref a15, .ref a16, .ref a17, .ref a18, .ref a19, .ref a20, .ref a21, .ref a22, .ref a23, .null, .int 0, .int 0]))]], rfl, rfl, by rw [ht]; exact hP, va_K.moved hW.alike hK, hD⟩, hS.F ht⟩) hS.2.2 d_Ho_change_24
set_option maxRecDepth 100000 in
set_option maxHeartbeats 4000000 in
/-- DrawingHouseModel.change(IIII)I -/
theorem c_Mo_change_z2 (l : Launch) (D : va_G) (kA : Nat → ClassId) (a0 : Nat) (j : Nat) (v2 : Int32) (v3 : Int32) (v4 : Int32) (qm : Nat → Nat) (hj : j < 4) (hs2 : v2.toInt < 0 ∨ ((8 : Int) - 1 < v2.toInt)) : Ci l y_Mo_change z_Mo_change { frames := 2, cells := 0, slots := 0, locals := 42 } D classes (TY kA) [.ref a0, .int (nI j), .int v2, .int v3, .int v4] [[(a0, .inr (13, mF qm x0Mo y0Mo))], [(qm 3, .inl (kA 0, 4, .inl (fun _ => 0)))]] (fun r (_ : List va_W) => r = (-1)) (fun u => u) 0 0 := by
  intro sz
  refine k_met (cc := b_Mo_change) (maxL := 5) (ret := (some .int)) (by decide) rfl (Nat.le_of_ble_eq_true rfl) (fun p e s m below meth c ls X hl hB => ?_)
  obtain ⟨hsz, hP, hK, hD0, hN⟩ := hB
  subst hsz
  have hD := hD0.self (sz := s.heap.size)
  generalize hAe : va_A (cat [[(a0, .inr (13, mF qm x0Mo y0Mo))], [(qm 3, .inl (kA 0, 4, .inl (fun _ => 0)))]]) s.heap.size = A at hD ⊢
  have hA : ∀ q : Nat, s.heap.size ≤ q → A q := fun q h => by rw [← hAe]; exact Or.inr h
  have hS : va_S A s.heap s.heap [] := va_S.rf
  obtain ⟨hx, hb, hml, hown, hts, hr, hlk, hnm⟩ := id X
  have hl : lv_has ls 5 [(0, .ref a0), (1, .int (nI j)), (2, .int v2), (3, .int v3), (4, .int v4)] := hl
  have hP : va_P D classes (cat [[(a0, .inr (13, mF qm x0Mo y0Mo))], [(qm 3, .inl (kA 0, 4, .inl (fun _ => 0)))]]) s.heap := hP
  have hK : va_K D classes (TY kA) s := hK
  refine lv_iload_n (pc := 0) hx hb d_Mo_change_0 rfl (lv_at hl 1 rfl) ?_
  refine k_goI (gr := [[(a0, .inr (13, mF qm x0Mo y0Mo))], [(qm 3, .inl (kA 0, 4, .inl (fun _ => 0)))]]) (k_rS (pc := 1) (As := [.int (nI j)]) (rest := []) X (c_Mo_isPlace l D kA (nI j) s.heap.size) rfl wm_2978 wm_9 wm_2976 wm_2977 1 (by decide +kernel) ⟨Nat.le_of_ble_eq_true rfl, Nat.le_of_ble_eq_true rfl⟩ rfl rfl (k_pre hN hK hP hD [] [0, 1] 2 rfl (by decide) rfl) rfl hl.1 rfl (Nat.le_of_ble_eq_true rfl) d_Mo_change_1 ⟨Nat.le_of_ble_eq_true rfl, Nat.le_of_ble_eq_true rfl⟩) hP hD hS hA [] [0, 1] 2 rfl (by decide) rfl rfl (fun r1 u2 H locs hu2 hP hD hS => ?_)
  subst hu2
  refine k_cst (v := 1) (placeM_ok hj) ?_
  have hP : va_P D classes (cat [[(a0, .inr (13, mF qm x0Mo y0Mo))], [(qm 3, .inl (kA 0, 4, .inl (fun _ => 0)))]]) H := hP
  have hD : va_D A (cat [[(a0, .inr (13, mF qm x0Mo y0Mo))], [(qm 3, .inl (kA 0, 4, .inl (fun _ => 0)))]]) := hD
  refine lv_if_ne (pc := 4) (tgt := 9) hx hb d_Mo_change_4 (by decide) (fun c1 => ?_) (fun c1 => absurd c1 (by decide))
  refine lv_aload_n (pc := 9) hx hb d_Mo_change_9 rfl (lv_at hl 0 rfl) ?_
  refine lv_iload_n (pc := 10) hx hb d_Mo_change_10 rfl (lv_at hl 1 rfl) ?_
  refine k_goV (gr := []) (k_rV (pc := 11) (As := [.int (nI j)]) (rest := []) X (c_Mo_take_z1 l D kA a0 j qm hj H.size) rfl wm_3091 wm_9 wm_3088 wm_3090 wv_14_2 1 (by decide +kernel) ⟨Nat.le_of_ble_eq_true rfl, Nat.le_of_ble_eq_true rfl⟩ rfl rfl (va_recv hK hP (ci := 13) (q0 := 0) rfl rfl) (k_pre hN hK hP hD [0, 1] [] 2 rfl (by decide) rfl) rfl hl.1 rfl (Nat.le_of_ble_eq_true rfl) d_Mo_change_11 ⟨Nat.le_of_ble_eq_true rfl, Nat.le_of_ble_eq_true rfl⟩) hP hD hS hA [0, 1] [] 2 rfl (by decide) rfl rfl (fun u3 H locs hu3 hP hD hS => ?_)
  have hP : va_P D classes (cat [[(a0, .inr (13, mF qm (va_up x0Mo 5 (nI (539 * (31 * j + 0)))) y0Mo))], [(qm 3, .inl (kA 0, 4, .inl (fun _ => 0)))]]) H := hP
  have hD : va_D A (cat [[(a0, .inr (13, mF qm (va_up x0Mo 5 (nI (539 * (31 * j + 0)))) y0Mo))], [(qm 3, .inl (kA 0, 4, .inl (fun _ => 0)))]]) := hD
  refine lv_iload_n (pc := 14) hx hb d_Mo_change_14 rfl (lv_at hl 2 rfl) ?_
  refine lv_tableOut (pc := 15) (tgt := 370) hx hb d_Mo_change_15 hs2 (by decide) ?_
  refine lv_iconst (pc := 370) (v := -1) hx hb d_Mo_change_370 (by decide) ?_
  refine W.widen (k := 0) (n := 0) (Nat.le_of_ble_eq_true rfl) (Nat.le_of_ble_eq_true rfl) ?_
  exact W.iret (v := (-1)) hx hb hr (fun t ht hW => ⟨⟨(-1), [[(a0, .inr (13, mF qm (va_up x0Mo 5 (nI (539 * (31 * j + 0)))) y0Mo))], [(qm 3, .inl (kA 0, 4, .inl (fun _ => 0)))]], rfl, rfl, by rw [ht]; exact hP, va_K.moved hW.alike hK, hD⟩, hS.F ht⟩) hS.2.2 d_Mo_change_371
set_option maxRecDepth 100000 in
set_option maxHeartbeats 4000000 in
/-- change, a fresh house -/
theorem lf_change_2 {p : Program} {e : Env} {s : State} {m : MethodId} {below : List Frame} {meth : Method} {c : Code} (l : Launch) {b : Nat} {xs : Nat → Int32} (C0 : lw_At p s m meth c b 6 xs) {D : va_G} {kA : Nat → ClassId} (h : Nat) (h2 : Nat) (q : Nat → Nat) (qg : Nat → Nat) (qm : Nat → Nat) (g : Nat → Nat → Nat) (j : Nat) (v2 : Int32) (v3 : Int32) (v4 : Int32) (hj : j < 4) (hs2 : v2.toInt < 0 ∨ ((8 : Int) - 1 < v2.toInt)) (hv1 : xs 1 = nI j) (hv2 : xs 2 = v2) (hv3 : xs 3 = v3) (hv4 : xs 4 = v4) {H : Heap} {locs : List Loc} {ls : Array Slot} (hK : va_K D classes (TY kA) s) (hN : nst s) (hP : va_P D classes (cat [[(h, .inr (12, [.ref (q 0), .ref (q 1), .ref (q 2), .ref (q 3), .ref (q 4), .ref (q 5), .ref (q 6), .int 0, .int ((-1)), .ref (q 9), .ref (q 10), .int 0, .int 0, .ref (q 13), .int 0, .int 0, .null, .null, .null, .null, .null]))], [(q 0, .inl (kA 4, 4, .inr (.inr (.inr (.inr (rr (g 0)))))))], [(g 0 j, .inr (3, [.int 0, .int 0, .int 1, .ref (qg 3), .ref (qg 4), .ref (qg 5), .ref (qg 6), .ref (qg 7), .ref (qg 8), .ref (qg 9), .ref (qg 10), .ref (qg 11), .ref (qg 12), .ref (qg 13), .ref (qg 14), .ref (qg 15), .null, .int 0, .int 0]))], [(h2, .inr (13, mF qm x0Mo y0Mo))], [(qm 3, .inl (kA 0, 4, .inl (fun _ => 0)))]]) H) (hD : va_D (fun q : Nat => s.heap.size ≤ q) (cat [[(h, .inr (12, [.ref (q 0), .ref (q 1), .ref (q 2), .ref (q 3), .ref (q 4), .ref (q 5), .ref (q 6), .int 0, .int ((-1)), .ref (q 9), .ref (q 10), .int 0, .int 0, .ref (q 13), .int 0, .int 0, .null, .null, .null, .null, .null]))], [(q 0, .inl (kA 4, 4, .inr (.inr (.inr (.inr (rr (g 0)))))))], [(g 0 j, .inr (3, [.int 0, .int 0, .int 1, .ref (qg 3), .ref (qg 4), .ref (qg 5), .ref (qg 6), .ref (qg 7), .ref (qg 8), .ref (qg 9), .ref (qg 10), .ref (qg 11), .ref (qg 12), .ref (qg 13), .ref (qg 14), .ref (qg 15), .null, .int 0, .int 0]))], [(h2, .inr (13, mF qm x0Mo y0Mo))], [(qm 3, .inl (kA 0, 4, .inl (fun _ => 0)))]])) (hS : va_S (fun q : Nat => s.heap.size ≤ q) s.heap H locs) (hl : lv_has ls 4 [(3, .int 0), (2, .ref h2), (1, .ref h), (0, .ref b)]) : W p l e room_1 s m #[Value.ref b] below meth c H locs 368 365796 (lw_Z below #[Value.ref b] s) (F0 m 494 ls []) := by
  obtain ⟨hx, hb, hr, hml, hown, hts0, hX, hbl, hlocks, hgv⟩ := id C0
  have hts : ∀ w ∈ lw_g, w.before #[Value.ref b] s = true := fun w h => hts0 w (lw_gt h)
  have X : cx p s m #[Value.ref b] meth c b_law_law 4 ret "DrawingHouseLaw" meth.name := ⟨hx, hb, hml, hown, hts, hr, hlocks, rfl⟩
  obtain ⟨A, hAe⟩ : ∃ A : Nat → Prop, A = fun q : Nat => s.heap.size ≤ q := ⟨_, rfl⟩
  have hA : ∀ q : Nat, s.heap.size ≤ q → A q := fun q h => by rw [hAe]; exact h
  have hbA : ¬ A b := by rw [hAe]; exact Nat.not_le.mpr hbl
  rw [← hAe] at hD hS
  refine lv_aload_n (pc := 494) hx hb d_law_law_494 rfl (lv_at hl 2 rfl) ?_
  refine lv_aload_n (pc := 495) hx hb d_law_law_495 rfl (lv_at hl 3 rfl) ?_
  refine lv_iload_n (pc := 496) hx hb d_law_law_496 rfl (lv_at hl 0 rfl) ?_
  refine lv_iconst (pc := 497) (v := 1) hx hb d_law_law_497 (by decide) ?_
  refine lv_iadd (pc := 498) hx hb d_law_law_498 ?_
  refine k_cst (v := 1) (by decide) ?_
  refine va_sld (pc := 499) hx hb hX hbl hbA hS (by unfold vp_in; decide) d_law_law_499 ?_
  refine k_cst (v := nI j) hv1 ?_
  refine lv_aload_n (pc := 500) hx hb d_law_law_500 rfl (lv_at hl 3 rfl) ?_
  refine lv_iload_n (pc := 501) hx hb d_law_law_501 rfl (lv_at hl 0 rfl) ?_
  refine lv_iconst (pc := 502) (v := 2) hx hb d_law_law_502 (by decide) ?_
  refine lv_iadd (pc := 503) hx hb d_law_law_503 ?_
  refine k_cst (v := 2) (by decide) ?_
  refine va_sld (pc := 504) hx hb hX hbl hbA hS (by unfold vp_in; decide) d_law_law_504 ?_
  refine k_cst (v := v2) hv2 ?_
  refine lv_aload_n (pc := 505) hx hb d_law_law_505 rfl (lv_at hl 3 rfl) ?_
  refine lv_iload_n (pc := 506) hx hb d_law_law_506 rfl (lv_at hl 0 rfl) ?_
  refine lv_iconst (pc := 507) (v := 3) hx hb d_law_law_507 (by decide) ?_
  refine lv_iadd (pc := 508) hx hb d_law_law_508 ?_
  refine k_cst (v := 3) (by decide) ?_
  refine va_sld (pc := 509) hx hb hX hbl hbA hS (by unfold vp_in; decide) d_law_law_509 ?_
  refine k_cst (v := v3) hv3 ?_
  refine lv_aload_n (pc := 510) hx hb d_law_law_510 rfl (lv_at hl 3 rfl) ?_
  refine lv_iload_n (pc := 511) hx hb d_law_law_511 rfl (lv_at hl 0 rfl) ?_
  refine lv_iconst (pc := 512) (v := 4) hx hb d_law_law_512 (by decide) ?_
  refine lv_iadd (pc := 513) hx hb d_law_law_513 ?_
  refine k_cst (v := 4) (by decide) ?_
  refine va_sld (pc := 514) hx hb hX hbl hbA hS (by unfold vp_in; decide) d_law_law_514 ?_
  refine k_cst (v := v4) hv4 ?_
  refine k_goI (gr := [[(h2, .inr (13, mF qm x0Mo y0Mo))], [(qm 3, .inl (kA 0, 4, .inl (fun _ => 0)))]]) (k_rV (pc := 515) (As := [.int (nI j), .int v2, .int v3, .int v4]) (rest := []) X (c_Ho_change_z2 l D kA h j v2 v3 v4 (q 0) (q 1) (q 2) (q 3) (q 4) (q 5) (q 6) (q 9) (q 10) (q 13) g (qg 3) (qg 4) (qg 5) (qg 6) (qg 7) (qg 8) (qg 9) (qg 10) (qg 11) (qg 12) (qg 13) (qg 14) (qg 15) hj hs2 H.size) rfl wm_954 wm_1 wm_951 wm_952 wm_953 4 (by decide +kernel) ⟨Nat.le_of_ble_eq_true rfl, Nat.le_of_ble_eq_true rfl⟩ rfl rfl (va_recv hK hP (ci := 12) (q0 := 0) rfl rfl) (k_pre hN hK hP hD [0, 1, 2] [3, 4] 5 rfl (by decide) rfl) rfl hl.1 rfl (Nat.le_of_ble_eq_true rfl) d_law_law_515 ⟨Nat.le_of_ble_eq_true rfl, Nat.le_of_ble_eq_true rfl⟩) hP hD hS hA [0, 1, 2] [3, 4] 5 rfl (by decide) rfl rfl (fun r1 u2 H locs hu2 hP hD hS => ?_)
  obtain ⟨hP, hD⟩ := k_left hP hD
  subst hu2
  have hP : va_P D classes (cat [[(h2, .inr (13, mF qm x0Mo y0Mo))], [(qm 3, .inl (kA 0, 4, .inl (fun _ => 0)))]]) H := hP
  have hD : va_D A (cat [[(h2, .inr (13, mF qm x0Mo y0Mo))], [(qm 3, .inl (kA 0, 4, .inl (fun _ => 0)))]]) := hD
  refine lv_aload_n (pc := 518) hx hb d_law_law_518 rfl (lv_at hl 1 rfl) ?_
  refine lv_aload_n (pc := 519) hx hb d_law_law_519 rfl (lv_at hl 3 rfl) ?_
  refine lv_iload_n (pc := 520) hx hb d_law_law_520 rfl (lv_at hl 0 rfl) ?_
  refine lv_iconst (pc := 521) (v := 1) hx hb d_law_law_521 (by decide) ?_
  refine lv_iadd (pc := 522) hx hb d_law_law_522 ?_
  refine k_cst (v := 1) (by decide) ?_
  refine va_sld (pc := 523) hx hb hX hbl hbA hS (by unfold vp_in; decide) d_law_law_523 ?_
  refine k_cst (v := nI j) hv1 ?_
  refine lv_aload_n (pc := 524) hx hb d_law_law_524 rfl (lv_at hl 3 rfl) ?_
  refine lv_iload_n (pc := 525) hx hb d_law_law_525 rfl (lv_at hl 0 rfl) ?_
  refine lv_iconst (pc := 526) (v := 2) hx hb d_law_law_526 (by decide) ?_
  refine lv_iadd (pc := 527) hx hb d_law_law_527 ?_
  refine k_cst (v := 2) (by decide) ?_
  refine va_sld (pc := 528) hx hb hX hbl hbA hS (by unfold vp_in; decide) d_law_law_528 ?_
  refine k_cst (v := v2) hv2 ?_
  refine lv_aload_n (pc := 529) hx hb d_law_law_529 rfl (lv_at hl 3 rfl) ?_
  refine lv_iload_n (pc := 530) hx hb d_law_law_530 rfl (lv_at hl 0 rfl) ?_
  refine lv_iconst (pc := 531) (v := 3) hx hb d_law_law_531 (by decide) ?_
  refine lv_iadd (pc := 532) hx hb d_law_law_532 ?_
  refine k_cst (v := 3) (by decide) ?_
  refine va_sld (pc := 533) hx hb hX hbl hbA hS (by unfold vp_in; decide) d_law_law_533 ?_
  refine k_cst (v := v3) hv3 ?_
  refine lv_aload_n (pc := 534) hx hb d_law_law_534 rfl (lv_at hl 3 rfl) ?_
  refine lv_iload_n (pc := 535) hx hb d_law_law_535 rfl (lv_at hl 0 rfl) ?_
  refine lv_iconst (pc := 536) (v := 4) hx hb d_law_law_536 (by decide) ?_
  refine lv_iadd (pc := 537) hx hb d_law_law_537 ?_
  refine k_cst (v := 4) (by decide) ?_
  refine va_sld (pc := 538) hx hb hX hbl hbA hS (by unfold vp_in; decide) d_law_law_538 ?_
  refine k_cst (v := v4) hv4 ?_
  refine k_goI (gr := []) (k_rV (pc := 539) (As := [.int (nI j), .int v2, .int v3, .int v4]) (rest := [.int ((-1))]) X (c_Mo_change_z2 l D kA h2 j v2 v3 v4 qm hj hs2 H.size) rfl wm_3087 wm_9 wm_3084 wm_3085 wm_3086 4 (by decide +kernel) ⟨Nat.le_of_ble_eq_true rfl, Nat.le_of_ble_eq_true rfl⟩ rfl rfl (va_recv hK hP (ci := 13) (q0 := 0) rfl rfl) (k_pre hN hK hP hD [0, 1] [] 2 rfl (by decide) rfl) rfl hl.1 rfl (Nat.le_of_ble_eq_true rfl) d_law_law_539 ⟨Nat.le_of_ble_eq_true rfl, Nat.le_of_ble_eq_true rfl⟩) hP hD hS hA [0, 1] [] 2 rfl (by decide) rfl rfl (fun r3 u4 H locs hu4 hP hD hS => ?_)
  obtain ⟨hP, hD⟩ := k_left hP hD
  subst hu4
  have hP : va_P D classes (cat []) H := hP
  have hD : va_D A (cat []) := hD
  refine lv_icmp_eq (pc := 542) (tgt := 1295) hx hb d_law_law_542 (by decide) (fun _ => ?_) (fun c1 => absurd (by decide) c1)
  rw [hAe] at hS
  exact law_exit l C0 (Nat.le_of_ble_eq_true rfl) (Nat.le_of_ble_eq_true rfl) hS hl
set_option maxRecDepth 100000 in
set_option maxHeartbeats 4000000 in
/-- DrawingHouse$Graph.mayAlter(III)Z -/
theorem c_Gr_mayAlter_z2 (l : Launch) (D : va_G) (kA : Nat → ClassId) (g : Nat → Nat → Nat) (j : Nat) (v3 : Int32) (v4 : Int32) (a0 : Nat) (a1 : Nat) (a2 : Nat) (a3 : Nat) (a4 : Nat) (a5 : Nat) (a6 : Nat) (a7 : Nat) (a8 : Nat) (a9 : Nat) (a10 : Nat) (a11 : Nat) (a12 : Nat) (hj : j < 4) (hn3 : v3 < 0) : Ci l y_Gr_mayAlter z_Gr_mayAlter { frames := 1, cells := 0, slots := 0, locals := 21 } D classes (TY kA) [.ref (g 0 j), .int 0, .int v3, .int v4] [[(g 0 j, .inr (3, [.int 0, .int 0, .int 1, .ref a0, .ref a1, .ref a2, .ref a3, .ref a4, .ref a5, .ref a6, .ref a7, .ref a8, .ref a9, .ref a10, .ref a11, .ref a12, .null, .int 0, .int 0]))]] (fun r (_ : Unit) => r = 0) (fun u => [[(g 0 j, .inr (3, [.int 0, .int 0, .int 1, .ref a0, .ref a1, .ref a2, .ref a3, .ref a4, .ref a5, .ref a6, .ref a7, .ref a8, .ref a9, .ref a10, .ref a11, .ref a12, .null, .int 0, .int 0]))]]) 0 0 := by
  intro sz
  refine k_met (cc := b_Gr_mayAlter) (maxL := 4) (ret := (some .boolean)) (by decide) rfl (Nat.le_of_ble_eq_true rfl) (fun p e s m below meth c ls X hl hB => ?_)
  obtain ⟨hsz, hP, hK, hD0, hN⟩ := hB
  subst hsz
  have hD := hD0.self (sz := s.heap.size)
  generalize hAe : va_A (cat [[(g 0 j, .inr (3, [.int 0, .int 0, .int 1, .ref a0, .ref a1, .ref a2, .ref a3, .ref a4, .ref a5, .ref a6, .ref a7, .ref a8, .ref a9, .ref a10, .ref a11, .ref a12, .null, .int 0, .int 0]))]]) s.heap.size = A at hD ⊢
  have hA : ∀ q : Nat, s.heap.size ≤ q → A q := fun q h => by rw [← hAe]; exact Or.inr h
  have hS : va_S A s.heap s.heap [] := va_S.rf
  obtain ⟨hx, hb, hml, hown, hts, hr, hlk, hnm⟩ := id X
  have hl : lv_has ls 4 [(0, .ref (g 0 j)), (1, .int 0), (2, .int v3), (3, .int v4)] := hl
  have hP : va_P D classes (cat [[(g 0 j, .inr (3, [.int 0, .int 0, .int 1, .ref a0, .ref a1, .ref a2, .ref a3, .ref a4, .ref a5, .ref a6, .ref a7, .ref a8, .ref a9, .ref a10, .ref a11, .ref a12, .null, .int 0, .int 0]))]]) s.heap := hP
  have hK : va_K D classes (TY kA) s := hK
  refine lv_iload_n (pc := 0) hx hb d_Gr_mayAlter_0 rfl (lv_at hl 1 rfl) ?_
  refine lv_tableIn (pc := 1) (tgt := 48) hx hb d_Gr_mayAlter_1 (by decide) (by decide) rfl (by decide) ?_
  refine lv_aload_n (pc := 48) hx hb d_Gr_mayAlter_48 rfl (lv_at hl 0 rfl) ?_
  refine lv_iload_n (pc := 49) hx hb d_Gr_mayAlter_49 rfl (lv_at hl 2 rfl) ?_
  refine k_goI (gr := [[(g 0 j, .inr (3, [.int 0, .int 0, .int 1, .ref a0, .ref a1, .ref a2, .ref a3, .ref a4, .ref a5, .ref a6, .ref a7, .ref a8, .ref a9, .ref a10, .ref a11, .ref a12, .null, .int 0, .int 0]))]]) (k_rV (pc := 50) (As := [.int v3]) (rest := []) X (c_Gr_hasGroup_z4 l D kA g j v3 hj hn3 s.heap.size) rfl wm_942 wm_3 wm_959 wm_940 wm_941 1 (by decide +kernel) ⟨Nat.le_of_ble_eq_true rfl, Nat.le_of_ble_eq_true rfl⟩ rfl rfl (va_recv hK hP (ci := 3) (q0 := 0) rfl rfl) (k_pre hN hK hP hD [] [0] 1 rfl (by decide) rfl) rfl hl.1 rfl (Nat.le_of_ble_eq_true rfl) d_Gr_mayAlter_50 ⟨Nat.le_of_ble_eq_true rfl, Nat.le_of_ble_eq_true rfl⟩) hP hD hS hA [] [0] 1 rfl (by decide) rfl rfl (fun r1 u2 H locs hu2 hP hD hS => ?_)
  subst hu2
  have hP : va_P D classes (cat [[(g 0 j, .inr (3, [.int 0, .int 0, .int 1, .ref a0, .ref a1, .ref a2, .ref a3, .ref a4, .ref a5, .ref a6, .ref a7, .ref a8, .ref a9, .ref a10, .ref a11, .ref a12, .null, .int 0, .int 0]))]]) H := hP
  have hD : va_D A (cat [[(g 0 j, .inr (3, [.int 0, .int 0, .int 1, .ref a0, .ref a1, .ref a2, .ref a3, .ref a4, .ref a5, .ref a6, .ref a7, .ref a8, .ref a9, .ref a10, .ref a11, .ref a12, .null, .int 0, .int 0]))]]) := hD
  refine lv_if_eq (pc := 53) (tgt := 76) hx hb d_Gr_mayAlter_53 (by decide) (fun c1 => ?_) (fun c1 => absurd (by decide) c1)
  refine lv_iconst (pc := 76) (v := 0) hx hb d_Gr_mayAlter_76 (by decide) ?_
  refine W.widen (k := 0) (n := 0) (Nat.le_of_ble_eq_true rfl) (Nat.le_of_ble_eq_true rfl) ?_
  exact W.zret (v := 0) hx hb hr rfl (fun t ht hW => ⟨⟨0, (), rfl, rfl, by rw [ht]; exact hP, va_K.moved hW.alike hK, hD⟩, hS.F ht⟩) hS.2.2 d_Gr_mayAlter_77
set_option maxRecDepth 100000 in
set_option maxHeartbeats 4000000 in
/-- DrawingHouse.change(IIII)I -/
theorem c_Ho_change_z3 (l : Launch) (D : va_G) (kA : Nat → ClassId) (a0 : Nat) (j : Nat) (v3 : Int32) (v4 : Int32) (a1 : Nat) (a2 : Nat) (a3 : Nat) (a4 : Nat) (a5 : Nat) (a6 : Nat) (a7 : Nat) (a8 : Nat) (a9 : Nat) (a10 : Nat) (g : Nat → Nat → Nat) (a11 : Nat) (a12 : Nat) (a13 : Nat) (a14 : Nat) (a15 : Nat) (a16 : Nat) (a17 : Nat) (a18 : Nat) (a19 : Nat) (a20 : Nat) (a21 : Nat) (a22 : Nat) (a23 : Nat) (hj : j < 4) (hn3 : v3 < 0) : Ci l y_Ho_change z_Ho_change { frames := 2, cells := 0, slots := 0, locals := 44 } D classes (TY kA) [.ref a0, .int (nI j), .int 0, .int v3, .int v4] [[(a0, .inr (12, [.ref a1, .ref a2, .ref a3, .ref a4, .ref a5, .ref a6, .ref a7, .int 0, .int ((-1)), .ref a8, .ref a9, .int 0, .int 0, .ref a10, .int 0, .int 0, .null, .null, .null, .null, .null]))], [(a1, .inl (kA 4, 4, .inr (.inr (.inr (.inr (rr (g 0)))))))], [(g 0 j, .inr (3, [.int 0, .int 0, .int 1, .ref a11, .ref a12, .ref a13, .ref a14, .ref a15, .ref a16, .ref a17, .ref a18, .ref a19, .ref a20, .ref a21, .ref a22, .ref a23, .null, .int 0, .int 0]))]] (fun r (_ : List va_W) => r = (-1)) (fun u => u) 0 0 := by
  intro sz
  refine k_met (cc := b_Ho_change) (maxL := 6) (ret := (some .int)) (by decide) rfl (Nat.le_of_ble_eq_true rfl) (fun p e s m below meth c ls X hl hB => ?_)
  obtain ⟨hsz, hP, hK, hD0, hN⟩ := hB
  subst hsz
  have hD := hD0.self (sz := s.heap.size)
  generalize hAe : va_A (cat [[(a0, .inr (12, [.ref a1, .ref a2, .ref a3, .ref a4, .ref a5, .ref a6, .ref a7, .int 0, .int ((-1)), .ref a8, .ref a9, .int 0, .int 0, .ref a10, .int 0, .int 0, .null, .null, .null, .null, .null]))], [(a1, .inl (kA 4, 4, .inr (.inr (.inr (.inr (rr (g 0)))))))], [(g 0 j, .inr (3, [.int 0, .int 0, .int 1, .ref a11, .ref a12, .ref a13, .ref a14, .ref a15, .ref a16, .ref a17, .ref a18, .ref a19, .ref a20, .ref a21, .ref a22, .ref a23, .null, .int 0, .int 0]))]]) s.heap.size = A at hD ⊢
  have hA : ∀ q : Nat, s.heap.size ≤ q → A q := fun q h => by rw [← hAe]; exact Or.inr h
  have hS : va_S A s.heap s.heap [] := va_S.rf
  obtain ⟨hx, hb, hml, hown, hts, hr, hlk, hnm⟩ := id X
  have hl : lv_has ls 6 [(0, .ref a0), (1, .int (nI j)), (2, .int 0), (3, .int v3), (4, .int v4)] := hl
  have hP : va_P D classes (cat [[(a0, .inr (12, [.ref a1, .ref a2, .ref a3, .ref a4, .ref a5, .ref a6, .ref a7, .int 0, .int ((-1)), .ref a8, .ref a9, .int 0, .int 0, .ref a10, .int 0, .int 0, .null, .null, .null, .null, .null]))], [(a1, .inl (kA 4, 4, .inr (.inr (.inr (.inr (rr (g 0)))))))], [(g 0 j, .inr (3, [.int 0, .int 0, .int 1, .ref a11, .ref a12, .ref a13, .ref a14, .ref a15, .ref a16, .ref a17, .ref a18, .ref a19, .ref a20, .ref a21, .ref a22, .ref a23, .null, .int 0, .int 0]))]]) s.heap := hP
  have hK : va_K D classes (TY kA) s := hK
  refine lv_iload_n (pc := 0) hx hb d_Ho_change_0 rfl (lv_at hl 1 rfl) ?_
  refine k_goI (gr := [[(a0, .inr (12, [.ref a1, .ref a2, .ref a3, .ref a4, .ref a5, .ref a6, .ref a7, .int 0, .int ((-1)), .ref a8, .ref a9, .int 0, .int 0, .ref a10, .int 0, .int 0, .null, .null, .null, .null, .null]))], [(a1, .inl (kA 4, 4, .inr (.inr (.inr (.inr (rr (g 0)))))))], [(g 0 j, .inr (3, [.int 0, .int 0, .int 1, .ref a11, .ref a12, .ref a13, .ref a14, .ref a15, .ref a16, .ref a17, .ref a18, .ref a19, .ref a20, .ref a21, .ref a22, .ref a23, .null, .int 0, .int 0]))]]) (k_rS (pc := 1) (As := [.int (nI j)]) (rest := []) X (c_Ho_isPlace l D kA (nI j) s.heap.size) rfl wm_633 wm_1 wm_631 wm_632 1 (by decide +kernel) ⟨Nat.le_of_ble_eq_true rfl, Nat.le_of_ble_eq_true rfl⟩ rfl rfl (k_pre hN hK hP hD [] [0, 1, 2] 3 rfl (by decide) rfl) rfl hl.1 rfl (Nat.le_of_ble_eq_true rfl) d_Ho_change_1 ⟨Nat.le_of_ble_eq_true rfl, Nat.le_of_ble_eq_true rfl⟩) hP hD hS hA [] [0, 1, 2] 3 rfl (by decide) rfl rfl (fun r1 u2 H locs hu2 hP hD hS => ?_)
  subst hu2
  refine k_cst (v := 1) (place_ok hj) ?_
  have hP : va_P D classes (cat [[(a0, .inr (12, [.ref a1, .ref a2, .ref a3, .ref a4, .ref a5, .ref a6, .ref a7, .int 0, .int ((-1)), .ref a8, .ref a9, .int 0, .int 0, .ref a10, .int 0, .int 0, .null, .null, .null, .null, .null]))], [(a1, .inl (kA 4, 4, .inr (.inr (.inr (.inr (rr (g 0)))))))], [(g 0 j, .inr (3, [.int 0, .int 0, .int 1, .ref a11, .ref a12, .ref a13, .ref a14, .ref a15, .ref a16, .ref a17, .ref a18, .ref a19, .ref a20, .ref a21, .ref a22, .ref a23, .null, .int 0, .int 0]))]]) H := hP
  have hD : va_D A (cat [[(a0, .inr (12, [.ref a1, .ref a2, .ref a3, .ref a4, .ref a5, .ref a6, .ref a7, .int 0, .int ((-1)), .ref a8, .ref a9, .int 0, .int 0, .ref a10, .int 0, .int 0, .null, .null, .null, .null, .null]))], [(a1, .inl (kA 4, 4, .inr (.inr (.inr (.inr (rr (g 0)))))))], [(g 0 j, .inr (3, [.int 0, .int 0, .int 1, .ref a11, .ref a12, .ref a13, .ref a14, .ref a15, .ref a16, .ref a17, .ref a18, .ref a19, .ref a20, .ref a21, .ref a22, .ref a23, .null, .int 0, .int 0]))]]) := hD
  refine lv_if_eq (pc := 4) (tgt := 23) hx hb d_Ho_change_4 (by decide) (fun c1 => absurd c1 (by decide)) (fun c1 => ?_)
  refine lv_aload_n (pc := 7) hx hb d_Ho_change_7 rfl (lv_at hl 0 rfl) ?_
  refine k_get (pc := 8) X hK hP 0 rfl rfl i_Ho 0 (by decide) wm_555 rfl rfl d_Ho_change_8 ?_
  refine lv_iload_n (pc := 11) hx hb d_Ho_change_11 rfl (lv_at hl 1 rfl) ?_
  refine k_ald (pc := 12) hx hb hK hP 1 4 rfl rfl (j) rfl (by omega) (by decide) (rr_at (by omega)) d_Ho_change_12 ?_
  refine lv_iload_n (pc := 13) hx hb d_Ho_change_13 rfl (lv_at hl 2 rfl) ?_
  refine lv_iload_n (pc := 14) hx hb d_Ho_change_14 rfl (lv_at hl 3 rfl) ?_
  refine lv_iload (pc := 15) hx hb d_Ho_change_15 (lv_at hl 4 rfl) ?_
  refine k_goI (gr := [[(a0, .inr (12, [.ref a1, .ref a2, .ref a3, .ref a4, .ref a5, .ref a6, .ref a7, .int 0, .int ((-1)), .ref a8, .ref a9, .int 0, .int 0, .ref a10, .int 0, .int 0, .null, .null, .null, .null, .null]))], [(a1, .inl (kA 4, 4, .inr (.inr (.inr (.inr (rr (g 0)))))))]]) (k_rV (pc := 17) (As := [.int 0, .int v3, .int v4]) (rest := []) X (c_Gr_mayAlter_z2 l D kA g j v3 v4 a11 a12 a13 a14 a15 a16 a17 a18 a19 a20 a21 a22 a23 hj hn3 H.size) rfl wm_958 wm_3 wm_955 wm_956 wm_957 3 (by decide +kernel) ⟨Nat.le_of_ble_eq_true rfl, Nat.le_of_ble_eq_true rfl⟩ rfl rfl (va_recv hK hP (ci := 3) (q0 := 2) rfl rfl) (k_pre hN hK hP hD [2] [0, 1] 3 rfl (by decide) rfl) rfl hl.1 rfl (Nat.le_of_ble_eq_true rfl) d_Ho_change_17 ⟨Nat.le_of_ble_eq_true rfl, Nat.le_of_ble_eq_true rfl⟩) hP hD hS hA [2] [0, 1] 3 rfl (by decide) rfl rfl (fun r3 u4 H locs hu4 hP hD hS => ?_)
  subst hu4
  have hP : va_P D classes (cat [[(a0, .inr (12, [.ref a1, .ref a2, .ref a3, .ref a4, .ref a5, .ref a6, .ref a7, .int 0, .int ((-1)), .ref a8, .ref a9, .int 0, .int 0, .ref a10, .int 0, .int 0, .null, .null, .null, .null, .null]))], [(a1, .inl (kA 4, 4, .inr (.inr (.inr (.inr (rr (g 0)))))))], [(g 0 j, .inr (3, [.int 0, .int 0, .int 1, .ref a11, .ref a12, .ref a13, .ref a14, .ref a15, .ref a16, .ref a17, .ref a18, .ref a19, .ref a20, .ref a21, .ref a22, .ref a23, .null, .int 0, .int 0]))]]) H := hP
  have hD : va_D A (cat [[(a0, .inr (12, [.ref a1, .ref a2, .ref a3, .ref a4, .ref a5, .ref a6, .ref a7, .int 0, .int ((-1)), .ref a8, .ref a9, .int 0, .int 0, .ref a10, .int 0, .int 0, .null, .null, .null, .null, .null]))], [(a1, .inl (kA 4, 4, .inr (.inr (.inr (.inr (rr (g 0)))))))], [(g 0 j, .inr (3, [.int 0, .int 0, .int 1, .ref a11, .ref a12, .ref a13, .ref a14, .ref a15, .ref a16, .ref a17, .ref a18, .ref a19, .ref a20, .ref a21, .ref a22, .ref a23, .null, .int 0, .int 0]))]]) := hD
  refine lv_if_ne (pc := 20) (tgt := 25) hx hb d_Ho_change_20 (by decide) (fun c1 => absurd (by decide) c1) (fun c1 => ?_)
  refine lv_iconst (pc := 23) (v := -1) hx hb d_Ho_change_23 (by decide) ?_
  refine W.widen (k := 0) (n := 0) (Nat.le_of_ble_eq_true rfl) (Nat.le_of_ble_eq_true rfl) ?_
  exact W.iret (v := (-1)) hx hb hr (fun t ht hW => ⟨⟨(-1), [[(a0, .inr (12, [.ref a1, .ref a2, .ref a3, .ref a4, .ref a5, .ref a6, .ref a7, .int 0, .int ((-1)), .ref a8, .ref a9, .int 0, .int 0, .ref a10, .int 0, .int 0, .null, .null, .null, .null, .null]))], [(a1, .inl (kA 4, 4, .inr (.inr (.inr (.inr (rr (g 0)))))))], [(g 0 j, .inr (3, [.int 0, .int 0, .int 1, .ref a11, .ref a12, .ref a13, .ref a14, .ref a15, .ref a16, .ref a17, .ref a18, .ref a19, .ref a20, .ref a21, .ref a22, .ref a23, .null, .int 0, .int 0]))]], rfl, rfl, by rw [ht]; exact hP, va_K.moved hW.alike hK, hD⟩, hS.F ht⟩) hS.2.2 d_Ho_change_24
set_option maxRecDepth 100000 in
set_option maxHeartbeats 4000000 in
/-- DrawingHouseModel.newNode(II)I -/
theorem c_Mo_newNode_z1 (l : Launch) (D : va_G) (kA : Nat → ClassId) (a0 : Nat) (j : Nat) (v3 : Int32) (qm : Nat → Nat) (hj : j < 4) (hn3 : v3 < 0) : Ci l y_Mo_newNode z_Mo_newNode { frames := 1, cells := 0, slots := 0, locals := 22 } D classes (TY kA) [.ref a0, .int (nI j), .int v3] [[(a0, .inr (13, mF qm (va_up x0Mo 5 (nI (539 * (31 * j + 0)))) y0Mo))], [(qm 2, .inl (kA 0, 66836, .inl all0))]] (fun r (_ : Unit) => r = (-1)) (fun u => [[(a0, .inr (13, mF qm (va_up x0Mo 5 (nI (539 * (31 * j + 0)))) y0Mo))], [(qm 2, .inl (kA 0, 66836, .inl all0))]]) 0 0 := by
  intro sz
  refine k_met (cc := b_Mo_newNode) (maxL := 8) (ret := (some .int)) (by decide) rfl (Nat.le_of_ble_eq_true rfl) (fun p e s m below meth c ls X hl hB => ?_)
  obtain ⟨hsz, hP, hK, hD0, hN⟩ := hB
  subst hsz
  have hD := hD0.self (sz := s.heap.size)
  generalize hAe : va_A (cat [[(a0, .inr (13, mF qm (va_up x0Mo 5 (nI (539 * (31 * j + 0)))) y0Mo))], [(qm 2, .inl (kA 0, 66836, .inl all0))]]) s.heap.size = A at hD ⊢
  have hA : ∀ q : Nat, s.heap.size ≤ q → A q := fun q h => by rw [← hAe]; exact Or.inr h
  have hS : va_S A s.heap s.heap [] := va_S.rf
  obtain ⟨hx, hb, hml, hown, hts, hr, hlk, hnm⟩ := id X
  have hl : lv_has ls 8 [(0, .ref a0), (1, .int (nI j)), (2, .int v3)] := hl
  have hP : va_P D classes (cat [[(a0, .inr (13, mF qm (va_up x0Mo 5 (nI (539 * (31 * j + 0)))) y0Mo))], [(qm 2, .inl (kA 0, 66836, .inl all0))]]) s.heap := hP
  have hK : va_K D classes (TY kA) s := hK
  refine lv_aload_n (pc := 0) hx hb d_Mo_newNode_0 rfl (lv_at hl 0 rfl) ?_
  refine k_goI (gr := []) (k_rV (pc := 1) (As := []) (rest := []) X (c_Mo_nodes_z1 l D kA a0 qm j hj s.heap.size) rfl wm_3025 wm_9 wm_3022 wm_3024 wv_13_3 0 (by decide +kernel) ⟨Nat.le_of_ble_eq_true rfl, Nat.le_of_ble_eq_true rfl⟩ rfl rfl (va_recv hK hP (ci := 13) (q0 := 0) rfl rfl) (k_pre hN hK hP hD [0, 1] [] 2 rfl (by decide) rfl) rfl hl.1 rfl (Nat.le_of_ble_eq_true rfl) d_Mo_newNode_1 ⟨Nat.le_of_ble_eq_true rfl, Nat.le_of_ble_eq_true rfl⟩) hP hD hS hA [0, 1] [] 2 rfl (by decide) rfl rfl (fun r1 u2 H locs hu2 hP hD hS => ?_)
  subst hu2
  have hP : va_P D classes (cat [[(a0, .inr (13, mF qm (va_up x0Mo 5 (nI (539 * (31 * j + 0)))) y0Mo))], [(qm 2, .inl (kA 0, 66836, .inl all0))]]) H := hP
  have hD : va_D A (cat [[(a0, .inr (13, mF qm (va_up x0Mo 5 (nI (539 * (31 * j + 0)))) y0Mo))], [(qm 2, .inl (kA 0, 66836, .inl all0))]]) := hD
  refine lv_istore_n (pc := 4) (lv' := [(3, .int 0), (0, .ref a0), (1, .int (nI j)), (2, .int v3)]) hx hb d_Mo_newNode_4 rfl hl (by decide) rfl (fun ls hl => ?_)
  refine lv_iload_n (pc := 5) hx hb d_Mo_newNode_5 rfl (lv_at hl 0 rfl) ?_
  refine lv_bipush (pc := 6) (v := 24) hx hb d_Mo_newNode_6 (by decide) ?_
  refine lv_icmp_eq (pc := 8) (tgt := 25) hx hb d_Mo_newNode_8 (by decide) (fun c1 => absurd c1 (by decide)) (fun _ => ?_)
  refine lv_iload_n (pc := 11) hx hb d_Mo_newNode_11 rfl (lv_at hl 3 rfl) ?_
  refine lv_iconst (pc := 12) (v := 0) hx hb d_Mo_newNode_12 (by decide) ?_
  refine lv_aload_n (pc := 13) hx hb d_Mo_newNode_13 rfl (lv_at hl 1 rfl) ?_
  refine k_goI (gr := []) (k_rV (pc := 14) (As := []) (rest := [.int 0, .int v3]) X (c_Mo_groups_z1 l D kA a0 qm j hj H.size) rfl wm_3070 wm_9 wm_3067 wm_3069 wv_13_14 0 (by decide +kernel) ⟨Nat.le_of_ble_eq_true rfl, Nat.le_of_ble_eq_true rfl⟩ rfl rfl (va_recv hK hP (ci := 13) (q0 := 0) rfl rfl) (k_pre hN hK hP hD [0, 1] [] 2 rfl (by decide) rfl) rfl hl.1 rfl (Nat.le_of_ble_eq_true rfl) d_Mo_newNode_14 ⟨Nat.le_of_ble_eq_true rfl, Nat.le_of_ble_eq_true rfl⟩) hP hD hS hA [0, 1] [] 2 rfl (by decide) rfl rfl (fun r3 u4 H locs hu4 hP hD hS => ?_)
  subst hu4
  have hP : va_P D classes (cat [[(a0, .inr (13, mF qm (va_up x0Mo 5 (nI (539 * (31 * j + 0)))) y0Mo))], [(qm 2, .inl (kA 0, 66836, .inl all0))]]) H := hP
  have hD : va_D A (cat [[(a0, .inr (13, mF qm (va_up x0Mo 5 (nI (539 * (31 * j + 0)))) y0Mo))], [(qm 2, .inl (kA 0, 66836, .inl all0))]]) := hD
  refine lv_iconst (pc := 17) (v := 1) hx hb d_Mo_newNode_17 (by decide) ?_
  refine lv_isub (pc := 18) hx hb d_Mo_newNode_18 ?_
  refine k_cst (v := 0) (by decide) ?_
  refine k_goI (gr := [[(a0, .inr (13, mF qm (va_up x0Mo 5 (nI (539 * (31 * j + 0)))) y0Mo))], [(qm 2, .inl (kA 0, 66836, .inl all0))]]) (k_rS (pc := 19) (As := [.int v3, .int 0, .int 0]) (rest := []) X (c_Mo_in_z14 l D kA v3 hn3 H.size) rfl wm_2971 wm_9 wm_2969 wm_2970 3 (by decide +kernel) ⟨Nat.le_of_ble_eq_true rfl, Nat.le_of_ble_eq_true rfl⟩ rfl rfl (k_pre hN hK hP hD [] [0, 1] 2 rfl (by decide) rfl) rfl hl.1 rfl (Nat.le_of_ble_eq_true rfl) d_Mo_newNode_19 ⟨Nat.le_of_ble_eq_true rfl, Nat.le_of_ble_eq_true rfl⟩) hP hD hS hA [] [0, 1] 2 rfl (by decide) rfl rfl (fun r5 u6 H locs hu6 hP hD hS => ?_)
  subst hu6
  have hP : va_P D classes (cat [[(a0, .inr (13, mF qm (va_up x0Mo 5 (nI (539 * (31 * j + 0)))) y0Mo))], [(qm 2, .inl (kA 0, 66836, .inl all0))]]) H := hP
  have hD : va_D A (cat [[(a0, .inr (13, mF qm (va_up x0Mo 5 (nI (539 * (31 * j + 0)))) y0Mo))], [(qm 2, .inl (kA 0, 66836, .inl all0))]]) := hD
  refine lv_if_ne (pc := 22) (tgt := 27) hx hb d_Mo_newNode_22 (by decide) (fun c1 => absurd (by decide) c1) (fun c1 => ?_)
  refine lv_iconst (pc := 25) (v := -1) hx hb d_Mo_newNode_25 (by decide) ?_
  refine W.widen (k := 0) (n := 0) (Nat.le_of_ble_eq_true rfl) (Nat.le_of_ble_eq_true rfl) ?_
  exact W.iret (v := (-1)) hx hb hr (fun t ht hW => ⟨⟨(-1), (), rfl, rfl, by rw [ht]; exact hP, va_K.moved hW.alike hK, hD⟩, hS.F ht⟩) hS.2.2 d_Mo_newNode_26
set_option maxRecDepth 100000 in
set_option maxHeartbeats 4000000 in
/-- DrawingHouseModel.change(IIII)I -/
theorem c_Mo_change_z3 (l : Launch) (D : va_G) (kA : Nat → ClassId) (a0 : Nat) (j : Nat) (v3 : Int32) (v4 : Int32) (qm : Nat → Nat) (hj : j < 4) (hn3 : v3 < 0) : Ci l y_Mo_change z_Mo_change { frames := 2, cells := 0, slots := 0, locals := 49 } D classes (TY kA) [.ref a0, .int (nI j), .int 0, .int v3, .int v4] [[(a0, .inr (13, mF qm x0Mo y0Mo))], [(qm 3, .inl (kA 0, 4, .inl (fun _ => 0)))], [(qm 2, .inl (kA 0, 66836, .inl all0))]] (fun r (_ : List va_W) => r = (-1)) (fun u => u) 0 0 := by
  intro sz
  refine k_met (cc := b_Mo_change) (maxL := 5) (ret := (some .int)) (by decide) rfl (Nat.le_of_ble_eq_true rfl) (fun p e s m below meth c ls X hl hB => ?_)
  obtain ⟨hsz, hP, hK, hD0, hN⟩ := hB
  subst hsz
  have hD := hD0.self (sz := s.heap.size)
  generalize hAe : va_A (cat [[(a0, .inr (13, mF qm x0Mo y0Mo))], [(qm 3, .inl (kA 0, 4, .inl (fun _ => 0)))], [(qm 2, .inl (kA 0, 66836, .inl all0))]]) s.heap.size = A at hD ⊢
  have hA : ∀ q : Nat, s.heap.size ≤ q → A q := fun q h => by rw [← hAe]; exact Or.inr h
  have hS : va_S A s.heap s.heap [] := va_S.rf
  obtain ⟨hx, hb, hml, hown, hts, hr, hlk, hnm⟩ := id X
  have hl : lv_has ls 5 [(0, .ref a0), (1, .int (nI j)), (2, .int 0), (3, .int v3), (4, .int v4)] := hl
  have hP : va_P D classes (cat [[(a0, .inr (13, mF qm x0Mo y0Mo))], [(qm 3, .inl (kA 0, 4, .inl (fun _ => 0)))], [(qm 2, .inl (kA 0, 66836, .inl all0))]]) s.heap := hP
  have hK : va_K D classes (TY kA) s := hK
  refine lv_iload_n (pc := 0) hx hb d_Mo_change_0 rfl (lv_at hl 1 rfl) ?_
  refine k_goI (gr := [[(a0, .inr (13, mF qm x0Mo y0Mo))], [(qm 3, .inl (kA 0, 4, .inl (fun _ => 0)))], [(qm 2, .inl (kA 0, 66836, .inl all0))]]) (k_rS (pc := 1) (As := [.int (nI j)]) (rest := []) X (c_Mo_isPlace l D kA (nI j) s.heap.size) rfl wm_2978 wm_9 wm_2976 wm_2977 1 (by decide +kernel) ⟨Nat.le_of_ble_eq_true rfl, Nat.le_of_ble_eq_true rfl⟩ rfl rfl (k_pre hN hK hP hD [] [0, 1, 2] 3 rfl (by decide) rfl) rfl hl.1 rfl (Nat.le_of_ble_eq_true rfl) d_Mo_change_1 ⟨Nat.le_of_ble_eq_true rfl, Nat.le_of_ble_eq_true rfl⟩) hP hD hS hA [] [0, 1, 2] 3 rfl (by decide) rfl rfl (fun r1 u2 H locs hu2 hP hD hS => ?_)
  subst hu2
  refine k_cst (v := 1) (placeM_ok hj) ?_
  have hP : va_P D classes (cat [[(a0, .inr (13, mF qm x0Mo y0Mo))], [(qm 3, .inl (kA 0, 4, .inl (fun _ => 0)))], [(qm 2, .inl (kA 0, 66836, .inl all0))]]) H := hP
  have hD : va_D A (cat [[(a0, .inr (13, mF qm x0Mo y0Mo))], [(qm 3, .inl (kA 0, 4, .inl (fun _ => 0)))], [(qm 2, .inl (kA 0, 66836, .inl all0))]]) := hD
  refine lv_if_ne (pc := 4) (tgt := 9) hx hb d_Mo_change_4 (by decide) (fun c1 => ?_) (fun c1 => absurd c1 (by decide))
  refine lv_aload_n (pc := 9) hx hb d_Mo_change_9 rfl (lv_at hl 0 rfl) ?_
  refine lv_iload_n (pc := 10) hx hb d_Mo_change_10 rfl (lv_at hl 1 rfl) ?_
  refine k_goV (gr := [[(qm 2, .inl (kA 0, 66836, .inl all0))]]) (k_rV (pc := 11) (As := [.int (nI j)]) (rest := []) X (c_Mo_take_z1 l D kA a0 j qm hj H.size) rfl wm_3091 wm_9 wm_3088 wm_3090 wv_14_2 1 (by decide +kernel) ⟨Nat.le_of_ble_eq_true rfl, Nat.le_of_ble_eq_true rfl⟩ rfl rfl (va_recv hK hP (ci := 13) (q0 := 0) rfl rfl) (k_pre hN hK hP hD [0, 1] [2] 3 rfl (by decide) rfl) rfl hl.1 rfl (Nat.le_of_ble_eq_true rfl) d_Mo_change_11 ⟨Nat.le_of_ble_eq_true rfl, Nat.le_of_ble_eq_true rfl⟩) hP hD hS hA [0, 1] [2] 3 rfl (by decide) rfl rfl (fun u3 H locs hu3 hP hD hS => ?_)
  have hP : va_P D classes (cat [[(qm 2, .inl (kA 0, 66836, .inl all0))], [(a0, .inr (13, mF qm (va_up x0Mo 5 (nI (539 * (31 * j + 0)))) y0Mo))], [(qm 3, .inl (kA 0, 4, .inl (fun _ => 0)))]]) H := hP
  have hD : va_D A (cat [[(qm 2, .inl (kA 0, 66836, .inl all0))], [(a0, .inr (13, mF qm (va_up x0Mo 5 (nI (539 * (31 * j + 0)))) y0Mo))], [(qm 3, .inl (kA 0, 4, .inl (fun _ => 0)))]]) := hD
  refine lv_iload_n (pc := 14) hx hb d_Mo_change_14 rfl (lv_at hl 2 rfl) ?_
  refine lv_tableIn (pc := 15) (tgt := 60) hx hb d_Mo_change_15 (by decide) (by decide) rfl (by decide) ?_
  refine lv_aload_n (pc := 60) hx hb d_Mo_change_60 rfl (lv_at hl 0 rfl) ?_
  refine lv_iload_n (pc := 61) hx hb d_Mo_change_61 rfl (lv_at hl 1 rfl) ?_
  refine lv_iload_n (pc := 62) hx hb d_Mo_change_62 rfl (lv_at hl 3 rfl) ?_
  refine k_goI (gr := [[(qm 3, .inl (kA 0, 4, .inl (fun _ => 0)))]]) (k_rV (pc := 63) (As := [.int (nI j), .int v3]) (rest := []) X (c_Mo_newNode_z1 l D kA a0 j v3 qm hj hn3 H.size) rfl wm_3095 wm_9 wm_3092 wm_3094 wv_14_3 2 (by decide +kernel) ⟨Nat.le_of_ble_eq_true rfl, Nat.le_of_ble_eq_true rfl⟩ rfl rfl (va_recv hK hP (ci := 13) (q0 := 1) rfl rfl) (k_pre hN hK hP hD [1, 0] [2] 3 rfl (by decide) rfl) rfl hl.1 rfl (Nat.le_of_ble_eq_true rfl) d_Mo_change_63 ⟨Nat.le_of_ble_eq_true rfl, Nat.le_of_ble_eq_true rfl⟩) hP hD hS hA [1, 0] [2] 3 rfl (by decide) rfl rfl (fun r4 u5 H locs hu5 hP hD hS => ?_)
  subst hu5
  have hP : va_P D classes (cat [[(qm 3, .inl (kA 0, 4, .inl (fun _ => 0)))], [(a0, .inr (13, mF qm (va_up x0Mo 5 (nI (539 * (31 * j + 0)))) y0Mo))], [(qm 2, .inl (kA 0, 66836, .inl all0))]]) H := hP
  have hD : va_D A (cat [[(qm 3, .inl (kA 0, 4, .inl (fun _ => 0)))], [(a0, .inr (13, mF qm (va_up x0Mo 5 (nI (539 * (31 * j + 0)))) y0Mo))], [(qm 2, .inl (kA 0, 66836, .inl all0))]]) := hD
  refine W.widen (k := 0) (n := 0) (Nat.le_of_ble_eq_true rfl) (Nat.le_of_ble_eq_true rfl) ?_
  exact W.iret (v := (-1)) hx hb hr (fun t ht hW => ⟨⟨(-1), [[(qm 3, .inl (kA 0, 4, .inl (fun _ => 0)))], [(a0, .inr (13, mF qm (va_up x0Mo 5 (nI (539 * (31 * j + 0)))) y0Mo))], [(qm 2, .inl (kA 0, 66836, .inl all0))]], rfl, rfl, by rw [ht]; exact hP, va_K.moved hW.alike hK, hD⟩, hS.F ht⟩) hS.2.2 d_Mo_change_66
set_option maxRecDepth 100000 in
set_option maxHeartbeats 4000000 in
/-- change, a fresh house -/
theorem lf_change_3 {p : Program} {e : Env} {s : State} {m : MethodId} {below : List Frame} {meth : Method} {c : Code} (l : Launch) {b : Nat} {xs : Nat → Int32} (C0 : lw_At p s m meth c b 6 xs) {D : va_G} {kA : Nat → ClassId} (h : Nat) (h2 : Nat) (q : Nat → Nat) (qg : Nat → Nat) (qm : Nat → Nat) (g : Nat → Nat → Nat) (j : Nat) (v3 : Int32) (v4 : Int32) (hj : j < 4) (hn3 : v3 < 0) (hv1 : xs 1 = nI j) (hv2 : xs 2 = 0) (hv3 : xs 3 = v3) (hv4 : xs 4 = v4) {H : Heap} {locs : List Loc} {ls : Array Slot} (hK : va_K D classes (TY kA) s) (hN : nst s) (hP : va_P D classes (cat [[(h, .inr (12, [.ref (q 0), .ref (q 1), .ref (q 2), .ref (q 3), .ref (q 4), .ref (q 5), .ref (q 6), .int 0, .int ((-1)), .ref (q 9), .ref (q 10), .int 0, .int 0, .ref (q 13), .int 0, .int 0, .null, .null, .null, .null, .null]))], [(q 0, .inl (kA 4, 4, .inr (.inr (.inr (.inr (rr (g 0)))))))], [(g 0 j, .inr (3, [.int 0, .int 0, .int 1, .ref (qg 3), .ref (qg 4), .ref (qg 5), .ref (qg 6), .ref (qg 7), .ref (qg 8), .ref (qg 9), .ref (qg 10), .ref (qg 11), .ref (qg 12), .ref (qg 13), .ref (qg 14), .ref (qg 15), .null, .int 0, .int 0]))], [(h2, .inr (13, mF qm x0Mo y0Mo))], [(qm 3, .inl (kA 0, 4, .inl (fun _ => 0)))], [(qm 2, .inl (kA 0, 66836, .inl all0))]]) H) (hD : va_D (fun q : Nat => s.heap.size ≤ q) (cat [[(h, .inr (12, [.ref (q 0), .ref (q 1), .ref (q 2), .ref (q 3), .ref (q 4), .ref (q 5), .ref (q 6), .int 0, .int ((-1)), .ref (q 9), .ref (q 10), .int 0, .int 0, .ref (q 13), .int 0, .int 0, .null, .null, .null, .null, .null]))], [(q 0, .inl (kA 4, 4, .inr (.inr (.inr (.inr (rr (g 0)))))))], [(g 0 j, .inr (3, [.int 0, .int 0, .int 1, .ref (qg 3), .ref (qg 4), .ref (qg 5), .ref (qg 6), .ref (qg 7), .ref (qg 8), .ref (qg 9), .ref (qg 10), .ref (qg 11), .ref (qg 12), .ref (qg 13), .ref (qg 14), .ref (qg 15), .null, .int 0, .int 0]))], [(h2, .inr (13, mF qm x0Mo y0Mo))], [(qm 3, .inl (kA 0, 4, .inl (fun _ => 0)))], [(qm 2, .inl (kA 0, 66836, .inl all0))]])) (hS : va_S (fun q : Nat => s.heap.size ≤ q) s.heap H locs) (hl : lv_has ls 4 [(3, .int 0), (2, .ref h2), (1, .ref h), (0, .ref b)]) : W p l e room_1 s m #[Value.ref b] below meth c H locs 368 365796 (lw_Z below #[Value.ref b] s) (F0 m 494 ls []) := by
  obtain ⟨hx, hb, hr, hml, hown, hts0, hX, hbl, hlocks, hgv⟩ := id C0
  have hts : ∀ w ∈ lw_g, w.before #[Value.ref b] s = true := fun w h => hts0 w (lw_gt h)
  have X : cx p s m #[Value.ref b] meth c b_law_law 4 ret "DrawingHouseLaw" meth.name := ⟨hx, hb, hml, hown, hts, hr, hlocks, rfl⟩
  obtain ⟨A, hAe⟩ : ∃ A : Nat → Prop, A = fun q : Nat => s.heap.size ≤ q := ⟨_, rfl⟩
  have hA : ∀ q : Nat, s.heap.size ≤ q → A q := fun q h => by rw [hAe]; exact h
  have hbA : ¬ A b := by rw [hAe]; exact Nat.not_le.mpr hbl
  rw [← hAe] at hD hS
  refine lv_aload_n (pc := 494) hx hb d_law_law_494 rfl (lv_at hl 2 rfl) ?_
  refine lv_aload_n (pc := 495) hx hb d_law_law_495 rfl (lv_at hl 3 rfl) ?_
  refine lv_iload_n (pc := 496) hx hb d_law_law_496 rfl (lv_at hl 0 rfl) ?_
  refine lv_iconst (pc := 497) (v := 1) hx hb d_law_law_497 (by decide) ?_
  refine lv_iadd (pc := 498) hx hb d_law_law_498 ?_
  refine k_cst (v := 1) (by decide) ?_
  refine va_sld (pc := 499) hx hb hX hbl hbA hS (by unfold vp_in; decide) d_law_law_499 ?_
  refine k_cst (v := nI j) hv1 ?_
  refine lv_aload_n (pc := 500) hx hb d_law_law_500 rfl (lv_at hl 3 rfl) ?_
  refine lv_iload_n (pc := 501) hx hb d_law_law_501 rfl (lv_at hl 0 rfl) ?_
  refine lv_iconst (pc := 502) (v := 2) hx hb d_law_law_502 (by decide) ?_
  refine lv_iadd (pc := 503) hx hb d_law_law_503 ?_
  refine k_cst (v := 2) (by decide) ?_
  refine va_sld (pc := 504) hx hb hX hbl hbA hS (by unfold vp_in; decide) d_law_law_504 ?_
  refine k_cst (v := 0) hv2 ?_
  refine lv_aload_n (pc := 505) hx hb d_law_law_505 rfl (lv_at hl 3 rfl) ?_
  refine lv_iload_n (pc := 506) hx hb d_law_law_506 rfl (lv_at hl 0 rfl) ?_
  refine lv_iconst (pc := 507) (v := 3) hx hb d_law_law_507 (by decide) ?_
  refine lv_iadd (pc := 508) hx hb d_law_law_508 ?_
  refine k_cst (v := 3) (by decide) ?_
  refine va_sld (pc := 509) hx hb hX hbl hbA hS (by unfold vp_in; decide) d_law_law_509 ?_
  refine k_cst (v := v3) hv3 ?_
  refine lv_aload_n (pc := 510) hx hb d_law_law_510 rfl (lv_at hl 3 rfl) ?_
  refine lv_iload_n (pc := 511) hx hb d_law_law_511 rfl (lv_at hl 0 rfl) ?_
  refine lv_iconst (pc := 512) (v := 4) hx hb d_law_law_512 (by decide) ?_
  refine lv_iadd (pc := 513) hx hb d_law_law_513 ?_
  refine k_cst (v := 4) (by decide) ?_
  refine va_sld (pc := 514) hx hb hX hbl hbA hS (by unfold vp_in; decide) d_law_law_514 ?_
  refine k_cst (v := v4) hv4 ?_
  refine k_goI (gr := [[(h2, .inr (13, mF qm x0Mo y0Mo))], [(qm 3, .inl (kA 0, 4, .inl (fun _ => 0)))], [(qm 2, .inl (kA 0, 66836, .inl all0))]]) (k_rV (pc := 515) (As := [.int (nI j), .int 0, .int v3, .int v4]) (rest := []) X (c_Ho_change_z3 l D kA h j v3 v4 (q 0) (q 1) (q 2) (q 3) (q 4) (q 5) (q 6) (q 9) (q 10) (q 13) g (qg 3) (qg 4) (qg 5) (qg 6) (qg 7) (qg 8) (qg 9) (qg 10) (qg 11) (qg 12) (qg 13) (qg 14) (qg 15) hj hn3 H.size) rfl wm_954 wm_1 wm_951 wm_952 wm_953 4 (by decide +kernel) ⟨Nat.le_of_ble_eq_true rfl, Nat.le_of_ble_eq_true rfl⟩ rfl rfl (va_recv hK hP (ci := 12) (q0 := 0) rfl rfl) (k_pre hN hK hP hD [0, 1, 2] [3, 4, 5] 6 rfl (by decide) rfl) rfl hl.1 rfl (Nat.le_of_ble_eq_true rfl) d_law_law_515 ⟨Nat.le_of_ble_eq_true rfl, Nat.le_of_ble_eq_true rfl⟩) hP hD hS hA [0, 1, 2] [3, 4, 5] 6 rfl (by decide) rfl rfl (fun r1 u2 H locs hu2 hP hD hS => ?_)
  obtain ⟨hP, hD⟩ := k_left hP hD
  subst hu2
  have hP : va_P D classes (cat [[(h2, .inr (13, mF qm x0Mo y0Mo))], [(qm 3, .inl (kA 0, 4, .inl (fun _ => 0)))], [(qm 2, .inl (kA 0, 66836, .inl all0))]]) H := hP
  have hD : va_D A (cat [[(h2, .inr (13, mF qm x0Mo y0Mo))], [(qm 3, .inl (kA 0, 4, .inl (fun _ => 0)))], [(qm 2, .inl (kA 0, 66836, .inl all0))]]) := hD
  refine lv_aload_n (pc := 518) hx hb d_law_law_518 rfl (lv_at hl 1 rfl) ?_
  refine lv_aload_n (pc := 519) hx hb d_law_law_519 rfl (lv_at hl 3 rfl) ?_
  refine lv_iload_n (pc := 520) hx hb d_law_law_520 rfl (lv_at hl 0 rfl) ?_
  refine lv_iconst (pc := 521) (v := 1) hx hb d_law_law_521 (by decide) ?_
  refine lv_iadd (pc := 522) hx hb d_law_law_522 ?_
  refine k_cst (v := 1) (by decide) ?_
  refine va_sld (pc := 523) hx hb hX hbl hbA hS (by unfold vp_in; decide) d_law_law_523 ?_
  refine k_cst (v := nI j) hv1 ?_
  refine lv_aload_n (pc := 524) hx hb d_law_law_524 rfl (lv_at hl 3 rfl) ?_
  refine lv_iload_n (pc := 525) hx hb d_law_law_525 rfl (lv_at hl 0 rfl) ?_
  refine lv_iconst (pc := 526) (v := 2) hx hb d_law_law_526 (by decide) ?_
  refine lv_iadd (pc := 527) hx hb d_law_law_527 ?_
  refine k_cst (v := 2) (by decide) ?_
  refine va_sld (pc := 528) hx hb hX hbl hbA hS (by unfold vp_in; decide) d_law_law_528 ?_
  refine k_cst (v := 0) hv2 ?_
  refine lv_aload_n (pc := 529) hx hb d_law_law_529 rfl (lv_at hl 3 rfl) ?_
  refine lv_iload_n (pc := 530) hx hb d_law_law_530 rfl (lv_at hl 0 rfl) ?_
  refine lv_iconst (pc := 531) (v := 3) hx hb d_law_law_531 (by decide) ?_
  refine lv_iadd (pc := 532) hx hb d_law_law_532 ?_
  refine k_cst (v := 3) (by decide) ?_
  refine va_sld (pc := 533) hx hb hX hbl hbA hS (by unfold vp_in; decide) d_law_law_533 ?_
  refine k_cst (v := v3) hv3 ?_
  refine lv_aload_n (pc := 534) hx hb d_law_law_534 rfl (lv_at hl 3 rfl) ?_
  refine lv_iload_n (pc := 535) hx hb d_law_law_535 rfl (lv_at hl 0 rfl) ?_
  refine lv_iconst (pc := 536) (v := 4) hx hb d_law_law_536 (by decide) ?_
  refine lv_iadd (pc := 537) hx hb d_law_law_537 ?_
  refine k_cst (v := 4) (by decide) ?_
  refine va_sld (pc := 538) hx hb hX hbl hbA hS (by unfold vp_in; decide) d_law_law_538 ?_
  refine k_cst (v := v4) hv4 ?_
  refine k_goI (gr := []) (k_rV (pc := 539) (As := [.int (nI j), .int 0, .int v3, .int v4]) (rest := [.int ((-1))]) X (c_Mo_change_z3 l D kA h2 j v3 v4 qm hj hn3 H.size) rfl wm_3087 wm_9 wm_3084 wm_3085 wm_3086 4 (by decide +kernel) ⟨Nat.le_of_ble_eq_true rfl, Nat.le_of_ble_eq_true rfl⟩ rfl rfl (va_recv hK hP (ci := 13) (q0 := 0) rfl rfl) (k_pre hN hK hP hD [0, 1, 2] [] 3 rfl (by decide) rfl) rfl hl.1 rfl (Nat.le_of_ble_eq_true rfl) d_law_law_539 ⟨Nat.le_of_ble_eq_true rfl, Nat.le_of_ble_eq_true rfl⟩) hP hD hS hA [0, 1, 2] [] 3 rfl (by decide) rfl rfl (fun r3 u4 H locs hu4 hP hD hS => ?_)
  obtain ⟨hP, hD⟩ := k_left hP hD
  subst hu4
  have hP : va_P D classes (cat []) H := hP
  have hD : va_D A (cat []) := hD
  refine lv_icmp_eq (pc := 542) (tgt := 1295) hx hb d_law_law_542 (by decide) (fun _ => ?_) (fun c1 => absurd (by decide) c1)
  rw [hAe] at hS
  exact law_exit l C0 (Nat.le_of_ble_eq_true rfl) (Nat.le_of_ble_eq_true rfl) hS hl
set_option maxRecDepth 100000 in
set_option maxHeartbeats 4000000 in
/-- DrawingHouse$Graph.mayAlter(III)Z -/
theorem c_Gr_mayAlter_z3 (l : Launch) (D : va_G) (kA : Nat → ClassId) (g : Nat → Nat → Nat) (j : Nat) (v3 : Int32) (v4 : Int32) (a0 : Nat) (a1 : Nat) (a2 : Nat) (a3 : Nat) (a4 : Nat) (a5 : Nat) (a6 : Nat) (a7 : Nat) (a8 : Nat) (a9 : Nat) (a10 : Nat) (a11 : Nat) (a12 : Nat) (hj : j < 4) (hp3 : ¬ v3 < 0) (hb3 : 1 ≤ v3) (hc3 : 0 < v3) : Ci l y_Gr_mayAlter z_Gr_mayAlter { frames := 1, cells := 0, slots := 0, locals := 21 } D classes (TY kA) [.ref (g 0 j), .int 0, .int v3, .int v4] [[(g 0 j, .inr (3, [.int 0, .int 0, .int 1, .ref a0, .ref a1, .ref a2, .ref a3, .ref a4, .ref a5, .ref a6, .ref a7, .ref a8, .ref a9, .ref a10, .ref a11, .ref a12, .null, .int 0, .int 0]))]] (fun r (_ : Unit) => r = 0) (fun u => [[(g 0 j, .inr (3, [.int 0, .int 0, .int 1, .ref a0, .ref a1, .ref a2, .ref a3, .ref a4, .ref a5, .ref a6, .ref a7, .ref a8, .ref a9, .ref a10, .ref a11, .ref a12, .null, .int 0, .int 0]))]]) 0 0 := by
  intro sz
  refine k_met (cc := b_Gr_mayAlter) (maxL := 4) (ret := (some .boolean)) (by decide) rfl (Nat.le_of_ble_eq_true rfl) (fun p e s m below meth c ls X hl hB => ?_)
  obtain ⟨hsz, hP, hK, hD0, hN⟩ := hB
  subst hsz
  have hD := hD0.self (sz := s.heap.size)
  generalize hAe : va_A (cat [[(g 0 j, .inr (3, [.int 0, .int 0, .int 1, .ref a0, .ref a1, .ref a2, .ref a3, .ref a4, .ref a5, .ref a6, .ref a7, .ref a8, .ref a9, .ref a10, .ref a11, .ref a12, .null, .int 0, .int 0]))]]) s.heap.size = A at hD ⊢
  have hA : ∀ q : Nat, s.heap.size ≤ q → A q := fun q h => by rw [← hAe]; exact Or.inr h
  have hS : va_S A s.heap s.heap [] := va_S.rf
  obtain ⟨hx, hb, hml, hown, hts, hr, hlk, hnm⟩ := id X
  have hl : lv_has ls 4 [(0, .ref (g 0 j)), (1, .int 0), (2, .int v3), (3, .int v4)] := hl
  have hP : va_P D classes (cat [[(g 0 j, .inr (3, [.int 0, .int 0, .int 1, .ref a0, .ref a1, .ref a2, .ref a3, .ref a4, .ref a5, .ref a6, .ref a7, .ref a8, .ref a9, .ref a10, .ref a11, .ref a12, .null, .int 0, .int 0]))]]) s.heap := hP
  have hK : va_K D classes (TY kA) s := hK
  refine lv_iload_n (pc := 0) hx hb d_Gr_mayAlter_0 rfl (lv_at hl 1 rfl) ?_
  refine lv_tableIn (pc := 1) (tgt := 48) hx hb d_Gr_mayAlter_1 (by decide) (by decide) rfl (by decide) ?_
  refine lv_aload_n (pc := 48) hx hb d_Gr_mayAlter_48 rfl (lv_at hl 0 rfl) ?_
  refine lv_iload_n (pc := 49) hx hb d_Gr_mayAlter_49 rfl (lv_at hl 2 rfl) ?_
  refine k_goI (gr := []) (k_rV (pc := 50) (As := [.int v3]) (rest := []) X (c_Gr_hasGroup_z5 l D kA g j v3 a0 a1 a2 a3 a4 a5 a6 a7 a8 a9 a10 a11 a12 hj hp3 hb3 hc3 s.heap.size) rfl wm_942 wm_3 wm_959 wm_940 wm_941 1 (by decide +kernel) ⟨Nat.le_of_ble_eq_true rfl, Nat.le_of_ble_eq_true rfl⟩ rfl rfl (va_recv hK hP (ci := 3) (q0 := 0) rfl rfl) (k_pre hN hK hP hD [0] [] 1 rfl (by decide) rfl) rfl hl.1 rfl (Nat.le_of_ble_eq_true rfl) d_Gr_mayAlter_50 ⟨Nat.le_of_ble_eq_true rfl, Nat.le_of_ble_eq_true rfl⟩) hP hD hS hA [0] [] 1 rfl (by decide) rfl rfl (fun r1 u2 H locs hu2 hP hD hS => ?_)
  subst hu2
  have hP : va_P D classes (cat [[(g 0 j, .inr (3, [.int 0, .int 0, .int 1, .ref a0, .ref a1, .ref a2, .ref a3, .ref a4, .ref a5, .ref a6, .ref a7, .ref a8, .ref a9, .ref a10, .ref a11, .ref a12, .null, .int 0, .int 0]))]]) H := hP
  have hD : va_D A (cat [[(g 0 j, .inr (3, [.int 0, .int 0, .int 1, .ref a0, .ref a1, .ref a2, .ref a3, .ref a4, .ref a5, .ref a6, .ref a7, .ref a8, .ref a9, .ref a10, .ref a11, .ref a12, .null, .int 0, .int 0]))]]) := hD
  refine lv_if_eq (pc := 53) (tgt := 76) hx hb d_Gr_mayAlter_53 (by decide) (fun c1 => ?_) (fun c1 => absurd (by decide) c1)
  refine lv_iconst (pc := 76) (v := 0) hx hb d_Gr_mayAlter_76 (by decide) ?_
  refine W.widen (k := 0) (n := 0) (Nat.le_of_ble_eq_true rfl) (Nat.le_of_ble_eq_true rfl) ?_
  exact W.zret (v := 0) hx hb hr rfl (fun t ht hW => ⟨⟨0, (), rfl, rfl, by rw [ht]; exact hP, va_K.moved hW.alike hK, hD⟩, hS.F ht⟩) hS.2.2 d_Gr_mayAlter_77
set_option maxRecDepth 100000 in
set_option maxHeartbeats 4000000 in
/-- DrawingHouse.change(IIII)I -/
theorem c_Ho_change_z4 (l : Launch) (D : va_G) (kA : Nat → ClassId) (a0 : Nat) (j : Nat) (v3 : Int32) (v4 : Int32) (a1 : Nat) (a2 : Nat) (a3 : Nat) (a4 : Nat) (a5 : Nat) (a6 : Nat) (a7 : Nat) (a8 : Nat) (a9 : Nat) (a10 : Nat) (g : Nat → Nat → Nat) (a11 : Nat) (a12 : Nat) (a13 : Nat) (a14 : Nat) (a15 : Nat) (a16 : Nat) (a17 : Nat) (a18 : Nat) (a19 : Nat) (a20 : Nat) (a21 : Nat) (a22 : Nat) (a23 : Nat) (hj : j < 4) (hp3 : ¬ v3 < 0) (hb3 : 1 ≤ v3) (hc3 : 0 < v3) : Ci l y_Ho_change z_Ho_change { frames := 2, cells := 0, slots := 0, locals := 44 } D classes (TY kA) [.ref a0, .int (nI j), .int 0, .int v3, .int v4] [[(a0, .inr (12, [.ref a1, .ref a2, .ref a3, .ref a4, .ref a5, .ref a6, .ref a7, .int 0, .int ((-1)), .ref a8, .ref a9, .int 0, .int 0, .ref a10, .int 0, .int 0, .null, .null, .null, .null, .null]))], [(a1, .inl (kA 4, 4, .inr (.inr (.inr (.inr (rr (g 0)))))))], [(g 0 j, .inr (3, [.int 0, .int 0, .int 1, .ref a11, .ref a12, .ref a13, .ref a14, .ref a15, .ref a16, .ref a17, .ref a18, .ref a19, .ref a20, .ref a21, .ref a22, .ref a23, .null, .int 0, .int 0]))]] (fun r (_ : List va_W) => r = (-1)) (fun u => u) 0 0 := by
  intro sz
  refine k_met (cc := b_Ho_change) (maxL := 6) (ret := (some .int)) (by decide) rfl (Nat.le_of_ble_eq_true rfl) (fun p e s m below meth c ls X hl hB => ?_)
  obtain ⟨hsz, hP, hK, hD0, hN⟩ := hB
  subst hsz
  have hD := hD0.self (sz := s.heap.size)
  generalize hAe : va_A (cat [[(a0, .inr (12, [.ref a1, .ref a2, .ref a3, .ref a4, .ref a5, .ref a6, .ref a7, .int 0, .int ((-1)), .ref a8, .ref a9, .int 0, .int 0, .ref a10, .int 0, .int 0, .null, .null, .null, .null, .null]))], [(a1, .inl (kA 4, 4, .inr (.inr (.inr (.inr (rr (g 0)))))))], [(g 0 j, .inr (3, [.int 0, .int 0, .int 1, .ref a11, .ref a12, .ref a13, .ref a14, .ref a15, .ref a16, .ref a17, .ref a18, .ref a19, .ref a20, .ref a21, .ref a22, .ref a23, .null, .int 0, .int 0]))]]) s.heap.size = A at hD ⊢
  have hA : ∀ q : Nat, s.heap.size ≤ q → A q := fun q h => by rw [← hAe]; exact Or.inr h
  have hS : va_S A s.heap s.heap [] := va_S.rf
  obtain ⟨hx, hb, hml, hown, hts, hr, hlk, hnm⟩ := id X
  have hl : lv_has ls 6 [(0, .ref a0), (1, .int (nI j)), (2, .int 0), (3, .int v3), (4, .int v4)] := hl
  have hP : va_P D classes (cat [[(a0, .inr (12, [.ref a1, .ref a2, .ref a3, .ref a4, .ref a5, .ref a6, .ref a7, .int 0, .int ((-1)), .ref a8, .ref a9, .int 0, .int 0, .ref a10, .int 0, .int 0, .null, .null, .null, .null, .null]))], [(a1, .inl (kA 4, 4, .inr (.inr (.inr (.inr (rr (g 0)))))))], [(g 0 j, .inr (3, [.int 0, .int 0, .int 1, .ref a11, .ref a12, .ref a13, .ref a14, .ref a15, .ref a16, .ref a17, .ref a18, .ref a19, .ref a20, .ref a21, .ref a22, .ref a23, .null, .int 0, .int 0]))]]) s.heap := hP
  have hK : va_K D classes (TY kA) s := hK
  refine lv_iload_n (pc := 0) hx hb d_Ho_change_0 rfl (lv_at hl 1 rfl) ?_
  refine k_goI (gr := [[(a0, .inr (12, [.ref a1, .ref a2, .ref a3, .ref a4, .ref a5, .ref a6, .ref a7, .int 0, .int ((-1)), .ref a8, .ref a9, .int 0, .int 0, .ref a10, .int 0, .int 0, .null, .null, .null, .null, .null]))], [(a1, .inl (kA 4, 4, .inr (.inr (.inr (.inr (rr (g 0)))))))], [(g 0 j, .inr (3, [.int 0, .int 0, .int 1, .ref a11, .ref a12, .ref a13, .ref a14, .ref a15, .ref a16, .ref a17, .ref a18, .ref a19, .ref a20, .ref a21, .ref a22, .ref a23, .null, .int 0, .int 0]))]]) (k_rS (pc := 1) (As := [.int (nI j)]) (rest := []) X (c_Ho_isPlace l D kA (nI j) s.heap.size) rfl wm_633 wm_1 wm_631 wm_632 1 (by decide +kernel) ⟨Nat.le_of_ble_eq_true rfl, Nat.le_of_ble_eq_true rfl⟩ rfl rfl (k_pre hN hK hP hD [] [0, 1, 2] 3 rfl (by decide) rfl) rfl hl.1 rfl (Nat.le_of_ble_eq_true rfl) d_Ho_change_1 ⟨Nat.le_of_ble_eq_true rfl, Nat.le_of_ble_eq_true rfl⟩) hP hD hS hA [] [0, 1, 2] 3 rfl (by decide) rfl rfl (fun r1 u2 H locs hu2 hP hD hS => ?_)
  subst hu2
  refine k_cst (v := 1) (place_ok hj) ?_
  have hP : va_P D classes (cat [[(a0, .inr (12, [.ref a1, .ref a2, .ref a3, .ref a4, .ref a5, .ref a6, .ref a7, .int 0, .int ((-1)), .ref a8, .ref a9, .int 0, .int 0, .ref a10, .int 0, .int 0, .null, .null, .null, .null, .null]))], [(a1, .inl (kA 4, 4, .inr (.inr (.inr (.inr (rr (g 0)))))))], [(g 0 j, .inr (3, [.int 0, .int 0, .int 1, .ref a11, .ref a12, .ref a13, .ref a14, .ref a15, .ref a16, .ref a17, .ref a18, .ref a19, .ref a20, .ref a21, .ref a22, .ref a23, .null, .int 0, .int 0]))]]) H := hP
  have hD : va_D A (cat [[(a0, .inr (12, [.ref a1, .ref a2, .ref a3, .ref a4, .ref a5, .ref a6, .ref a7, .int 0, .int ((-1)), .ref a8, .ref a9, .int 0, .int 0, .ref a10, .int 0, .int 0, .null, .null, .null, .null, .null]))], [(a1, .inl (kA 4, 4, .inr (.inr (.inr (.inr (rr (g 0)))))))], [(g 0 j, .inr (3, [.int 0, .int 0, .int 1, .ref a11, .ref a12, .ref a13, .ref a14, .ref a15, .ref a16, .ref a17, .ref a18, .ref a19, .ref a20, .ref a21, .ref a22, .ref a23, .null, .int 0, .int 0]))]]) := hD
  refine lv_if_eq (pc := 4) (tgt := 23) hx hb d_Ho_change_4 (by decide) (fun c1 => absurd c1 (by decide)) (fun c1 => ?_)
  refine lv_aload_n (pc := 7) hx hb d_Ho_change_7 rfl (lv_at hl 0 rfl) ?_
  refine k_get (pc := 8) X hK hP 0 rfl rfl i_Ho 0 (by decide) wm_555 rfl rfl d_Ho_change_8 ?_
  refine lv_iload_n (pc := 11) hx hb d_Ho_change_11 rfl (lv_at hl 1 rfl) ?_
  refine k_ald (pc := 12) hx hb hK hP 1 4 rfl rfl (j) rfl (by omega) (by decide) (rr_at (by omega)) d_Ho_change_12 ?_
  refine lv_iload_n (pc := 13) hx hb d_Ho_change_13 rfl (lv_at hl 2 rfl) ?_
  refine lv_iload_n (pc := 14) hx hb d_Ho_change_14 rfl (lv_at hl 3 rfl) ?_
  refine lv_iload (pc := 15) hx hb d_Ho_change_15 (lv_at hl 4 rfl) ?_
  refine k_goI (gr := [[(a0, .inr (12, [.ref a1, .ref a2, .ref a3, .ref a4, .ref a5, .ref a6, .ref a7, .int 0, .int ((-1)), .ref a8, .ref a9, .int 0, .int 0, .ref a10, .int 0, .int 0, .null, .null, .null, .null, .null]))], [(a1, .inl (kA 4, 4, .inr (.inr (.inr (.inr (rr (g 0)))))))]]) (k_rV (pc := 17) (As := [.int 0, .int v3, .int v4]) (rest := []) X (c_Gr_mayAlter_z3 l D kA g j v3 v4 a11 a12 a13 a14 a15 a16 a17 a18 a19 a20 a21 a22 a23 hj hp3 hb3 hc3 H.size) rfl wm_958 wm_3 wm_955 wm_956 wm_957 3 (by decide +kernel) ⟨Nat.le_of_ble_eq_true rfl, Nat.le_of_ble_eq_true rfl⟩ rfl rfl (va_recv hK hP (ci := 3) (q0 := 2) rfl rfl) (k_pre hN hK hP hD [2] [0, 1] 3 rfl (by decide) rfl) rfl hl.1 rfl (Nat.le_of_ble_eq_true rfl) d_Ho_change_17 ⟨Nat.le_of_ble_eq_true rfl, Nat.le_of_ble_eq_true rfl⟩) hP hD hS hA [2] [0, 1] 3 rfl (by decide) rfl rfl (fun r3 u4 H locs hu4 hP hD hS => ?_)
  subst hu4
  have hP : va_P D classes (cat [[(a0, .inr (12, [.ref a1, .ref a2, .ref a3, .ref a4, .ref a5, .ref a6, .ref a7, .int 0, .int ((-1)), .ref a8, .ref a9, .int 0, .int 0, .ref a10, .int 0, .int 0, .null, .null, .null, .null, .null]))], [(a1, .inl (kA 4, 4, .inr (.inr (.inr (.inr (rr (g 0)))))))], [(g 0 j, .inr (3, [.int 0, .int 0, .int 1, .ref a11, .ref a12, .ref a13, .ref a14, .ref a15, .ref a16, .ref a17, .ref a18, .ref a19, .ref a20, .ref a21, .ref a22, .ref a23, .null, .int 0, .int 0]))]]) H := hP
  have hD : va_D A (cat [[(a0, .inr (12, [.ref a1, .ref a2, .ref a3, .ref a4, .ref a5, .ref a6, .ref a7, .int 0, .int ((-1)), .ref a8, .ref a9, .int 0, .int 0, .ref a10, .int 0, .int 0, .null, .null, .null, .null, .null]))], [(a1, .inl (kA 4, 4, .inr (.inr (.inr (.inr (rr (g 0)))))))], [(g 0 j, .inr (3, [.int 0, .int 0, .int 1, .ref a11, .ref a12, .ref a13, .ref a14, .ref a15, .ref a16, .ref a17, .ref a18, .ref a19, .ref a20, .ref a21, .ref a22, .ref a23, .null, .int 0, .int 0]))]]) := hD
  refine lv_if_ne (pc := 20) (tgt := 25) hx hb d_Ho_change_20 (by decide) (fun c1 => absurd (by decide) c1) (fun c1 => ?_)
  refine lv_iconst (pc := 23) (v := -1) hx hb d_Ho_change_23 (by decide) ?_
  refine W.widen (k := 0) (n := 0) (Nat.le_of_ble_eq_true rfl) (Nat.le_of_ble_eq_true rfl) ?_
  exact W.iret (v := (-1)) hx hb hr (fun t ht hW => ⟨⟨(-1), [[(a0, .inr (12, [.ref a1, .ref a2, .ref a3, .ref a4, .ref a5, .ref a6, .ref a7, .int 0, .int ((-1)), .ref a8, .ref a9, .int 0, .int 0, .ref a10, .int 0, .int 0, .null, .null, .null, .null, .null]))], [(a1, .inl (kA 4, 4, .inr (.inr (.inr (.inr (rr (g 0)))))))], [(g 0 j, .inr (3, [.int 0, .int 0, .int 1, .ref a11, .ref a12, .ref a13, .ref a14, .ref a15, .ref a16, .ref a17, .ref a18, .ref a19, .ref a20, .ref a21, .ref a22, .ref a23, .null, .int 0, .int 0]))]], rfl, rfl, by rw [ht]; exact hP, va_K.moved hW.alike hK, hD⟩, hS.F ht⟩) hS.2.2 d_Ho_change_24
set_option maxRecDepth 100000 in
set_option maxHeartbeats 4000000 in
/-- DrawingHouseModel.newNode(II)I -/
theorem c_Mo_newNode_z2 (l : Launch) (D : va_G) (kA : Nat → ClassId) (a0 : Nat) (j : Nat) (v3 : Int32) (qm : Nat → Nat) (hj : j < 4) (hp3 : ¬ v3 < 0) (hb3 : 1 ≤ v3) (hc3 : 0 < v3) : Ci l y_Mo_newNode z_Mo_newNode { frames := 1, cells := 0, slots := 0, locals := 22 } D classes (TY kA) [.ref a0, .int (nI j), .int v3] [[(a0, .inr (13, mF qm (va_up x0Mo 5 (nI (539 * (31 * j + 0)))) y0Mo))], [(qm 2, .inl (kA 0, 66836, .inl all0))]] (fun r (_ : Unit) => r = (-1)) (fun u => [[(a0, .inr (13, mF qm (va_up x0Mo 5 (nI (539 * (31 * j + 0)))) y0Mo))], [(qm 2, .inl (kA 0, 66836, .inl all0))]]) 0 0 := by
  intro sz
  refine k_met (cc := b_Mo_newNode) (maxL := 8) (ret := (some .int)) (by decide) rfl (Nat.le_of_ble_eq_true rfl) (fun p e s m below meth c ls X hl hB => ?_)
  obtain ⟨hsz, hP, hK, hD0, hN⟩ := hB
  subst hsz
  have hD := hD0.self (sz := s.heap.size)
  generalize hAe : va_A (cat [[(a0, .inr (13, mF qm (va_up x0Mo 5 (nI (539 * (31 * j + 0)))) y0Mo))], [(qm 2, .inl (kA 0, 66836, .inl all0))]]) s.heap.size = A at hD ⊢
  have hA : ∀ q : Nat, s.heap.size ≤ q → A q := fun q h => by rw [← hAe]; exact Or.inr h
  have hS : va_S A s.heap s.heap [] := va_S.rf
  obtain ⟨hx, hb, hml, hown, hts, hr, hlk, hnm⟩ := id X
  have hl : lv_has ls 8 [(0, .ref a0), (1, .int (nI j)), (2, .int v3)] := hl
  have hP : va_P D classes (cat [[(a0, .inr (13, mF qm (va_up x0Mo 5 (nI (539 * (31 * j + 0)))) y0Mo))], [(qm 2, .inl (kA 0, 66836, .inl all0))]]) s.heap := hP
  have hK : va_K D classes (TY kA) s := hK
  refine lv_aload_n (pc := 0) hx hb d_Mo_newNode_0 rfl (lv_at hl 0 rfl) ?_
  refine k_goI (gr := []) (k_rV (pc := 1) (As := []) (rest := []) X (c_Mo_nodes_z1 l D kA a0 qm j hj s.heap.size) rfl wm_3025 wm_9 wm_3022 wm_3024 wv_13_3 0 (by decide +kernel) ⟨Nat.le_of_ble_eq_true rfl, Nat.le_of_ble_eq_true rfl⟩ rfl rfl (va_recv hK hP (ci := 13) (q0 := 0) rfl rfl) (k_pre hN hK hP hD [0, 1] [] 2 rfl (by decide) rfl) rfl hl.1 rfl (Nat.le_of_ble_eq_true rfl) d_Mo_newNode_1 ⟨Nat.le_of_ble_eq_true rfl, Nat.le_of_ble_eq_true rfl⟩) hP hD hS hA [0, 1] [] 2 rfl (by decide) rfl rfl (fun r1 u2 H locs hu2 hP hD hS => ?_)
  subst hu2
  have hP : va_P D classes (cat [[(a0, .inr (13, mF qm (va_up x0Mo 5 (nI (539 * (31 * j + 0)))) y0Mo))], [(qm 2, .inl (kA 0, 66836, .inl all0))]]) H := hP
  have hD : va_D A (cat [[(a0, .inr (13, mF qm (va_up x0Mo 5 (nI (539 * (31 * j + 0)))) y0Mo))], [(qm 2, .inl (kA 0, 66836, .inl all0))]]) := hD
  refine lv_istore_n (pc := 4) (lv' := [(3, .int 0), (0, .ref a0), (1, .int (nI j)), (2, .int v3)]) hx hb d_Mo_newNode_4 rfl hl (by decide) rfl (fun ls hl => ?_)
  refine lv_iload_n (pc := 5) hx hb d_Mo_newNode_5 rfl (lv_at hl 0 rfl) ?_
  refine lv_bipush (pc := 6) (v := 24) hx hb d_Mo_newNode_6 (by decide) ?_
  refine lv_icmp_eq (pc := 8) (tgt := 25) hx hb d_Mo_newNode_8 (by decide) (fun c1 => absurd c1 (by decide)) (fun _ => ?_)
  refine lv_iload_n (pc := 11) hx hb d_Mo_newNode_11 rfl (lv_at hl 3 rfl) ?_
  refine lv_iconst (pc := 12) (v := 0) hx hb d_Mo_newNode_12 (by decide) ?_
  refine lv_aload_n (pc := 13) hx hb d_Mo_newNode_13 rfl (lv_at hl 1 rfl) ?_
  refine k_goI (gr := []) (k_rV (pc := 14) (As := []) (rest := [.int 0, .int v3]) X (c_Mo_groups_z1 l D kA a0 qm j hj H.size) rfl wm_3070 wm_9 wm_3067 wm_3069 wv_13_14 0 (by decide +kernel) ⟨Nat.le_of_ble_eq_true rfl, Nat.le_of_ble_eq_true rfl⟩ rfl rfl (va_recv hK hP (ci := 13) (q0 := 0) rfl rfl) (k_pre hN hK hP hD [0, 1] [] 2 rfl (by decide) rfl) rfl hl.1 rfl (Nat.le_of_ble_eq_true rfl) d_Mo_newNode_14 ⟨Nat.le_of_ble_eq_true rfl, Nat.le_of_ble_eq_true rfl⟩) hP hD hS hA [0, 1] [] 2 rfl (by decide) rfl rfl (fun r3 u4 H locs hu4 hP hD hS => ?_)
  subst hu4
  have hP : va_P D classes (cat [[(a0, .inr (13, mF qm (va_up x0Mo 5 (nI (539 * (31 * j + 0)))) y0Mo))], [(qm 2, .inl (kA 0, 66836, .inl all0))]]) H := hP
  have hD : va_D A (cat [[(a0, .inr (13, mF qm (va_up x0Mo 5 (nI (539 * (31 * j + 0)))) y0Mo))], [(qm 2, .inl (kA 0, 66836, .inl all0))]]) := hD
  refine lv_iconst (pc := 17) (v := 1) hx hb d_Mo_newNode_17 (by decide) ?_
  refine lv_isub (pc := 18) hx hb d_Mo_newNode_18 ?_
  refine k_cst (v := 0) (by decide) ?_
  refine k_goI (gr := [[(a0, .inr (13, mF qm (va_up x0Mo 5 (nI (539 * (31 * j + 0)))) y0Mo))], [(qm 2, .inl (kA 0, 66836, .inl all0))]]) (k_rS (pc := 19) (As := [.int v3, .int 0, .int 0]) (rest := []) X (c_Mo_in_z16 l D kA v3 hp3 hb3 hc3 H.size) rfl wm_2971 wm_9 wm_2969 wm_2970 3 (by decide +kernel) ⟨Nat.le_of_ble_eq_true rfl, Nat.le_of_ble_eq_true rfl⟩ rfl rfl (k_pre hN hK hP hD [] [0, 1] 2 rfl (by decide) rfl) rfl hl.1 rfl (Nat.le_of_ble_eq_true rfl) d_Mo_newNode_19 ⟨Nat.le_of_ble_eq_true rfl, Nat.le_of_ble_eq_true rfl⟩) hP hD hS hA [] [0, 1] 2 rfl (by decide) rfl rfl (fun r5 u6 H locs hu6 hP hD hS => ?_)
  subst hu6
  have hP : va_P D classes (cat [[(a0, .inr (13, mF qm (va_up x0Mo 5 (nI (539 * (31 * j + 0)))) y0Mo))], [(qm 2, .inl (kA 0, 66836, .inl all0))]]) H := hP
  have hD : va_D A (cat [[(a0, .inr (13, mF qm (va_up x0Mo 5 (nI (539 * (31 * j + 0)))) y0Mo))], [(qm 2, .inl (kA 0, 66836, .inl all0))]]) := hD
  refine lv_if_ne (pc := 22) (tgt := 27) hx hb d_Mo_newNode_22 (by decide) (fun c1 => absurd (by decide) c1) (fun c1 => ?_)
  refine lv_iconst (pc := 25) (v := -1) hx hb d_Mo_newNode_25 (by decide) ?_
  refine W.widen (k := 0) (n := 0) (Nat.le_of_ble_eq_true rfl) (Nat.le_of_ble_eq_true rfl) ?_
  exact W.iret (v := (-1)) hx hb hr (fun t ht hW => ⟨⟨(-1), (), rfl, rfl, by rw [ht]; exact hP, va_K.moved hW.alike hK, hD⟩, hS.F ht⟩) hS.2.2 d_Mo_newNode_26
set_option maxRecDepth 100000 in
set_option maxHeartbeats 4000000 in
/-- DrawingHouseModel.change(IIII)I -/
theorem c_Mo_change_z4 (l : Launch) (D : va_G) (kA : Nat → ClassId) (a0 : Nat) (j : Nat) (v3 : Int32) (v4 : Int32) (qm : Nat → Nat) (hj : j < 4) (hp3 : ¬ v3 < 0) (hb3 : 1 ≤ v3) (hc3 : 0 < v3) : Ci l y_Mo_change z_Mo_change { frames := 2, cells := 0, slots := 0, locals := 49 } D classes (TY kA) [.ref a0, .int (nI j), .int 0, .int v3, .int v4] [[(a0, .inr (13, mF qm x0Mo y0Mo))], [(qm 3, .inl (kA 0, 4, .inl (fun _ => 0)))], [(qm 2, .inl (kA 0, 66836, .inl all0))]] (fun r (_ : List va_W) => r = (-1)) (fun u => u) 0 0 := by
  intro sz
  refine k_met (cc := b_Mo_change) (maxL := 5) (ret := (some .int)) (by decide) rfl (Nat.le_of_ble_eq_true rfl) (fun p e s m below meth c ls X hl hB => ?_)
  obtain ⟨hsz, hP, hK, hD0, hN⟩ := hB
  subst hsz
  have hD := hD0.self (sz := s.heap.size)
  generalize hAe : va_A (cat [[(a0, .inr (13, mF qm x0Mo y0Mo))], [(qm 3, .inl (kA 0, 4, .inl (fun _ => 0)))], [(qm 2, .inl (kA 0, 66836, .inl all0))]]) s.heap.size = A at hD ⊢
  have hA : ∀ q : Nat, s.heap.size ≤ q → A q := fun q h => by rw [← hAe]; exact Or.inr h
  have hS : va_S A s.heap s.heap [] := va_S.rf
  obtain ⟨hx, hb, hml, hown, hts, hr, hlk, hnm⟩ := id X
  have hl : lv_has ls 5 [(0, .ref a0), (1, .int (nI j)), (2, .int 0), (3, .int v3), (4, .int v4)] := hl
  have hP : va_P D classes (cat [[(a0, .inr (13, mF qm x0Mo y0Mo))], [(qm 3, .inl (kA 0, 4, .inl (fun _ => 0)))], [(qm 2, .inl (kA 0, 66836, .inl all0))]]) s.heap := hP
  have hK : va_K D classes (TY kA) s := hK
  refine lv_iload_n (pc := 0) hx hb d_Mo_change_0 rfl (lv_at hl 1 rfl) ?_
  refine k_goI (gr := [[(a0, .inr (13, mF qm x0Mo y0Mo))], [(qm 3, .inl (kA 0, 4, .inl (fun _ => 0)))], [(qm 2, .inl (kA 0, 66836, .inl all0))]]) (k_rS (pc := 1) (As := [.int (nI j)]) (rest := []) X (c_Mo_isPlace l D kA (nI j) s.heap.size) rfl wm_2978 wm_9 wm_2976 wm_2977 1 (by decide +kernel) ⟨Nat.le_of_ble_eq_true rfl, Nat.le_of_ble_eq_true rfl⟩ rfl rfl (k_pre hN hK hP hD [] [0, 1, 2] 3 rfl (by decide) rfl) rfl hl.1 rfl (Nat.le_of_ble_eq_true rfl) d_Mo_change_1 ⟨Nat.le_of_ble_eq_true rfl, Nat.le_of_ble_eq_true rfl⟩) hP hD hS hA [] [0, 1, 2] 3 rfl (by decide) rfl rfl (fun r1 u2 H locs hu2 hP hD hS => ?_)
  subst hu2
  refine k_cst (v := 1) (placeM_ok hj) ?_
  have hP : va_P D classes (cat [[(a0, .inr (13, mF qm x0Mo y0Mo))], [(qm 3, .inl (kA 0, 4, .inl (fun _ => 0)))], [(qm 2, .inl (kA 0, 66836, .inl all0))]]) H := hP
  have hD : va_D A (cat [[(a0, .inr (13, mF qm x0Mo y0Mo))], [(qm 3, .inl (kA 0, 4, .inl (fun _ => 0)))], [(qm 2, .inl (kA 0, 66836, .inl all0))]]) := hD
  refine lv_if_ne (pc := 4) (tgt := 9) hx hb d_Mo_change_4 (by decide) (fun c1 => ?_) (fun c1 => absurd c1 (by decide))
  refine lv_aload_n (pc := 9) hx hb d_Mo_change_9 rfl (lv_at hl 0 rfl) ?_
  refine lv_iload_n (pc := 10) hx hb d_Mo_change_10 rfl (lv_at hl 1 rfl) ?_
  refine k_goV (gr := [[(qm 2, .inl (kA 0, 66836, .inl all0))]]) (k_rV (pc := 11) (As := [.int (nI j)]) (rest := []) X (c_Mo_take_z1 l D kA a0 j qm hj H.size) rfl wm_3091 wm_9 wm_3088 wm_3090 wv_14_2 1 (by decide +kernel) ⟨Nat.le_of_ble_eq_true rfl, Nat.le_of_ble_eq_true rfl⟩ rfl rfl (va_recv hK hP (ci := 13) (q0 := 0) rfl rfl) (k_pre hN hK hP hD [0, 1] [2] 3 rfl (by decide) rfl) rfl hl.1 rfl (Nat.le_of_ble_eq_true rfl) d_Mo_change_11 ⟨Nat.le_of_ble_eq_true rfl, Nat.le_of_ble_eq_true rfl⟩) hP hD hS hA [0, 1] [2] 3 rfl (by decide) rfl rfl (fun u3 H locs hu3 hP hD hS => ?_)
  have hP : va_P D classes (cat [[(qm 2, .inl (kA 0, 66836, .inl all0))], [(a0, .inr (13, mF qm (va_up x0Mo 5 (nI (539 * (31 * j + 0)))) y0Mo))], [(qm 3, .inl (kA 0, 4, .inl (fun _ => 0)))]]) H := hP
  have hD : va_D A (cat [[(qm 2, .inl (kA 0, 66836, .inl all0))], [(a0, .inr (13, mF qm (va_up x0Mo 5 (nI (539 * (31 * j + 0)))) y0Mo))], [(qm 3, .inl (kA 0, 4, .inl (fun _ => 0)))]]) := hD
  refine lv_iload_n (pc := 14) hx hb d_Mo_change_14 rfl (lv_at hl 2 rfl) ?_
  refine lv_tableIn (pc := 15) (tgt := 60) hx hb d_Mo_change_15 (by decide) (by decide) rfl (by decide) ?_
  refine lv_aload_n (pc := 60) hx hb d_Mo_change_60 rfl (lv_at hl 0 rfl) ?_
  refine lv_iload_n (pc := 61) hx hb d_Mo_change_61 rfl (lv_at hl 1 rfl) ?_
  refine lv_iload_n (pc := 62) hx hb d_Mo_change_62 rfl (lv_at hl 3 rfl) ?_
  refine k_goI (gr := [[(qm 3, .inl (kA 0, 4, .inl (fun _ => 0)))]]) (k_rV (pc := 63) (As := [.int (nI j), .int v3]) (rest := []) X (c_Mo_newNode_z2 l D kA a0 j v3 qm hj hp3 hb3 hc3 H.size) rfl wm_3095 wm_9 wm_3092 wm_3094 wv_14_3 2 (by decide +kernel) ⟨Nat.le_of_ble_eq_true rfl, Nat.le_of_ble_eq_true rfl⟩ rfl rfl (va_recv hK hP (ci := 13) (q0 := 1) rfl rfl) (k_pre hN hK hP hD [1, 0] [2] 3 rfl (by decide) rfl) rfl hl.1 rfl (Nat.le_of_ble_eq_true rfl) d_Mo_change_63 ⟨Nat.le_of_ble_eq_true rfl, Nat.le_of_ble_eq_true rfl⟩) hP hD hS hA [1, 0] [2] 3 rfl (by decide) rfl rfl (fun r4 u5 H locs hu5 hP hD hS => ?_)
  subst hu5
  have hP : va_P D classes (cat [[(qm 3, .inl (kA 0, 4, .inl (fun _ => 0)))], [(a0, .inr (13, mF qm (va_up x0Mo 5 (nI (539 * (31 * j + 0)))) y0Mo))], [(qm 2, .inl (kA 0, 66836, .inl all0))]]) H := hP
  have hD : va_D A (cat [[(qm 3, .inl (kA 0, 4, .inl (fun _ => 0)))], [(a0, .inr (13, mF qm (va_up x0Mo 5 (nI (539 * (31 * j + 0)))) y0Mo))], [(qm 2, .inl (kA 0, 66836, .inl all0))]]) := hD
  refine W.widen (k := 0) (n := 0) (Nat.le_of_ble_eq_true rfl) (Nat.le_of_ble_eq_true rfl) ?_
  exact W.iret (v := (-1)) hx hb hr (fun t ht hW => ⟨⟨(-1), [[(qm 3, .inl (kA 0, 4, .inl (fun _ => 0)))], [(a0, .inr (13, mF qm (va_up x0Mo 5 (nI (539 * (31 * j + 0)))) y0Mo))], [(qm 2, .inl (kA 0, 66836, .inl all0))]], rfl, rfl, by rw [ht]; exact hP, va_K.moved hW.alike hK, hD⟩, hS.F ht⟩) hS.2.2 d_Mo_change_66
set_option maxRecDepth 100000 in
set_option maxHeartbeats 4000000 in
/-- change, a fresh house -/
theorem lf_change_4 {p : Program} {e : Env} {s : State} {m : MethodId} {below : List Frame} {meth : Method} {c : Code} (l : Launch) {b : Nat} {xs : Nat → Int32} (C0 : lw_At p s m meth c b 6 xs) {D : va_G} {kA : Nat → ClassId} (h : Nat) (h2 : Nat) (q : Nat → Nat) (qg : Nat → Nat) (qm : Nat → Nat) (g : Nat → Nat → Nat) (j : Nat) (v3 : Int32) (v4 : Int32) (hj : j < 4) (hp3 : ¬ v3 < 0) (hb3 : 1 ≤ v3) (hc3 : 0 < v3) (hv1 : xs 1 = nI j) (hv2 : xs 2 = 0) (hv3 : xs 3 = v3) (hv4 : xs 4 = v4) {H : Heap} {locs : List Loc} {ls : Array Slot} (hK : va_K D classes (TY kA) s) (hN : nst s) (hP : va_P D classes (cat [[(h, .inr (12, [.ref (q 0), .ref (q 1), .ref (q 2), .ref (q 3), .ref (q 4), .ref (q 5), .ref (q 6), .int 0, .int ((-1)), .ref (q 9), .ref (q 10), .int 0, .int 0, .ref (q 13), .int 0, .int 0, .null, .null, .null, .null, .null]))], [(q 0, .inl (kA 4, 4, .inr (.inr (.inr (.inr (rr (g 0)))))))], [(g 0 j, .inr (3, [.int 0, .int 0, .int 1, .ref (qg 3), .ref (qg 4), .ref (qg 5), .ref (qg 6), .ref (qg 7), .ref (qg 8), .ref (qg 9), .ref (qg 10), .ref (qg 11), .ref (qg 12), .ref (qg 13), .ref (qg 14), .ref (qg 15), .null, .int 0, .int 0]))], [(h2, .inr (13, mF qm x0Mo y0Mo))], [(qm 3, .inl (kA 0, 4, .inl (fun _ => 0)))], [(qm 2, .inl (kA 0, 66836, .inl all0))]]) H) (hD : va_D (fun q : Nat => s.heap.size ≤ q) (cat [[(h, .inr (12, [.ref (q 0), .ref (q 1), .ref (q 2), .ref (q 3), .ref (q 4), .ref (q 5), .ref (q 6), .int 0, .int ((-1)), .ref (q 9), .ref (q 10), .int 0, .int 0, .ref (q 13), .int 0, .int 0, .null, .null, .null, .null, .null]))], [(q 0, .inl (kA 4, 4, .inr (.inr (.inr (.inr (rr (g 0)))))))], [(g 0 j, .inr (3, [.int 0, .int 0, .int 1, .ref (qg 3), .ref (qg 4), .ref (qg 5), .ref (qg 6), .ref (qg 7), .ref (qg 8), .ref (qg 9), .ref (qg 10), .ref (qg 11), .ref (qg 12), .ref (qg 13), .ref (qg 14), .ref (qg 15), .null, .int 0, .int 0]))], [(h2, .inr (13, mF qm x0Mo y0Mo))], [(qm 3, .inl (kA 0, 4, .inl (fun _ => 0)))], [(qm 2, .inl (kA 0, 66836, .inl all0))]])) (hS : va_S (fun q : Nat => s.heap.size ≤ q) s.heap H locs) (hl : lv_has ls 4 [(3, .int 0), (2, .ref h2), (1, .ref h), (0, .ref b)]) : W p l e room_1 s m #[Value.ref b] below meth c H locs 368 365796 (lw_Z below #[Value.ref b] s) (F0 m 494 ls []) := by
  obtain ⟨hx, hb, hr, hml, hown, hts0, hX, hbl, hlocks, hgv⟩ := id C0
  have hts : ∀ w ∈ lw_g, w.before #[Value.ref b] s = true := fun w h => hts0 w (lw_gt h)
  have X : cx p s m #[Value.ref b] meth c b_law_law 4 ret "DrawingHouseLaw" meth.name := ⟨hx, hb, hml, hown, hts, hr, hlocks, rfl⟩
  obtain ⟨A, hAe⟩ : ∃ A : Nat → Prop, A = fun q : Nat => s.heap.size ≤ q := ⟨_, rfl⟩
  have hA : ∀ q : Nat, s.heap.size ≤ q → A q := fun q h => by rw [hAe]; exact h
  have hbA : ¬ A b := by rw [hAe]; exact Nat.not_le.mpr hbl
  rw [← hAe] at hD hS
  refine lv_aload_n (pc := 494) hx hb d_law_law_494 rfl (lv_at hl 2 rfl) ?_
  refine lv_aload_n (pc := 495) hx hb d_law_law_495 rfl (lv_at hl 3 rfl) ?_
  refine lv_iload_n (pc := 496) hx hb d_law_law_496 rfl (lv_at hl 0 rfl) ?_
  refine lv_iconst (pc := 497) (v := 1) hx hb d_law_law_497 (by decide) ?_
  refine lv_iadd (pc := 498) hx hb d_law_law_498 ?_
  refine k_cst (v := 1) (by decide) ?_
  refine va_sld (pc := 499) hx hb hX hbl hbA hS (by unfold vp_in; decide) d_law_law_499 ?_
  refine k_cst (v := nI j) hv1 ?_
  refine lv_aload_n (pc := 500) hx hb d_law_law_500 rfl (lv_at hl 3 rfl) ?_
  refine lv_iload_n (pc := 501) hx hb d_law_law_501 rfl (lv_at hl 0 rfl) ?_
  refine lv_iconst (pc := 502) (v := 2) hx hb d_law_law_502 (by decide) ?_
  refine lv_iadd (pc := 503) hx hb d_law_law_503 ?_
  refine k_cst (v := 2) (by decide) ?_
  refine va_sld (pc := 504) hx hb hX hbl hbA hS (by unfold vp_in; decide) d_law_law_504 ?_
  refine k_cst (v := 0) hv2 ?_
  refine lv_aload_n (pc := 505) hx hb d_law_law_505 rfl (lv_at hl 3 rfl) ?_
  refine lv_iload_n (pc := 506) hx hb d_law_law_506 rfl (lv_at hl 0 rfl) ?_
  refine lv_iconst (pc := 507) (v := 3) hx hb d_law_law_507 (by decide) ?_
  refine lv_iadd (pc := 508) hx hb d_law_law_508 ?_
  refine k_cst (v := 3) (by decide) ?_
  refine va_sld (pc := 509) hx hb hX hbl hbA hS (by unfold vp_in; decide) d_law_law_509 ?_
  refine k_cst (v := v3) hv3 ?_
  refine lv_aload_n (pc := 510) hx hb d_law_law_510 rfl (lv_at hl 3 rfl) ?_
  refine lv_iload_n (pc := 511) hx hb d_law_law_511 rfl (lv_at hl 0 rfl) ?_
  refine lv_iconst (pc := 512) (v := 4) hx hb d_law_law_512 (by decide) ?_
  refine lv_iadd (pc := 513) hx hb d_law_law_513 ?_
  refine k_cst (v := 4) (by decide) ?_
  refine va_sld (pc := 514) hx hb hX hbl hbA hS (by unfold vp_in; decide) d_law_law_514 ?_
  refine k_cst (v := v4) hv4 ?_
  refine k_goI (gr := [[(h2, .inr (13, mF qm x0Mo y0Mo))], [(qm 3, .inl (kA 0, 4, .inl (fun _ => 0)))], [(qm 2, .inl (kA 0, 66836, .inl all0))]]) (k_rV (pc := 515) (As := [.int (nI j), .int 0, .int v3, .int v4]) (rest := []) X (c_Ho_change_z4 l D kA h j v3 v4 (q 0) (q 1) (q 2) (q 3) (q 4) (q 5) (q 6) (q 9) (q 10) (q 13) g (qg 3) (qg 4) (qg 5) (qg 6) (qg 7) (qg 8) (qg 9) (qg 10) (qg 11) (qg 12) (qg 13) (qg 14) (qg 15) hj hp3 hb3 hc3 H.size) rfl wm_954 wm_1 wm_951 wm_952 wm_953 4 (by decide +kernel) ⟨Nat.le_of_ble_eq_true rfl, Nat.le_of_ble_eq_true rfl⟩ rfl rfl (va_recv hK hP (ci := 12) (q0 := 0) rfl rfl) (k_pre hN hK hP hD [0, 1, 2] [3, 4, 5] 6 rfl (by decide) rfl) rfl hl.1 rfl (Nat.le_of_ble_eq_true rfl) d_law_law_515 ⟨Nat.le_of_ble_eq_true rfl, Nat.le_of_ble_eq_true rfl⟩) hP hD hS hA [0, 1, 2] [3, 4, 5] 6 rfl (by decide) rfl rfl (fun r1 u2 H locs hu2 hP hD hS => ?_)
  obtain ⟨hP, hD⟩ := k_left hP hD
  subst hu2
  have hP : va_P D classes (cat [[(h2, .inr (13, mF qm x0Mo y0Mo))], [(qm 3, .inl (kA 0, 4, .inl (fun _ => 0)))], [(qm 2, .inl (kA 0, 66836, .inl all0))]]) H := hP
  have hD : va_D A (cat [[(h2, .inr (13, mF qm x0Mo y0Mo))], [(qm 3, .inl (kA 0, 4, .inl (fun _ => 0)))], [(qm 2, .inl (kA 0, 66836, .inl all0))]]) := hD
  refine lv_aload_n (pc := 518) hx hb d_law_law_518 rfl (lv_at hl 1 rfl) ?_
  refine lv_aload_n (pc := 519) hx hb d_law_law_519 rfl (lv_at hl 3 rfl) ?_
  refine lv_iload_n (pc := 520) hx hb d_law_law_520 rfl (lv_at hl 0 rfl) ?_
  refine lv_iconst (pc := 521) (v := 1) hx hb d_law_law_521 (by decide) ?_
  refine lv_iadd (pc := 522) hx hb d_law_law_522 ?_
  refine k_cst (v := 1) (by decide) ?_
  refine va_sld (pc := 523) hx hb hX hbl hbA hS (by unfold vp_in; decide) d_law_law_523 ?_
  refine k_cst (v := nI j) hv1 ?_
  refine lv_aload_n (pc := 524) hx hb d_law_law_524 rfl (lv_at hl 3 rfl) ?_
  refine lv_iload_n (pc := 525) hx hb d_law_law_525 rfl (lv_at hl 0 rfl) ?_
  refine lv_iconst (pc := 526) (v := 2) hx hb d_law_law_526 (by decide) ?_
  refine lv_iadd (pc := 527) hx hb d_law_law_527 ?_
  refine k_cst (v := 2) (by decide) ?_
  refine va_sld (pc := 528) hx hb hX hbl hbA hS (by unfold vp_in; decide) d_law_law_528 ?_
  refine k_cst (v := 0) hv2 ?_
  refine lv_aload_n (pc := 529) hx hb d_law_law_529 rfl (lv_at hl 3 rfl) ?_
  refine lv_iload_n (pc := 530) hx hb d_law_law_530 rfl (lv_at hl 0 rfl) ?_
  refine lv_iconst (pc := 531) (v := 3) hx hb d_law_law_531 (by decide) ?_
  refine lv_iadd (pc := 532) hx hb d_law_law_532 ?_
  refine k_cst (v := 3) (by decide) ?_
  refine va_sld (pc := 533) hx hb hX hbl hbA hS (by unfold vp_in; decide) d_law_law_533 ?_
  refine k_cst (v := v3) hv3 ?_
  refine lv_aload_n (pc := 534) hx hb d_law_law_534 rfl (lv_at hl 3 rfl) ?_
  refine lv_iload_n (pc := 535) hx hb d_law_law_535 rfl (lv_at hl 0 rfl) ?_
  refine lv_iconst (pc := 536) (v := 4) hx hb d_law_law_536 (by decide) ?_
  refine lv_iadd (pc := 537) hx hb d_law_law_537 ?_
  refine k_cst (v := 4) (by decide) ?_
  refine va_sld (pc := 538) hx hb hX hbl hbA hS (by unfold vp_in; decide) d_law_law_538 ?_
  refine k_cst (v := v4) hv4 ?_
  refine k_goI (gr := []) (k_rV (pc := 539) (As := [.int (nI j), .int 0, .int v3, .int v4]) (rest := [.int ((-1))]) X (c_Mo_change_z4 l D kA h2 j v3 v4 qm hj hp3 hb3 hc3 H.size) rfl wm_3087 wm_9 wm_3084 wm_3085 wm_3086 4 (by decide +kernel) ⟨Nat.le_of_ble_eq_true rfl, Nat.le_of_ble_eq_true rfl⟩ rfl rfl (va_recv hK hP (ci := 13) (q0 := 0) rfl rfl) (k_pre hN hK hP hD [0, 1, 2] [] 3 rfl (by decide) rfl) rfl hl.1 rfl (Nat.le_of_ble_eq_true rfl) d_law_law_539 ⟨Nat.le_of_ble_eq_true rfl, Nat.le_of_ble_eq_true rfl⟩) hP hD hS hA [0, 1, 2] [] 3 rfl (by decide) rfl rfl (fun r3 u4 H locs hu4 hP hD hS => ?_)
  obtain ⟨hP, hD⟩ := k_left hP hD
  subst hu4
  have hP : va_P D classes (cat []) H := hP
  have hD : va_D A (cat []) := hD
  refine lv_icmp_eq (pc := 542) (tgt := 1295) hx hb d_law_law_542 (by decide) (fun _ => ?_) (fun c1 => absurd (by decide) c1)
  rw [hAe] at hS
  exact law_exit l C0 (Nat.le_of_ble_eq_true rfl) (Nat.le_of_ble_eq_true rfl) hS hl
set_option maxRecDepth 100000 in
set_option maxHeartbeats 4000000 in
/-- DrawingHouse$Graph.nextName([B)I -/
theorem c_Gr_nextName_z1 (l : Launch) (D : va_G) (kA : Nat → ClassId) (g : Nat → Nat → Nat) (j : Nat) (a0 : Nat) (f0 : Nat → Int32) (a1 : Nat) (a2 : Nat) (a3 : Nat) (a4 : Nat) (a5 : Nat) (a6 : Nat) (a7 : Nat) (a8 : Nat) (a9 : Nat) (a10 : Nat) (a11 : Nat) (a12 : Nat) (a13 : Nat) (hj : j < 4) : Ci l y_Gr_nextName z_Gr_nextName { frames := 0, cells := 0, slots := 0, locals := 0 } D classes (TY kA) [.ref (g 0 j), .ref a0] [[(a0, .inl (kA 1, 3, .inl f0))], [(g 0 j, .inr (3, [.int 0, .int 0, .int 1, .ref a1, .ref a2, .ref a3, .ref a4, .ref a5, .ref a6, .ref a7, .ref a8, .ref a9, .ref a10, .ref a11, .ref a12, .ref a13, .null, .int 0, .int 0]))]] (fun r (_ : Unit) => r = 2) (fun u => [[(a0, .inl (kA 1, 3, .inl (upd (upd f0 0 (vp_nar .byte 110)) 1 (vp_nar .byte 48))))], [(g 0 j, .inr (3, [.int 0, .int 0, .int 1, .ref a1, .ref a2, .ref a3, .ref a4, .ref a5, .ref a6, .ref a7, .ref a8, .ref a9, .ref a10, .ref a11, .ref a12, .ref a13, .null, .int 0, .int 0]))]]) 0 0 := by
  intro sz
  refine k_met (cc := b_Gr_nextName) (maxL := 2) (ret := (some .int)) (by decide) rfl (Nat.le_of_ble_eq_true rfl) (fun p e s m below meth c ls X hl hB => ?_)
  obtain ⟨hsz, hP, hK, hD0, hN⟩ := hB
  subst hsz
  have hD := hD0.self (sz := s.heap.size)
  generalize hAe : va_A (cat [[(a0, .inl (kA 1, 3, .inl f0))], [(g 0 j, .inr (3, [.int 0, .int 0, .int 1, .ref a1, .ref a2, .ref a3, .ref a4, .ref a5, .ref a6, .ref a7, .ref a8, .ref a9, .ref a10, .ref a11, .ref a12, .ref a13, .null, .int 0, .int 0]))]]) s.heap.size = A at hD ⊢
  have hA : ∀ q : Nat, s.heap.size ≤ q → A q := fun q h => by rw [← hAe]; exact Or.inr h
  have hS : va_S A s.heap s.heap [] := va_S.rf
  obtain ⟨hx, hb, hml, hown, hts, hr, hlk, hnm⟩ := id X
  have hl : lv_has ls 2 [(0, .ref (g 0 j)), (1, .ref a0)] := hl
  have hP : va_P D classes (cat [[(a0, .inl (kA 1, 3, .inl f0))], [(g 0 j, .inr (3, [.int 0, .int 0, .int 1, .ref a1, .ref a2, .ref a3, .ref a4, .ref a5, .ref a6, .ref a7, .ref a8, .ref a9, .ref a10, .ref a11, .ref a12, .ref a13, .null, .int 0, .int 0]))]]) s.heap := hP
  have hK : va_K D classes (TY kA) s := hK
  refine lv_aload_n (pc := 0) hx hb d_Gr_nextName_0 rfl (lv_at hl 1 rfl) ?_
  refine lv_iconst (pc := 1) (v := 0) hx hb d_Gr_nextName_1 (by decide) ?_
  refine lv_bipush (pc := 2) (v := 110) hx hb d_Gr_nextName_2 (by decide) ?_
  refine k_bst (pc := 4) hx hb hK hP hD hS 0 1 rfl rfl (0) rfl (by decide) (by decide) d_Gr_nextName_4 (fun H locs hP hD hS => ?_)
  have hP : va_P D classes (cat [[(a0, .inl (kA 1, 3, .inl (upd f0 0 (vp_nar .byte 110))))], [(g 0 j, .inr (3, [.int 0, .int 0, .int 1, .ref a1, .ref a2, .ref a3, .ref a4, .ref a5, .ref a6, .ref a7, .ref a8, .ref a9, .ref a10, .ref a11, .ref a12, .ref a13, .null, .int 0, .int 0]))]]) H := hP
  have hD : va_D A (cat [[(a0, .inl (kA 1, 3, .inl (upd f0 0 (vp_nar .byte 110))))], [(g 0 j, .inr (3, [.int 0, .int 0, .int 1, .ref a1, .ref a2, .ref a3, .ref a4, .ref a5, .ref a6, .ref a7, .ref a8, .ref a9, .ref a10, .ref a11, .ref a12, .ref a13, .null, .int 0, .int 0]))]]) := hD
  refine lv_aload_n (pc := 5) hx hb d_Gr_nextName_5 rfl (lv_at hl 0 rfl) ?_
  refine k_get (pc := 6) X hK hP 1 rfl rfl i_Gr 0 (by decide) wm_56 rfl rfl d_Gr_nextName_6 ?_
  refine lv_bipush (pc := 9) (v := 10) hx hb d_Gr_nextName_9 (by decide) ?_
  refine lv_icmp_ge (pc := 11) (tgt := 27) hx hb d_Gr_nextName_11 (by decide) (fun c1 => absurd c1 (by decide)) (fun _ => ?_)
  refine lv_aload_n (pc := 14) hx hb d_Gr_nextName_14 rfl (lv_at hl 1 rfl) ?_
  refine lv_iconst (pc := 15) (v := 1) hx hb d_Gr_nextName_15 (by decide) ?_
  refine lv_bipush (pc := 16) (v := 48) hx hb d_Gr_nextName_16 (by decide) ?_
  refine lv_aload_n (pc := 18) hx hb d_Gr_nextName_18 rfl (lv_at hl 0 rfl) ?_
  refine k_get (pc := 19) X hK hP 1 rfl rfl i_Gr 0 (by decide) wm_56 rfl rfl d_Gr_nextName_19 ?_
  refine lv_iadd (pc := 22) hx hb d_Gr_nextName_22 ?_
  refine k_cst (v := 48) (by decide) ?_
  refine lv_i2b (pc := 23) (v := 48) hx hb d_Gr_nextName_23 (by decide) ?_
  refine k_bst (pc := 24) hx hb hK hP hD hS 0 1 rfl rfl (1) rfl (by decide) (by decide) d_Gr_nextName_24 (fun H locs hP hD hS => ?_)
  have hP : va_P D classes (cat [[(a0, .inl (kA 1, 3, .inl (upd (upd f0 0 (vp_nar .byte 110)) 1 (vp_nar .byte 48))))], [(g 0 j, .inr (3, [.int 0, .int 0, .int 1, .ref a1, .ref a2, .ref a3, .ref a4, .ref a5, .ref a6, .ref a7, .ref a8, .ref a9, .ref a10, .ref a11, .ref a12, .ref a13, .null, .int 0, .int 0]))]]) H := hP
  have hD : va_D A (cat [[(a0, .inl (kA 1, 3, .inl (upd (upd f0 0 (vp_nar .byte 110)) 1 (vp_nar .byte 48))))], [(g 0 j, .inr (3, [.int 0, .int 0, .int 1, .ref a1, .ref a2, .ref a3, .ref a4, .ref a5, .ref a6, .ref a7, .ref a8, .ref a9, .ref a10, .ref a11, .ref a12, .ref a13, .null, .int 0, .int 0]))]]) := hD
  refine lv_iconst (pc := 25) (v := 2) hx hb d_Gr_nextName_25 (by decide) ?_
  refine W.widen (k := 0) (n := 0) (Nat.le_of_ble_eq_true rfl) (Nat.le_of_ble_eq_true rfl) ?_
  exact W.iret (v := 2) hx hb hr (fun t ht hW => ⟨⟨2, (), rfl, rfl, by rw [ht]; exact hP, va_K.moved hW.alike hK, hD⟩, hS.F ht⟩) hS.2.2 d_Gr_nextName_26
set_option maxRecDepth 100000 in
set_option maxHeartbeats 4000000 in
/-- DrawingHouse$Graph.findNode([BII)I -/
theorem c_Gr_findNode_z1 (l : Launch) (D : va_G) (kA : Nat → ClassId) (g : Nat → Nat → Nat) (j : Nat) (a0 : Nat) (a1 : Nat) (a2 : Nat) (a3 : Nat) (a4 : Nat) (a5 : Nat) (a6 : Nat) (a7 : Nat) (a8 : Nat) (a9 : Nat) (a10 : Nat) (a11 : Nat) (a12 : Nat) (a13 : Nat) (hj : j < 4) : Ci l y_Gr_findNode z_Gr_findNode { frames := 0, cells := 0, slots := 0, locals := 0 } D classes (TY kA) [.ref (g 0 j), .ref a0, .int 0, .int 2] [[(g 0 j, .inr (3, [.int 0, .int 0, .int 1, .ref a1, .ref a2, .ref a3, .ref a4, .ref a5, .ref a6, .ref a7, .ref a8, .ref a9, .ref a10, .ref a11, .ref a12, .ref a13, .null, .int 0, .int 0]))]] (fun r (_ : Unit) => r = (-1)) (fun u => [[(g 0 j, .inr (3, [.int 0, .int 0, .int 1, .ref a1, .ref a2, .ref a3, .ref a4, .ref a5, .ref a6, .ref a7, .ref a8, .ref a9, .ref a10, .ref a11, .ref a12, .ref a13, .null, .int 0, .int 0]))]]) 0 0 := by
  intro sz
  refine k_met (cc := b_Gr_findNode) (maxL := 5) (ret := (some .int)) (by decide) rfl (Nat.le_of_ble_eq_true rfl) (fun p e s m below meth c ls X hl hB => ?_)
  obtain ⟨hsz, hP, hK, hD0, hN⟩ := hB
  subst hsz
  have hD := hD0.self (sz := s.heap.size)
  generalize hAe : va_A (cat [[(g 0 j, .inr (3, [.int 0, .int 0, .int 1, .ref a1, .ref a2, .ref a3, .ref a4, .ref a5, .ref a6, .ref a7, .ref a8, .ref a9, .ref a10, .ref a11, .ref a12, .ref a13, .null, .int 0, .int 0]))]]) s.heap.size = A at hD ⊢
  have hA : ∀ q : Nat, s.heap.size ≤ q → A q := fun q h => by rw [← hAe]; exact Or.inr h
  have hS : va_S A s.heap s.heap [] := va_S.rf
  obtain ⟨hx, hb, hml, hown, hts, hr, hlk, hnm⟩ := id X
  have hl : lv_has ls 5 [(0, .ref (g 0 j)), (1, .ref a0), (2, .int 0), (3, .int 2)] := hl
  have hP : va_P D classes (cat [[(g 0 j, .inr (3, [.int 0, .int 0, .int 1, .ref a1, .ref a2, .ref a3, .ref a4, .ref a5, .ref a6, .ref a7, .ref a8, .ref a9, .ref a10, .ref a11, .ref a12, .ref a13, .null, .int 0, .int 0]))]]) s.heap := hP
  have hK : va_K D classes (TY kA) s := hK
  refine lv_iconst (pc := 0) (v := 0) hx hb d_Gr_findNode_0 (by decide) ?_
  refine lv_istore (pc := 1) (lv' := [(4, .int 0), (0, .ref (g 0 j)), (1, .ref a0), (2, .int 0), (3, .int 2)]) hx hb d_Gr_findNode_1 hl (by decide) rfl (fun ls hl => ?_)
  refine lv_iload (pc := 3) hx hb d_Gr_findNode_3 (lv_at hl 0 rfl) ?_
  refine lv_aload_n (pc := 5) hx hb d_Gr_findNode_5 rfl (lv_at hl 1 rfl) ?_
  refine k_get (pc := 6) X hK hP 0 rfl rfl i_Gr 0 (by decide) wm_56 rfl rfl d_Gr_findNode_6 ?_
  refine lv_icmp_ge (pc := 9) (tgt := 43) hx hb d_Gr_findNode_9 (by decide) (fun _ => ?_) (fun c1 => absurd (by decide) c1)
  refine lv_iconst (pc := 43) (v := -1) hx hb d_Gr_findNode_43 (by decide) ?_
  refine W.widen (k := 0) (n := 0) (Nat.le_of_ble_eq_true rfl) (Nat.le_of_ble_eq_true rfl) ?_
  exact W.iret (v := (-1)) hx hb hr (fun t ht hW => ⟨⟨(-1), (), rfl, rfl, by rw [ht]; exact hP, va_K.moved hW.alike hK, hD⟩, hS.F ht⟩) hS.2.2 d_Gr_findNode_44
set_option maxRecDepth 100000 in
set_option maxHeartbeats 4000000 in
/-- DrawingHouse$Graph.hasNextName()Z -/
theorem c_Gr_hasNextName_z1 (l : Launch) (D : va_G) (kA : Nat → ClassId) (g : Nat → Nat → Nat) (j : Nat) (a0 : Nat) (a1 : Nat) (a2 : Nat) (a3 : Nat) (a4 : Nat) (a5 : Nat) (a6 : Nat) (a7 : Nat) (a8 : Nat) (a9 : Nat) (a10 : Nat) (a11 : Nat) (a12 : Nat) (hj : j < 4) : Ci l y_Gr_hasNextName z_Gr_hasNextName { frames := 1, cells := 1, slots := 3, locals := 24 } D classes (TY kA) [.ref (g 0 j)] [[(g 0 j, .inr (3, [.int 0, .int 0, .int 1, .ref a0, .ref a1, .ref a2, .ref a3, .ref a4, .ref a5, .ref a6, .ref a7, .ref a8, .ref a9, .ref a10, .ref a11, .ref a12, .null, .int 0, .int 0]))]] (fun r (_ : Nat → Nat) => r = 0) (fun u => [[(g 0 j, .inr (3, [.int 0, .int 0, .int 1, .ref a0, .ref a1, .ref a2, .ref a3, .ref a4, .ref a5, .ref a6, .ref a7, .ref a8, .ref a9, .ref a10, .ref a11, .ref a12, .null, .int 0, .int 0]))], [((u 0), .inl (kA 1, 3, .inl (upd (upd (fun _ => 0) 0 (vp_nar .byte 110)) 1 (vp_nar .byte 48))))]]) 1 3 := by
  intro sz
  refine k_met (cc := b_Gr_hasNextName) (maxL := 3) (ret := (some .boolean)) (by decide) rfl (Nat.le_of_ble_eq_true rfl) (fun p e s m below meth c ls X hl hB => ?_)
  obtain ⟨hsz, hP, hK, hD0, hN⟩ := hB
  subst hsz
  have hD := hD0.self (sz := s.heap.size)
  generalize hAe : va_A (cat [[(g 0 j, .inr (3, [.int 0, .int 0, .int 1, .ref a0, .ref a1, .ref a2, .ref a3, .ref a4, .ref a5, .ref a6, .ref a7, .ref a8, .ref a9, .ref a10, .ref a11, .ref a12, .null, .int 0, .int 0]))]]) s.heap.size = A at hD ⊢
  have hA : ∀ q : Nat, s.heap.size ≤ q → A q := fun q h => by rw [← hAe]; exact Or.inr h
  have hS : va_S A s.heap s.heap [] := va_S.rf
  obtain ⟨hx, hb, hml, hown, hts, hr, hlk, hnm⟩ := id X
  have hl : lv_has ls 3 [(0, .ref (g 0 j))] := hl
  have hP : va_P D classes (cat [[(g 0 j, .inr (3, [.int 0, .int 0, .int 1, .ref a0, .ref a1, .ref a2, .ref a3, .ref a4, .ref a5, .ref a6, .ref a7, .ref a8, .ref a9, .ref a10, .ref a11, .ref a12, .null, .int 0, .int 0]))]]) s.heap := hP
  have hK : va_K D classes (TY kA) s := hK
  refine lv_iconst (pc := 0) (v := 3) hx hb d_Gr_hasNextName_0 (by decide) ?_
  refine k_newa (pc := 1) (atype := .byte) X (ty := .byte) (a0 := (3, .inl (fun _ => 0))) rfl rfl wm_192 hK hP hD hS hA 1 rfl (fun _ => rfl) (by decide) rfl (by decide) (Nat.le_of_ble_eq_true rfl) (Nat.le_of_ble_eq_true rfl) d_Gr_hasNextName_1 (fun q1 H hP hD hS => ?_)
  have hP : va_P D classes (cat [[(g 0 j, .inr (3, [.int 0, .int 0, .int 1, .ref a0, .ref a1, .ref a2, .ref a3, .ref a4, .ref a5, .ref a6, .ref a7, .ref a8, .ref a9, .ref a10, .ref a11, .ref a12, .null, .int 0, .int 0]))], [(q1, .inl (kA 1, 3, .inl (fun _ => 0)))]]) H := hP
  have hD : va_D A (cat [[(g 0 j, .inr (3, [.int 0, .int 0, .int 1, .ref a0, .ref a1, .ref a2, .ref a3, .ref a4, .ref a5, .ref a6, .ref a7, .ref a8, .ref a9, .ref a10, .ref a11, .ref a12, .null, .int 0, .int 0]))], [(q1, .inl (kA 1, 3, .inl (fun _ => 0)))]]) := hD
  refine W.widen (k := 1) (n := 3) (by omega) (by omega) ?_
  refine lv_astore_n (pc := 3) (lv' := [(1, .ref q1), (0, .ref (g 0 j))]) hx hb d_Gr_hasNextName_3 rfl hl (by decide) rfl (fun ls hl => ?_)
  refine lv_aload_n (pc := 4) hx hb d_Gr_hasNextName_4 rfl (lv_at hl 1 rfl) ?_
  refine lv_aload_n (pc := 5) hx hb d_Gr_hasNextName_5 rfl (lv_at hl 0 rfl) ?_
  refine k_goI (gr := []) (k_rV (pc := 6) (As := [.ref q1]) (rest := []) X (c_Gr_nextName_z1 l D kA g j q1 (fun _ => 0) a0 a1 a2 a3 a4 a5 a6 a7 a8 a9 a10 a11 a12 hj H.size) rfl wm_967 wm_3 wm_964 wm_966 wv_2_13 1 (by decide +kernel) ⟨Nat.le_of_ble_eq_true rfl, Nat.le_of_ble_eq_true rfl⟩ rfl rfl (va_recv hK hP (ci := 3) (q0 := 0) rfl rfl) (k_pre hN hK hP hD [1, 0] [] 2 rfl (by decide) rfl) rfl hl.1 rfl (Nat.le_of_ble_eq_true rfl) d_Gr_hasNextName_6 ⟨Nat.le_of_ble_eq_true rfl, Nat.le_of_ble_eq_true rfl⟩) hP hD hS hA [1, 0] [] 2 rfl (by decide) rfl rfl (fun r2 u3 H locs hu3 hP hD hS => ?_)
  subst hu3
  have hP : va_P D classes (cat [[(q1, .inl (kA 1, 3, .inl (upd (upd (fun _ => 0) 0 (vp_nar .byte 110)) 1 (vp_nar .byte 48))))], [(g 0 j, .inr (3, [.int 0, .int 0, .int 1, .ref a0, .ref a1, .ref a2, .ref a3, .ref a4, .ref a5, .ref a6, .ref a7, .ref a8, .ref a9, .ref a10, .ref a11, .ref a12, .null, .int 0, .int 0]))]]) H := hP
  have hD : va_D A (cat [[(q1, .inl (kA 1, 3, .inl (upd (upd (fun _ => 0) 0 (vp_nar .byte 110)) 1 (vp_nar .byte 48))))], [(g 0 j, .inr (3, [.int 0, .int 0, .int 1, .ref a0, .ref a1, .ref a2, .ref a3, .ref a4, .ref a5, .ref a6, .ref a7, .ref a8, .ref a9, .ref a10, .ref a11, .ref a12, .null, .int 0, .int 0]))]]) := hD
  refine lv_istore_n (pc := 9) (lv' := [(2, .int 2), (1, .ref q1), (0, .ref (g 0 j))]) hx hb d_Gr_hasNextName_9 rfl hl (by decide) rfl (fun ls hl => ?_)
  refine lv_aload_n (pc := 10) hx hb d_Gr_hasNextName_10 rfl (lv_at hl 2 rfl) ?_
  refine lv_aload_n (pc := 11) hx hb d_Gr_hasNextName_11 rfl (lv_at hl 1 rfl) ?_
  refine lv_iconst (pc := 12) (v := 0) hx hb d_Gr_hasNextName_12 (by decide) ?_
  refine lv_iload_n (pc := 13) hx hb d_Gr_hasNextName_13 rfl (lv_at hl 0 rfl) ?_
  refine k_goI (gr := [[(q1, .inl (kA 1, 3, .inl (upd (upd (fun _ => 0) 0 (vp_nar .byte 110)) 1 (vp_nar .byte 48))))]]) (k_rV (pc := 14) (As := [.ref q1, .int 0, .int 2]) (rest := []) X (c_Gr_findNode_z1 l D kA g j q1 a0 a1 a2 a3 a4 a5 a6 a7 a8 a9 a10 a11 a12 hj H.size) rfl wm_739 wm_3 wm_968 wm_737 wm_738 3 (by decide +kernel) ⟨Nat.le_of_ble_eq_true rfl, Nat.le_of_ble_eq_true rfl⟩ rfl rfl (va_recv hK hP (ci := 3) (q0 := 1) rfl rfl) (k_pre hN hK hP hD [1] [0] 2 rfl (by decide) rfl) rfl hl.1 rfl (Nat.le_of_ble_eq_true rfl) d_Gr_hasNextName_14 ⟨Nat.le_of_ble_eq_true rfl, Nat.le_of_ble_eq_true rfl⟩) hP hD hS hA [1] [0] 2 rfl (by decide) rfl rfl (fun r4 u5 H locs hu5 hP hD hS => ?_)
  subst hu5
  have hP : va_P D classes (cat [[(q1, .inl (kA 1, 3, .inl (upd (upd (fun _ => 0) 0 (vp_nar .byte 110)) 1 (vp_nar .byte 48))))], [(g 0 j, .inr (3, [.int 0, .int 0, .int 1, .ref a0, .ref a1, .ref a2, .ref a3, .ref a4, .ref a5, .ref a6, .ref a7, .ref a8, .ref a9, .ref a10, .ref a11, .ref a12, .null, .int 0, .int 0]))]]) H := hP
  have hD : va_D A (cat [[(q1, .inl (kA 1, 3, .inl (upd (upd (fun _ => 0) 0 (vp_nar .byte 110)) 1 (vp_nar .byte 48))))], [(g 0 j, .inr (3, [.int 0, .int 0, .int 1, .ref a0, .ref a1, .ref a2, .ref a3, .ref a4, .ref a5, .ref a6, .ref a7, .ref a8, .ref a9, .ref a10, .ref a11, .ref a12, .null, .int 0, .int 0]))]]) := hD
  refine lv_iconst (pc := 17) (v := -1) hx hb d_Gr_hasNextName_17 (by decide) ?_
  refine lv_icmp_eq (pc := 18) (tgt := 25) hx hb d_Gr_hasNextName_18 (by decide) (fun _ => ?_) (fun c1 => absurd (by decide) c1)
  refine lv_iconst (pc := 25) (v := 0) hx hb d_Gr_hasNextName_25 (by decide) ?_
  obtain ⟨hP, hD⟩ := k_ord (gc := [[(g 0 j, .inr (3, [.int 0, .int 0, .int 1, .ref a0, .ref a1, .ref a2, .ref a3, .ref a4, .ref a5, .ref a6, .ref a7, .ref a8, .ref a9, .ref a10, .ref a11, .ref a12, .null, .int 0, .int 0]))], [(q1, .inl (kA 1, 3, .inl (upd (upd (fun _ => 0) 0 (vp_nar .byte 110)) 1 (vp_nar .byte 48))))]]) hP hD [1, 0] 2 rfl (by decide) rfl
  refine W.widen (k := 1) (n := 3) (Nat.le_of_ble_eq_true rfl) (Nat.le_of_ble_eq_true rfl) ?_
  exact W.zret (v := 0) hx hb hr rfl (fun t ht hW => ⟨⟨0, (fun k => match k with | 0 => q1 | _ => 0), rfl, rfl, by rw [ht]; exact hP, va_K.moved hW.alike hK, hD⟩, hS.F ht⟩) hS.2.2 d_Gr_hasNextName_26
set_option maxRecDepth 100000 in
set_option maxHeartbeats 4000000 in
/-- DrawingHouse$Graph.mayAlter(III)Z -/
theorem c_Gr_mayAlter_z4 (l : Launch) (D : va_G) (kA : Nat → ClassId) (g : Nat → Nat → Nat) (j : Nat) (v4 : Int32) (a0 : Nat) (a1 : Nat) (a2 : Nat) (a3 : Nat) (a4 : Nat) (a5 : Nat) (a6 : Nat) (a7 : Nat) (a8 : Nat) (a9 : Nat) (a10 : Nat) (a11 : Nat) (a12 : Nat) (hj : j < 4) : Ci l y_Gr_mayAlter z_Gr_mayAlter { frames := 2, cells := 1, slots := 3, locals := 46 } D classes (TY kA) [.ref (g 0 j), .int 0, .int 0, .int v4] [[(g 0 j, .inr (3, [.int 0, .int 0, .int 1, .ref a0, .ref a1, .ref a2, .ref a3, .ref a4, .ref a5, .ref a6, .ref a7, .ref a8, .ref a9, .ref a10, .ref a11, .ref a12, .null, .int 0, .int 0]))]] (fun r (_ : Nat → Nat) => r = 1) (fun u => [[(g 0 j, .inr (3, [.int 0, .int 0, .int 1, .ref a0, .ref a1, .ref a2, .ref a3, .ref a4, .ref a5, .ref a6, .ref a7, .ref a8, .ref a9, .ref a10, .ref a11, .ref a12, .null, .int 0, .int 0]))], [((u 0), .inl (kA 1, 3, .inl (upd (upd (fun _ => 0) 0 (vp_nar .byte 110)) 1 (vp_nar .byte 48))))]]) 1 3 := by
  intro sz
  refine k_met (cc := b_Gr_mayAlter) (maxL := 4) (ret := (some .boolean)) (by decide) rfl (Nat.le_of_ble_eq_true rfl) (fun p e s m below meth c ls X hl hB => ?_)
  obtain ⟨hsz, hP, hK, hD0, hN⟩ := hB
  subst hsz
  have hD := hD0.self (sz := s.heap.size)
  generalize hAe : va_A (cat [[(g 0 j, .inr (3, [.int 0, .int 0, .int 1, .ref a0, .ref a1, .ref a2, .ref a3, .ref a4, .ref a5, .ref a6, .ref a7, .ref a8, .ref a9, .ref a10, .ref a11, .ref a12, .null, .int 0, .int 0]))]]) s.heap.size = A at hD ⊢
  have hA : ∀ q : Nat, s.heap.size ≤ q → A q := fun q h => by rw [← hAe]; exact Or.inr h
  have hS : va_S A s.heap s.heap [] := va_S.rf
  obtain ⟨hx, hb, hml, hown, hts, hr, hlk, hnm⟩ := id X
  have hl : lv_has ls 4 [(0, .ref (g 0 j)), (1, .int 0), (2, .int 0), (3, .int v4)] := hl
  have hP : va_P D classes (cat [[(g 0 j, .inr (3, [.int 0, .int 0, .int 1, .ref a0, .ref a1, .ref a2, .ref a3, .ref a4, .ref a5, .ref a6, .ref a7, .ref a8, .ref a9, .ref a10, .ref a11, .ref a12, .null, .int 0, .int 0]))]]) s.heap := hP
  have hK : va_K D classes (TY kA) s := hK
  refine lv_iload_n (pc := 0) hx hb d_Gr_mayAlter_0 rfl (lv_at hl 1 rfl) ?_
  refine lv_tableIn (pc := 1) (tgt := 48) hx hb d_Gr_mayAlter_1 (by decide) (by decide) rfl (by decide) ?_
  refine lv_aload_n (pc := 48) hx hb d_Gr_mayAlter_48 rfl (lv_at hl 0 rfl) ?_
  refine lv_iload_n (pc := 49) hx hb d_Gr_mayAlter_49 rfl (lv_at hl 2 rfl) ?_
  refine k_goI (gr := []) (k_rV (pc := 50) (As := [.int 0]) (rest := []) X (c_Gr_hasGroup_z3 l D kA g j a0 a1 a2 a3 a4 a5 a6 a7 a8 a9 a10 a11 a12 hj s.heap.size) rfl wm_942 wm_3 wm_959 wm_940 wm_941 1 (by decide +kernel) ⟨Nat.le_of_ble_eq_true rfl, Nat.le_of_ble_eq_true rfl⟩ rfl rfl (va_recv hK hP (ci := 3) (q0 := 0) rfl rfl) (k_pre hN hK hP hD [0] [] 1 rfl (by decide) rfl) rfl hl.1 rfl (Nat.le_of_ble_eq_true rfl) d_Gr_mayAlter_50 ⟨Nat.le_of_ble_eq_true rfl, Nat.le_of_ble_eq_true rfl⟩) hP hD hS hA [0] [] 1 rfl (by decide) rfl rfl (fun r1 u2 H locs hu2 hP hD hS => ?_)
  subst hu2
  have hP : va_P D classes (cat [[(g 0 j, .inr (3, [.int 0, .int 0, .int 1, .ref a0, .ref a1, .ref a2, .ref a3, .ref a4, .ref a5, .ref a6, .ref a7, .ref a8, .ref a9, .ref a10, .ref a11, .ref a12, .null, .int 0, .int 0]))]]) H := hP
  have hD : va_D A (cat [[(g 0 j, .inr (3, [.int 0, .int 0, .int 1, .ref a0, .ref a1, .ref a2, .ref a3, .ref a4, .ref a5, .ref a6, .ref a7, .ref a8, .ref a9, .ref a10, .ref a11, .ref a12, .null, .int 0, .int 0]))]]) := hD
  refine lv_if_eq (pc := 53) (tgt := 76) hx hb d_Gr_mayAlter_53 (by decide) (fun c1 => absurd c1 (by decide)) (fun c1 => ?_)
  refine lv_aload_n (pc := 56) hx hb d_Gr_mayAlter_56 rfl (lv_at hl 0 rfl) ?_
  refine k_get (pc := 57) X hK hP 0 rfl rfl i_Gr 0 (by decide) wm_56 rfl rfl d_Gr_mayAlter_57 ?_
  refine lv_bipush (pc := 60) (v := 24) hx hb d_Gr_mayAlter_60 (by decide) ?_
  refine lv_icmp_ge (pc := 62) (tgt := 76) hx hb d_Gr_mayAlter_62 (by decide) (fun c1 => absurd c1 (by decide)) (fun _ => ?_)
  refine lv_aload_n (pc := 65) hx hb d_Gr_mayAlter_65 rfl (lv_at hl 0 rfl) ?_
  refine k_goI (gr := []) (k_rV (pc := 66) (As := []) (rest := []) X (c_Gr_hasNextName_z1 l D kA g j a0 a1 a2 a3 a4 a5 a6 a7 a8 a9 a10 a11 a12 hj H.size) rfl wm_963 wm_3 wm_960 wm_962 wv_2_12 0 (by decide +kernel) ⟨Nat.le_of_ble_eq_true rfl, Nat.le_of_ble_eq_true rfl⟩ rfl rfl (va_recv hK hP (ci := 3) (q0 := 0) rfl rfl) (k_pre hN hK hP hD [0] [] 1 rfl (by decide) rfl) rfl hl.1 rfl (Nat.le_of_ble_eq_true rfl) d_Gr_mayAlter_66 ⟨Nat.le_of_ble_eq_true rfl, Nat.le_of_ble_eq_true rfl⟩) hP hD hS hA [0] [] 1 rfl (by decide) rfl rfl (fun r3 u4 H locs hu4 hP hD hS => ?_)
  subst hu4
  have hP : va_P D classes (cat [[(g 0 j, .inr (3, [.int 0, .int 0, .int 1, .ref a0, .ref a1, .ref a2, .ref a3, .ref a4, .ref a5, .ref a6, .ref a7, .ref a8, .ref a9, .ref a10, .ref a11, .ref a12, .null, .int 0, .int 0]))], [(u4 0, .inl (kA 1, 3, .inl (upd (upd (fun _ => 0) 0 (vp_nar .byte 110)) 1 (vp_nar .byte 48))))]]) H := hP
  have hD : va_D A (cat [[(g 0 j, .inr (3, [.int 0, .int 0, .int 1, .ref a0, .ref a1, .ref a2, .ref a3, .ref a4, .ref a5, .ref a6, .ref a7, .ref a8, .ref a9, .ref a10, .ref a11, .ref a12, .null, .int 0, .int 0]))], [(u4 0, .inl (kA 1, 3, .inl (upd (upd (fun _ => 0) 0 (vp_nar .byte 110)) 1 (vp_nar .byte 48))))]]) := hD
  refine W.widen (k := 1) (n := 3) (by omega) (by omega) ?_
  refine lv_if_ne (pc := 69) (tgt := 76) hx hb d_Gr_mayAlter_69 (by decide) (fun c1 => absurd (by decide) c1) (fun c1 => ?_)
  refine lv_iconst (pc := 72) (v := 1) hx hb d_Gr_mayAlter_72 (by decide) ?_
  refine lv_goto (pc := 73) (tgt := 77) hx hb d_Gr_mayAlter_73 (by decide) ?_
  refine W.widen (k := 1) (n := 3) (Nat.le_of_ble_eq_true rfl) (Nat.le_of_ble_eq_true rfl) ?_
  exact W.zret (v := 1) hx hb hr rfl (fun t ht hW => ⟨⟨1, (fun k => match k with | 0 => u4 0 | _ => 0), rfl, rfl, by rw [ht]; exact hP, va_K.moved hW.alike hK, hD⟩, hS.F ht⟩) hS.2.2 d_Gr_mayAlter_77
set_option maxRecDepth 100000 in
set_option maxHeartbeats 4000000 in
/-- DrawingHouse$Graph.pack(I)V -/
theorem c_Gr_pack_z1 (l : Launch) (D : va_G) (kA : Nat → ClassId) (g : Nat → Nat → Nat) (j : Nat) (a0 : Nat) (a1 : Nat) (a2 : Nat) (a3 : Nat) (a4 : Nat) (a5 : Nat) (a6 : Nat) (a7 : Nat) (a8 : Nat) (a9 : Nat) (a10 : Nat) (a11 : Nat) (a12 : Nat) (a13 : Nat) (f0 : Nat → Int32) (hj : j < 4) : Cv l y_Gr_pack z_Gr_pack { frames := 0, cells := 0, slots := 0, locals := 0 } D classes (TY kA) [.ref (g 0 j), .int 0] [[(g 0 j, .inr (3, [.int 0, .int 0, .int 1, .ref a0, .ref a1, .ref a2, .ref a3, .ref a4, .ref a5, .ref a6, .ref a7, .ref a8, .ref a9, .ref a10, .ref a11, .ref a12, .ref a13, .int 0, .int 0]))], [(a13, .inl (kA 0, 3782, .inl f0))]] (fun _ : Unit => True) (fun u => [[(g 0 j, .inr (3, [.int 0, .int 0, .int 1, .ref a0, .ref a1, .ref a2, .ref a3, .ref a4, .ref a5, .ref a6, .ref a7, .ref a8, .ref a9, .ref a10, .ref a11, .ref a12, .ref a13, .int 0, .int 0]))], [(a13, .inl (kA 0, 3782, .inl (upd (upd (f0) 0 0) 1 0)))]]) 0 0 := by
  intro sz
  refine k_met (cc := b_Gr_pack) (maxL := 4) (ret := none) (by decide) rfl (Nat.le_of_ble_eq_true rfl) (fun p e s m below meth c ls X hl hB => ?_)
  obtain ⟨hsz, hP, hK, hD0, hN⟩ := hB
  subst hsz
  have hD := hD0.self (sz := s.heap.size)
  generalize hAe : va_A (cat [[(g 0 j, .inr (3, [.int 0, .int 0, .int 1, .ref a0, .ref a1, .ref a2, .ref a3, .ref a4, .ref a5, .ref a6, .ref a7, .ref a8, .ref a9, .ref a10, .ref a11, .ref a12, .ref a13, .int 0, .int 0]))], [(a13, .inl (kA 0, 3782, .inl f0))]]) s.heap.size = A at hD ⊢
  have hA : ∀ q : Nat, s.heap.size ≤ q → A q := fun q h => by rw [← hAe]; exact Or.inr h
  have hS : va_S A s.heap s.heap [] := va_S.rf
  obtain ⟨hx, hb, hml, hown, hts, hr, hlk, hnm⟩ := id X
  have hl : lv_has ls 4 [(0, .ref (g 0 j)), (1, .int 0)] := hl
  have hP : va_P D classes (cat [[(g 0 j, .inr (3, [.int 0, .int 0, .int 1, .ref a0, .ref a1, .ref a2, .ref a3, .ref a4, .ref a5, .ref a6, .ref a7, .ref a8, .ref a9, .ref a10, .ref a11, .ref a12, .ref a13, .int 0, .int 0]))], [(a13, .inl (kA 0, 3782, .inl f0))]]) s.heap := hP
  have hK : va_K D classes (TY kA) s := hK
  refine lv_iload_n (pc := 0) hx hb d_Gr_pack_0 rfl (lv_at hl 1 rfl) ?_
  refine lv_bipush (pc := 1) (v := 122) hx hb d_Gr_pack_1 (by decide) ?_
  refine lv_imul (pc := 3) hx hb d_Gr_pack_3 ?_
  refine k_cst (v := 0) (by decide) ?_
  refine lv_istore_n (pc := 4) (lv' := [(2, .int 0), (0, .ref (g 0 j)), (1, .int 0)]) hx hb d_Gr_pack_4 rfl hl (by decide) rfl (fun ls hl => ?_)
  refine lv_aload_n (pc := 5) hx hb d_Gr_pack_5 rfl (lv_at hl 1 rfl) ?_
  refine k_get (pc := 6) X hK hP 0 rfl rfl i_Gr 16 (by decide) wm_148 rfl rfl d_Gr_pack_6 ?_
  refine lv_iload_n (pc := 9) hx hb d_Gr_pack_9 rfl (lv_at hl 0 rfl) ?_
  refine lv_aload_n (pc := 10) hx hb d_Gr_pack_10 rfl (lv_at hl 1 rfl) ?_
  refine k_get (pc := 11) X hK hP 0 rfl rfl i_Gr 0 (by decide) wm_56 rfl rfl d_Gr_pack_11 ?_
  refine va_iast (pc := 14) hx hb hK hP hD hS 1 0 rfl rfl (by unfold vp_in; decide) d_Gr_pack_14 (fun H locs hP hD hS => ?_)
  have hP : va_P D classes (cat [[(g 0 j, .inr (3, [.int 0, .int 0, .int 1, .ref a0, .ref a1, .ref a2, .ref a3, .ref a4, .ref a5, .ref a6, .ref a7, .ref a8, .ref a9, .ref a10, .ref a11, .ref a12, .ref a13, .int 0, .int 0]))], [(a13, .inl (kA 0, 3782, .inl (upd (f0) 0 0)))]]) H := hP
  have hD : va_D A (cat [[(g 0 j, .inr (3, [.int 0, .int 0, .int 1, .ref a0, .ref a1, .ref a2, .ref a3, .ref a4, .ref a5, .ref a6, .ref a7, .ref a8, .ref a9, .ref a10, .ref a11, .ref a12, .ref a13, .int 0, .int 0]))], [(a13, .inl (kA 0, 3782, .inl (upd (f0) 0 0)))]]) := hD
  refine lv_aload_n (pc := 15) hx hb d_Gr_pack_15 rfl (lv_at hl 1 rfl) ?_
  refine k_get (pc := 16) X hK hP 0 rfl rfl i_Gr 16 (by decide) wm_148 rfl rfl d_Gr_pack_16 ?_
  refine lv_iload_n (pc := 19) hx hb d_Gr_pack_19 rfl (lv_at hl 0 rfl) ?_
  refine lv_iconst (pc := 20) (v := 1) hx hb d_Gr_pack_20 (by decide) ?_
  refine lv_iadd (pc := 21) hx hb d_Gr_pack_21 ?_
  refine k_cst (v := 1) (by decide) ?_
  refine lv_aload_n (pc := 22) hx hb d_Gr_pack_22 rfl (lv_at hl 1 rfl) ?_
  refine k_get (pc := 23) X hK hP 0 rfl rfl i_Gr 1 (by decide) wm_68 rfl rfl d_Gr_pack_23 ?_
  refine va_iast (pc := 26) hx hb hK hP hD hS 1 0 rfl rfl (by unfold vp_in; decide) d_Gr_pack_26 (fun H locs hP hD hS => ?_)
  have hP : va_P D classes (cat [[(g 0 j, .inr (3, [.int 0, .int 0, .int 1, .ref a0, .ref a1, .ref a2, .ref a3, .ref a4, .ref a5, .ref a6, .ref a7, .ref a8, .ref a9, .ref a10, .ref a11, .ref a12, .ref a13, .int 0, .int 0]))], [(a13, .inl (kA 0, 3782, .inl (upd (upd (f0) 0 0) 1 0)))]]) H := hP
  have hD : va_D A (cat [[(g 0 j, .inr (3, [.int 0, .int 0, .int 1, .ref a0, .ref a1, .ref a2, .ref a3, .ref a4, .ref a5, .ref a6, .ref a7, .ref a8, .ref a9, .ref a10, .ref a11, .ref a12, .ref a13, .int 0, .int 0]))], [(a13, .inl (kA 0, 3782, .inl (upd (upd (f0) 0 0) 1 0)))]]) := hD
  refine lv_iinc (pc := 27) (v := 2) (lv' := [(2, .int 2), (0, .ref (g 0 j)), (1, .int 0)]) hx hb d_Gr_pack_27 hl (k := 0) rfl (by decide) (by decide) rfl (fun ls hl => ?_)
  refine lv_iconst (pc := 30) (v := 0) hx hb d_Gr_pack_30 (by decide) ?_
  refine lv_istore_n (pc := 31) (lv' := [(3, .int 0), (2, .int 2), (0, .ref (g 0 j)), (1, .int 0)]) hx hb d_Gr_pack_31 rfl hl (by decide) rfl (fun ls hl => ?_)
  refine lv_iload_n (pc := 32) hx hb d_Gr_pack_32 rfl (lv_at hl 0 rfl) ?_
  refine lv_aload_n (pc := 33) hx hb d_Gr_pack_33 rfl (lv_at hl 2 rfl) ?_
  refine k_get (pc := 34) X hK hP 0 rfl rfl i_Gr 0 (by decide) wm_56 rfl rfl d_Gr_pack_34 ?_
  refine lv_icmp_ge (pc := 37) (tgt := 115) hx hb d_Gr_pack_37 (by decide) (fun _ => ?_) (fun c1 => absurd (by decide) c1)
  refine lv_iload_n (pc := 115) hx hb d_Gr_pack_115 rfl (lv_at hl 3 rfl) ?_
  refine lv_bipush (pc := 116) (v := 122) hx hb d_Gr_pack_116 (by decide) ?_
  refine lv_imul (pc := 118) hx hb d_Gr_pack_118 ?_
  refine k_cst (v := 0) (by decide) ?_
  refine lv_iconst (pc := 119) (v := 2) hx hb d_Gr_pack_119 (by decide) ?_
  refine lv_iadd (pc := 120) hx hb d_Gr_pack_120 ?_
  refine k_cst (v := 2) (by decide) ?_
  refine lv_bipush (pc := 121) (v := 72) hx hb d_Gr_pack_121 (by decide) ?_
  refine lv_iadd (pc := 123) hx hb d_Gr_pack_123 ?_
  refine k_cst (v := 74) (by decide) ?_
  refine lv_istore_n (pc := 124) (lv' := [(2, .int 74), (3, .int 0), (0, .ref (g 0 j)), (1, .int 0)]) hx hb d_Gr_pack_124 rfl hl (by decide) rfl (fun ls hl => ?_)
  refine lv_iconst (pc := 125) (v := 0) hx hb d_Gr_pack_125 (by decide) ?_
  refine lv_istore_n (pc := 126) (lv' := [(3, .int 0), (2, .int 74), (0, .ref (g 0 j)), (1, .int 0)]) hx hb d_Gr_pack_126 rfl hl (by decide) rfl (fun ls hl => ?_)
  refine lv_iload_n (pc := 127) hx hb d_Gr_pack_127 rfl (lv_at hl 0 rfl) ?_
  refine lv_aload_n (pc := 128) hx hb d_Gr_pack_128 rfl (lv_at hl 2 rfl) ?_
  refine k_get (pc := 129) X hK hP 0 rfl rfl i_Gr 1 (by decide) wm_68 rfl rfl d_Gr_pack_129 ?_
  refine lv_icmp_ge (pc := 132) (tgt := 185) hx hb d_Gr_pack_132 (by decide) (fun _ => ?_) (fun c1 => absurd (by decide) c1)
  refine W.widen (k := 0) (n := 0) (Nat.le_of_ble_eq_true rfl) (Nat.le_of_ble_eq_true rfl) ?_
  exact W.vret hx hb hr (fun t ht hW => ⟨⟨(), rfl, trivial, by rw [ht]; exact hP, va_K.moved hW.alike hK, hD⟩, hS.F ht⟩) hS.2.2 d_Gr_pack_185
set_option maxRecDepth 100000 in
set_option maxHeartbeats 4000000 in
/-- DrawingHouse$Graph.nextName([B)I -/
theorem c_Gr_nextName_z2 (l : Launch) (D : va_G) (kA : Nat → ClassId) (g : Nat → Nat → Nat) (j : Nat) (a0 : Nat) (f0 : Nat → Int32) (a1 : Nat) (a2 : Nat) (a3 : Nat) (a4 : Nat) (a5 : Nat) (a6 : Nat) (a7 : Nat) (a8 : Nat) (a9 : Nat) (a10 : Nat) (a11 : Nat) (a12 : Nat) (a13 : Nat) (a14 : Nat) (hj : j < 4) : Ci l y_Gr_nextName z_Gr_nextName { frames := 0, cells := 0, slots := 0, locals := 0 } D classes (TY kA) [.ref (g 0 j), .ref a0] [[(a0, .inl (kA 1, 3, .inl f0))], [(g 0 j, .inr (3, [.int 0, .int 0, .int 1, .ref a1, .ref a2, .ref a3, .ref a4, .ref a5, .ref a6, .ref a7, .ref a8, .ref a9, .ref a10, .ref a11, .ref a12, .ref a13, .ref a14, .int 0, .int 0]))]] (fun r (_ : Unit) => r = 2) (fun u => [[(a0, .inl (kA 1, 3, .inl (upd (upd f0 0 (vp_nar .byte 110)) 1 (vp_nar .byte 48))))], [(g 0 j, .inr (3, [.int 0, .int 0, .int 1, .ref a1, .ref a2, .ref a3, .ref a4, .ref a5, .ref a6, .ref a7, .ref a8, .ref a9, .ref a10, .ref a11, .ref a12, .ref a13, .ref a14, .int 0, .int 0]))]]) 0 0 := by
  intro sz
  refine k_met (cc := b_Gr_nextName) (maxL := 2) (ret := (some .int)) (by decide) rfl (Nat.le_of_ble_eq_true rfl) (fun p e s m below meth c ls X hl hB => ?_)
  obtain ⟨hsz, hP, hK, hD0, hN⟩ := hB
  subst hsz
  have hD := hD0.self (sz := s.heap.size)
  generalize hAe : va_A (cat [[(a0, .inl (kA 1, 3, .inl f0))], [(g 0 j, .inr (3, [.int 0, .int 0, .int 1, .ref a1, .ref a2, .ref a3, .ref a4, .ref a5, .ref a6, .ref a7, .ref a8, .ref a9, .ref a10, .ref a11, .ref a12, .ref a13, .ref a14, .int 0, .int 0]))]]) s.heap.size = A at hD ⊢
  have hA : ∀ q : Nat, s.heap.size ≤ q → A q := fun q h => by rw [← hAe]; exact Or.inr h
  have hS : va_S A s.heap s.heap [] := va_S.rf
  obtain ⟨hx, hb, hml, hown, hts, hr, hlk, hnm⟩ := id X
  have hl : lv_has ls 2 [(0, .ref (g 0 j)), (1, .ref a0)] := hl
  have hP : va_P D classes (cat [[(a0, .inl (kA 1, 3, .inl f0))], [(g 0 j, .inr (3, [.int 0, .int 0, .int 1, .ref a1, .ref a2, .ref a3, .ref a4, .ref a5, .ref a6, .ref a7, .ref a8, .ref a9, .ref a10, .ref a11, .ref a12, .ref a13, .ref a14, .int 0, .int 0]))]]) s.heap := hP
  have hK : va_K D classes (TY kA) s := hK
  refine lv_aload_n (pc := 0) hx hb d_Gr_nextName_0 rfl (lv_at hl 1 rfl) ?_
  refine lv_iconst (pc := 1) (v := 0) hx hb d_Gr_nextName_1 (by decide) ?_
  refine lv_bipush (pc := 2) (v := 110) hx hb d_Gr_nextName_2 (by decide) ?_
  refine k_bst (pc := 4) hx hb hK hP hD hS 0 1 rfl rfl (0) rfl (by decide) (by decide) d_Gr_nextName_4 (fun H locs hP hD hS => ?_)
  have hP : va_P D classes (cat [[(a0, .inl (kA 1, 3, .inl (upd f0 0 (vp_nar .byte 110))))], [(g 0 j, .inr (3, [.int 0, .int 0, .int 1, .ref a1, .ref a2, .ref a3, .ref a4, .ref a5, .ref a6, .ref a7, .ref a8, .ref a9, .ref a10, .ref a11, .ref a12, .ref a13, .ref a14, .int 0, .int 0]))]]) H := hP
  have hD : va_D A (cat [[(a0, .inl (kA 1, 3, .inl (upd f0 0 (vp_nar .byte 110))))], [(g 0 j, .inr (3, [.int 0, .int 0, .int 1, .ref a1, .ref a2, .ref a3, .ref a4, .ref a5, .ref a6, .ref a7, .ref a8, .ref a9, .ref a10, .ref a11, .ref a12, .ref a13, .ref a14, .int 0, .int 0]))]]) := hD
  refine lv_aload_n (pc := 5) hx hb d_Gr_nextName_5 rfl (lv_at hl 0 rfl) ?_
  refine k_get (pc := 6) X hK hP 1 rfl rfl i_Gr 0 (by decide) wm_56 rfl rfl d_Gr_nextName_6 ?_
  refine lv_bipush (pc := 9) (v := 10) hx hb d_Gr_nextName_9 (by decide) ?_
  refine lv_icmp_ge (pc := 11) (tgt := 27) hx hb d_Gr_nextName_11 (by decide) (fun c1 => absurd c1 (by decide)) (fun _ => ?_)
  refine lv_aload_n (pc := 14) hx hb d_Gr_nextName_14 rfl (lv_at hl 1 rfl) ?_
  refine lv_iconst (pc := 15) (v := 1) hx hb d_Gr_nextName_15 (by decide) ?_
  refine lv_bipush (pc := 16) (v := 48) hx hb d_Gr_nextName_16 (by decide) ?_
  refine lv_aload_n (pc := 18) hx hb d_Gr_nextName_18 rfl (lv_at hl 0 rfl) ?_
  refine k_get (pc := 19) X hK hP 1 rfl rfl i_Gr 0 (by decide) wm_56 rfl rfl d_Gr_nextName_19 ?_
  refine lv_iadd (pc := 22) hx hb d_Gr_nextName_22 ?_
  refine k_cst (v := 48) (by decide) ?_
  refine lv_i2b (pc := 23) (v := 48) hx hb d_Gr_nextName_23 (by decide) ?_
  refine k_bst (pc := 24) hx hb hK hP hD hS 0 1 rfl rfl (1) rfl (by decide) (by decide) d_Gr_nextName_24 (fun H locs hP hD hS => ?_)
  have hP : va_P D classes (cat [[(a0, .inl (kA 1, 3, .inl (upd (upd f0 0 (vp_nar .byte 110)) 1 (vp_nar .byte 48))))], [(g 0 j, .inr (3, [.int 0, .int 0, .int 1, .ref a1, .ref a2, .ref a3, .ref a4, .ref a5, .ref a6, .ref a7, .ref a8, .ref a9, .ref a10, .ref a11, .ref a12, .ref a13, .ref a14, .int 0, .int 0]))]]) H := hP
  have hD : va_D A (cat [[(a0, .inl (kA 1, 3, .inl (upd (upd f0 0 (vp_nar .byte 110)) 1 (vp_nar .byte 48))))], [(g 0 j, .inr (3, [.int 0, .int 0, .int 1, .ref a1, .ref a2, .ref a3, .ref a4, .ref a5, .ref a6, .ref a7, .ref a8, .ref a9, .ref a10, .ref a11, .ref a12, .ref a13, .ref a14, .int 0, .int 0]))]]) := hD
  refine lv_iconst (pc := 25) (v := 2) hx hb d_Gr_nextName_25 (by decide) ?_
  refine W.widen (k := 0) (n := 0) (Nat.le_of_ble_eq_true rfl) (Nat.le_of_ble_eq_true rfl) ?_
  exact W.iret (v := 2) hx hb hr (fun t ht hW => ⟨⟨2, (), rfl, rfl, by rw [ht]; exact hP, va_K.moved hW.alike hK, hD⟩, hS.F ht⟩) hS.2.2 d_Gr_nextName_26
set_option maxRecDepth 100000 in
set_option maxHeartbeats 4000000 in
/-- DrawingHouse$Graph.addNode([BIII)I -/
theorem c_Gr_addNode_z1 (l : Launch) (D : va_G) (kA : Nat → ClassId) (g : Nat → Nat → Nat) (j : Nat) (a0 : Nat) (a1 : Nat) (a2 : Nat) (a3 : Nat) (a4 : Nat) (a5 : Nat) (a6 : Nat) (a7 : Nat) (a8 : Nat) (a9 : Nat) (a10 : Nat) (a11 : Nat) (a12 : Nat) (a13 : Nat) (a14 : Nat) (f0 : Nat → Int32) (f1 : Nat → Int32) (f2 : Nat → Int32) (f3 : Nat → Int32) (f4 : Nat → Int32) (hj : j < 4) : Ci l y_Gr_addNode z_Gr_addNode { frames := 1, cells := 0, slots := 0, locals := 26 } D classes (TY kA) [.ref (g 0 j), .ref a0, .int 0, .int 2, .int 0] [[(g 0 j, .inr (3, [.int 0, .int 0, .int 1, .ref a1, .ref a2, .ref a3, .ref a4, .ref a5, .ref a6, .ref a7, .ref a8, .ref a9, .ref a10, .ref a11, .ref a12, .ref a13, .ref a14, .int 0, .int 0]))], [(a0, .inl (kA 1, 3, .inl (upd (upd (fun _ => 0) 0 (vp_nar .byte 110)) 1 (vp_nar .byte 48))))], [(a1, .inl (kA 1, 192, .inl f0))], [(a2, .inl (kA 0, 24, .inl f1))], [(a3, .inl (kA 0, 24, .inl f2))], [(a4, .inl (kA 0, 24, .inl f3))], [(a12, .inl (kA 0, 24, .inl f4))]] (fun r (_ : Unit) => r = 0) (fun u => [[(g 0 j, .inr (3, [.int 1, .int 0, .int 1, .ref a1, .ref a2, .ref a3, .ref a4, .ref a5, .ref a6, .ref a7, .ref a8, .ref a9, .ref a10, .ref a11, .ref a12, .ref a13, .ref a14, .int 0, .int 0]))], [(a0, .inl (kA 1, 3, .inl (upd (upd (fun _ => 0) 0 (vp_nar .byte 110)) 1 (vp_nar .byte 48))))], [(a1, .inl (kA 1, 192, .inl (va_cpy (upd (upd (fun _ => 0) 0 (vp_nar .byte 110)) 1 (vp_nar .byte 48)) f0 0 0 2)))], [(a2, .inl (kA 0, 24, .inl (upd (f1) 0 2)))], [(a3, .inl (kA 0, 24, .inl (upd (f2) 0 1)))], [(a4, .inl (kA 0, 24, .inl (upd (f3) 0 0)))], [(a12, .inl (kA 0, 24, .inl (upd (f4) 0 0)))]]) 0 0 := by
  intro sz
  refine k_met (cc := b_Gr_addNode) (maxL := 6) (ret := (some .int)) (by decide) rfl (Nat.le_of_ble_eq_true rfl) (fun p e s m below meth c ls X hl hB => ?_)
  obtain ⟨hsz, hP, hK, hD0, hN⟩ := hB
  subst hsz
  have hD := hD0.self (sz := s.heap.size)
  generalize hAe : va_A (cat [[(g 0 j, .inr (3, [.int 0, .int 0, .int 1, .ref a1, .ref a2, .ref a3, .ref a4, .ref a5, .ref a6, .ref a7, .ref a8, .ref a9, .ref a10, .ref a11, .ref a12, .ref a13, .ref a14, .int 0, .int 0]))], [(a0, .inl (kA 1, 3, .inl (upd (upd (fun _ => 0) 0 (vp_nar .byte 110)) 1 (vp_nar .byte 48))))], [(a1, .inl (kA 1, 192, .inl f0))], [(a2, .inl (kA 0, 24, .inl f1))], [(a3, .inl (kA 0, 24, .inl f2))], [(a4, .inl (kA 0, 24, .inl f3))], [(a12, .inl (kA 0, 24, .inl f4))]]) s.heap.size = A at hD ⊢
  have hA : ∀ q : Nat, s.heap.size ≤ q → A q := fun q h => by rw [← hAe]; exact Or.inr h
  have hS : va_S A s.heap s.heap [] := va_S.rf
  obtain ⟨hx, hb, hml, hown, hts, hr, hlk, hnm⟩ := id X
  have hl : lv_has ls 6 [(0, .ref (g 0 j)), (1, .ref a0), (2, .int 0), (3, .int 2), (4, .int 0)] := hl
  have hP : va_P D classes (cat [[(g 0 j, .inr (3, [.int 0, .int 0, .int 1, .ref a1, .ref a2, .ref a3, .ref a4, .ref a5, .ref a6, .ref a7, .ref a8, .ref a9, .ref a10, .ref a11, .ref a12, .ref a13, .ref a14, .int 0, .int 0]))], [(a0, .inl (kA 1, 3, .inl (upd (upd (fun _ => 0) 0 (vp_nar .byte 110)) 1 (vp_nar .byte 48))))], [(a1, .inl (kA 1, 192, .inl f0))], [(a2, .inl (kA 0, 24, .inl f1))], [(a3, .inl (kA 0, 24, .inl f2))], [(a4, .inl (kA 0, 24, .inl f3))], [(a12, .inl (kA 0, 24, .inl f4))]]) s.heap := hP
  have hK : va_K D classes (TY kA) s := hK
  refine lv_aload_n (pc := 0) hx hb d_Gr_addNode_0 rfl (lv_at hl 0 rfl) ?_
  refine k_get (pc := 1) X hK hP 0 rfl rfl i_Gr 0 (by decide) wm_56 rfl rfl d_Gr_addNode_1 ?_
  refine lv_istore (pc := 4) (lv' := [(5, .int 0), (0, .ref (g 0 j)), (1, .ref a0), (2, .int 0), (3, .int 2), (4, .int 0)]) hx hb d_Gr_addNode_4 hl (by decide) rfl (fun ls hl => ?_)
  refine lv_aload_n (pc := 6) hx hb d_Gr_addNode_6 rfl (lv_at hl 2 rfl) ?_
  refine lv_iload_n (pc := 7) hx hb d_Gr_addNode_7 rfl (lv_at hl 3 rfl) ?_
  refine lv_aload_n (pc := 8) hx hb d_Gr_addNode_8 rfl (lv_at hl 1 rfl) ?_
  refine k_get (pc := 9) X hK hP 0 rfl rfl i_Gr 3 (by decide) wm_83 rfl rfl d_Gr_addNode_9 ?_
  refine lv_iload (pc := 12) hx hb d_Gr_addNode_12 (lv_at hl 0 rfl) ?_
  refine lv_bipush (pc := 14) (v := 8) hx hb d_Gr_addNode_14 (by decide) ?_
  refine lv_imul (pc := 16) hx hb d_Gr_addNode_16 ?_
  refine k_cst (v := 0) (by decide) ?_
  refine lv_iload_n (pc := 17) hx hb d_Gr_addNode_17 rfl (lv_at hl 4 rfl) ?_
  refine k_cpy (pc := 18) hx hb (hml.trans hl.1.symm) hown (hts _ wm_748) (hts _ wm_750) (hts _ wm_749) (hts _ wm_15) hK hP hD hS 1 2 1 1 rfl rfl rfl rfl rfl 0 0 2 (by decide) (by decide) (by decide) (by decide) (by decide) (by decide) (Nat.le_of_ble_eq_true rfl) (Nat.le_of_ble_eq_true rfl) (by decide +kernel) (Nat.le_of_ble_eq_true rfl) (ac_room (Nat.le_of_ble_eq_true rfl)) d_Gr_addNode_18 (fun H locs hP hD hS => ?_)
  have hP : va_P D classes (cat [[(g 0 j, .inr (3, [.int 0, .int 0, .int 1, .ref a1, .ref a2, .ref a3, .ref a4, .ref a5, .ref a6, .ref a7, .ref a8, .ref a9, .ref a10, .ref a11, .ref a12, .ref a13, .ref a14, .int 0, .int 0]))], [(a0, .inl (kA 1, 3, .inl (upd (upd (fun _ => 0) 0 (vp_nar .byte 110)) 1 (vp_nar .byte 48))))], [(a1, .inl (kA 1, 192, .inl (va_cpy (upd (upd (fun _ => 0) 0 (vp_nar .byte 110)) 1 (vp_nar .byte 48)) f0 0 0 2)))], [(a2, .inl (kA 0, 24, .inl f1))], [(a3, .inl (kA 0, 24, .inl f2))], [(a4, .inl (kA 0, 24, .inl f3))], [(a12, .inl (kA 0, 24, .inl f4))]]) H := hP
  have hD : va_D A (cat [[(g 0 j, .inr (3, [.int 0, .int 0, .int 1, .ref a1, .ref a2, .ref a3, .ref a4, .ref a5, .ref a6, .ref a7, .ref a8, .ref a9, .ref a10, .ref a11, .ref a12, .ref a13, .ref a14, .int 0, .int 0]))], [(a0, .inl (kA 1, 3, .inl (upd (upd (fun _ => 0) 0 (vp_nar .byte 110)) 1 (vp_nar .byte 48))))], [(a1, .inl (kA 1, 192, .inl (va_cpy (upd (upd (fun _ => 0) 0 (vp_nar .byte 110)) 1 (vp_nar .byte 48)) f0 0 0 2)))], [(a2, .inl (kA 0, 24, .inl f1))], [(a3, .inl (kA 0, 24, .inl f2))], [(a4, .inl (kA 0, 24, .inl f3))], [(a12, .inl (kA 0, 24, .inl f4))]]) := hD
  refine lv_aload_n (pc := 21) hx hb d_Gr_addNode_21 rfl (lv_at hl 1 rfl) ?_
  refine k_get (pc := 22) X hK hP 0 rfl rfl i_Gr 4 (by decide) wm_85 rfl rfl d_Gr_addNode_22 ?_
  refine lv_iload (pc := 25) hx hb d_Gr_addNode_25 (lv_at hl 0 rfl) ?_
  refine lv_iload_n (pc := 27) hx hb d_Gr_addNode_27 rfl (lv_at hl 4 rfl) ?_
  refine va_iast (pc := 28) hx hb hK hP hD hS 3 0 rfl rfl (by unfold vp_in; decide) d_Gr_addNode_28 (fun H locs hP hD hS => ?_)
  have hP : va_P D classes (cat [[(g 0 j, .inr (3, [.int 0, .int 0, .int 1, .ref a1, .ref a2, .ref a3, .ref a4, .ref a5, .ref a6, .ref a7, .ref a8, .ref a9, .ref a10, .ref a11, .ref a12, .ref a13, .ref a14, .int 0, .int 0]))], [(a0, .inl (kA 1, 3, .inl (upd (upd (fun _ => 0) 0 (vp_nar .byte 110)) 1 (vp_nar .byte 48))))], [(a1, .inl (kA 1, 192, .inl (va_cpy (upd (upd (fun _ => 0) 0 (vp_nar .byte 110)) 1 (vp_nar .byte 48)) f0 0 0 2)))], [(a2, .inl (kA 0, 24, .inl (upd (f1) 0 2)))], [(a3, .inl (kA 0, 24, .inl f2))], [(a4, .inl (kA 0, 24, .inl f3))], [(a12, .inl (kA 0, 24, .inl f4))]]) H := hP
  have hD : va_D A (cat [[(g 0 j, .inr (3, [.int 0, .int 0, .int 1, .ref a1, .ref a2, .ref a3, .ref a4, .ref a5, .ref a6, .ref a7, .ref a8, .ref a9, .ref a10, .ref a11, .ref a12, .ref a13, .ref a14, .int 0, .int 0]))], [(a0, .inl (kA 1, 3, .inl (upd (upd (fun _ => 0) 0 (vp_nar .byte 110)) 1 (vp_nar .byte 48))))], [(a1, .inl (kA 1, 192, .inl (va_cpy (upd (upd (fun _ => 0) 0 (vp_nar .byte 110)) 1 (vp_nar .byte 48)) f0 0 0 2)))], [(a2, .inl (kA 0, 24, .inl (upd (f1) 0 2)))], [(a3, .inl (kA 0, 24, .inl f2))], [(a4, .inl (kA 0, 24, .inl f3))], [(a12, .inl (kA 0, 24, .inl f4))]]) := hD
  refine lv_aload_n (pc := 29) hx hb d_Gr_addNode_29 rfl (lv_at hl 1 rfl) ?_
  refine k_get (pc := 30) X hK hP 0 rfl rfl i_Gr 5 (by decide) wm_87 rfl rfl d_Gr_addNode_30 ?_
  refine lv_iload (pc := 33) hx hb d_Gr_addNode_33 (lv_at hl 0 rfl) ?_
  refine lv_iconst (pc := 35) (v := 1) hx hb d_Gr_addNode_35 (by decide) ?_
  refine va_iast (pc := 36) hx hb hK hP hD hS 4 0 rfl rfl (by unfold vp_in; decide) d_Gr_addNode_36 (fun H locs hP hD hS => ?_)
  have hP : va_P D classes (cat [[(g 0 j, .inr (3, [.int 0, .int 0, .int 1, .ref a1, .ref a2, .ref a3, .ref a4, .ref a5, .ref a6, .ref a7, .ref a8, .ref a9, .ref a10, .ref a11, .ref a12, .ref a13, .ref a14, .int 0, .int 0]))], [(a0, .inl (kA 1, 3, .inl (upd (upd (fun _ => 0) 0 (vp_nar .byte 110)) 1 (vp_nar .byte 48))))], [(a1, .inl (kA 1, 192, .inl (va_cpy (upd (upd (fun _ => 0) 0 (vp_nar .byte 110)) 1 (vp_nar .byte 48)) f0 0 0 2)))], [(a2, .inl (kA 0, 24, .inl (upd (f1) 0 2)))], [(a3, .inl (kA 0, 24, .inl (upd (f2) 0 1)))], [(a4, .inl (kA 0, 24, .inl f3))], [(a12, .inl (kA 0, 24, .inl f4))]]) H := hP
  have hD : va_D A (cat [[(g 0 j, .inr (3, [.int 0, .int 0, .int 1, .ref a1, .ref a2, .ref a3, .ref a4, .ref a5, .ref a6, .ref a7, .ref a8, .ref a9, .ref a10, .ref a11, .ref a12, .ref a13, .ref a14, .int 0, .int 0]))], [(a0, .inl (kA 1, 3, .inl (upd (upd (fun _ => 0) 0 (vp_nar .byte 110)) 1 (vp_nar .byte 48))))], [(a1, .inl (kA 1, 192, .inl (va_cpy (upd (upd (fun _ => 0) 0 (vp_nar .byte 110)) 1 (vp_nar .byte 48)) f0 0 0 2)))], [(a2, .inl (kA 0, 24, .inl (upd (f1) 0 2)))], [(a3, .inl (kA 0, 24, .inl (upd (f2) 0 1)))], [(a4, .inl (kA 0, 24, .inl f3))], [(a12, .inl (kA 0, 24, .inl f4))]]) := hD
  refine lv_aload_n (pc := 37) hx hb d_Gr_addNode_37 rfl (lv_at hl 1 rfl) ?_
  refine k_get (pc := 38) X hK hP 0 rfl rfl i_Gr 6 (by decide) wm_92 rfl rfl d_Gr_addNode_38 ?_
  refine lv_iload (pc := 41) hx hb d_Gr_addNode_41 (lv_at hl 0 rfl) ?_
  refine lv_iload (pc := 43) hx hb d_Gr_addNode_43 (lv_at hl 5 rfl) ?_
  refine va_iast (pc := 45) hx hb hK hP hD hS 5 0 rfl rfl (by unfold vp_in; decide) d_Gr_addNode_45 (fun H locs hP hD hS => ?_)
  have hP : va_P D classes (cat [[(g 0 j, .inr (3, [.int 0, .int 0, .int 1, .ref a1, .ref a2, .ref a3, .ref a4, .ref a5, .ref a6, .ref a7, .ref a8, .ref a9, .ref a10, .ref a11, .ref a12, .ref a13, .ref a14, .int 0, .int 0]))], [(a0, .inl (kA 1, 3, .inl (upd (upd (fun _ => 0) 0 (vp_nar .byte 110)) 1 (vp_nar .byte 48))))], [(a1, .inl (kA 1, 192, .inl (va_cpy (upd (upd (fun _ => 0) 0 (vp_nar .byte 110)) 1 (vp_nar .byte 48)) f0 0 0 2)))], [(a2, .inl (kA 0, 24, .inl (upd (f1) 0 2)))], [(a3, .inl (kA 0, 24, .inl (upd (f2) 0 1)))], [(a4, .inl (kA 0, 24, .inl (upd (f3) 0 0)))], [(a12, .inl (kA 0, 24, .inl f4))]]) H := hP
  have hD : va_D A (cat [[(g 0 j, .inr (3, [.int 0, .int 0, .int 1, .ref a1, .ref a2, .ref a3, .ref a4, .ref a5, .ref a6, .ref a7, .ref a8, .ref a9, .ref a10, .ref a11, .ref a12, .ref a13, .ref a14, .int 0, .int 0]))], [(a0, .inl (kA 1, 3, .inl (upd (upd (fun _ => 0) 0 (vp_nar .byte 110)) 1 (vp_nar .byte 48))))], [(a1, .inl (kA 1, 192, .inl (va_cpy (upd (upd (fun _ => 0) 0 (vp_nar .byte 110)) 1 (vp_nar .byte 48)) f0 0 0 2)))], [(a2, .inl (kA 0, 24, .inl (upd (f1) 0 2)))], [(a3, .inl (kA 0, 24, .inl (upd (f2) 0 1)))], [(a4, .inl (kA 0, 24, .inl (upd (f3) 0 0)))], [(a12, .inl (kA 0, 24, .inl f4))]]) := hD
  refine lv_aload_n (pc := 46) hx hb d_Gr_addNode_46 rfl (lv_at hl 1 rfl) ?_
  refine k_get (pc := 47) X hK hP 0 rfl rfl i_Gr 14 (by decide) wm_140 rfl rfl d_Gr_addNode_47 ?_
  refine lv_iload (pc := 50) hx hb d_Gr_addNode_50 (lv_at hl 0 rfl) ?_
  refine lv_iconst (pc := 52) (v := 0) hx hb d_Gr_addNode_52 (by decide) ?_
  refine va_iast (pc := 53) hx hb hK hP hD hS 6 0 rfl rfl (by unfold vp_in; decide) d_Gr_addNode_53 (fun H locs hP hD hS => ?_)
  have hP : va_P D classes (cat [[(g 0 j, .inr (3, [.int 0, .int 0, .int 1, .ref a1, .ref a2, .ref a3, .ref a4, .ref a5, .ref a6, .ref a7, .ref a8, .ref a9, .ref a10, .ref a11, .ref a12, .ref a13, .ref a14, .int 0, .int 0]))], [(a0, .inl (kA 1, 3, .inl (upd (upd (fun _ => 0) 0 (vp_nar .byte 110)) 1 (vp_nar .byte 48))))], [(a1, .inl (kA 1, 192, .inl (va_cpy (upd (upd (fun _ => 0) 0 (vp_nar .byte 110)) 1 (vp_nar .byte 48)) f0 0 0 2)))], [(a2, .inl (kA 0, 24, .inl (upd (f1) 0 2)))], [(a3, .inl (kA 0, 24, .inl (upd (f2) 0 1)))], [(a4, .inl (kA 0, 24, .inl (upd (f3) 0 0)))], [(a12, .inl (kA 0, 24, .inl (upd (f4) 0 0)))]]) H := hP
  have hD : va_D A (cat [[(g 0 j, .inr (3, [.int 0, .int 0, .int 1, .ref a1, .ref a2, .ref a3, .ref a4, .ref a5, .ref a6, .ref a7, .ref a8, .ref a9, .ref a10, .ref a11, .ref a12, .ref a13, .ref a14, .int 0, .int 0]))], [(a0, .inl (kA 1, 3, .inl (upd (upd (fun _ => 0) 0 (vp_nar .byte 110)) 1 (vp_nar .byte 48))))], [(a1, .inl (kA 1, 192, .inl (va_cpy (upd (upd (fun _ => 0) 0 (vp_nar .byte 110)) 1 (vp_nar .byte 48)) f0 0 0 2)))], [(a2, .inl (kA 0, 24, .inl (upd (f1) 0 2)))], [(a3, .inl (kA 0, 24, .inl (upd (f2) 0 1)))], [(a4, .inl (kA 0, 24, .inl (upd (f3) 0 0)))], [(a12, .inl (kA 0, 24, .inl (upd (f4) 0 0)))]]) := hD
  refine lv_aload_n (pc := 54) hx hb d_Gr_addNode_54 rfl (lv_at hl 1 rfl) ?_
  refine lv_dup (pc := 55) hx hb d_Gr_addNode_55 rfl ?_
  refine k_get (pc := 56) X hK hP 0 rfl rfl i_Gr 0 (by decide) wm_56 rfl rfl d_Gr_addNode_56 ?_
  refine lv_iconst (pc := 59) (v := 1) hx hb d_Gr_addNode_59 (by decide) ?_
  refine lv_iadd (pc := 60) hx hb d_Gr_addNode_60 ?_
  refine k_cst (v := 1) (by decide) ?_
  refine k_put (pc := 61) X hK hP hD hS 0 rfl rfl i_Gr t_Gr t_Gr_ok n_Gr 0 (by decide) wm_56 rfl (Or.inl rfl) rfl rfl (Nat.le_of_ble_eq_true rfl) d_Gr_addNode_61 (fun H locs hP hD hS => ?_)
  have hP : va_P D classes (cat [[(g 0 j, .inr (3, [.int 1, .int 0, .int 1, .ref a1, .ref a2, .ref a3, .ref a4, .ref a5, .ref a6, .ref a7, .ref a8, .ref a9, .ref a10, .ref a11, .ref a12, .ref a13, .ref a14, .int 0, .int 0]))], [(a0, .inl (kA 1, 3, .inl (upd (upd (fun _ => 0) 0 (vp_nar .byte 110)) 1 (vp_nar .byte 48))))], [(a1, .inl (kA 1, 192, .inl (va_cpy (upd (upd (fun _ => 0) 0 (vp_nar .byte 110)) 1 (vp_nar .byte 48)) f0 0 0 2)))], [(a2, .inl (kA 0, 24, .inl (upd (f1) 0 2)))], [(a3, .inl (kA 0, 24, .inl (upd (f2) 0 1)))], [(a4, .inl (kA 0, 24, .inl (upd (f3) 0 0)))], [(a12, .inl (kA 0, 24, .inl (upd (f4) 0 0)))]]) H := hP
  have hD : va_D A (cat [[(g 0 j, .inr (3, [.int 1, .int 0, .int 1, .ref a1, .ref a2, .ref a3, .ref a4, .ref a5, .ref a6, .ref a7, .ref a8, .ref a9, .ref a10, .ref a11, .ref a12, .ref a13, .ref a14, .int 0, .int 0]))], [(a0, .inl (kA 1, 3, .inl (upd (upd (fun _ => 0) 0 (vp_nar .byte 110)) 1 (vp_nar .byte 48))))], [(a1, .inl (kA 1, 192, .inl (va_cpy (upd (upd (fun _ => 0) 0 (vp_nar .byte 110)) 1 (vp_nar .byte 48)) f0 0 0 2)))], [(a2, .inl (kA 0, 24, .inl (upd (f1) 0 2)))], [(a3, .inl (kA 0, 24, .inl (upd (f2) 0 1)))], [(a4, .inl (kA 0, 24, .inl (upd (f3) 0 0)))], [(a12, .inl (kA 0, 24, .inl (upd (f4) 0 0)))]]) := hD
  refine lv_iload (pc := 64) hx hb d_Gr_addNode_64 (lv_at hl 0 rfl) ?_
  refine W.widen (k := 0) (n := 0) (Nat.le_of_ble_eq_true rfl) (Nat.le_of_ble_eq_true rfl) ?_
  exact W.iret (v := 0) hx hb hr (fun t ht hW => ⟨⟨0, (), rfl, rfl, by rw [ht]; exact hP, va_K.moved hW.alike hK, hD⟩, hS.F ht⟩) hS.2.2 d_Gr_addNode_66
set_option maxRecDepth 100000 in
set_option maxHeartbeats 4000000 in
/-- DrawingHouse$Graph.perform(III)I -/
theorem c_Gr_perform_z1 (l : Launch) (D : va_G) (kA : Nat → ClassId) (g : Nat → Nat → Nat) (j : Nat) (v4 : Int32) (a0 : Nat) (a1 : Nat) (a2 : Nat) (a3 : Nat) (a4 : Nat) (a5 : Nat) (a6 : Nat) (a7 : Nat) (a8 : Nat) (a9 : Nat) (a10 : Nat) (a11 : Nat) (a12 : Nat) (a13 : Nat) (f0 : Nat → Int32) (f1 : Nat → Int32) (f2 : Nat → Int32) (f3 : Nat → Int32) (f4 : Nat → Int32) (hj : j < 4) : Ci l y_Gr_perform z_Gr_perform { frames := 2, cells := 1, slots := 3, locals := 51 } D classes (TY kA) [.ref (g 0 j), .int 0, .int 0, .int v4] [[(g 0 j, .inr (3, [.int 0, .int 0, .int 1, .ref a0, .ref a1, .ref a2, .ref a3, .ref a4, .ref a5, .ref a6, .ref a7, .ref a8, .ref a9, .ref a10, .ref a11, .ref a12, .ref a13, .int 0, .int 0]))], [(a0, .inl (kA 1, 192, .inl f0))], [(a1, .inl (kA 0, 24, .inl f1))], [(a2, .inl (kA 0, 24, .inl f2))], [(a3, .inl (kA 0, 24, .inl f3))], [(a11, .inl (kA 0, 24, .inl f4))]] (fun r (_ : Nat → Nat) => r = 0) (fun u => [[(g 0 j, .inr (3, [.int 1, .int 0, .int 1, .ref a0, .ref a1, .ref a2, .ref a3, .ref a4, .ref a5, .ref a6, .ref a7, .ref a8, .ref a9, .ref a10, .ref a11, .ref a12, .ref a13, .int 0, .int 0]))], [(a0, .inl (kA 1, 192, .inl (va_cpy (upd (upd (fun _ => 0) 0 (vp_nar .byte 110)) 1 (vp_nar .byte 48)) f0 0 0 2)))], [(a1, .inl (kA 0, 24, .inl (upd (f1) 0 2)))], [(a2, .inl (kA 0, 24, .inl (upd (f2) 0 1)))], [(a3, .inl (kA 0, 24, .inl (upd (f3) 0 0)))], [(a11, .inl (kA 0, 24, .inl (upd (f4) 0 0)))], [((u 0), .inl (kA 1, 3, .inl (upd (upd (fun _ => 0) 0 (vp_nar .byte 110)) 1 (vp_nar .byte 48))))]]) 1 3 := by
  intro sz
  refine k_met (cc := b_Gr_perform) (maxL := 6) (ret := (some .int)) (by decide) rfl (Nat.le_of_ble_eq_true rfl) (fun p e s m below meth c ls X hl hB => ?_)
  obtain ⟨hsz, hP, hK, hD0, hN⟩ := hB
  subst hsz
  have hD := hD0.self (sz := s.heap.size)
  generalize hAe : va_A (cat [[(g 0 j, .inr (3, [.int 0, .int 0, .int 1, .ref a0, .ref a1, .ref a2, .ref a3, .ref a4, .ref a5, .ref a6, .ref a7, .ref a8, .ref a9, .ref a10, .ref a11, .ref a12, .ref a13, .int 0, .int 0]))], [(a0, .inl (kA 1, 192, .inl f0))], [(a1, .inl (kA 0, 24, .inl f1))], [(a2, .inl (kA 0, 24, .inl f2))], [(a3, .inl (kA 0, 24, .inl f3))], [(a11, .inl (kA 0, 24, .inl f4))]]) s.heap.size = A at hD ⊢
  have hA : ∀ q : Nat, s.heap.size ≤ q → A q := fun q h => by rw [← hAe]; exact Or.inr h
  have hS : va_S A s.heap s.heap [] := va_S.rf
  obtain ⟨hx, hb, hml, hown, hts, hr, hlk, hnm⟩ := id X
  have hl : lv_has ls 6 [(0, .ref (g 0 j)), (1, .int 0), (2, .int 0), (3, .int v4)] := hl
  have hP : va_P D classes (cat [[(g 0 j, .inr (3, [.int 0, .int 0, .int 1, .ref a0, .ref a1, .ref a2, .ref a3, .ref a4, .ref a5, .ref a6, .ref a7, .ref a8, .ref a9, .ref a10, .ref a11, .ref a12, .ref a13, .int 0, .int 0]))], [(a0, .inl (kA 1, 192, .inl f0))], [(a1, .inl (kA 0, 24, .inl f1))], [(a2, .inl (kA 0, 24, .inl f2))], [(a3, .inl (kA 0, 24, .inl f3))], [(a11, .inl (kA 0, 24, .inl f4))]]) s.heap := hP
  have hK : va_K D classes (TY kA) s := hK
  refine lv_iload_n (pc := 0) hx hb d_Gr_perform_0 rfl (lv_at hl 1 rfl) ?_
  refine lv_tableIn (pc := 1) (tgt := 44) hx hb d_Gr_perform_1 (by decide) (by decide) rfl (by decide) ?_
  refine lv_iconst (pc := 44) (v := 3) hx hb d_Gr_perform_44 (by decide) ?_
  refine k_newa (pc := 45) (atype := .byte) X (ty := .byte) (a0 := (3, .inl (fun _ => 0))) rfl rfl wm_192 hK hP hD hS hA 1 rfl (fun _ => rfl) (by decide) rfl (by decide) (Nat.le_of_ble_eq_true rfl) (Nat.le_of_ble_eq_true rfl) d_Gr_perform_45 (fun q1 H hP hD hS => ?_)
  have hP : va_P D classes (cat [[(g 0 j, .inr (3, [.int 0, .int 0, .int 1, .ref a0, .ref a1, .ref a2, .ref a3, .ref a4, .ref a5, .ref a6, .ref a7, .ref a8, .ref a9, .ref a10, .ref a11, .ref a12, .ref a13, .int 0, .int 0]))], [(a0, .inl (kA 1, 192, .inl f0))], [(a1, .inl (kA 0, 24, .inl f1))], [(a2, .inl (kA 0, 24, .inl f2))], [(a3, .inl (kA 0, 24, .inl f3))], [(a11, .inl (kA 0, 24, .inl f4))], [(q1, .inl (kA 1, 3, .inl (fun _ => 0)))]]) H := hP
  have hD : va_D A (cat [[(g 0 j, .inr (3, [.int 0, .int 0, .int 1, .ref a0, .ref a1, .ref a2, .ref a3, .ref a4, .ref a5, .ref a6, .ref a7, .ref a8, .ref a9, .ref a10, .ref a11, .ref a12, .ref a13, .int 0, .int 0]))], [(a0, .inl (kA 1, 192, .inl f0))], [(a1, .inl (kA 0, 24, .inl f1))], [(a2, .inl (kA 0, 24, .inl f2))], [(a3, .inl (kA 0, 24, .inl f3))], [(a11, .inl (kA 0, 24, .inl f4))], [(q1, .inl (kA 1, 3, .inl (fun _ => 0)))]]) := hD
  refine W.widen (k := 1) (n := 3) (by omega) (by omega) ?_
  refine lv_astore (pc := 47) (lv' := [(4, .ref q1), (0, .ref (g 0 j)), (1, .int 0), (2, .int 0), (3, .int v4)]) hx hb d_Gr_perform_47 hl (by decide) rfl (fun ls hl => ?_)
  refine lv_aload_n (pc := 49) hx hb d_Gr_perform_49 rfl (lv_at hl 1 rfl) ?_
  refine lv_aload (pc := 50) hx hb d_Gr_perform_50 (lv_at hl 0 rfl) ?_
  refine k_goI (gr := [[(a0, .inl (kA 1, 192, .inl f0))], [(a1, .inl (kA 0, 24, .inl f1))], [(a2, .inl (kA 0, 24, .inl f2))], [(a3, .inl (kA 0, 24, .inl f3))], [(a11, .inl (kA 0, 24, .inl f4))]]) (k_rV (pc := 52) (As := [.ref q1]) (rest := []) X (c_Gr_nextName_z2 l D kA g j q1 (fun _ => 0) a0 a1 a2 a3 a4 a5 a6 a7 a8 a9 a10 a11 a12 a13 hj H.size) rfl wm_967 wm_3 wm_964 wm_966 wv_2_13 1 (by decide +kernel) ⟨Nat.le_of_ble_eq_true rfl, Nat.le_of_ble_eq_true rfl⟩ rfl rfl (va_recv hK hP (ci := 3) (q0 := 0) rfl rfl) (k_pre hN hK hP hD [6, 0] [1, 2, 3, 4, 5] 7 rfl (by decide) rfl) rfl hl.1 rfl (Nat.le_of_ble_eq_true rfl) d_Gr_perform_52 ⟨Nat.le_of_ble_eq_true rfl, Nat.le_of_ble_eq_true rfl⟩) hP hD hS hA [6, 0] [1, 2, 3, 4, 5] 7 rfl (by decide) rfl rfl (fun r2 u3 H locs hu3 hP hD hS => ?_)
  subst hu3
  have hP : va_P D classes (cat [[(a0, .inl (kA 1, 192, .inl f0))], [(a1, .inl (kA 0, 24, .inl f1))], [(a2, .inl (kA 0, 24, .inl f2))], [(a3, .inl (kA 0, 24, .inl f3))], [(a11, .inl (kA 0, 24, .inl f4))], [(q1, .inl (kA 1, 3, .inl (upd (upd (fun _ => 0) 0 (vp_nar .byte 110)) 1 (vp_nar .byte 48))))], [(g 0 j, .inr (3, [.int 0, .int 0, .int 1, .ref a0, .ref a1, .ref a2, .ref a3, .ref a4, .ref a5, .ref a6, .ref a7, .ref a8, .ref a9, .ref a10, .ref a11, .ref a12, .ref a13, .int 0, .int 0]))]]) H := hP
  have hD : va_D A (cat [[(a0, .inl (kA 1, 192, .inl f0))], [(a1, .inl (kA 0, 24, .inl f1))], [(a2, .inl (kA 0, 24, .inl f2))], [(a3, .inl (kA 0, 24, .inl f3))], [(a11, .inl (kA 0, 24, .inl f4))], [(q1, .inl (kA 1, 3, .inl (upd (upd (fun _ => 0) 0 (vp_nar .byte 110)) 1 (vp_nar .byte 48))))], [(g 0 j, .inr (3, [.int 0, .int 0, .int 1, .ref a0, .ref a1, .ref a2, .ref a3, .ref a4, .ref a5, .ref a6, .ref a7, .ref a8, .ref a9, .ref a10, .ref a11, .ref a12, .ref a13, .int 0, .int 0]))]]) := hD
  refine lv_istore (pc := 55) (lv' := [(5, .int 2), (4, .ref q1), (0, .ref (g 0 j)), (1, .int 0), (2, .int 0), (3, .int v4)]) hx hb d_Gr_perform_55 hl (by decide) rfl (fun ls hl => ?_)
  refine lv_aload_n (pc := 57) hx hb d_Gr_perform_57 rfl (lv_at hl 2 rfl) ?_
  refine lv_aload (pc := 58) hx hb d_Gr_perform_58 (lv_at hl 1 rfl) ?_
  refine lv_iconst (pc := 60) (v := 0) hx hb d_Gr_perform_60 (by decide) ?_
  refine lv_iload (pc := 61) hx hb d_Gr_perform_61 (lv_at hl 0 rfl) ?_
  refine lv_iload_n (pc := 63) hx hb d_Gr_perform_63 rfl (lv_at hl 4 rfl) ?_
  refine k_goI (gr := []) (k_rV (pc := 64) (As := [.ref q1, .int 0, .int 2, .int 0]) (rest := []) X (c_Gr_addNode_z1 l D kA g j q1 a0 a1 a2 a3 a4 a5 a6 a7 a8 a9 a10 a11 a12 a13 f0 f1 f2 f3 f4 hj H.size) rfl wm_747 wm_3 wm_988 wm_745 wm_746 4 (by decide +kernel) ⟨Nat.le_of_ble_eq_true rfl, Nat.le_of_ble_eq_true rfl⟩ rfl rfl (va_recv hK hP (ci := 3) (q0 := 6) rfl rfl) (k_pre hN hK hP hD [6, 5, 0, 1, 2, 3, 4] [] 7 rfl (by decide) rfl) rfl hl.1 rfl (Nat.le_of_ble_eq_true rfl) d_Gr_perform_64 ⟨Nat.le_of_ble_eq_true rfl, Nat.le_of_ble_eq_true rfl⟩) hP hD hS hA [6, 5, 0, 1, 2, 3, 4] [] 7 rfl (by decide) rfl rfl (fun r4 u5 H locs hu5 hP hD hS => ?_)
  subst hu5
  have hP : va_P D classes (cat [[(g 0 j, .inr (3, [.int 1, .int 0, .int 1, .ref a0, .ref a1, .ref a2, .ref a3, .ref a4, .ref a5, .ref a6, .ref a7, .ref a8, .ref a9, .ref a10, .ref a11, .ref a12, .ref a13, .int 0, .int 0]))], [(q1, .inl (kA 1, 3, .inl (upd (upd (fun _ => 0) 0 (vp_nar .byte 110)) 1 (vp_nar .byte 48))))], [(a0, .inl (kA 1, 192, .inl (va_cpy (upd (upd (fun _ => 0) 0 (vp_nar .byte 110)) 1 (vp_nar .byte 48)) f0 0 0 2)))], [(a1, .inl (kA 0, 24, .inl (upd (f1) 0 2)))], [(a2, .inl (kA 0, 24, .inl (upd (f2) 0 1)))], [(a3, .inl (kA 0, 24, .inl (upd (f3) 0 0)))], [(a11, .inl (kA 0, 24, .inl (upd (f4) 0 0)))]]) H := hP
  have hD : va_D A (cat [[(g 0 j, .inr (3, [.int 1, .int 0, .int 1, .ref a0, .ref a1, .ref a2, .ref a3, .ref a4, .ref a5, .ref a6, .ref a7, .ref a8, .ref a9, .ref a10, .ref a11, .ref a12, .ref a13, .int 0, .int 0]))], [(q1, .inl (kA 1, 3, .inl (upd (upd (fun _ => 0) 0 (vp_nar .byte 110)) 1 (vp_nar .byte 48))))], [(a0, .inl (kA 1, 192, .inl (va_cpy (upd (upd (fun _ => 0) 0 (vp_nar .byte 110)) 1 (vp_nar .byte 48)) f0 0 0 2)))], [(a1, .inl (kA 0, 24, .inl (upd (f1) 0 2)))], [(a2, .inl (kA 0, 24, .inl (upd (f2) 0 1)))], [(a3, .inl (kA 0, 24, .inl (upd (f3) 0 0)))], [(a11, .inl (kA 0, 24, .inl (upd (f4) 0 0)))]]) := hD
  obtain ⟨hP, hD⟩ := k_ord (gc := [[(g 0 j, .inr (3, [.int 1, .int 0, .int 1, .ref a0, .ref a1, .ref a2, .ref a3, .ref a4, .ref a5, .ref a6, .ref a7, .ref a8, .ref a9, .ref a10, .ref a11, .ref a12, .ref a13, .int 0, .int 0]))], [(a0, .inl (kA 1, 192, .inl (va_cpy (upd (upd (fun _ => 0) 0 (vp_nar .byte 110)) 1 (vp_nar .byte 48)) f0 0 0 2)))], [(a1, .inl (kA 0, 24, .inl (upd (f1) 0 2)))], [(a2, .inl (kA 0, 24, .inl (upd (f2) 0 1)))], [(a3, .inl (kA 0, 24, .inl (upd (f3) 0 0)))], [(a11, .inl (kA 0, 24, .inl (upd (f4) 0 0)))], [(q1, .inl (kA 1, 3, .inl (upd (upd (fun _ => 0) 0 (vp_nar .byte 110)) 1 (vp_nar .byte 48))))]]) hP hD [0, 2, 3, 4, 5, 6, 1] 7 rfl (by decide) rfl
  refine W.widen (k := 1) (n := 3) (Nat.le_of_ble_eq_true rfl) (Nat.le_of_ble_eq_true rfl) ?_
  exact W.iret (v := 0) hx hb hr (fun t ht hW => ⟨⟨0, (fun k => match k with | 0 => q1 | _ => 0), rfl, rfl, by rw [ht]; exact hP, va_K.moved hW.alike hK, hD⟩, hS.F ht⟩) hS.2.2 d_Gr_perform_67
set_option maxRecDepth 100000 in
set_option maxHeartbeats 4000000 in
/-- DrawingHouse$Graph.fourLetters(I)I -/
theorem c_Gr_fourLetters_z1 (l : Launch) (D : va_G) (kA : Nat → ClassId) (g : Nat → Nat → Nat) (j : Nat) (a0 : Nat) (a1 : Nat) (a2 : Nat) (a3 : Nat) (a4 : Nat) (a5 : Nat) (a6 : Nat) (a7 : Nat) (a8 : Nat) (a9 : Nat) (a10 : Nat) (a11 : Nat) (a12 : Nat) (a13 : Nat) (hj : j < 4) : Ci l y_Gr_fourLetters z_Gr_fourLetters { frames := 0, cells := 0, slots := 0, locals := 0 } D classes (TY kA) [.ref (g 0 j), .int 0] [[(g 0 j, .inr (3, [.int 1, .int 0, .int 1, .ref a0, .ref a1, .ref a2, .ref a3, .ref a4, .ref a5, .ref a6, .ref a7, .ref a8, .ref a9, .ref a10, .ref a11, .ref a12, .ref a13, .int 1, .int 0]))], [(a0, .inl (kA 1, 192, .inl (va_cpy (upd (upd (fun _ => 0) 0 (vp_nar .byte 110)) 1 (vp_nar .byte 48)) (fun _ => 0) 0 0 2)))]] (fun r (_ : Unit) => r = ((((va_cpy (upd (upd (fun _ => 0) 0 (vp_nar .byte 110)) 1 (vp_nar .byte 48)) (fun _ => 0) 0 0 2) 0) ||| (((va_cpy (upd (upd (fun _ => 0) 0 (vp_nar .byte 110)) 1 (vp_nar .byte 48)) (fun _ => 0) 0 0 2) 1) <<< (8 &&& 31))) ||| 0) ||| 0) (fun u => [[(g 0 j, .inr (3, [.int 1, .int 0, .int 1, .ref a0, .ref a1, .ref a2, .ref a3, .ref a4, .ref a5, .ref a6, .ref a7, .ref a8, .ref a9, .ref a10, .ref a11, .ref a12, .ref a13, .int 1, .int 0]))], [(a0, .inl (kA 1, 192, .inl (va_cpy (upd (upd (fun _ => 0) 0 (vp_nar .byte 110)) 1 (vp_nar .byte 48)) (fun _ => 0) 0 0 2)))]]) 0 0 := by
  intro sz
  refine k_met (cc := b_Gr_fourLetters) (maxL := 2) (ret := (some .int)) (by decide) rfl (Nat.le_of_ble_eq_true rfl) (fun p e s m below meth c ls X hl hB => ?_)
  obtain ⟨hsz, hP, hK, hD0, hN⟩ := hB
  subst hsz
  have hD := hD0.self (sz := s.heap.size)
  generalize hAe : va_A (cat [[(g 0 j, .inr (3, [.int 1, .int 0, .int 1, .ref a0, .ref a1, .ref a2, .ref a3, .ref a4, .ref a5, .ref a6, .ref a7, .ref a8, .ref a9, .ref a10, .ref a11, .ref a12, .ref a13, .int 1, .int 0]))], [(a0, .inl (kA 1, 192, .inl (va_cpy (upd (upd (fun _ => 0) 0 (vp_nar .byte 110)) 1 (vp_nar .byte 48)) (fun _ => 0) 0 0 2)))]]) s.heap.size = A at hD ⊢
  have hA : ∀ q : Nat, s.heap.size ≤ q → A q := fun q h => by rw [← hAe]; exact Or.inr h
  have hS : va_S A s.heap s.heap [] := va_S.rf
  obtain ⟨hx, hb, hml, hown, hts, hr, hlk, hnm⟩ := id X
  have hl : lv_has ls 2 [(0, .ref (g 0 j)), (1, .int 0)] := hl
  have hP : va_P D classes (cat [[(g 0 j, .inr (3, [.int 1, .int 0, .int 1, .ref a0, .ref a1, .ref a2, .ref a3, .ref a4, .ref a5, .ref a6, .ref a7, .ref a8, .ref a9, .ref a10, .ref a11, .ref a12, .ref a13, .int 1, .int 0]))], [(a0, .inl (kA 1, 192, .inl (va_cpy (upd (upd (fun _ => 0) 0 (vp_nar .byte 110)) 1 (vp_nar .byte 48)) (fun _ => 0) 0 0 2)))]]) s.heap := hP
  have hK : va_K D classes (TY kA) s := hK
  refine lv_aload_n (pc := 0) hx hb d_Gr_fourLetters_0 rfl (lv_at hl 0 rfl) ?_
  refine k_get (pc := 1) X hK hP 0 rfl rfl i_Gr 3 (by decide) wm_83 rfl rfl d_Gr_fourLetters_1 ?_
  refine lv_iload_n (pc := 4) hx hb d_Gr_fourLetters_4 rfl (lv_at hl 1 rfl) ?_
  refine k_bld (pc := 5) hx hb hK hP 1 1 rfl rfl (0) rfl (by decide) (by decide) d_Gr_fourLetters_5 ?_
  refine lv_aload_n (pc := 6) hx hb d_Gr_fourLetters_6 rfl (lv_at hl 0 rfl) ?_
  refine k_get (pc := 7) X hK hP 0 rfl rfl i_Gr 3 (by decide) wm_83 rfl rfl d_Gr_fourLetters_7 ?_
  refine lv_iload_n (pc := 10) hx hb d_Gr_fourLetters_10 rfl (lv_at hl 1 rfl) ?_
  refine lv_iconst (pc := 11) (v := 1) hx hb d_Gr_fourLetters_11 (by decide) ?_
  refine lv_iadd (pc := 12) hx hb d_Gr_fourLetters_12 ?_
  refine k_cst (v := 1) (by decide) ?_
  refine k_bld (pc := 13) hx hb hK hP 1 1 rfl rfl (1) rfl (by decide) (by decide) d_Gr_fourLetters_13 ?_
  refine lv_bipush (pc := 14) (v := 8) hx hb d_Gr_fourLetters_14 (by decide) ?_
  refine lv_ishl (pc := 16) hx hb d_Gr_fourLetters_16 ?_
  refine lv_ior (pc := 17) hx hb d_Gr_fourLetters_17 ?_
  refine lv_aload_n (pc := 18) hx hb d_Gr_fourLetters_18 rfl (lv_at hl 0 rfl) ?_
  refine k_get (pc := 19) X hK hP 0 rfl rfl i_Gr 3 (by decide) wm_83 rfl rfl d_Gr_fourLetters_19 ?_
  refine lv_iload_n (pc := 22) hx hb d_Gr_fourLetters_22 rfl (lv_at hl 1 rfl) ?_
  refine lv_iconst (pc := 23) (v := 2) hx hb d_Gr_fourLetters_23 (by decide) ?_
  refine lv_iadd (pc := 24) hx hb d_Gr_fourLetters_24 ?_
  refine k_cst (v := 2) (by decide) ?_
  refine k_bld (pc := 25) hx hb hK hP 1 1 rfl rfl (2) rfl (by decide) (by decide) d_Gr_fourLetters_25 ?_
  refine k_cst (v := 0) (by rfl) ?_
  refine lv_bipush (pc := 26) (v := 16) hx hb d_Gr_fourLetters_26 (by decide) ?_
  refine lv_ishl (pc := 28) hx hb d_Gr_fourLetters_28 ?_
  refine k_cst (v := 0) (by decide) ?_
  refine lv_ior (pc := 29) hx hb d_Gr_fourLetters_29 ?_
  refine lv_aload_n (pc := 30) hx hb d_Gr_fourLetters_30 rfl (lv_at hl 0 rfl) ?_
  refine k_get (pc := 31) X hK hP 0 rfl rfl i_Gr 3 (by decide) wm_83 rfl rfl d_Gr_fourLetters_31 ?_
  refine lv_iload_n (pc := 34) hx hb d_Gr_fourLetters_34 rfl (lv_at hl 1 rfl) ?_
  refine lv_iconst (pc := 35) (v := 3) hx hb d_Gr_fourLetters_35 (by decide) ?_
  refine lv_iadd (pc := 36) hx hb d_Gr_fourLetters_36 ?_
  refine k_cst (v := 3) (by decide) ?_
  refine k_bld (pc := 37) hx hb hK hP 1 1 rfl rfl (3) rfl (by decide) (by decide) d_Gr_fourLetters_37 ?_
  refine k_cst (v := 0) (by rfl) ?_
  refine lv_bipush (pc := 38) (v := 24) hx hb d_Gr_fourLetters_38 (by decide) ?_
  refine lv_ishl (pc := 40) hx hb d_Gr_fourLetters_40 ?_
  refine k_cst (v := 0) (by decide) ?_
  refine lv_ior (pc := 41) hx hb d_Gr_fourLetters_41 ?_
  refine W.widen (k := 0) (n := 0) (Nat.le_of_ble_eq_true rfl) (Nat.le_of_ble_eq_true rfl) ?_
  exact W.iret (v := (((((va_cpy (upd (upd (fun _ => 0) 0 (vp_nar .byte 110)) 1 (vp_nar .byte 48)) (fun _ => 0) 0 0 2) 0) ||| (((va_cpy (upd (upd (fun _ => 0) 0 (vp_nar .byte 110)) 1 (vp_nar .byte 48)) (fun _ => 0) 0 0 2) 1) <<< (8 &&& 31))) ||| 0) ||| 0)) hx hb hr (fun t ht hW => ⟨⟨(((((va_cpy (upd (upd (fun _ => 0) 0 (vp_nar .byte 110)) 1 (vp_nar .byte 48)) (fun _ => 0) 0 0 2) 0) ||| (((va_cpy (upd (upd (fun _ => 0) 0 (vp_nar .byte 110)) 1 (vp_nar .byte 48)) (fun _ => 0) 0 0 2) 1) <<< (8 &&& 31))) ||| 0) ||| 0), (), rfl, rfl, by rw [ht]; exact hP, va_K.moved hW.alike hK, hD⟩, hS.F ht⟩) hS.2.2 d_Gr_fourLetters_42
set_option maxRecDepth 100000 in
set_option maxHeartbeats 4000000 in
/-- DrawingHouse$Graph.fourLetters(I)I -/
theorem c_Gr_fourLetters_z2 (l : Launch) (D : va_G) (kA : Nat → ClassId) (g : Nat → Nat → Nat) (j : Nat) (a0 : Nat) (a1 : Nat) (a2 : Nat) (a3 : Nat) (a4 : Nat) (a5 : Nat) (a6 : Nat) (a7 : Nat) (a8 : Nat) (a9 : Nat) (a10 : Nat) (a11 : Nat) (a12 : Nat) (a13 : Nat) (hj : j < 4) : Ci l y_Gr_fourLetters z_Gr_fourLetters { frames := 0, cells := 0, slots := 0, locals := 0 } D classes (TY kA) [.ref (g 0 j), .int 4] [[(g 0 j, .inr (3, [.int 1, .int 0, .int 1, .ref a0, .ref a1, .ref a2, .ref a3, .ref a4, .ref a5, .ref a6, .ref a7, .ref a8, .ref a9, .ref a10, .ref a11, .ref a12, .ref a13, .int 1, .int 0]))], [(a0, .inl (kA 1, 192, .inl (va_cpy (upd (upd (fun _ => 0) 0 (vp_nar .byte 110)) 1 (vp_nar .byte 48)) (fun _ => 0) 0 0 2)))]] (fun r (_ : Unit) => r = 0) (fun u => [[(g 0 j, .inr (3, [.int 1, .int 0, .int 1, .ref a0, .ref a1, .ref a2, .ref a3, .ref a4, .ref a5, .ref a6, .ref a7, .ref a8, .ref a9, .ref a10, .ref a11, .ref a12, .ref a13, .int 1, .int 0]))], [(a0, .inl (kA 1, 192, .inl (va_cpy (upd (upd (fun _ => 0) 0 (vp_nar .byte 110)) 1 (vp_nar .byte 48)) (fun _ => 0) 0 0 2)))]]) 0 0 := by
  intro sz
  refine k_met (cc := b_Gr_fourLetters) (maxL := 2) (ret := (some .int)) (by decide) rfl (Nat.le_of_ble_eq_true rfl) (fun p e s m below meth c ls X hl hB => ?_)
  obtain ⟨hsz, hP, hK, hD0, hN⟩ := hB
  subst hsz
  have hD := hD0.self (sz := s.heap.size)
  generalize hAe : va_A (cat [[(g 0 j, .inr (3, [.int 1, .int 0, .int 1, .ref a0, .ref a1, .ref a2, .ref a3, .ref a4, .ref a5, .ref a6, .ref a7, .ref a8, .ref a9, .ref a10, .ref a11, .ref a12, .ref a13, .int 1, .int 0]))], [(a0, .inl (kA 1, 192, .inl (va_cpy (upd (upd (fun _ => 0) 0 (vp_nar .byte 110)) 1 (vp_nar .byte 48)) (fun _ => 0) 0 0 2)))]]) s.heap.size = A at hD ⊢
  have hA : ∀ q : Nat, s.heap.size ≤ q → A q := fun q h => by rw [← hAe]; exact Or.inr h
  have hS : va_S A s.heap s.heap [] := va_S.rf
  obtain ⟨hx, hb, hml, hown, hts, hr, hlk, hnm⟩ := id X
  have hl : lv_has ls 2 [(0, .ref (g 0 j)), (1, .int 4)] := hl
  have hP : va_P D classes (cat [[(g 0 j, .inr (3, [.int 1, .int 0, .int 1, .ref a0, .ref a1, .ref a2, .ref a3, .ref a4, .ref a5, .ref a6, .ref a7, .ref a8, .ref a9, .ref a10, .ref a11, .ref a12, .ref a13, .int 1, .int 0]))], [(a0, .inl (kA 1, 192, .inl (va_cpy (upd (upd (fun _ => 0) 0 (vp_nar .byte 110)) 1 (vp_nar .byte 48)) (fun _ => 0) 0 0 2)))]]) s.heap := hP
  have hK : va_K D classes (TY kA) s := hK
  refine lv_aload_n (pc := 0) hx hb d_Gr_fourLetters_0 rfl (lv_at hl 0 rfl) ?_
  refine k_get (pc := 1) X hK hP 0 rfl rfl i_Gr 3 (by decide) wm_83 rfl rfl d_Gr_fourLetters_1 ?_
  refine lv_iload_n (pc := 4) hx hb d_Gr_fourLetters_4 rfl (lv_at hl 1 rfl) ?_
  refine k_bld (pc := 5) hx hb hK hP 1 1 rfl rfl (4) rfl (by decide) (by decide) d_Gr_fourLetters_5 ?_
  refine k_cst (v := 0) (by rfl) ?_
  refine lv_aload_n (pc := 6) hx hb d_Gr_fourLetters_6 rfl (lv_at hl 0 rfl) ?_
  refine k_get (pc := 7) X hK hP 0 rfl rfl i_Gr 3 (by decide) wm_83 rfl rfl d_Gr_fourLetters_7 ?_
  refine lv_iload_n (pc := 10) hx hb d_Gr_fourLetters_10 rfl (lv_at hl 1 rfl) ?_
  refine lv_iconst (pc := 11) (v := 1) hx hb d_Gr_fourLetters_11 (by decide) ?_
  refine lv_iadd (pc := 12) hx hb d_Gr_fourLetters_12 ?_
  refine k_cst (v := 5) (by decide) ?_
  refine k_bld (pc := 13) hx hb hK hP 1 1 rfl rfl (5) rfl (by decide) (by decide) d_Gr_fourLetters_13 ?_
  refine k_cst (v := 0) (by rfl) ?_
  refine lv_bipush (pc := 14) (v := 8) hx hb d_Gr_fourLetters_14 (by decide) ?_
  refine lv_ishl (pc := 16) hx hb d_Gr_fourLetters_16 ?_
  refine k_cst (v := 0) (by decide) ?_
  refine lv_ior (pc := 17) hx hb d_Gr_fourLetters_17 ?_
  refine k_cst (v := 0) (by decide) ?_
  refine lv_aload_n (pc := 18) hx hb d_Gr_fourLetters_18 rfl (lv_at hl 0 rfl) ?_
  refine k_get (pc := 19) X hK hP 0 rfl rfl i_Gr 3 (by decide) wm_83 rfl rfl d_Gr_fourLetters_19 ?_
  refine lv_iload_n (pc := 22) hx hb d_Gr_fourLetters_22 rfl (lv_at hl 1 rfl) ?_
  refine lv_iconst (pc := 23) (v := 2) hx hb d_Gr_fourLetters_23 (by decide) ?_
  refine lv_iadd (pc := 24) hx hb d_Gr_fourLetters_24 ?_
  refine k_cst (v := 6) (by decide) ?_
  refine k_bld (pc := 25) hx hb hK hP 1 1 rfl rfl (6) rfl (by decide) (by decide) d_Gr_fourLetters_25 ?_
  refine k_cst (v := 0) (by rfl) ?_
  refine lv_bipush (pc := 26) (v := 16) hx hb d_Gr_fourLetters_26 (by decide) ?_
  refine lv_ishl (pc := 28) hx hb d_Gr_fourLetters_28 ?_
  refine k_cst (v := 0) (by decide) ?_
  refine lv_ior (pc := 29) hx hb d_Gr_fourLetters_29 ?_
  refine k_cst (v := 0) (by decide) ?_
  refine lv_aload_n (pc := 30) hx hb d_Gr_fourLetters_30 rfl (lv_at hl 0 rfl) ?_
  refine k_get (pc := 31) X hK hP 0 rfl rfl i_Gr 3 (by decide) wm_83 rfl rfl d_Gr_fourLetters_31 ?_
  refine lv_iload_n (pc := 34) hx hb d_Gr_fourLetters_34 rfl (lv_at hl 1 rfl) ?_
  refine lv_iconst (pc := 35) (v := 3) hx hb d_Gr_fourLetters_35 (by decide) ?_
  refine lv_iadd (pc := 36) hx hb d_Gr_fourLetters_36 ?_
  refine k_cst (v := 7) (by decide) ?_
  refine k_bld (pc := 37) hx hb hK hP 1 1 rfl rfl (7) rfl (by decide) (by decide) d_Gr_fourLetters_37 ?_
  refine k_cst (v := 0) (by rfl) ?_
  refine lv_bipush (pc := 38) (v := 24) hx hb d_Gr_fourLetters_38 (by decide) ?_
  refine lv_ishl (pc := 40) hx hb d_Gr_fourLetters_40 ?_
  refine k_cst (v := 0) (by decide) ?_
  refine lv_ior (pc := 41) hx hb d_Gr_fourLetters_41 ?_
  refine k_cst (v := 0) (by decide) ?_
  refine W.widen (k := 0) (n := 0) (Nat.le_of_ble_eq_true rfl) (Nat.le_of_ble_eq_true rfl) ?_
  exact W.iret (v := 0) hx hb hr (fun t ht hW => ⟨⟨0, (), rfl, rfl, by rw [ht]; exact hP, va_K.moved hW.alike hK, hD⟩, hS.F ht⟩) hS.2.2 d_Gr_fourLetters_42
set_option maxRecDepth 100000 in
set_option maxHeartbeats 4000000 in
/-- DrawingHouse$Graph.pack(I)V -/
theorem c_Gr_pack_z2 (l : Launch) (D : va_G) (kA : Nat → ClassId) (g : Nat → Nat → Nat) (j : Nat) (a0 : Nat) (a1 : Nat) (a2 : Nat) (a3 : Nat) (a4 : Nat) (a5 : Nat) (a6 : Nat) (a7 : Nat) (a8 : Nat) (a9 : Nat) (a10 : Nat) (a11 : Nat) (a12 : Nat) (a13 : Nat) (f0 : Nat → Int32) (hj : j < 4) : Cv l y_Gr_pack z_Gr_pack { frames := 1, cells := 0, slots := 0, locals := 21 } D classes (TY kA) [.ref (g 0 j), .int 1] [[(g 0 j, .inr (3, [.int 1, .int 0, .int 1, .ref a0, .ref a1, .ref a2, .ref a3, .ref a4, .ref a5, .ref a6, .ref a7, .ref a8, .ref a9, .ref a10, .ref a11, .ref a12, .ref a13, .int 1, .int 0]))], [(a13, .inl (kA 0, 3782, .inl f0))], [(a0, .inl (kA 1, 192, .inl (va_cpy (upd (upd (fun _ => 0) 0 (vp_nar .byte 110)) 1 (vp_nar .byte 48)) (fun _ => 0) 0 0 2)))], [(a1, .inl (kA 0, 24, .inl (upd ((fun _ => 0)) 0 2)))], [(a2, .inl (kA 0, 24, .inl (upd ((fun _ => 0)) 0 1)))], [(a3, .inl (kA 0, 24, .inl (upd ((fun _ => 0)) 0 0)))]] (fun _ : Unit => True) (fun u => [[(g 0 j, .inr (3, [.int 1, .int 0, .int 1, .ref a0, .ref a1, .ref a2, .ref a3, .ref a4, .ref a5, .ref a6, .ref a7, .ref a8, .ref a9, .ref a10, .ref a11, .ref a12, .ref a13, .int 1, .int 0]))], [(a13, .inl (kA 0, 3782, .inl (upd (upd (upd (upd (upd (f0) 122 1) 123 0) 124 (((((va_cpy (upd (upd (fun _ => 0) 0 (vp_nar .byte 110)) 1 (vp_nar .byte 48)) (fun _ => 0) 0 0 2) 0) ||| (((va_cpy (upd (upd (fun _ => 0) 0 (vp_nar .byte 110)) 1 (vp_nar .byte 48)) (fun _ => 0) 0 0 2) 1) <<< (8 &&& 31))) ||| 0) ||| 0)) 125 0) 126 258)))], [(a0, .inl (kA 1, 192, .inl (va_cpy (upd (upd (fun _ => 0) 0 (vp_nar .byte 110)) 1 (vp_nar .byte 48)) (fun _ => 0) 0 0 2)))], [(a1, .inl (kA 0, 24, .inl (upd ((fun _ => 0)) 0 2)))], [(a2, .inl (kA 0, 24, .inl (upd ((fun _ => 0)) 0 1)))], [(a3, .inl (kA 0, 24, .inl (upd ((fun _ => 0)) 0 0)))]]) 0 0 := by
  intro sz
  refine k_met (cc := b_Gr_pack) (maxL := 4) (ret := none) (by decide) rfl (Nat.le_of_ble_eq_true rfl) (fun p e s m below meth c ls X hl hB => ?_)
  obtain ⟨hsz, hP, hK, hD0, hN⟩ := hB
  subst hsz
  have hD := hD0.self (sz := s.heap.size)
  generalize hAe : va_A (cat [[(g 0 j, .inr (3, [.int 1, .int 0, .int 1, .ref a0, .ref a1, .ref a2, .ref a3, .ref a4, .ref a5, .ref a6, .ref a7, .ref a8, .ref a9, .ref a10, .ref a11, .ref a12, .ref a13, .int 1, .int 0]))], [(a13, .inl (kA 0, 3782, .inl f0))], [(a0, .inl (kA 1, 192, .inl (va_cpy (upd (upd (fun _ => 0) 0 (vp_nar .byte 110)) 1 (vp_nar .byte 48)) (fun _ => 0) 0 0 2)))], [(a1, .inl (kA 0, 24, .inl (upd ((fun _ => 0)) 0 2)))], [(a2, .inl (kA 0, 24, .inl (upd ((fun _ => 0)) 0 1)))], [(a3, .inl (kA 0, 24, .inl (upd ((fun _ => 0)) 0 0)))]]) s.heap.size = A at hD ⊢
  have hA : ∀ q : Nat, s.heap.size ≤ q → A q := fun q h => by rw [← hAe]; exact Or.inr h
  have hS : va_S A s.heap s.heap [] := va_S.rf
  obtain ⟨hx, hb, hml, hown, hts, hr, hlk, hnm⟩ := id X
  have hl : lv_has ls 4 [(0, .ref (g 0 j)), (1, .int 1)] := hl
  have hP : va_P D classes (cat [[(g 0 j, .inr (3, [.int 1, .int 0, .int 1, .ref a0, .ref a1, .ref a2, .ref a3, .ref a4, .ref a5, .ref a6, .ref a7, .ref a8, .ref a9, .ref a10, .ref a11, .ref a12, .ref a13, .int 1, .int 0]))], [(a13, .inl (kA 0, 3782, .inl f0))], [(a0, .inl (kA 1, 192, .inl (va_cpy (upd (upd (fun _ => 0) 0 (vp_nar .byte 110)) 1 (vp_nar .byte 48)) (fun _ => 0) 0 0 2)))], [(a1, .inl (kA 0, 24, .inl (upd ((fun _ => 0)) 0 2)))], [(a2, .inl (kA 0, 24, .inl (upd ((fun _ => 0)) 0 1)))], [(a3, .inl (kA 0, 24, .inl (upd ((fun _ => 0)) 0 0)))]]) s.heap := hP
  have hK : va_K D classes (TY kA) s := hK
  refine lv_iload_n (pc := 0) hx hb d_Gr_pack_0 rfl (lv_at hl 1 rfl) ?_
  refine lv_bipush (pc := 1) (v := 122) hx hb d_Gr_pack_1 (by decide) ?_
  refine lv_imul (pc := 3) hx hb d_Gr_pack_3 ?_
  refine k_cst (v := 122) (by decide) ?_
  refine lv_istore_n (pc := 4) (lv' := [(2, .int 122), (0, .ref (g 0 j)), (1, .int 1)]) hx hb d_Gr_pack_4 rfl hl (by decide) rfl (fun ls hl => ?_)
  refine lv_aload_n (pc := 5) hx hb d_Gr_pack_5 rfl (lv_at hl 1 rfl) ?_
  refine k_get (pc := 6) X hK hP 0 rfl rfl i_Gr 16 (by decide) wm_148 rfl rfl d_Gr_pack_6 ?_
  refine lv_iload_n (pc := 9) hx hb d_Gr_pack_9 rfl (lv_at hl 0 rfl) ?_
  refine lv_aload_n (pc := 10) hx hb d_Gr_pack_10 rfl (lv_at hl 1 rfl) ?_
  refine k_get (pc := 11) X hK hP 0 rfl rfl i_Gr 0 (by decide) wm_56 rfl rfl d_Gr_pack_11 ?_
  refine va_iast (pc := 14) hx hb hK hP hD hS 1 0 rfl rfl (by unfold vp_in; decide) d_Gr_pack_14 (fun H locs hP hD hS => ?_)
  have hP : va_P D classes (cat [[(g 0 j, .inr (3, [.int 1, .int 0, .int 1, .ref a0, .ref a1, .ref a2, .ref a3, .ref a4, .ref a5, .ref a6, .ref a7, .ref a8, .ref a9, .ref a10, .ref a11, .ref a12, .ref a13, .int 1, .int 0]))], [(a13, .inl (kA 0, 3782, .inl (upd (f0) 122 1)))], [(a0, .inl (kA 1, 192, .inl (va_cpy (upd (upd (fun _ => 0) 0 (vp_nar .byte 110)) 1 (vp_nar .byte 48)) (fun _ => 0) 0 0 2)))], [(a1, .inl (kA 0, 24, .inl (upd ((fun _ => 0)) 0 2)))], [(a2, .inl (kA 0, 24, .inl (upd ((fun _ => 0)) 0 1)))], [(a3, .inl (kA 0, 24, .inl (upd ((fun _ => 0)) 0 0)))]]) H := hP
  have hD : va_D A (cat [[(g 0 j, .inr (3, [.int 1, .int 0, .int 1, .ref a0, .ref a1, .ref a2, .ref a3, .ref a4, .ref a5, .ref a6, .ref a7, .ref a8, .ref a9, .ref a10, .ref a11, .ref a12, .ref a13, .int 1, .int 0]))], [(a13, .inl (kA 0, 3782, .inl (upd (f0) 122 1)))], [(a0, .inl (kA 1, 192, .inl (va_cpy (upd (upd (fun _ => 0) 0 (vp_nar .byte 110)) 1 (vp_nar .byte 48)) (fun _ => 0) 0 0 2)))], [(a1, .inl (kA 0, 24, .inl (upd ((fun _ => 0)) 0 2)))], [(a2, .inl (kA 0, 24, .inl (upd ((fun _ => 0)) 0 1)))], [(a3, .inl (kA 0, 24, .inl (upd ((fun _ => 0)) 0 0)))]]) := hD
  refine lv_aload_n (pc := 15) hx hb d_Gr_pack_15 rfl (lv_at hl 1 rfl) ?_
  refine k_get (pc := 16) X hK hP 0 rfl rfl i_Gr 16 (by decide) wm_148 rfl rfl d_Gr_pack_16 ?_
  refine lv_iload_n (pc := 19) hx hb d_Gr_pack_19 rfl (lv_at hl 0 rfl) ?_
  refine lv_iconst (pc := 20) (v := 1) hx hb d_Gr_pack_20 (by decide) ?_
  refine lv_iadd (pc := 21) hx hb d_Gr_pack_21 ?_
  refine k_cst (v := 123) (by decide) ?_
  refine lv_aload_n (pc := 22) hx hb d_Gr_pack_22 rfl (lv_at hl 1 rfl) ?_
  refine k_get (pc := 23) X hK hP 0 rfl rfl i_Gr 1 (by decide) wm_68 rfl rfl d_Gr_pack_23 ?_
  refine va_iast (pc := 26) hx hb hK hP hD hS 1 0 rfl rfl (by unfold vp_in; decide) d_Gr_pack_26 (fun H locs hP hD hS => ?_)
  have hP : va_P D classes (cat [[(g 0 j, .inr (3, [.int 1, .int 0, .int 1, .ref a0, .ref a1, .ref a2, .ref a3, .ref a4, .ref a5, .ref a6, .ref a7, .ref a8, .ref a9, .ref a10, .ref a11, .ref a12, .ref a13, .int 1, .int 0]))], [(a13, .inl (kA 0, 3782, .inl (upd (upd (f0) 122 1) 123 0)))], [(a0, .inl (kA 1, 192, .inl (va_cpy (upd (upd (fun _ => 0) 0 (vp_nar .byte 110)) 1 (vp_nar .byte 48)) (fun _ => 0) 0 0 2)))], [(a1, .inl (kA 0, 24, .inl (upd ((fun _ => 0)) 0 2)))], [(a2, .inl (kA 0, 24, .inl (upd ((fun _ => 0)) 0 1)))], [(a3, .inl (kA 0, 24, .inl (upd ((fun _ => 0)) 0 0)))]]) H := hP
  have hD : va_D A (cat [[(g 0 j, .inr (3, [.int 1, .int 0, .int 1, .ref a0, .ref a1, .ref a2, .ref a3, .ref a4, .ref a5, .ref a6, .ref a7, .ref a8, .ref a9, .ref a10, .ref a11, .ref a12, .ref a13, .int 1, .int 0]))], [(a13, .inl (kA 0, 3782, .inl (upd (upd (f0) 122 1) 123 0)))], [(a0, .inl (kA 1, 192, .inl (va_cpy (upd (upd (fun _ => 0) 0 (vp_nar .byte 110)) 1 (vp_nar .byte 48)) (fun _ => 0) 0 0 2)))], [(a1, .inl (kA 0, 24, .inl (upd ((fun _ => 0)) 0 2)))], [(a2, .inl (kA 0, 24, .inl (upd ((fun _ => 0)) 0 1)))], [(a3, .inl (kA 0, 24, .inl (upd ((fun _ => 0)) 0 0)))]]) := hD
  refine lv_iinc (pc := 27) (v := 124) (lv' := [(2, .int 124), (0, .ref (g 0 j)), (1, .int 1)]) hx hb d_Gr_pack_27 hl (k := 0) rfl (by decide) (by decide) rfl (fun ls hl => ?_)
  refine lv_iconst (pc := 30) (v := 0) hx hb d_Gr_pack_30 (by decide) ?_
  refine lv_istore_n (pc := 31) (lv' := [(3, .int 0), (2, .int 124), (0, .ref (g 0 j)), (1, .int 1)]) hx hb d_Gr_pack_31 rfl hl (by decide) rfl (fun ls hl => ?_)
  refine lv_iload_n (pc := 32) hx hb d_Gr_pack_32 rfl (lv_at hl 0 rfl) ?_
  refine lv_aload_n (pc := 33) hx hb d_Gr_pack_33 rfl (lv_at hl 2 rfl) ?_
  refine k_get (pc := 34) X hK hP 0 rfl rfl i_Gr 0 (by decide) wm_56 rfl rfl d_Gr_pack_34 ?_
  refine lv_icmp_ge (pc := 37) (tgt := 115) hx hb d_Gr_pack_37 (by decide) (fun c1 => absurd c1 (by decide)) (fun _ => ?_)
  refine lv_aload_n (pc := 40) hx hb d_Gr_pack_40 rfl (lv_at hl 2 rfl) ?_
  refine k_get (pc := 41) X hK hP 0 rfl rfl i_Gr 16 (by decide) wm_148 rfl rfl d_Gr_pack_41 ?_
  refine lv_iload_n (pc := 44) hx hb d_Gr_pack_44 rfl (lv_at hl 1 rfl) ?_
  refine lv_aload_n (pc := 45) hx hb d_Gr_pack_45 rfl (lv_at hl 2 rfl) ?_
  refine lv_iload_n (pc := 46) hx hb d_Gr_pack_46 rfl (lv_at hl 0 rfl) ?_
  refine lv_bipush (pc := 47) (v := 8) hx hb d_Gr_pack_47 (by decide) ?_
  refine lv_imul (pc := 49) hx hb d_Gr_pack_49 ?_
  refine k_cst (v := 0) (by decide) ?_
  refine k_goI (gr := [[(a13, .inl (kA 0, 3782, .inl (upd (upd (f0) 122 1) 123 0)))], [(a1, .inl (kA 0, 24, .inl (upd ((fun _ => 0)) 0 2)))], [(a2, .inl (kA 0, 24, .inl (upd ((fun _ => 0)) 0 1)))], [(a3, .inl (kA 0, 24, .inl (upd ((fun _ => 0)) 0 0)))]]) (k_rV (pc := 50) (As := [.int 0]) (rest := [.int 124, .ref a13]) X (c_Gr_fourLetters_z1 l D kA g j a0 a1 a2 a3 a4 a5 a6 a7 a8 a9 a10 a11 a12 a13 hj H.size) rfl wm_983 wm_3 wm_980 wm_982 wv_2_15 1 (by decide +kernel) ⟨Nat.le_of_ble_eq_true rfl, Nat.le_of_ble_eq_true rfl⟩ rfl rfl (va_recv hK hP (ci := 3) (q0 := 0) rfl rfl) (k_pre hN hK hP hD [0, 2] [1, 3, 4, 5] 6 rfl (by decide) rfl) rfl hl.1 rfl (Nat.le_of_ble_eq_true rfl) d_Gr_pack_50 ⟨Nat.le_of_ble_eq_true rfl, Nat.le_of_ble_eq_true rfl⟩) hP hD hS hA [0, 2] [1, 3, 4, 5] 6 rfl (by decide) rfl rfl (fun r1 u2 H locs hu2 hP hD hS => ?_)
  subst hu2
  have hP : va_P D classes (cat [[(a13, .inl (kA 0, 3782, .inl (upd (upd (f0) 122 1) 123 0)))], [(a1, .inl (kA 0, 24, .inl (upd ((fun _ => 0)) 0 2)))], [(a2, .inl (kA 0, 24, .inl (upd ((fun _ => 0)) 0 1)))], [(a3, .inl (kA 0, 24, .inl (upd ((fun _ => 0)) 0 0)))], [(g 0 j, .inr (3, [.int 1, .int 0, .int 1, .ref a0, .ref a1, .ref a2, .ref a3, .ref a4, .ref a5, .ref a6, .ref a7, .ref a8, .ref a9, .ref a10, .ref a11, .ref a12, .ref a13, .int 1, .int 0]))], [(a0, .inl (kA 1, 192, .inl (va_cpy (upd (upd (fun _ => 0) 0 (vp_nar .byte 110)) 1 (vp_nar .byte 48)) (fun _ => 0) 0 0 2)))]]) H := hP
  have hD : va_D A (cat [[(a13, .inl (kA 0, 3782, .inl (upd (upd (f0) 122 1) 123 0)))], [(a1, .inl (kA 0, 24, .inl (upd ((fun _ => 0)) 0 2)))], [(a2, .inl (kA 0, 24, .inl (upd ((fun _ => 0)) 0 1)))], [(a3, .inl (kA 0, 24, .inl (upd ((fun _ => 0)) 0 0)))], [(g 0 j, .inr (3, [.int 1, .int 0, .int 1, .ref a0, .ref a1, .ref a2, .ref a3, .ref a4, .ref a5, .ref a6, .ref a7, .ref a8, .ref a9, .ref a10, .ref a11, .ref a12, .ref a13, .int 1, .int 0]))], [(a0, .inl (kA 1, 192, .inl (va_cpy (upd (upd (fun _ => 0) 0 (vp_nar .byte 110)) 1 (vp_nar .byte 48)) (fun _ => 0) 0 0 2)))]]) := hD
  refine va_iast (pc := 53) hx hb hK hP hD hS 0 0 rfl rfl (by unfold vp_in; decide) d_Gr_pack_53 (fun H locs hP hD hS => ?_)
  have hP : va_P D classes (cat [[(a13, .inl (kA 0, 3782, .inl (upd (upd (upd (f0) 122 1) 123 0) 124 (((((va_cpy (upd (upd (fun _ => 0) 0 (vp_nar .byte 110)) 1 (vp_nar .byte 48)) (fun _ => 0) 0 0 2) 0) ||| (((va_cpy (upd (upd (fun _ => 0) 0 (vp_nar .byte 110)) 1 (vp_nar .byte 48)) (fun _ => 0) 0 0 2) 1) <<< (8 &&& 31))) ||| 0) ||| 0))))], [(a1, .inl (kA 0, 24, .inl (upd ((fun _ => 0)) 0 2)))], [(a2, .inl (kA 0, 24, .inl (upd ((fun _ => 0)) 0 1)))], [(a3, .inl (kA 0, 24, .inl (upd ((fun _ => 0)) 0 0)))], [(g 0 j, .inr (3, [.int 1, .int 0, .int 1, .ref a0, .ref a1, .ref a2, .ref a3, .ref a4, .ref a5, .ref a6, .ref a7, .ref a8, .ref a9, .ref a10, .ref a11, .ref a12, .ref a13, .int 1, .int 0]))], [(a0, .inl (kA 1, 192, .inl (va_cpy (upd (upd (fun _ => 0) 0 (vp_nar .byte 110)) 1 (vp_nar .byte 48)) (fun _ => 0) 0 0 2)))]]) H := hP
  have hD : va_D A (cat [[(a13, .inl (kA 0, 3782, .inl (upd (upd (upd (f0) 122 1) 123 0) 124 (((((va_cpy (upd (upd (fun _ => 0) 0 (vp_nar .byte 110)) 1 (vp_nar .byte 48)) (fun _ => 0) 0 0 2) 0) ||| (((va_cpy (upd (upd (fun _ => 0) 0 (vp_nar .byte 110)) 1 (vp_nar .byte 48)) (fun _ => 0) 0 0 2) 1) <<< (8 &&& 31))) ||| 0) ||| 0))))], [(a1, .inl (kA 0, 24, .inl (upd ((fun _ => 0)) 0 2)))], [(a2, .inl (kA 0, 24, .inl (upd ((fun _ => 0)) 0 1)))], [(a3, .inl (kA 0, 24, .inl (upd ((fun _ => 0)) 0 0)))], [(g 0 j, .inr (3, [.int 1, .int 0, .int 1, .ref a0, .ref a1, .ref a2, .ref a3, .ref a4, .ref a5, .ref a6, .ref a7, .ref a8, .ref a9, .ref a10, .ref a11, .ref a12, .ref a13, .int 1, .int 0]))], [(a0, .inl (kA 1, 192, .inl (va_cpy (upd (upd (fun _ => 0) 0 (vp_nar .byte 110)) 1 (vp_nar .byte 48)) (fun _ => 0) 0 0 2)))]]) := hD
  refine lv_aload_n (pc := 54) hx hb d_Gr_pack_54 rfl (lv_at hl 2 rfl) ?_
  refine k_get (pc := 55) X hK hP 4 rfl rfl i_Gr 16 (by decide) wm_148 rfl rfl d_Gr_pack_55 ?_
  refine lv_iload_n (pc := 58) hx hb d_Gr_pack_58 rfl (lv_at hl 1 rfl) ?_
  refine lv_iconst (pc := 59) (v := 1) hx hb d_Gr_pack_59 (by decide) ?_
  refine lv_iadd (pc := 60) hx hb d_Gr_pack_60 ?_
  refine k_cst (v := 125) (by decide) ?_
  refine lv_aload_n (pc := 61) hx hb d_Gr_pack_61 rfl (lv_at hl 2 rfl) ?_
  refine lv_iload_n (pc := 62) hx hb d_Gr_pack_62 rfl (lv_at hl 0 rfl) ?_
  refine lv_bipush (pc := 63) (v := 8) hx hb d_Gr_pack_63 (by decide) ?_
  refine lv_imul (pc := 65) hx hb d_Gr_pack_65 ?_
  refine k_cst (v := 0) (by decide) ?_
  refine lv_iconst (pc := 66) (v := 4) hx hb d_Gr_pack_66 (by decide) ?_
  refine lv_iadd (pc := 67) hx hb d_Gr_pack_67 ?_
  refine k_cst (v := 4) (by decide) ?_
  refine k_goI (gr := [[(a13, .inl (kA 0, 3782, .inl (upd (upd (upd (f0) 122 1) 123 0) 124 (((((va_cpy (upd (upd (fun _ => 0) 0 (vp_nar .byte 110)) 1 (vp_nar .byte 48)) (fun _ => 0) 0 0 2) 0) ||| (((va_cpy (upd (upd (fun _ => 0) 0 (vp_nar .byte 110)) 1 (vp_nar .byte 48)) (fun _ => 0) 0 0 2) 1) <<< (8 &&& 31))) ||| 0) ||| 0))))], [(a1, .inl (kA 0, 24, .inl (upd ((fun _ => 0)) 0 2)))], [(a2, .inl (kA 0, 24, .inl (upd ((fun _ => 0)) 0 1)))], [(a3, .inl (kA 0, 24, .inl (upd ((fun _ => 0)) 0 0)))]]) (k_rV (pc := 68) (As := [.int 4]) (rest := [.int 125, .ref a13]) X (c_Gr_fourLetters_z2 l D kA g j a0 a1 a2 a3 a4 a5 a6 a7 a8 a9 a10 a11 a12 a13 hj H.size) rfl wm_983 wm_3 wm_980 wm_982 wv_2_15 1 (by decide +kernel) ⟨Nat.le_of_ble_eq_true rfl, Nat.le_of_ble_eq_true rfl⟩ rfl rfl (va_recv hK hP (ci := 3) (q0 := 4) rfl rfl) (k_pre hN hK hP hD [4, 5] [0, 1, 2, 3] 6 rfl (by decide) rfl) rfl hl.1 rfl (Nat.le_of_ble_eq_true rfl) d_Gr_pack_68 ⟨Nat.le_of_ble_eq_true rfl, Nat.le_of_ble_eq_true rfl⟩) hP hD hS hA [4, 5] [0, 1, 2, 3] 6 rfl (by decide) rfl rfl (fun r3 u4 H locs hu4 hP hD hS => ?_)
  subst hu4
  have hP : va_P D classes (cat [[(a13, .inl (kA 0, 3782, .inl (upd (upd (upd (f0) 122 1) 123 0) 124 (((((va_cpy (upd (upd (fun _ => 0) 0 (vp_nar .byte 110)) 1 (vp_nar .byte 48)) (fun _ => 0) 0 0 2) 0) ||| (((va_cpy (upd (upd (fun _ => 0) 0 (vp_nar .byte 110)) 1 (vp_nar .byte 48)) (fun _ => 0) 0 0 2) 1) <<< (8 &&& 31))) ||| 0) ||| 0))))], [(a1, .inl (kA 0, 24, .inl (upd ((fun _ => 0)) 0 2)))], [(a2, .inl (kA 0, 24, .inl (upd ((fun _ => 0)) 0 1)))], [(a3, .inl (kA 0, 24, .inl (upd ((fun _ => 0)) 0 0)))], [(g 0 j, .inr (3, [.int 1, .int 0, .int 1, .ref a0, .ref a1, .ref a2, .ref a3, .ref a4, .ref a5, .ref a6, .ref a7, .ref a8, .ref a9, .ref a10, .ref a11, .ref a12, .ref a13, .int 1, .int 0]))], [(a0, .inl (kA 1, 192, .inl (va_cpy (upd (upd (fun _ => 0) 0 (vp_nar .byte 110)) 1 (vp_nar .byte 48)) (fun _ => 0) 0 0 2)))]]) H := hP
  have hD : va_D A (cat [[(a13, .inl (kA 0, 3782, .inl (upd (upd (upd (f0) 122 1) 123 0) 124 (((((va_cpy (upd (upd (fun _ => 0) 0 (vp_nar .byte 110)) 1 (vp_nar .byte 48)) (fun _ => 0) 0 0 2) 0) ||| (((va_cpy (upd (upd (fun _ => 0) 0 (vp_nar .byte 110)) 1 (vp_nar .byte 48)) (fun _ => 0) 0 0 2) 1) <<< (8 &&& 31))) ||| 0) ||| 0))))], [(a1, .inl (kA 0, 24, .inl (upd ((fun _ => 0)) 0 2)))], [(a2, .inl (kA 0, 24, .inl (upd ((fun _ => 0)) 0 1)))], [(a3, .inl (kA 0, 24, .inl (upd ((fun _ => 0)) 0 0)))], [(g 0 j, .inr (3, [.int 1, .int 0, .int 1, .ref a0, .ref a1, .ref a2, .ref a3, .ref a4, .ref a5, .ref a6, .ref a7, .ref a8, .ref a9, .ref a10, .ref a11, .ref a12, .ref a13, .int 1, .int 0]))], [(a0, .inl (kA 1, 192, .inl (va_cpy (upd (upd (fun _ => 0) 0 (vp_nar .byte 110)) 1 (vp_nar .byte 48)) (fun _ => 0) 0 0 2)))]]) := hD
  refine va_iast (pc := 71) hx hb hK hP hD hS 0 0 rfl rfl (by unfold vp_in; decide) d_Gr_pack_71 (fun H locs hP hD hS => ?_)
  have hP : va_P D classes (cat [[(a13, .inl (kA 0, 3782, .inl (upd (upd (upd (upd (f0) 122 1) 123 0) 124 (((((va_cpy (upd (upd (fun _ => 0) 0 (vp_nar .byte 110)) 1 (vp_nar .byte 48)) (fun _ => 0) 0 0 2) 0) ||| (((va_cpy (upd (upd (fun _ => 0) 0 (vp_nar .byte 110)) 1 (vp_nar .byte 48)) (fun _ => 0) 0 0 2) 1) <<< (8 &&& 31))) ||| 0) ||| 0)) 125 0)))], [(a1, .inl (kA 0, 24, .inl (upd ((fun _ => 0)) 0 2)))], [(a2, .inl (kA 0, 24, .inl (upd ((fun _ => 0)) 0 1)))], [(a3, .inl (kA 0, 24, .inl (upd ((fun _ => 0)) 0 0)))], [(g 0 j, .inr (3, [.int 1, .int 0, .int 1, .ref a0, .ref a1, .ref a2, .ref a3, .ref a4, .ref a5, .ref a6, .ref a7, .ref a8, .ref a9, .ref a10, .ref a11, .ref a12, .ref a13, .int 1, .int 0]))], [(a0, .inl (kA 1, 192, .inl (va_cpy (upd (upd (fun _ => 0) 0 (vp_nar .byte 110)) 1 (vp_nar .byte 48)) (fun _ => 0) 0 0 2)))]]) H := hP
  have hD : va_D A (cat [[(a13, .inl (kA 0, 3782, .inl (upd (upd (upd (upd (f0) 122 1) 123 0) 124 (((((va_cpy (upd (upd (fun _ => 0) 0 (vp_nar .byte 110)) 1 (vp_nar .byte 48)) (fun _ => 0) 0 0 2) 0) ||| (((va_cpy (upd (upd (fun _ => 0) 0 (vp_nar .byte 110)) 1 (vp_nar .byte 48)) (fun _ => 0) 0 0 2) 1) <<< (8 &&& 31))) ||| 0) ||| 0)) 125 0)))], [(a1, .inl (kA 0, 24, .inl (upd ((fun _ => 0)) 0 2)))], [(a2, .inl (kA 0, 24, .inl (upd ((fun _ => 0)) 0 1)))], [(a3, .inl (kA 0, 24, .inl (upd ((fun _ => 0)) 0 0)))], [(g 0 j, .inr (3, [.int 1, .int 0, .int 1, .ref a0, .ref a1, .ref a2, .ref a3, .ref a4, .ref a5, .ref a6, .ref a7, .ref a8, .ref a9, .ref a10, .ref a11, .ref a12, .ref a13, .int 1, .int 0]))], [(a0, .inl (kA 1, 192, .inl (va_cpy (upd (upd (fun _ => 0) 0 (vp_nar .byte 110)) 1 (vp_nar .byte 48)) (fun _ => 0) 0 0 2)))]]) := hD
  refine lv_aload_n (pc := 72) hx hb d_Gr_pack_72 rfl (lv_at hl 2 rfl) ?_
  refine k_get (pc := 73) X hK hP 4 rfl rfl i_Gr 16 (by decide) wm_148 rfl rfl d_Gr_pack_73 ?_
  refine lv_iload_n (pc := 76) hx hb d_Gr_pack_76 rfl (lv_at hl 1 rfl) ?_
  refine lv_iconst (pc := 77) (v := 2) hx hb d_Gr_pack_77 (by decide) ?_
  refine lv_iadd (pc := 78) hx hb d_Gr_pack_78 ?_
  refine k_cst (v := 126) (by decide) ?_
  refine lv_aload_n (pc := 79) hx hb d_Gr_pack_79 rfl (lv_at hl 2 rfl) ?_
  refine k_get (pc := 80) X hK hP 4 rfl rfl i_Gr 4 (by decide) wm_85 rfl rfl d_Gr_pack_80 ?_
  refine lv_iload_n (pc := 83) hx hb d_Gr_pack_83 rfl (lv_at hl 0 rfl) ?_
  refine k_ild (pc := 84) hx hb hK hP 1 0 rfl rfl (0) rfl (by decide) (by decide) d_Gr_pack_84 ?_
  refine k_cst (v := 2) (by rfl) ?_
  refine lv_aload_n (pc := 85) hx hb d_Gr_pack_85 rfl (lv_at hl 2 rfl) ?_
  refine k_get (pc := 86) X hK hP 4 rfl rfl i_Gr 5 (by decide) wm_87 rfl rfl d_Gr_pack_86 ?_
  refine lv_iload_n (pc := 89) hx hb d_Gr_pack_89 rfl (lv_at hl 0 rfl) ?_
  refine k_ild (pc := 90) hx hb hK hP 2 0 rfl rfl (0) rfl (by decide) (by decide) d_Gr_pack_90 ?_
  refine k_cst (v := 1) (by rfl) ?_
  refine lv_bipush (pc := 91) (v := 8) hx hb d_Gr_pack_91 (by decide) ?_
  refine lv_ishl (pc := 93) hx hb d_Gr_pack_93 ?_
  refine k_cst (v := 256) (by decide) ?_
  refine lv_ior (pc := 94) hx hb d_Gr_pack_94 ?_
  refine k_cst (v := 258) (by decide) ?_
  refine lv_aload_n (pc := 95) hx hb d_Gr_pack_95 rfl (lv_at hl 2 rfl) ?_
  refine k_get (pc := 96) X hK hP 4 rfl rfl i_Gr 6 (by decide) wm_92 rfl rfl d_Gr_pack_96 ?_
  refine lv_iload_n (pc := 99) hx hb d_Gr_pack_99 rfl (lv_at hl 0 rfl) ?_
  refine k_ild (pc := 100) hx hb hK hP 3 0 rfl rfl (0) rfl (by decide) (by decide) d_Gr_pack_100 ?_
  refine k_cst (v := 0) (by rfl) ?_
  refine lv_bipush (pc := 101) (v := 16) hx hb d_Gr_pack_101 (by decide) ?_
  refine lv_ishl (pc := 103) hx hb d_Gr_pack_103 ?_
  refine k_cst (v := 0) (by decide) ?_
  refine lv_ior (pc := 104) hx hb d_Gr_pack_104 ?_
  refine k_cst (v := 258) (by decide) ?_
  refine va_iast (pc := 105) hx hb hK hP hD hS 0 0 rfl rfl (by unfold vp_in; decide) d_Gr_pack_105 (fun H locs hP hD hS => ?_)
  have hP : va_P D classes (cat [[(a13, .inl (kA 0, 3782, .inl (upd (upd (upd (upd (upd (f0) 122 1) 123 0) 124 (((((va_cpy (upd (upd (fun _ => 0) 0 (vp_nar .byte 110)) 1 (vp_nar .byte 48)) (fun _ => 0) 0 0 2) 0) ||| (((va_cpy (upd (upd (fun _ => 0) 0 (vp_nar .byte 110)) 1 (vp_nar .byte 48)) (fun _ => 0) 0 0 2) 1) <<< (8 &&& 31))) ||| 0) ||| 0)) 125 0) 126 258)))], [(a1, .inl (kA 0, 24, .inl (upd ((fun _ => 0)) 0 2)))], [(a2, .inl (kA 0, 24, .inl (upd ((fun _ => 0)) 0 1)))], [(a3, .inl (kA 0, 24, .inl (upd ((fun _ => 0)) 0 0)))], [(g 0 j, .inr (3, [.int 1, .int 0, .int 1, .ref a0, .ref a1, .ref a2, .ref a3, .ref a4, .ref a5, .ref a6, .ref a7, .ref a8, .ref a9, .ref a10, .ref a11, .ref a12, .ref a13, .int 1, .int 0]))], [(a0, .inl (kA 1, 192, .inl (va_cpy (upd (upd (fun _ => 0) 0 (vp_nar .byte 110)) 1 (vp_nar .byte 48)) (fun _ => 0) 0 0 2)))]]) H := hP
  have hD : va_D A (cat [[(a13, .inl (kA 0, 3782, .inl (upd (upd (upd (upd (upd (f0) 122 1) 123 0) 124 (((((va_cpy (upd (upd (fun _ => 0) 0 (vp_nar .byte 110)) 1 (vp_nar .byte 48)) (fun _ => 0) 0 0 2) 0) ||| (((va_cpy (upd (upd (fun _ => 0) 0 (vp_nar .byte 110)) 1 (vp_nar .byte 48)) (fun _ => 0) 0 0 2) 1) <<< (8 &&& 31))) ||| 0) ||| 0)) 125 0) 126 258)))], [(a1, .inl (kA 0, 24, .inl (upd ((fun _ => 0)) 0 2)))], [(a2, .inl (kA 0, 24, .inl (upd ((fun _ => 0)) 0 1)))], [(a3, .inl (kA 0, 24, .inl (upd ((fun _ => 0)) 0 0)))], [(g 0 j, .inr (3, [.int 1, .int 0, .int 1, .ref a0, .ref a1, .ref a2, .ref a3, .ref a4, .ref a5, .ref a6, .ref a7, .ref a8, .ref a9, .ref a10, .ref a11, .ref a12, .ref a13, .int 1, .int 0]))], [(a0, .inl (kA 1, 192, .inl (va_cpy (upd (upd (fun _ => 0) 0 (vp_nar .byte 110)) 1 (vp_nar .byte 48)) (fun _ => 0) 0 0 2)))]]) := hD
  refine lv_iinc (pc := 106) (v := 127) (lv' := [(2, .int 127), (3, .int 0), (0, .ref (g 0 j)), (1, .int 1)]) hx hb d_Gr_pack_106 hl (k := 1) rfl (by decide) (by decide) rfl (fun ls hl => ?_)
  refine lv_iinc (pc := 109) (v := 1) (lv' := [(3, .int 1), (2, .int 127), (0, .ref (g 0 j)), (1, .int 1)]) hx hb d_Gr_pack_109 hl (k := 1) rfl (by decide) (by decide) rfl (fun ls hl => ?_)
  refine lv_goto (pc := 112) (tgt := 32) hx hb d_Gr_pack_112 (by decide) ?_
  refine lv_iload_n (pc := 32) hx hb d_Gr_pack_32 rfl (lv_at hl 0 rfl) ?_
  refine lv_aload_n (pc := 33) hx hb d_Gr_pack_33 rfl (lv_at hl 2 rfl) ?_
  refine k_get (pc := 34) X hK hP 4 rfl rfl i_Gr 0 (by decide) wm_56 rfl rfl d_Gr_pack_34 ?_
  refine lv_icmp_ge (pc := 37) (tgt := 115) hx hb d_Gr_pack_37 (by decide) (fun _ => ?_) (fun c1 => absurd (by decide) c1)
  refine lv_iload_n (pc := 115) hx hb d_Gr_pack_115 rfl (lv_at hl 3 rfl) ?_
  refine lv_bipush (pc := 116) (v := 122) hx hb d_Gr_pack_116 (by decide) ?_
  refine lv_imul (pc := 118) hx hb d_Gr_pack_118 ?_
  refine k_cst (v := 122) (by decide) ?_
  refine lv_iconst (pc := 119) (v := 2) hx hb d_Gr_pack_119 (by decide) ?_
  refine lv_iadd (pc := 120) hx hb d_Gr_pack_120 ?_
  refine k_cst (v := 124) (by decide) ?_
  refine lv_bipush (pc := 121) (v := 72) hx hb d_Gr_pack_121 (by decide) ?_
  refine lv_iadd (pc := 123) hx hb d_Gr_pack_123 ?_
  refine k_cst (v := 196) (by decide) ?_
  refine lv_istore_n (pc := 124) (lv' := [(2, .int 196), (3, .int 1), (0, .ref (g 0 j)), (1, .int 1)]) hx hb d_Gr_pack_124 rfl hl (by decide) rfl (fun ls hl => ?_)
  refine lv_iconst (pc := 125) (v := 0) hx hb d_Gr_pack_125 (by decide) ?_
  refine lv_istore_n (pc := 126) (lv' := [(3, .int 0), (2, .int 196), (0, .ref (g 0 j)), (1, .int 1)]) hx hb d_Gr_pack_126 rfl hl (by decide) rfl (fun ls hl => ?_)
  refine lv_iload_n (pc := 127) hx hb d_Gr_pack_127 rfl (lv_at hl 0 rfl) ?_
  refine lv_aload_n (pc := 128) hx hb d_Gr_pack_128 rfl (lv_at hl 2 rfl) ?_
  refine k_get (pc := 129) X hK hP 4 rfl rfl i_Gr 1 (by decide) wm_68 rfl rfl d_Gr_pack_129 ?_
  refine lv_icmp_ge (pc := 132) (tgt := 185) hx hb d_Gr_pack_132 (by decide) (fun _ => ?_) (fun c1 => absurd (by decide) c1)
  obtain ⟨hP, hD⟩ := k_ord (gc := [[(g 0 j, .inr (3, [.int 1, .int 0, .int 1, .ref a0, .ref a1, .ref a2, .ref a3, .ref a4, .ref a5, .ref a6, .ref a7, .ref a8, .ref a9, .ref a10, .ref a11, .ref a12, .ref a13, .int 1, .int 0]))], [(a13, .inl (kA 0, 3782, .inl (upd (upd (upd (upd (upd (f0) 122 1) 123 0) 124 (((((va_cpy (upd (upd (fun _ => 0) 0 (vp_nar .byte 110)) 1 (vp_nar .byte 48)) (fun _ => 0) 0 0 2) 0) ||| (((va_cpy (upd (upd (fun _ => 0) 0 (vp_nar .byte 110)) 1 (vp_nar .byte 48)) (fun _ => 0) 0 0 2) 1) <<< (8 &&& 31))) ||| 0) ||| 0)) 125 0) 126 258)))], [(a0, .inl (kA 1, 192, .inl (va_cpy (upd (upd (fun _ => 0) 0 (vp_nar .byte 110)) 1 (vp_nar .byte 48)) (fun _ => 0) 0 0 2)))], [(a1, .inl (kA 0, 24, .inl (upd ((fun _ => 0)) 0 2)))], [(a2, .inl (kA 0, 24, .inl (upd ((fun _ => 0)) 0 1)))], [(a3, .inl (kA 0, 24, .inl (upd ((fun _ => 0)) 0 0)))]]) hP hD [4, 0, 5, 1, 2, 3] 6 rfl (by decide) rfl
  refine W.widen (k := 0) (n := 0) (Nat.le_of_ble_eq_true rfl) (Nat.le_of_ble_eq_true rfl) ?_
  exact W.vret hx hb hr (fun t ht hW => ⟨⟨(), rfl, trivial, by rw [ht]; exact hP, va_K.moved hW.alike hK, hD⟩, hS.F ht⟩) hS.2.2 d_Gr_pack_185
set_option maxRecDepth 100000 in
set_option maxHeartbeats 4000000 in
/-- DrawingHouse$Graph.alter(III)I -/
theorem c_Gr_alter_z1 (l : Launch) (D : va_G) (kA : Nat → ClassId) (g : Nat → Nat → Nat) (j : Nat) (v4 : Int32) (a0 : Nat) (a1 : Nat) (a2 : Nat) (a3 : Nat) (a4 : Nat) (a5 : Nat) (a6 : Nat) (a7 : Nat) (a8 : Nat) (a9 : Nat) (a10 : Nat) (a11 : Nat) (a12 : Nat) (f0 : Nat → Int32) (hj : j < 4) : Ci l y_Gr_alter z_Gr_alter { frames := 3, cells := 2, slots := 3785, locals := 76 } D classes (TY kA) [.ref (g 0 j), .int 0, .int 0, .int v4] [[(g 0 j, .inr (3, [.int 0, .int 0, .int 1, .ref a0, .ref a1, .ref a2, .ref a3, .ref a4, .ref a5, .ref a6, .ref a7, .ref a8, .ref a9, .ref a10, .ref a11, .ref a12, .null, .int 0, .int 0]))], [(a0, .inl (kA 1, 192, .inl (fun _ => 0)))], [(a1, .inl (kA 0, 24, .inl (fun _ => 0)))], [(a2, .inl (kA 0, 24, .inl (fun _ => 0)))], [(a3, .inl (kA 0, 24, .inl (fun _ => 0)))], [(a11, .inl (kA 0, 24, .inl f0))]] (fun r (_ : Nat → Nat) => r = 0) (fun u => [[(g 0 j, .inr (3, [.int 1, .int 0, .int 1, .ref a0, .ref a1, .ref a2, .ref a3, .ref a4, .ref a5, .ref a6, .ref a7, .ref a8, .ref a9, .ref a10, .ref a11, .ref a12, .ref (u 0), .int 1, .int 0]))], [(a0, .inl (kA 1, 192, .inl (va_cpy (upd (upd (fun _ => 0) 0 (vp_nar .byte 110)) 1 (vp_nar .byte 48)) (fun _ => 0) 0 0 2)))], [(a1, .inl (kA 0, 24, .inl (upd ((fun _ => 0)) 0 2)))], [(a2, .inl (kA 0, 24, .inl (upd ((fun _ => 0)) 0 1)))], [(a3, .inl (kA 0, 24, .inl (upd ((fun _ => 0)) 0 0)))], [(a11, .inl (kA 0, 24, .inl (upd (f0) 0 0)))], [((u 0), .inl (kA 0, 3782, .inl (upd (upd (upd (upd (upd ((upd (upd ((fun _ => 0)) 0 0) 1 0)) 122 1) 123 0) 124 (((((va_cpy (upd (upd (fun _ => 0) 0 (vp_nar .byte 110)) 1 (vp_nar .byte 48)) (fun _ => 0) 0 0 2) 0) ||| (((va_cpy (upd (upd (fun _ => 0) 0 (vp_nar .byte 110)) 1 (vp_nar .byte 48)) (fun _ => 0) 0 0 2) 1) <<< (8 &&& 31))) ||| 0) ||| 0)) 125 0) 126 258)))], [((u 1), .inl (kA 1, 3, .inl (upd (upd (fun _ => 0) 0 (vp_nar .byte 110)) 1 (vp_nar .byte 48))))]]) 2 3785 := by
  intro sz
  refine k_met (cc := b_Gr_alter) (maxL := 5) (ret := (some .int)) (by decide) rfl (Nat.le_of_ble_eq_true rfl) (fun p e s m below meth c ls X hl hB => ?_)
  obtain ⟨hsz, hP, hK, hD0, hN⟩ := hB
  subst hsz
  have hD := hD0.self (sz := s.heap.size)
  generalize hAe : va_A (cat [[(g 0 j, .inr (3, [.int 0, .int 0, .int 1, .ref a0, .ref a1, .ref a2, .ref a3, .ref a4, .ref a5, .ref a6, .ref a7, .ref a8, .ref a9, .ref a10, .ref a11, .ref a12, .null, .int 0, .int 0]))], [(a0, .inl (kA 1, 192, .inl (fun _ => 0)))], [(a1, .inl (kA 0, 24, .inl (fun _ => 0)))], [(a2, .inl (kA 0, 24, .inl (fun _ => 0)))], [(a3, .inl (kA 0, 24, .inl (fun _ => 0)))], [(a11, .inl (kA 0, 24, .inl f0))]]) s.heap.size = A at hD ⊢
  have hA : ∀ q : Nat, s.heap.size ≤ q → A q := fun q h => by rw [← hAe]; exact Or.inr h
  have hS : va_S A s.heap s.heap [] := va_S.rf
  obtain ⟨hx, hb, hml, hown, hts, hr, hlk, hnm⟩ := id X
  have hl : lv_has ls 5 [(0, .ref (g 0 j)), (1, .int 0), (2, .int 0), (3, .int v4)] := hl
  have hP : va_P D classes (cat [[(g 0 j, .inr (3, [.int 0, .int 0, .int 1, .ref a0, .ref a1, .ref a2, .ref a3, .ref a4, .ref a5, .ref a6, .ref a7, .ref a8, .ref a9, .ref a10, .ref a11, .ref a12, .null, .int 0, .int 0]))], [(a0, .inl (kA 1, 192, .inl (fun _ => 0)))], [(a1, .inl (kA 0, 24, .inl (fun _ => 0)))], [(a2, .inl (kA 0, 24, .inl (fun _ => 0)))], [(a3, .inl (kA 0, 24, .inl (fun _ => 0)))], [(a11, .inl (kA 0, 24, .inl f0))]]) s.heap := hP
  have hK : va_K D classes (TY kA) s := hK
  refine lv_aload_n (pc := 0) hx hb d_Gr_alter_0 rfl (lv_at hl 0 rfl) ?_
  refine k_get (pc := 1) X hK hP 0 rfl rfl i_Gr 16 (by decide) wm_148 rfl rfl d_Gr_alter_1 ?_
  refine lv_ifnonnullN (pc := 4) hx hb d_Gr_alter_4 ?_
  refine lv_aload_n (pc := 7) hx hb d_Gr_alter_7 rfl (lv_at hl 0 rfl) ?_
  refine lv_sipush (pc := 8) (v := 3782) hx hb d_Gr_alter_8 (by decide) ?_
  refine k_newa (pc := 11) (atype := .int) X (ty := .int) (a0 := (3782, .inl (fun _ => 0))) rfl rfl wm_193 hK hP hD hS hA 0 rfl (fun _ => rfl) (by decide) rfl (by decide) (Nat.le_of_ble_eq_true rfl) (Nat.le_of_ble_eq_true rfl) d_Gr_alter_11 (fun q1 H hP hD hS => ?_)
  have hP : va_P D classes (cat [[(g 0 j, .inr (3, [.int 0, .int 0, .int 1, .ref a0, .ref a1, .ref a2, .ref a3, .ref a4, .ref a5, .ref a6, .ref a7, .ref a8, .ref a9, .ref a10, .ref a11, .ref a12, .null, .int 0, .int 0]))], [(a0, .inl (kA 1, 192, .inl (fun _ => 0)))], [(a1, .inl (kA 0, 24, .inl (fun _ => 0)))], [(a2, .inl (kA 0, 24, .inl (fun _ => 0)))], [(a3, .inl (kA 0, 24, .inl (fun _ => 0)))], [(a11, .inl (kA 0, 24, .inl f0))], [(q1, .inl (kA 0, 3782, .inl (fun _ => 0)))]]) H := hP
  have hD : va_D A (cat [[(g 0 j, .inr (3, [.int 0, .int 0, .int 1, .ref a0, .ref a1, .ref a2, .ref a3, .ref a4, .ref a5, .ref a6, .ref a7, .ref a8, .ref a9, .ref a10, .ref a11, .ref a12, .null, .int 0, .int 0]))], [(a0, .inl (kA 1, 192, .inl (fun _ => 0)))], [(a1, .inl (kA 0, 24, .inl (fun _ => 0)))], [(a2, .inl (kA 0, 24, .inl (fun _ => 0)))], [(a3, .inl (kA 0, 24, .inl (fun _ => 0)))], [(a11, .inl (kA 0, 24, .inl f0))], [(q1, .inl (kA 0, 3782, .inl (fun _ => 0)))]]) := hD
  refine W.widen (k := 1) (n := 3782) (by omega) (by omega) ?_
  refine k_put (pc := 13) X hK hP hD hS 0 rfl rfl i_Gr t_Gr t_Gr_ok n_Gr 16 (by decide) wm_148 rfl (Or.inl rfl) rfl rfl (Nat.le_of_ble_eq_true rfl) d_Gr_alter_13 (fun H locs hP hD hS => ?_)
  have hP : va_P D classes (cat [[(g 0 j, .inr (3, [.int 0, .int 0, .int 1, .ref a0, .ref a1, .ref a2, .ref a3, .ref a4, .ref a5, .ref a6, .ref a7, .ref a8, .ref a9, .ref a10, .ref a11, .ref a12, .ref q1, .int 0, .int 0]))], [(a0, .inl (kA 1, 192, .inl (fun _ => 0)))], [(a1, .inl (kA 0, 24, .inl (fun _ => 0)))], [(a2, .inl (kA 0, 24, .inl (fun _ => 0)))], [(a3, .inl (kA 0, 24, .inl (fun _ => 0)))], [(a11, .inl (kA 0, 24, .inl f0))], [(q1, .inl (kA 0, 3782, .inl (fun _ => 0)))]]) H := hP
  have hD : va_D A (cat [[(g 0 j, .inr (3, [.int 0, .int 0, .int 1, .ref a0, .ref a1, .ref a2, .ref a3, .ref a4, .ref a5, .ref a6, .ref a7, .ref a8, .ref a9, .ref a10, .ref a11, .ref a12, .ref q1, .int 0, .int 0]))], [(a0, .inl (kA 1, 192, .inl (fun _ => 0)))], [(a1, .inl (kA 0, 24, .inl (fun _ => 0)))], [(a2, .inl (kA 0, 24, .inl (fun _ => 0)))], [(a3, .inl (kA 0, 24, .inl (fun _ => 0)))], [(a11, .inl (kA 0, 24, .inl f0))], [(q1, .inl (kA 0, 3782, .inl (fun _ => 0)))]]) := hD
  refine lv_aload_n (pc := 16) hx hb d_Gr_alter_16 rfl (lv_at hl 0 rfl) ?_
  refine lv_aload_n (pc := 17) hx hb d_Gr_alter_17 rfl (lv_at hl 0 rfl) ?_
  refine k_get (pc := 18) X hK hP 0 rfl rfl i_Gr 17 (by decide) wm_149 rfl rfl d_Gr_alter_18 ?_
  refine k_goV (gr := [[(a0, .inl (kA 1, 192, .inl (fun _ => 0)))], [(a1, .inl (kA 0, 24, .inl (fun _ => 0)))], [(a2, .inl (kA 0, 24, .inl (fun _ => 0)))], [(a3, .inl (kA 0, 24, .inl (fun _ => 0)))], [(a11, .inl (kA 0, 24, .inl f0))]]) (k_rV (pc := 21) (As := [.int 0]) (rest := []) X (c_Gr_pack_z1 l D kA g j a0 a1 a2 a3 a4 a5 a6 a7 a8 a9 a10 a11 a12 q1 (fun _ => 0) hj H.size) rfl wm_979 wm_3 wm_976 wm_978 wv_2_14 1 (by decide +kernel) ⟨Nat.le_of_ble_eq_true rfl, Nat.le_of_ble_eq_true rfl⟩ rfl rfl (va_recv hK hP (ci := 3) (q0 := 0) rfl rfl) (k_pre hN hK hP hD [0, 6] [1, 2, 3, 4, 5] 7 rfl (by decide) rfl) rfl hl.1 rfl (Nat.le_of_ble_eq_true rfl) d_Gr_alter_21 ⟨Nat.le_of_ble_eq_true rfl, Nat.le_of_ble_eq_true rfl⟩) hP hD hS hA [0, 6] [1, 2, 3, 4, 5] 7 rfl (by decide) rfl rfl (fun u2 H locs hu2 hP hD hS => ?_)
  have hP : va_P D classes (cat [[(a0, .inl (kA 1, 192, .inl (fun _ => 0)))], [(a1, .inl (kA 0, 24, .inl (fun _ => 0)))], [(a2, .inl (kA 0, 24, .inl (fun _ => 0)))], [(a3, .inl (kA 0, 24, .inl (fun _ => 0)))], [(a11, .inl (kA 0, 24, .inl f0))], [(g 0 j, .inr (3, [.int 0, .int 0, .int 1, .ref a0, .ref a1, .ref a2, .ref a3, .ref a4, .ref a5, .ref a6, .ref a7, .ref a8, .ref a9, .ref a10, .ref a11, .ref a12, .ref q1, .int 0, .int 0]))], [(q1, .inl (kA 0, 3782, .inl (upd (upd ((fun _ => 0)) 0 0) 1 0)))]]) H := hP
  have hD : va_D A (cat [[(a0, .inl (kA 1, 192, .inl (fun _ => 0)))], [(a1, .inl (kA 0, 24, .inl (fun _ => 0)))], [(a2, .inl (kA 0, 24, .inl (fun _ => 0)))], [(a3, .inl (kA 0, 24, .inl (fun _ => 0)))], [(a11, .inl (kA 0, 24, .inl f0))], [(g 0 j, .inr (3, [.int 0, .int 0, .int 1, .ref a0, .ref a1, .ref a2, .ref a3, .ref a4, .ref a5, .ref a6, .ref a7, .ref a8, .ref a9, .ref a10, .ref a11, .ref a12, .ref q1, .int 0, .int 0]))], [(q1, .inl (kA 0, 3782, .inl (upd (upd ((fun _ => 0)) 0 0) 1 0)))]]) := hD
  refine lv_aload_n (pc := 24) hx hb d_Gr_alter_24 rfl (lv_at hl 0 rfl) ?_
  refine lv_iload_n (pc := 25) hx hb d_Gr_alter_25 rfl (lv_at hl 1 rfl) ?_
  refine lv_iload_n (pc := 26) hx hb d_Gr_alter_26 rfl (lv_at hl 2 rfl) ?_
  refine lv_iload_n (pc := 27) hx hb d_Gr_alter_27 rfl (lv_at hl 3 rfl) ?_
  refine k_goI (gr := [[(q1, .inl (kA 0, 3782, .inl (upd (upd ((fun _ => 0)) 0 0) 1 0)))]]) (k_rV (pc := 28) (As := [.int 0, .int 0, .int v4]) (rest := []) X (c_Gr_perform_z1 l D kA g j v4 a0 a1 a2 a3 a4 a5 a6 a7 a8 a9 a10 a11 a12 q1 (fun _ => 0) (fun _ => 0) (fun _ => 0) (fun _ => 0) f0 hj H.size) rfl wm_987 wm_3 wm_984 wm_986 wv_3_0 3 (by decide +kernel) ⟨Nat.le_of_ble_eq_true rfl, Nat.le_of_ble_eq_true rfl⟩ rfl rfl (va_recv hK hP (ci := 3) (q0 := 5) rfl rfl) (k_pre hN hK hP hD [5, 0, 1, 2, 3, 4] [6] 7 rfl (by decide) rfl) rfl hl.1 rfl (Nat.le_of_ble_eq_true rfl) d_Gr_alter_28 ⟨Nat.le_of_ble_eq_true rfl, Nat.le_of_ble_eq_true rfl⟩) hP hD hS hA [5, 0, 1, 2, 3, 4] [6] 7 rfl (by decide) rfl rfl (fun r3 u4 H locs hu4 hP hD hS => ?_)
  subst hu4
  have hP : va_P D classes (cat [[(q1, .inl (kA 0, 3782, .inl (upd (upd ((fun _ => 0)) 0 0) 1 0)))], [(g 0 j, .inr (3, [.int 1, .int 0, .int 1, .ref a0, .ref a1, .ref a2, .ref a3, .ref a4, .ref a5, .ref a6, .ref a7, .ref a8, .ref a9, .ref a10, .ref a11, .ref a12, .ref q1, .int 0, .int 0]))], [(a0, .inl (kA 1, 192, .inl (va_cpy (upd (upd (fun _ => 0) 0 (vp_nar .byte 110)) 1 (vp_nar .byte 48)) (fun _ => 0) 0 0 2)))], [(a1, .inl (kA 0, 24, .inl (upd ((fun _ => 0)) 0 2)))], [(a2, .inl (kA 0, 24, .inl (upd ((fun _ => 0)) 0 1)))], [(a3, .inl (kA 0, 24, .inl (upd ((fun _ => 0)) 0 0)))], [(a11, .inl (kA 0, 24, .inl (upd (f0) 0 0)))], [(u4 0, .inl (kA 1, 3, .inl (upd (upd (fun _ => 0) 0 (vp_nar .byte 110)) 1 (vp_nar .byte 48))))]]) H := hP
  have hD : va_D A (cat [[(q1, .inl (kA 0, 3782, .inl (upd (upd ((fun _ => 0)) 0 0) 1 0)))], [(g 0 j, .inr (3, [.int 1, .int 0, .int 1, .ref a0, .ref a1, .ref a2, .ref a3, .ref a4, .ref a5, .ref a6, .ref a7, .ref a8, .ref a9, .ref a10, .ref a11, .ref a12, .ref q1, .int 0, .int 0]))], [(a0, .inl (kA 1, 192, .inl (va_cpy (upd (upd (fun _ => 0) 0 (vp_nar .byte 110)) 1 (vp_nar .byte 48)) (fun _ => 0) 0 0 2)))], [(a1, .inl (kA 0, 24, .inl (upd ((fun _ => 0)) 0 2)))], [(a2, .inl (kA 0, 24, .inl (upd ((fun _ => 0)) 0 1)))], [(a3, .inl (kA 0, 24, .inl (upd ((fun _ => 0)) 0 0)))], [(a11, .inl (kA 0, 24, .inl (upd (f0) 0 0)))], [(u4 0, .inl (kA 1, 3, .inl (upd (upd (fun _ => 0) 0 (vp_nar .byte 110)) 1 (vp_nar .byte 48))))]]) := hD
  refine W.widen (k := 2) (n := 3785) (by omega) (by omega) ?_
  refine lv_istore (pc := 31) (lv' := [(4, .int 0), (0, .ref (g 0 j)), (1, .int 0), (2, .int 0), (3, .int v4)]) hx hb d_Gr_alter_31 hl (by decide) rfl (fun ls hl => ?_)
  refine lv_aload_n (pc := 33) hx hb d_Gr_alter_33 rfl (lv_at hl 1 rfl) ?_
  refine k_get (pc := 34) X hK hP 1 rfl rfl i_Gr 17 (by decide) wm_149 rfl rfl d_Gr_alter_34 ?_
  refine lv_bipush (pc := 37) (v := 30) hx hb d_Gr_alter_37 (by decide) ?_
  refine lv_icmp_ne (pc := 39) (tgt := 62) hx hb d_Gr_alter_39 (by decide) (fun _ => ?_) (fun c1 => absurd c1 (by decide))
  refine lv_aload_n (pc := 62) hx hb d_Gr_alter_62 rfl (lv_at hl 1 rfl) ?_
  refine lv_dup (pc := 63) hx hb d_Gr_alter_63 rfl ?_
  refine k_get (pc := 64) X hK hP 1 rfl rfl i_Gr 17 (by decide) wm_149 rfl rfl d_Gr_alter_64 ?_
  refine lv_iconst (pc := 67) (v := 1) hx hb d_Gr_alter_67 (by decide) ?_
  refine lv_iadd (pc := 68) hx hb d_Gr_alter_68 ?_
  refine k_cst (v := 1) (by decide) ?_
  refine k_put (pc := 69) X hK hP hD hS 1 rfl rfl i_Gr t_Gr t_Gr_ok n_Gr 17 (by decide) wm_149 rfl (Or.inl rfl) rfl rfl (Nat.le_of_ble_eq_true rfl) d_Gr_alter_69 (fun H locs hP hD hS => ?_)
  have hP : va_P D classes (cat [[(q1, .inl (kA 0, 3782, .inl (upd (upd ((fun _ => 0)) 0 0) 1 0)))], [(g 0 j, .inr (3, [.int 1, .int 0, .int 1, .ref a0, .ref a1, .ref a2, .ref a3, .ref a4, .ref a5, .ref a6, .ref a7, .ref a8, .ref a9, .ref a10, .ref a11, .ref a12, .ref q1, .int 1, .int 0]))], [(a0, .inl (kA 1, 192, .inl (va_cpy (upd (upd (fun _ => 0) 0 (vp_nar .byte 110)) 1 (vp_nar .byte 48)) (fun _ => 0) 0 0 2)))], [(a1, .inl (kA 0, 24, .inl (upd ((fun _ => 0)) 0 2)))], [(a2, .inl (kA 0, 24, .inl (upd ((fun _ => 0)) 0 1)))], [(a3, .inl (kA 0, 24, .inl (upd ((fun _ => 0)) 0 0)))], [(a11, .inl (kA 0, 24, .inl (upd (f0) 0 0)))], [(u4 0, .inl (kA 1, 3, .inl (upd (upd (fun _ => 0) 0 (vp_nar .byte 110)) 1 (vp_nar .byte 48))))]]) H := hP
  have hD : va_D A (cat [[(q1, .inl (kA 0, 3782, .inl (upd (upd ((fun _ => 0)) 0 0) 1 0)))], [(g 0 j, .inr (3, [.int 1, .int 0, .int 1, .ref a0, .ref a1, .ref a2, .ref a3, .ref a4, .ref a5, .ref a6, .ref a7, .ref a8, .ref a9, .ref a10, .ref a11, .ref a12, .ref q1, .int 1, .int 0]))], [(a0, .inl (kA 1, 192, .inl (va_cpy (upd (upd (fun _ => 0) 0 (vp_nar .byte 110)) 1 (vp_nar .byte 48)) (fun _ => 0) 0 0 2)))], [(a1, .inl (kA 0, 24, .inl (upd ((fun _ => 0)) 0 2)))], [(a2, .inl (kA 0, 24, .inl (upd ((fun _ => 0)) 0 1)))], [(a3, .inl (kA 0, 24, .inl (upd ((fun _ => 0)) 0 0)))], [(a11, .inl (kA 0, 24, .inl (upd (f0) 0 0)))], [(u4 0, .inl (kA 1, 3, .inl (upd (upd (fun _ => 0) 0 (vp_nar .byte 110)) 1 (vp_nar .byte 48))))]]) := hD
  refine lv_aload_n (pc := 72) hx hb d_Gr_alter_72 rfl (lv_at hl 1 rfl) ?_
  refine lv_iconst (pc := 73) (v := 0) hx hb d_Gr_alter_73 (by decide) ?_
  refine k_put (pc := 74) X hK hP hD hS 1 rfl rfl i_Gr t_Gr t_Gr_ok n_Gr 18 (by decide) wm_151 rfl (Or.inl rfl) rfl rfl (Nat.le_of_ble_eq_true rfl) d_Gr_alter_74 (fun H locs hP hD hS => ?_)
  have hP : va_P D classes (cat [[(q1, .inl (kA 0, 3782, .inl (upd (upd ((fun _ => 0)) 0 0) 1 0)))], [(g 0 j, .inr (3, [.int 1, .int 0, .int 1, .ref a0, .ref a1, .ref a2, .ref a3, .ref a4, .ref a5, .ref a6, .ref a7, .ref a8, .ref a9, .ref a10, .ref a11, .ref a12, .ref q1, .int 1, .int 0]))], [(a0, .inl (kA 1, 192, .inl (va_cpy (upd (upd (fun _ => 0) 0 (vp_nar .byte 110)) 1 (vp_nar .byte 48)) (fun _ => 0) 0 0 2)))], [(a1, .inl (kA 0, 24, .inl (upd ((fun _ => 0)) 0 2)))], [(a2, .inl (kA 0, 24, .inl (upd ((fun _ => 0)) 0 1)))], [(a3, .inl (kA 0, 24, .inl (upd ((fun _ => 0)) 0 0)))], [(a11, .inl (kA 0, 24, .inl (upd (f0) 0 0)))], [(u4 0, .inl (kA 1, 3, .inl (upd (upd (fun _ => 0) 0 (vp_nar .byte 110)) 1 (vp_nar .byte 48))))]]) H := hP
  have hD : va_D A (cat [[(q1, .inl (kA 0, 3782, .inl (upd (upd ((fun _ => 0)) 0 0) 1 0)))], [(g 0 j, .inr (3, [.int 1, .int 0, .int 1, .ref a0, .ref a1, .ref a2, .ref a3, .ref a4, .ref a5, .ref a6, .ref a7, .ref a8, .ref a9, .ref a10, .ref a11, .ref a12, .ref q1, .int 1, .int 0]))], [(a0, .inl (kA 1, 192, .inl (va_cpy (upd (upd (fun _ => 0) 0 (vp_nar .byte 110)) 1 (vp_nar .byte 48)) (fun _ => 0) 0 0 2)))], [(a1, .inl (kA 0, 24, .inl (upd ((fun _ => 0)) 0 2)))], [(a2, .inl (kA 0, 24, .inl (upd ((fun _ => 0)) 0 1)))], [(a3, .inl (kA 0, 24, .inl (upd ((fun _ => 0)) 0 0)))], [(a11, .inl (kA 0, 24, .inl (upd (f0) 0 0)))], [(u4 0, .inl (kA 1, 3, .inl (upd (upd (fun _ => 0) 0 (vp_nar .byte 110)) 1 (vp_nar .byte 48))))]]) := hD
  refine lv_aload_n (pc := 77) hx hb d_Gr_alter_77 rfl (lv_at hl 1 rfl) ?_
  refine lv_aload_n (pc := 78) hx hb d_Gr_alter_78 rfl (lv_at hl 1 rfl) ?_
  refine k_get (pc := 79) X hK hP 1 rfl rfl i_Gr 17 (by decide) wm_149 rfl rfl d_Gr_alter_79 ?_
  refine k_goV (gr := [[(a11, .inl (kA 0, 24, .inl (upd (f0) 0 0)))], [(u4 0, .inl (kA 1, 3, .inl (upd (upd (fun _ => 0) 0 (vp_nar .byte 110)) 1 (vp_nar .byte 48))))]]) (k_rV (pc := 82) (As := [.int 1]) (rest := []) X (c_Gr_pack_z2 l D kA g j a0 a1 a2 a3 a4 a5 a6 a7 a8 a9 a10 a11 a12 q1 (upd (upd ((fun _ => 0)) 0 0) 1 0) hj H.size) rfl wm_979 wm_3 wm_976 wm_978 wv_2_14 1 (by decide +kernel) ⟨Nat.le_of_ble_eq_true rfl, Nat.le_of_ble_eq_true rfl⟩ rfl rfl (va_recv hK hP (ci := 3) (q0 := 1) rfl rfl) (k_pre hN hK hP hD [1, 0, 2, 3, 4, 5] [6, 7] 8 rfl (by decide) rfl) rfl hl.1 rfl (Nat.le_of_ble_eq_true rfl) d_Gr_alter_82 ⟨Nat.le_of_ble_eq_true rfl, Nat.le_of_ble_eq_true rfl⟩) hP hD hS hA [1, 0, 2, 3, 4, 5] [6, 7] 8 rfl (by decide) rfl rfl (fun u5 H locs hu5 hP hD hS => ?_)
  have hP : va_P D classes (cat [[(a11, .inl (kA 0, 24, .inl (upd (f0) 0 0)))], [(u4 0, .inl (kA 1, 3, .inl (upd (upd (fun _ => 0) 0 (vp_nar .byte 110)) 1 (vp_nar .byte 48))))], [(g 0 j, .inr (3, [.int 1, .int 0, .int 1, .ref a0, .ref a1, .ref a2, .ref a3, .ref a4, .ref a5, .ref a6, .ref a7, .ref a8, .ref a9, .ref a10, .ref a11, .ref a12, .ref q1, .int 1, .int 0]))], [(q1, .inl (kA 0, 3782, .inl (upd (upd (upd (upd (upd ((upd (upd ((fun _ => 0)) 0 0) 1 0)) 122 1) 123 0) 124 (((((va_cpy (upd (upd (fun _ => 0) 0 (vp_nar .byte 110)) 1 (vp_nar .byte 48)) (fun _ => 0) 0 0 2) 0) ||| (((va_cpy (upd (upd (fun _ => 0) 0 (vp_nar .byte 110)) 1 (vp_nar .byte 48)) (fun _ => 0) 0 0 2) 1) <<< (8 &&& 31))) ||| 0) ||| 0)) 125 0) 126 258)))], [(a0, .inl (kA 1, 192, .inl (va_cpy (upd (upd (fun _ => 0) 0 (vp_nar .byte 110)) 1 (vp_nar .byte 48)) (fun _ => 0) 0 0 2)))], [(a1, .inl (kA 0, 24, .inl (upd ((fun _ => 0)) 0 2)))], [(a2, .inl (kA 0, 24, .inl (upd ((fun _ => 0)) 0 1)))], [(a3, .inl (kA 0, 24, .inl (upd ((fun _ => 0)) 0 0)))]]) H := hP
  have hD : va_D A (cat [[(a11, .inl (kA 0, 24, .inl (upd (f0) 0 0)))], [(u4 0, .inl (kA 1, 3, .inl (upd (upd (fun _ => 0) 0 (vp_nar .byte 110)) 1 (vp_nar .byte 48))))], [(g 0 j, .inr (3, [.int 1, .int 0, .int 1, .ref a0, .ref a1, .ref a2, .ref a3, .ref a4, .ref a5, .ref a6, .ref a7, .ref a8, .ref a9, .ref a10, .ref a11, .ref a12, .ref q1, .int 1, .int 0]))], [(q1, .inl (kA 0, 3782, .inl (upd (upd (upd (upd (upd ((upd (upd ((fun _ => 0)) 0 0) 1 0)) 122 1) 123 0) 124 (((((va_cpy (upd (upd (fun _ => 0) 0 (vp_nar .byte 110)) 1 (vp_nar .byte 48)) (fun _ => 0) 0 0 2) 0) ||| (((va_cpy (upd (upd (fun _ => 0) 0 (vp_nar .byte 110)) 1 (vp_nar .byte 48)) (fun _ => 0) 0 0 2) 1) <<< (8 &&& 31))) ||| 0) ||| 0)) 125 0) 126 258)))], [(a0, .inl (kA 1, 192, .inl (va_cpy (upd (upd (fun _ => 0) 0 (vp_nar .byte 110)) 1 (vp_nar .byte 48)) (fun _ => 0) 0 0 2)))], [(a1, .inl (kA 0, 24, .inl (upd ((fun _ => 0)) 0 2)))], [(a2, .inl (kA 0, 24, .inl (upd ((fun _ => 0)) 0 1)))], [(a3, .inl (kA 0, 24, .inl (upd ((fun _ => 0)) 0 0)))]]) := hD
  refine lv_iload (pc := 85) hx hb d_Gr_alter_85 (lv_at hl 0 rfl) ?_
  obtain ⟨hP, hD⟩ := k_ord (gc := [[(g 0 j, .inr (3, [.int 1, .int 0, .int 1, .ref a0, .ref a1, .ref a2, .ref a3, .ref a4, .ref a5, .ref a6, .ref a7, .ref a8, .ref a9, .ref a10, .ref a11, .ref a12, .ref q1, .int 1, .int 0]))], [(a0, .inl (kA 1, 192, .inl (va_cpy (upd (upd (fun _ => 0) 0 (vp_nar .byte 110)) 1 (vp_nar .byte 48)) (fun _ => 0) 0 0 2)))], [(a1, .inl (kA 0, 24, .inl (upd ((fun _ => 0)) 0 2)))], [(a2, .inl (kA 0, 24, .inl (upd ((fun _ => 0)) 0 1)))], [(a3, .inl (kA 0, 24, .inl (upd ((fun _ => 0)) 0 0)))], [(a11, .inl (kA 0, 24, .inl (upd (f0) 0 0)))], [(q1, .inl (kA 0, 3782, .inl (upd (upd (upd (upd (upd ((upd (upd ((fun _ => 0)) 0 0) 1 0)) 122 1) 123 0) 124 (((((va_cpy (upd (upd (fun _ => 0) 0 (vp_nar .byte 110)) 1 (vp_nar .byte 48)) (fun _ => 0) 0 0 2) 0) ||| (((va_cpy (upd (upd (fun _ => 0) 0 (vp_nar .byte 110)) 1 (vp_nar .byte 48)) (fun _ => 0) 0 0 2) 1) <<< (8 &&& 31))) ||| 0) ||| 0)) 125 0) 126 258)))], [(u4 0, .inl (kA 1, 3, .inl (upd (upd (fun _ => 0) 0 (vp_nar .byte 110)) 1 (vp_nar .byte 48))))]]) hP hD [2, 4, 5, 6, 7, 0, 3, 1] 8 rfl (by decide) rfl
  refine W.widen (k := 2) (n := 3785) (Nat.le_of_ble_eq_true rfl) (Nat.le_of_ble_eq_true rfl) ?_
  exact W.iret (v := 0) hx hb hr (fun t ht hW => ⟨⟨0, (fun k => match k with | 0 => q1 | 1 => u4 0 | _ => 0), rfl, rfl, by rw [ht]; exact hP, va_K.moved hW.alike hK, hD⟩, hS.F ht⟩) hS.2.2 d_Gr_alter_87
set_option maxRecDepth 100000 in
set_option maxHeartbeats 4000000 in
/-- DrawingHouse.change(IIII)I -/
theorem c_Ho_change_z5 (l : Launch) (D : va_G) (kA : Nat → ClassId) (a0 : Nat) (j : Nat) (v4 : Int32) (a1 : Nat) (a2 : Nat) (a3 : Nat) (a4 : Nat) (a5 : Nat) (a6 : Nat) (a7 : Nat) (a8 : Nat) (a9 : Nat) (a10 : Nat) (g : Nat → Nat → Nat) (a11 : Nat) (a12 : Nat) (a13 : Nat) (a14 : Nat) (a15 : Nat) (a16 : Nat) (a17 : Nat) (a18 : Nat) (a19 : Nat) (a20 : Nat) (a21 : Nat) (a22 : Nat) (a23 : Nat) (f0 : Nat → Int32) (a24 : Nat) (a25 : Nat) (a26 : Nat) (a27 : Nat) (a28 : Nat) (a29 : Nat) (a30 : Nat) (a31 : Nat) (a32 : Nat) (a33 : Nat) (a34 : Nat) (a35 : Nat) (a36 : Nat) (a37 : Nat) (a38 : Nat) (a39 : Nat) (a40 : Nat) (a41 : Nat) (a42 : Nat) (a43 : Nat) (a44 : Nat) (a45 : Nat) (a46 : Nat) (a47 : Nat) (a48 : Nat) (a49 : Nat) (a50 : Nat) (a51 : Nat) (a52 : Nat) (a53 : Nat) (a54 : Nat) (a55 : Nat) (a56 : Nat) (a57 : Nat) (f1 : Nat → Int32) (hj : j < 4) : Ci l y_Ho_change z_Ho_change { frames := 4, cells := 3, slots := 3788, locals := 100 } D classes (TY kA) [.ref a0, .int (nI j), .int 0, .int 0, .int v4] [[(a0, .inr (12, [.ref a1, .ref a2, .ref a3, .ref a4, .ref a5, .ref a6, .ref a7, .int 0, .int ((-1)), .ref a8, .ref a9, .int 0, .int 0, .ref a10, .int 0, .int 0, .null, .null, .null, .null, .null]))], [(a1, .inl (kA 4, 4, .inr (.inr (.inr (.inr (rr (g 0)))))))], [(g 0 j, .inr (3, [.int 0, .int 0, .int 1, .ref a11, .ref a12, .ref a13, .ref a14, .ref a15, .ref a16, .ref a17, .ref a18, .ref a19, .ref a20, .ref a21, .ref a22, .ref a23, .null, .int 0, .int 0]))], [(a11, .inl (kA 1, 192, .inl (fun _ => 0)))], [(a12, .inl (kA 0, 24, .inl (fun _ => 0)))], [(a13, .inl (kA 0, 24, .inl (fun _ => 0)))], [(a14, .inl (kA 0, 24, .inl (fun _ => 0)))], [(a22, .inl (kA 0, 24, .inl f0))], [(a2, .inl (kA 5, 4, .inr (.inr (.inr (.inr (rr (g 1)))))))], [(g 1 j, .inr (2, [.int 0, .int 0, .int 0, .int 0, .ref a24, .ref a25, .ref a26, .ref a27, .ref a28, .ref a29, .ref a30, .ref a31, .ref a32, .ref a33, .ref a34]))], [(a3, .inl (kA 6, 4, .inr (.inr (.inr (.inr (rr (g 2)))))))], [(g 2 j, .inr (5, [.int ((-1)), .int ((-1)), .int ((-1)), .int 0, .ref a35, .int 0, .int 0, .ref a36, .ref a37, .ref a38, .ref a39, .ref a40, .ref a41, .int 0, .ref a42, .ref a43, .ref a44]))], [(a4, .inl (kA 7, 4, .inr (.inr (.inr (.inr (rr (g 3)))))))], [(g 3 j, .inr (0, [.ref a45, .int ((-1)), .ref a46, .ref a47, .ref a48, .ref a49, .ref a50, .int 0, .int 0, .int 0, .ref a51, .ref a52, .ref a53, .ref a54, .ref a55, .ref a56, .ref a57, .int 0, .int 0, .int 0, .int 0]))], [(a55, .inl (kA 0, 216, .inl f1))]] (fun r (_ : List va_W) => r = 0) (fun u => u) 3 3788 := by
  intro sz
  refine k_met (cc := b_Ho_change) (maxL := 6) (ret := (some .int)) (by decide) rfl (Nat.le_of_ble_eq_true rfl) (fun p e s m below meth c ls X hl hB => ?_)
  obtain ⟨hsz, hP, hK, hD0, hN⟩ := hB
  subst hsz
  have hD := hD0.self (sz := s.heap.size)
  generalize hAe : va_A (cat [[(a0, .inr (12, [.ref a1, .ref a2, .ref a3, .ref a4, .ref a5, .ref a6, .ref a7, .int 0, .int ((-1)), .ref a8, .ref a9, .int 0, .int 0, .ref a10, .int 0, .int 0, .null, .null, .null, .null, .null]))], [(a1, .inl (kA 4, 4, .inr (.inr (.inr (.inr (rr (g 0)))))))], [(g 0 j, .inr (3, [.int 0, .int 0, .int 1, .ref a11, .ref a12, .ref a13, .ref a14, .ref a15, .ref a16, .ref a17, .ref a18, .ref a19, .ref a20, .ref a21, .ref a22, .ref a23, .null, .int 0, .int 0]))], [(a11, .inl (kA 1, 192, .inl (fun _ => 0)))], [(a12, .inl (kA 0, 24, .inl (fun _ => 0)))], [(a13, .inl (kA 0, 24, .inl (fun _ => 0)))], [(a14, .inl (kA 0, 24, .inl (fun _ => 0)))], [(a22, .inl (kA 0, 24, .inl f0))], [(a2, .inl (kA 5, 4, .inr (.inr (.inr (.inr (rr (g 1)))))))], [(g 1 j, .inr (2, [.int 0, .int 0, .int 0, .int 0, .ref a24, .ref a25, .ref a26, .ref a27, .ref a28, .ref a29, .ref a30, .ref a31, .ref a32, .ref a33, .ref a34]))], [(a3, .inl (kA 6, 4, .inr (.inr (.inr (.inr (rr (g 2)))))))], [(g 2 j, .inr (5, [.int ((-1)), .int ((-1)), .int ((-1)), .int 0, .ref a35, .int 0, .int 0, .ref a36, .ref a37, .ref a38, .ref a39, .ref a40, .ref a41, .int 0, .ref a42, .ref a43, .ref a44]))], [(a4, .inl (kA 7, 4, .inr (.inr (.inr (.inr (rr (g 3)))))))], [(g 3 j, .inr (0, [.ref a45, .int ((-1)), .ref a46, .ref a47, .ref a48, .ref a49, .ref a50, .int 0, .int 0, .int 0, .ref a51, .ref a52, .ref a53, .ref a54, .ref a55, .ref a56, .ref a57, .int 0, .int 0, .int 0, .int 0]))], [(a55, .inl (kA 0, 216, .inl f1))]]) s.heap.size = A at hD ⊢
  have hA : ∀ q : Nat, s.heap.size ≤ q → A q := fun q h => by rw [← hAe]; exact Or.inr h
  have hS : va_S A s.heap s.heap [] := va_S.rf
  obtain ⟨hx, hb, hml, hown, hts, hr, hlk, hnm⟩ := id X
  have hl : lv_has ls 6 [(0, .ref a0), (1, .int (nI j)), (2, .int 0), (3, .int 0), (4, .int v4)] := hl
  have hP : va_P D classes (cat [[(a0, .inr (12, [.ref a1, .ref a2, .ref a3, .ref a4, .ref a5, .ref a6, .ref a7, .int 0, .int ((-1)), .ref a8, .ref a9, .int 0, .int 0, .ref a10, .int 0, .int 0, .null, .null, .null, .null, .null]))], [(a1, .inl (kA 4, 4, .inr (.inr (.inr (.inr (rr (g 0)))))))], [(g 0 j, .inr (3, [.int 0, .int 0, .int 1, .ref a11, .ref a12, .ref a13, .ref a14, .ref a15, .ref a16, .ref a17, .ref a18, .ref a19, .ref a20, .ref a21, .ref a22, .ref a23, .null, .int 0, .int 0]))], [(a11, .inl (kA 1, 192, .inl (fun _ => 0)))], [(a12, .inl (kA 0, 24, .inl (fun _ => 0)))], [(a13, .inl (kA 0, 24, .inl (fun _ => 0)))], [(a14, .inl (kA 0, 24, .inl (fun _ => 0)))], [(a22, .inl (kA 0, 24, .inl f0))], [(a2, .inl (kA 5, 4, .inr (.inr (.inr (.inr (rr (g 1)))))))], [(g 1 j, .inr (2, [.int 0, .int 0, .int 0, .int 0, .ref a24, .ref a25, .ref a26, .ref a27, .ref a28, .ref a29, .ref a30, .ref a31, .ref a32, .ref a33, .ref a34]))], [(a3, .inl (kA 6, 4, .inr (.inr (.inr (.inr (rr (g 2)))))))], [(g 2 j, .inr (5, [.int ((-1)), .int ((-1)), .int ((-1)), .int 0, .ref a35, .int 0, .int 0, .ref a36, .ref a37, .ref a38, .ref a39, .ref a40, .ref a41, .int 0, .ref a42, .ref a43, .ref a44]))], [(a4, .inl (kA 7, 4, .inr (.inr (.inr (.inr (rr (g 3)))))))], [(g 3 j, .inr (0, [.ref a45, .int ((-1)), .ref a46, .ref a47, .ref a48, .ref a49, .ref a50, .int 0, .int 0, .int 0, .ref a51, .ref a52, .ref a53, .ref a54, .ref a55, .ref a56, .ref a57, .int 0, .int 0, .int 0, .int 0]))], [(a55, .inl (kA 0, 216, .inl f1))]]) s.heap := hP
  have hK : va_K D classes (TY kA) s := hK
  refine lv_iload_n (pc := 0) hx hb d_Ho_change_0 rfl (lv_at hl 1 rfl) ?_
  refine k_goI (gr := [[(a0, .inr (12, [.ref a1, .ref a2, .ref a3, .ref a4, .ref a5, .ref a6, .ref a7, .int 0, .int ((-1)), .ref a8, .ref a9, .int 0, .int 0, .ref a10, .int 0, .int 0, .null, .null, .null, .null, .null]))], [(a1, .inl (kA 4, 4, .inr (.inr (.inr (.inr (rr (g 0)))))))], [(g 0 j, .inr (3, [.int 0, .int 0, .int 1, .ref a11, .ref a12, .ref a13, .ref a14, .ref a15, .ref a16, .ref a17, .ref a18, .ref a19, .ref a20, .ref a21, .ref a22, .ref a23, .null, .int 0, .int 0]))], [(a11, .inl (kA 1, 192, .inl (fun _ => 0)))], [(a12, .inl (kA 0, 24, .inl (fun _ => 0)))], [(a13, .inl (kA 0, 24, .inl (fun _ => 0)))], [(a14, .inl (kA 0, 24, .inl (fun _ => 0)))], [(a22, .inl (kA 0, 24, .inl f0))], [(a2, .inl (kA 5, 4, .inr (.inr (.inr (.inr (rr (g 1)))))))], [(g 1 j, .inr (2, [.int 0, .int 0, .int 0, .int 0, .ref a24, .ref a25, .ref a26, .ref a27, .ref a28, .ref a29, .ref a30, .ref a31, .ref a32, .ref a33, .ref a34]))], [(a3, .inl (kA 6, 4, .inr (.inr (.inr (.inr (rr (g 2)))))))], [(g 2 j, .inr (5, [.int ((-1)), .int ((-1)), .int ((-1)), .int 0, .ref a35, .int 0, .int 0, .ref a36, .ref a37, .ref a38, .ref a39, .ref a40, .ref a41, .int 0, .ref a42, .ref a43, .ref a44]))], [(a4, .inl (kA 7, 4, .inr (.inr (.inr (.inr (rr (g 3)))))))], [(g 3 j, .inr (0, [.ref a45, .int ((-1)), .ref a46, .ref a47, .ref a48, .ref a49, .ref a50, .int 0, .int 0, .int 0, .ref a51, .ref a52, .ref a53, .ref a54, .ref a55, .ref a56, .ref a57, .int 0, .int 0, .int 0, .int 0]))], [(a55, .inl (kA 0, 216, .inl f1))]]) (k_rS (pc := 1) (As := [.int (nI j)]) (rest := []) X (c_Ho_isPlace l D kA (nI j) s.heap.size) rfl wm_633 wm_1 wm_631 wm_632 1 (by decide +kernel) ⟨Nat.le_of_ble_eq_true rfl, Nat.le_of_ble_eq_true rfl⟩ rfl rfl (k_pre hN hK hP hD [] [0, 1, 2, 3, 4, 5, 6, 7, 8, 9, 10, 11, 12, 13, 14] 15 rfl (by decide) rfl) rfl hl.1 rfl (Nat.le_of_ble_eq_true rfl) d_Ho_change_1 ⟨Nat.le_of_ble_eq_true rfl, Nat.le_of_ble_eq_true rfl⟩) hP hD hS hA [] [0, 1, 2, 3, 4, 5, 6, 7, 8, 9, 10, 11, 12, 13, 14] 15 rfl (by decide) rfl rfl (fun r1 u2 H locs hu2 hP hD hS => ?_)
  subst hu2
  refine k_cst (v := 1) (place_ok hj) ?_
  have hP : va_P D classes (cat [[(a0, .inr (12, [.ref a1, .ref a2, .ref a3, .ref a4, .ref a5, .ref a6, .ref a7, .int 0, .int ((-1)), .ref a8, .ref a9, .int 0, .int 0, .ref a10, .int 0, .int 0, .null, .null, .null, .null, .null]))], [(a1, .inl (kA 4, 4, .inr (.inr (.inr (.inr (rr (g 0)))))))], [(g 0 j, .inr (3, [.int 0, .int 0, .int 1, .ref a11, .ref a12, .ref a13, .ref a14, .ref a15, .ref a16, .ref a17, .ref a18, .ref a19, .ref a20, .ref a21, .ref a22, .ref a23, .null, .int 0, .int 0]))], [(a11, .inl (kA 1, 192, .inl (fun _ => 0)))], [(a12, .inl (kA 0, 24, .inl (fun _ => 0)))], [(a13, .inl (kA 0, 24, .inl (fun _ => 0)))], [(a14, .inl (kA 0, 24, .inl (fun _ => 0)))], [(a22, .inl (kA 0, 24, .inl f0))], [(a2, .inl (kA 5, 4, .inr (.inr (.inr (.inr (rr (g 1)))))))], [(g 1 j, .inr (2, [.int 0, .int 0, .int 0, .int 0, .ref a24, .ref a25, .ref a26, .ref a27, .ref a28, .ref a29, .ref a30, .ref a31, .ref a32, .ref a33, .ref a34]))], [(a3, .inl (kA 6, 4, .inr (.inr (.inr (.inr (rr (g 2)))))))], [(g 2 j, .inr (5, [.int ((-1)), .int ((-1)), .int ((-1)), .int 0, .ref a35, .int 0, .int 0, .ref a36, .ref a37, .ref a38, .ref a39, .ref a40, .ref a41, .int 0, .ref a42, .ref a43, .ref a44]))], [(a4, .inl (kA 7, 4, .inr (.inr (.inr (.inr (rr (g 3)))))))], [(g 3 j, .inr (0, [.ref a45, .int ((-1)), .ref a46, .ref a47, .ref a48, .ref a49, .ref a50, .int 0, .int 0, .int 0, .ref a51, .ref a52, .ref a53, .ref a54, .ref a55, .ref a56, .ref a57, .int 0, .int 0, .int 0, .int 0]))], [(a55, .inl (kA 0, 216, .inl f1))]]) H := hP
  have hD : va_D A (cat [[(a0, .inr (12, [.ref a1, .ref a2, .ref a3, .ref a4, .ref a5, .ref a6, .ref a7, .int 0, .int ((-1)), .ref a8, .ref a9, .int 0, .int 0, .ref a10, .int 0, .int 0, .null, .null, .null, .null, .null]))], [(a1, .inl (kA 4, 4, .inr (.inr (.inr (.inr (rr (g 0)))))))], [(g 0 j, .inr (3, [.int 0, .int 0, .int 1, .ref a11, .ref a12, .ref a13, .ref a14, .ref a15, .ref a16, .ref a17, .ref a18, .ref a19, .ref a20, .ref a21, .ref a22, .ref a23, .null, .int 0, .int 0]))], [(a11, .inl (kA 1, 192, .inl (fun _ => 0)))], [(a12, .inl (kA 0, 24, .inl (fun _ => 0)))], [(a13, .inl (kA 0, 24, .inl (fun _ => 0)))], [(a14, .inl (kA 0, 24, .inl (fun _ => 0)))], [(a22, .inl (kA 0, 24, .inl f0))], [(a2, .inl (kA 5, 4, .inr (.inr (.inr (.inr (rr (g 1)))))))], [(g 1 j, .inr (2, [.int 0, .int 0, .int 0, .int 0, .ref a24, .ref a25, .ref a26, .ref a27, .ref a28, .ref a29, .ref a30, .ref a31, .ref a32, .ref a33, .ref a34]))], [(a3, .inl (kA 6, 4, .inr (.inr (.inr (.inr (rr (g 2)))))))], [(g 2 j, .inr (5, [.int ((-1)), .int ((-1)), .int ((-1)), .int 0, .ref a35, .int 0, .int 0, .ref a36, .ref a37, .ref a38, .ref a39, .ref a40, .ref a41, .int 0, .ref a42, .ref a43, .ref a44]))], [(a4, .inl (kA 7, 4, .inr (.inr (.inr (.inr (rr (g 3)))))))], [(g 3 j, .inr (0, [.ref a45, .int ((-1)), .ref a46, .ref a47, .ref a48, .ref a49, .ref a50, .int 0, .int 0, .int 0, .ref a51, .ref a52, .ref a53, .ref a54, .ref a55, .ref a56, .ref a57, .int 0, .int 0, .int 0, .int 0]))], [(a55, .inl (kA 0, 216, .inl f1))]]) := hD
  refine lv_if_eq (pc := 4) (tgt := 23) hx hb d_Ho_change_4 (by decide) (fun c1 => absurd c1 (by decide)) (fun c1 => ?_)
  refine lv_aload_n (pc := 7) hx hb d_Ho_change_7 rfl (lv_at hl 0 rfl) ?_
  refine k_get (pc := 8) X hK hP 0 rfl rfl i_Ho 0 (by decide) wm_555 rfl rfl d_Ho_change_8 ?_
  refine lv_iload_n (pc := 11) hx hb d_Ho_change_11 rfl (lv_at hl 1 rfl) ?_
  refine k_ald (pc := 12) hx hb hK hP 1 4 rfl rfl (j) rfl (by omega) (by decide) (rr_at (by omega)) d_Ho_change_12 ?_
  refine lv_iload_n (pc := 13) hx hb d_Ho_change_13 rfl (lv_at hl 2 rfl) ?_
  refine lv_iload_n (pc := 14) hx hb d_Ho_change_14 rfl (lv_at hl 3 rfl) ?_
  refine lv_iload (pc := 15) hx hb d_Ho_change_15 (lv_at hl 4 rfl) ?_
  refine k_goI (gr := [[(a0, .inr (12, [.ref a1, .ref a2, .ref a3, .ref a4, .ref a5, .ref a6, .ref a7, .int 0, .int ((-1)), .ref a8, .ref a9, .int 0, .int 0, .ref a10, .int 0, .int 0, .null, .null, .null, .null, .null]))], [(a1, .inl (kA 4, 4, .inr (.inr (.inr (.inr (rr (g 0)))))))], [(a11, .inl (kA 1, 192, .inl (fun _ => 0)))], [(a12, .inl (kA 0, 24, .inl (fun _ => 0)))], [(a13, .inl (kA 0, 24, .inl (fun _ => 0)))], [(a14, .inl (kA 0, 24, .inl (fun _ => 0)))], [(a22, .inl (kA 0, 24, .inl f0))], [(a2, .inl (kA 5, 4, .inr (.inr (.inr (.inr (rr (g 1)))))))], [(g 1 j, .inr (2, [.int 0, .int 0, .int 0, .int 0, .ref a24, .ref a25, .ref a26, .ref a27, .ref a28, .ref a29, .ref a30, .ref a31, .ref a32, .ref a33, .ref a34]))], [(a3, .inl (kA 6, 4, .inr (.inr (.inr (.inr (rr (g 2)))))))], [(g 2 j, .inr (5, [.int ((-1)), .int ((-1)), .int ((-1)), .int 0, .ref a35, .int 0, .int 0, .ref a36, .ref a37, .ref a38, .ref a39, .ref a40, .ref a41, .int 0, .ref a42, .ref a43, .ref a44]))], [(a4, .inl (kA 7, 4, .inr (.inr (.inr (.inr (rr (g 3)))))))], [(g 3 j, .inr (0, [.ref a45, .int ((-1)), .ref a46, .ref a47, .ref a48, .ref a49, .ref a50, .int 0, .int 0, .int 0, .ref a51, .ref a52, .ref a53, .ref a54, .ref a55, .ref a56, .ref a57, .int 0, .int 0, .int 0, .int 0]))], [(a55, .inl (kA 0, 216, .inl f1))]]) (k_rV (pc := 17) (As := [.int 0, .int 0, .int v4]) (rest := []) X (c_Gr_mayAlter_z4 l D kA g j v4 a11 a12 a13 a14 a15 a16 a17 a18 a19 a20 a21 a22 a23 hj H.size) rfl wm_958 wm_3 wm_955 wm_956 wm_957 3 (by decide +kernel) ⟨Nat.le_of_ble_eq_true rfl, Nat.le_of_ble_eq_true rfl⟩ rfl rfl (va_recv hK hP (ci := 3) (q0 := 2) rfl rfl) (k_pre hN hK hP hD [2] [0, 1, 3, 4, 5, 6, 7, 8, 9, 10, 11, 12, 13, 14] 15 rfl (by decide) rfl) rfl hl.1 rfl (Nat.le_of_ble_eq_true rfl) d_Ho_change_17 ⟨Nat.le_of_ble_eq_true rfl, Nat.le_of_ble_eq_true rfl⟩) hP hD hS hA [2] [0, 1, 3, 4, 5, 6, 7, 8, 9, 10, 11, 12, 13, 14] 15 rfl (by decide) rfl rfl (fun r3 u4 H locs hu4 hP hD hS => ?_)
  subst hu4
  have hP : va_P D classes (cat [[(a0, .inr (12, [.ref a1, .ref a2, .ref a3, .ref a4, .ref a5, .ref a6, .ref a7, .int 0, .int ((-1)), .ref a8, .ref a9, .int 0, .int 0, .ref a10, .int 0, .int 0, .null, .null, .null, .null, .null]))], [(a1, .inl (kA 4, 4, .inr (.inr (.inr (.inr (rr (g 0)))))))], [(a11, .inl (kA 1, 192, .inl (fun _ => 0)))], [(a12, .inl (kA 0, 24, .inl (fun _ => 0)))], [(a13, .inl (kA 0, 24, .inl (fun _ => 0)))], [(a14, .inl (kA 0, 24, .inl (fun _ => 0)))], [(a22, .inl (kA 0, 24, .inl f0))], [(a2, .inl (kA 5, 4, .inr (.inr (.inr (.inr (rr (g 1)))))))], [(g 1 j, .inr (2, [.int 0, .int 0, .int 0, .int 0, .ref a24, .ref a25, .ref a26, .ref a27, .ref a28, .ref a29, .ref a30, .ref a31, .ref a32, .ref a33, .ref a34]))], [(a3, .inl (kA 6, 4, .inr (.inr (.inr (.inr (rr (g 2)))))))], [(g 2 j, .inr (5, [.int ((-1)), .int ((-1)), .int ((-1)), .int 0, .ref a35, .int 0, .int 0, .ref a36, .ref a37, .ref a38, .ref a39, .ref a40, .ref a41, .int 0, .ref a42, .ref a43, .ref a44]))], [(a4, .inl (kA 7, 4, .inr (.inr (.inr (.inr (rr (g 3)))))))], [(g 3 j, .inr (0, [.ref a45, .int ((-1)), .ref a46, .ref a47, .ref a48, .ref a49, .ref a50, .int 0, .int 0, .int 0, .ref a51, .ref a52, .ref a53, .ref a54, .ref a55, .ref a56, .ref a57, .int 0, .int 0, .int 0, .int 0]))], [(a55, .inl (kA 0, 216, .inl f1))], [(g 0 j, .inr (3, [.int 0, .int 0, .int 1, .ref a11, .ref a12, .ref a13, .ref a14, .ref a15, .ref a16, .ref a17, .ref a18, .ref a19, .ref a20, .ref a21, .ref a22, .ref a23, .null, .int 0, .int 0]))], [(u4 0, .inl (kA 1, 3, .inl (upd (upd (fun _ => 0) 0 (vp_nar .byte 110)) 1 (vp_nar .byte 48))))]]) H := hP
  have hD : va_D A (cat [[(a0, .inr (12, [.ref a1, .ref a2, .ref a3, .ref a4, .ref a5, .ref a6, .ref a7, .int 0, .int ((-1)), .ref a8, .ref a9, .int 0, .int 0, .ref a10, .int 0, .int 0, .null, .null, .null, .null, .null]))], [(a1, .inl (kA 4, 4, .inr (.inr (.inr (.inr (rr (g 0)))))))], [(a11, .inl (kA 1, 192, .inl (fun _ => 0)))], [(a12, .inl (kA 0, 24, .inl (fun _ => 0)))], [(a13, .inl (kA 0, 24, .inl (fun _ => 0)))], [(a14, .inl (kA 0, 24, .inl (fun _ => 0)))], [(a22, .inl (kA 0, 24, .inl f0))], [(a2, .inl (kA 5, 4, .inr (.inr (.inr (.inr (rr (g 1)))))))], [(g 1 j, .inr (2, [.int 0, .int 0, .int 0, .int 0, .ref a24, .ref a25, .ref a26, .ref a27, .ref a28, .ref a29, .ref a30, .ref a31, .ref a32, .ref a33, .ref a34]))], [(a3, .inl (kA 6, 4, .inr (.inr (.inr (.inr (rr (g 2)))))))], [(g 2 j, .inr (5, [.int ((-1)), .int ((-1)), .int ((-1)), .int 0, .ref a35, .int 0, .int 0, .ref a36, .ref a37, .ref a38, .ref a39, .ref a40, .ref a41, .int 0, .ref a42, .ref a43, .ref a44]))], [(a4, .inl (kA 7, 4, .inr (.inr (.inr (.inr (rr (g 3)))))))], [(g 3 j, .inr (0, [.ref a45, .int ((-1)), .ref a46, .ref a47, .ref a48, .ref a49, .ref a50, .int 0, .int 0, .int 0, .ref a51, .ref a52, .ref a53, .ref a54, .ref a55, .ref a56, .ref a57, .int 0, .int 0, .int 0, .int 0]))], [(a55, .inl (kA 0, 216, .inl f1))], [(g 0 j, .inr (3, [.int 0, .int 0, .int 1, .ref a11, .ref a12, .ref a13, .ref a14, .ref a15, .ref a16, .ref a17, .ref a18, .ref a19, .ref a20, .ref a21, .ref a22, .ref a23, .null, .int 0, .int 0]))], [(u4 0, .inl (kA 1, 3, .inl (upd (upd (fun _ => 0) 0 (vp_nar .byte 110)) 1 (vp_nar .byte 48))))]]) := hD
  refine W.widen (k := 1) (n := 3) (by omega) (by omega) ?_
  refine lv_if_ne (pc := 20) (tgt := 25) hx hb d_Ho_change_20 (by decide) (fun c1 => ?_) (fun c1 => absurd c1 (by decide))
  refine lv_aload_n (pc := 25) hx hb d_Ho_change_25 rfl (lv_at hl 0 rfl) ?_
  refine k_get (pc := 26) X hK hP 0 rfl rfl i_Ho 0 (by decide) wm_555 rfl rfl d_Ho_change_26 ?_
  refine lv_iload_n (pc := 29) hx hb d_Ho_change_29 rfl (lv_at hl 1 rfl) ?_
  refine k_ald (pc := 30) hx hb hK hP 1 4 rfl rfl (j) rfl (by omega) (by decide) (rr_at (by omega)) d_Ho_change_30 ?_
  refine lv_iload_n (pc := 31) hx hb d_Ho_change_31 rfl (lv_at hl 2 rfl) ?_
  refine lv_iload_n (pc := 32) hx hb d_Ho_change_32 rfl (lv_at hl 3 rfl) ?_
  refine lv_iload (pc := 33) hx hb d_Ho_change_33 (lv_at hl 4 rfl) ?_
  refine k_goI (gr := [[(a0, .inr (12, [.ref a1, .ref a2, .ref a3, .ref a4, .ref a5, .ref a6, .ref a7, .int 0, .int ((-1)), .ref a8, .ref a9, .int 0, .int 0, .ref a10, .int 0, .int 0, .null, .null, .null, .null, .null]))], [(a1, .inl (kA 4, 4, .inr (.inr (.inr (.inr (rr (g 0)))))))], [(a2, .inl (kA 5, 4, .inr (.inr (.inr (.inr (rr (g 1)))))))], [(g 1 j, .inr (2, [.int 0, .int 0, .int 0, .int 0, .ref a24, .ref a25, .ref a26, .ref a27, .ref a28, .ref a29, .ref a30, .ref a31, .ref a32, .ref a33, .ref a34]))], [(a3, .inl (kA 6, 4, .inr (.inr (.inr (.inr (rr (g 2)))))))], [(g 2 j, .inr (5, [.int ((-1)), .int ((-1)), .int ((-1)), .int 0, .ref a35, .int 0, .int 0, .ref a36, .ref a37, .ref a38, .ref a39, .ref a40, .ref a41, .int 0, .ref a42, .ref a43, .ref a44]))], [(a4, .inl (kA 7, 4, .inr (.inr (.inr (.inr (rr (g 3)))))))], [(g 3 j, .inr (0, [.ref a45, .int ((-1)), .ref a46, .ref a47, .ref a48, .ref a49, .ref a50, .int 0, .int 0, .int 0, .ref a51, .ref a52, .ref a53, .ref a54, .ref a55, .ref a56, .ref a57, .int 0, .int 0, .int 0, .int 0]))], [(a55, .inl (kA 0, 216, .inl f1))], [(u4 0, .inl (kA 1, 3, .inl (upd (upd (fun _ => 0) 0 (vp_nar .byte 110)) 1 (vp_nar .byte 48))))]]) (k_rV (pc := 35) (As := [.int 0, .int 0, .int v4]) (rest := []) X (c_Gr_alter_z1 l D kA g j v4 a11 a12 a13 a14 a15 a16 a17 a18 a19 a20 a21 a22 a23 f0 hj H.size) rfl wm_975 wm_3 wm_972 wm_973 wm_974 3 (by decide +kernel) ⟨Nat.le_of_ble_eq_true rfl, Nat.le_of_ble_eq_true rfl⟩ rfl rfl (va_recv hK hP (ci := 3) (q0 := 14) rfl rfl) (k_pre hN hK hP hD [14, 2, 3, 4, 5, 6] [0, 1, 7, 8, 9, 10, 11, 12, 13, 15] 16 rfl (by decide) rfl) rfl hl.1 rfl (Nat.le_of_ble_eq_true rfl) d_Ho_change_35 ⟨Nat.le_of_ble_eq_true rfl, Nat.le_of_ble_eq_true rfl⟩) hP hD hS hA [14, 2, 3, 4, 5, 6] [0, 1, 7, 8, 9, 10, 11, 12, 13, 15] 16 rfl (by decide) rfl rfl (fun r5 u6 H locs hu6 hP hD hS => ?_)
  subst hu6
  have hP : va_P D classes (cat [[(a0, .inr (12, [.ref a1, .ref a2, .ref a3, .ref a4, .ref a5, .ref a6, .ref a7, .int 0, .int ((-1)), .ref a8, .ref a9, .int 0, .int 0, .ref a10, .int 0, .int 0, .null, .null, .null, .null, .null]))], [(a1, .inl (kA 4, 4, .inr (.inr (.inr (.inr (rr (g 0)))))))], [(a2, .inl (kA 5, 4, .inr (.inr (.inr (.inr (rr (g 1)))))))], [(g 1 j, .inr (2, [.int 0, .int 0, .int 0, .int 0, .ref a24, .ref a25, .ref a26, .ref a27, .ref a28, .ref a29, .ref a30, .ref a31, .ref a32, .ref a33, .ref a34]))], [(a3, .inl (kA 6, 4, .inr (.inr (.inr (.inr (rr (g 2)))))))], [(g 2 j, .inr (5, [.int ((-1)), .int ((-1)), .int ((-1)), .int 0, .ref a35, .int 0, .int 0, .ref a36, .ref a37, .ref a38, .ref a39, .ref a40, .ref a41, .int 0, .ref a42, .ref a43, .ref a44]))], [(a4, .inl (kA 7, 4, .inr (.inr (.inr (.inr (rr (g 3)))))))], [(g 3 j, .inr (0, [.ref a45, .int ((-1)), .ref a46, .ref a47, .ref a48, .ref a49, .ref a50, .int 0, .int 0, .int 0, .ref a51, .ref a52, .ref a53, .ref a54, .ref a55, .ref a56, .ref a57, .int 0, .int 0, .int 0, .int 0]))], [(a55, .inl (kA 0, 216, .inl f1))], [(u4 0, .inl (kA 1, 3, .inl (upd (upd (fun _ => 0) 0 (vp_nar .byte 110)) 1 (vp_nar .byte 48))))], [(g 0 j, .inr (3, [.int 1, .int 0, .int 1, .ref a11, .ref a12, .ref a13, .ref a14, .ref a15, .ref a16, .ref a17, .ref a18, .ref a19, .ref a20, .ref a21, .ref a22, .ref a23, .ref (u6 0), .int 1, .int 0]))], [(a11, .inl (kA 1, 192, .inl (va_cpy (upd (upd (fun _ => 0) 0 (vp_nar .byte 110)) 1 (vp_nar .byte 48)) (fun _ => 0) 0 0 2)))], [(a12, .inl (kA 0, 24, .inl (upd ((fun _ => 0)) 0 2)))], [(a13, .inl (kA 0, 24, .inl (upd ((fun _ => 0)) 0 1)))], [(a14, .inl (kA 0, 24, .inl (upd ((fun _ => 0)) 0 0)))], [(a22, .inl (kA 0, 24, .inl (upd (f0) 0 0)))], [(u6 0, .inl (kA 0, 3782, .inl (upd (upd (upd (upd (upd ((upd (upd ((fun _ => 0)) 0 0) 1 0)) 122 1) 123 0) 124 (((((va_cpy (upd (upd (fun _ => 0) 0 (vp_nar .byte 110)) 1 (vp_nar .byte 48)) (fun _ => 0) 0 0 2) 0) ||| (((va_cpy (upd (upd (fun _ => 0) 0 (vp_nar .byte 110)) 1 (vp_nar .byte 48)) (fun _ => 0) 0 0 2) 1) <<< (8 &&& 31))) ||| 0) ||| 0)) 125 0) 126 258)))], [(u6 1, .inl (kA 1, 3, .inl (upd (upd (fun _ => 0) 0 (vp_nar .byte 110)) 1 (vp_nar .byte 48))))]]) H := hP
  have hD : va_D A (cat [[(a0, .inr (12, [.ref a1, .ref a2, .ref a3, .ref a4, .ref a5, .ref a6, .ref a7, .int 0, .int ((-1)), .ref a8, .ref a9, .int 0, .int 0, .ref a10, .int 0, .int 0, .null, .null, .null, .null, .null]))], [(a1, .inl (kA 4, 4, .inr (.inr (.inr (.inr (rr (g 0)))))))], [(a2, .inl (kA 5, 4, .inr (.inr (.inr (.inr (rr (g 1)))))))], [(g 1 j, .inr (2, [.int 0, .int 0, .int 0, .int 0, .ref a24, .ref a25, .ref a26, .ref a27, .ref a28, .ref a29, .ref a30, .ref a31, .ref a32, .ref a33, .ref a34]))], [(a3, .inl (kA 6, 4, .inr (.inr (.inr (.inr (rr (g 2)))))))], [(g 2 j, .inr (5, [.int ((-1)), .int ((-1)), .int ((-1)), .int 0, .ref a35, .int 0, .int 0, .ref a36, .ref a37, .ref a38, .ref a39, .ref a40, .ref a41, .int 0, .ref a42, .ref a43, .ref a44]))], [(a4, .inl (kA 7, 4, .inr (.inr (.inr (.inr (rr (g 3)))))))], [(g 3 j, .inr (0, [.ref a45, .int ((-1)), .ref a46, .ref a47, .ref a48, .ref a49, .ref a50, .int 0, .int 0, .int 0, .ref a51, .ref a52, .ref a53, .ref a54, .ref a55, .ref a56, .ref a57, .int 0, .int 0, .int 0, .int 0]))], [(a55, .inl (kA 0, 216, .inl f1))], [(u4 0, .inl (kA 1, 3, .inl (upd (upd (fun _ => 0) 0 (vp_nar .byte 110)) 1 (vp_nar .byte 48))))], [(g 0 j, .inr (3, [.int 1, .int 0, .int 1, .ref a11, .ref a12, .ref a13, .ref a14, .ref a15, .ref a16, .ref a17, .ref a18, .ref a19, .ref a20, .ref a21, .ref a22, .ref a23, .ref (u6 0), .int 1, .int 0]))], [(a11, .inl (kA 1, 192, .inl (va_cpy (upd (upd (fun _ => 0) 0 (vp_nar .byte 110)) 1 (vp_nar .byte 48)) (fun _ => 0) 0 0 2)))], [(a12, .inl (kA 0, 24, .inl (upd ((fun _ => 0)) 0 2)))], [(a13, .inl (kA 0, 24, .inl (upd ((fun _ => 0)) 0 1)))], [(a14, .inl (kA 0, 24, .inl (upd ((fun _ => 0)) 0 0)))], [(a22, .inl (kA 0, 24, .inl (upd (f0) 0 0)))], [(u6 0, .inl (kA 0, 3782, .inl (upd (upd (upd (upd (upd ((upd (upd ((fun _ => 0)) 0 0) 1 0)) 122 1) 123 0) 124 (((((va_cpy (upd (upd (fun _ => 0) 0 (vp_nar .byte 110)) 1 (vp_nar .byte 48)) (fun _ => 0) 0 0 2) 0) ||| (((va_cpy (upd (upd (fun _ => 0) 0 (vp_nar .byte 110)) 1 (vp_nar .byte 48)) (fun _ => 0) 0 0 2) 1) <<< (8 &&& 31))) ||| 0) ||| 0)) 125 0) 126 258)))], [(u6 1, .inl (kA 1, 3, .inl (upd (upd (fun _ => 0) 0 (vp_nar .byte 110)) 1 (vp_nar .byte 48))))]]) := hD
  refine W.widen (k := 3) (n := 3788) (by omega) (by omega) ?_
  refine lv_istore (pc := 38) (lv' := [(5, .int 0), (0, .ref a0), (1, .int (nI j)), (2, .int 0), (3, .int 0), (4, .int v4)]) hx hb d_Ho_change_38 hl (by decide) rfl (fun ls hl => ?_)
  refine lv_aload_n (pc := 40) hx hb d_Ho_change_40 rfl (lv_at hl 1 rfl) ?_
  refine lv_iload_n (pc := 41) hx hb d_Ho_change_41 rfl (lv_at hl 2 rfl) ?_
  refine k_goV (gr := [[(a1, .inl (kA 4, 4, .inr (.inr (.inr (.inr (rr (g 0)))))))], [(u4 0, .inl (kA 1, 3, .inl (upd (upd (fun _ => 0) 0 (vp_nar .byte 110)) 1 (vp_nar .byte 48))))], [(g 0 j, .inr (3, [.int 1, .int 0, .int 1, .ref a11, .ref a12, .ref a13, .ref a14, .ref a15, .ref a16, .ref a17, .ref a18, .ref a19, .ref a20, .ref a21, .ref a22, .ref a23, .ref (u6 0), .int 1, .int 0]))], [(a11, .inl (kA 1, 192, .inl (va_cpy (upd (upd (fun _ => 0) 0 (vp_nar .byte 110)) 1 (vp_nar .byte 48)) (fun _ => 0) 0 0 2)))], [(a12, .inl (kA 0, 24, .inl (upd ((fun _ => 0)) 0 2)))], [(a13, .inl (kA 0, 24, .inl (upd ((fun _ => 0)) 0 1)))], [(a14, .inl (kA 0, 24, .inl (upd ((fun _ => 0)) 0 0)))], [(a22, .inl (kA 0, 24, .inl (upd (f0) 0 0)))], [(u6 0, .inl (kA 0, 3782, .inl (upd (upd (upd (upd (upd ((upd (upd ((fun _ => 0)) 0 0) 1 0)) 122 1) 123 0) 124 (((((va_cpy (upd (upd (fun _ => 0) 0 (vp_nar .byte 110)) 1 (vp_nar .byte 48)) (fun _ => 0) 0 0 2) 0) ||| (((va_cpy (upd (upd (fun _ => 0) 0 (vp_nar .byte 110)) 1 (vp_nar .byte 48)) (fun _ => 0) 0 0 2) 1) <<< (8 &&& 31))) ||| 0) ||| 0)) 125 0) 126 258)))], [(u6 1, .inl (kA 1, 3, .inl (upd (upd (fun _ => 0) 0 (vp_nar .byte 110)) 1 (vp_nar .byte 48))))]]) (k_rV (pc := 42) (As := [.int (nI j)]) (rest := []) X (c_Ho_forget_z1 l D kA a0 j a1 a2 a3 a4 a5 a6 a7 a8 a9 a10 g a24 a25 a26 a27 a28 a29 a30 a31 a32 a33 a34 a35 a36 a37 a38 a39 a40 a41 a42 a43 a44 a45 a46 a47 a48 a49 a50 a51 a52 a53 a54 a55 a56 a57 f1 hj H.size) rfl wm_789 wm_1 wm_786 wm_788 wv_1_13 1 (by decide +kernel) ⟨Nat.le_of_ble_eq_true rfl, Nat.le_of_ble_eq_true rfl⟩ rfl rfl (va_recv hK hP (ci := 12) (q0 := 0) rfl rfl) (k_pre hN hK hP hD [0, 2, 3, 4, 5, 6, 7, 8] [1, 9, 10, 11, 12, 13, 14, 15, 16, 17] 18 rfl (by decide) rfl) rfl hl.1 rfl (Nat.le_of_ble_eq_true rfl) d_Ho_change_42 ⟨Nat.le_of_ble_eq_true rfl, Nat.le_of_ble_eq_true rfl⟩) hP hD hS hA [0, 2, 3, 4, 5, 6, 7, 8] [1, 9, 10, 11, 12, 13, 14, 15, 16, 17] 18 rfl (by decide) rfl rfl (fun u7 H locs hu7 hP hD hS => ?_)
  have hP : va_P D classes (cat [[(a1, .inl (kA 4, 4, .inr (.inr (.inr (.inr (rr (g 0)))))))], [(u4 0, .inl (kA 1, 3, .inl (upd (upd (fun _ => 0) 0 (vp_nar .byte 110)) 1 (vp_nar .byte 48))))], [(g 0 j, .inr (3, [.int 1, .int 0, .int 1, .ref a11, .ref a12, .ref a13, .ref a14, .ref a15, .ref a16, .ref a17, .ref a18, .ref a19, .ref a20, .ref a21, .ref a22, .ref a23, .ref (u6 0), .int 1, .int 0]))], [(a11, .inl (kA 1, 192, .inl (va_cpy (upd (upd (fun _ => 0) 0 (vp_nar .byte 110)) 1 (vp_nar .byte 48)) (fun _ => 0) 0 0 2)))], [(a12, .inl (kA 0, 24, .inl (upd ((fun _ => 0)) 0 2)))], [(a13, .inl (kA 0, 24, .inl (upd ((fun _ => 0)) 0 1)))], [(a14, .inl (kA 0, 24, .inl (upd ((fun _ => 0)) 0 0)))], [(a22, .inl (kA 0, 24, .inl (upd (f0) 0 0)))], [(u6 0, .inl (kA 0, 3782, .inl (upd (upd (upd (upd (upd ((upd (upd ((fun _ => 0)) 0 0) 1 0)) 122 1) 123 0) 124 (((((va_cpy (upd (upd (fun _ => 0) 0 (vp_nar .byte 110)) 1 (vp_nar .byte 48)) (fun _ => 0) 0 0 2) 0) ||| (((va_cpy (upd (upd (fun _ => 0) 0 (vp_nar .byte 110)) 1 (vp_nar .byte 48)) (fun _ => 0) 0 0 2) 1) <<< (8 &&& 31))) ||| 0) ||| 0)) 125 0) 126 258)))], [(u6 1, .inl (kA 1, 3, .inl (upd (upd (fun _ => 0) 0 (vp_nar .byte 110)) 1 (vp_nar .byte 48))))], [(a0, .inr (12, [.ref a1, .ref a2, .ref a3, .ref a4, .ref a5, .ref a6, .ref a7, .int 0, .int ((-1)), .ref a8, .ref a9, .int 0, .int 0, .ref a10, .int 0, .int 0, .null, .null, .null, .null, .null]))], [(a2, .inl (kA 5, 4, .inr (.inr (.inr (.inr (rr (g 1)))))))], [(g 1 j, .inr (2, [.int 0, .int 0, .int 0, .int 0, .ref a24, .ref a25, .ref a26, .ref a27, .ref a28, .ref a29, .ref a30, .ref a31, .ref a32, .ref a33, .ref a34]))], [(a3, .inl (kA 6, 4, .inr (.inr (.inr (.inr (rr (g 2)))))))], [(g 2 j, .inr (5, [.int ((-1)), .int ((-1)), .int ((-1)), .int 0, .ref a35, .int 0, .int 0, .ref a36, .ref a37, .ref a38, .ref a39, .ref a40, .ref a41, .int 0, .ref a42, .ref a43, .ref a44]))], [(a4, .inl (kA 7, 4, .inr (.inr (.inr (.inr (rr (g 3)))))))], [(g 3 j, .inr (0, [.ref a45, .int ((-1)), .ref a46, .ref a47, .ref a48, .ref a49, .ref a50, .int 0, .int 0, .int 0, .ref a51, .ref a52, .ref a53, .ref a54, .ref a55, .ref a56, .ref a57, .int 0, .int 0, .int 0, .int 0]))], [(a55, .inl (kA 0, 216, .inl (fl f1 216 0)))]]) H := hP
  have hD : va_D A (cat [[(a1, .inl (kA 4, 4, .inr (.inr (.inr (.inr (rr (g 0)))))))], [(u4 0, .inl (kA 1, 3, .inl (upd (upd (fun _ => 0) 0 (vp_nar .byte 110)) 1 (vp_nar .byte 48))))], [(g 0 j, .inr (3, [.int 1, .int 0, .int 1, .ref a11, .ref a12, .ref a13, .ref a14, .ref a15, .ref a16, .ref a17, .ref a18, .ref a19, .ref a20, .ref a21, .ref a22, .ref a23, .ref (u6 0), .int 1, .int 0]))], [(a11, .inl (kA 1, 192, .inl (va_cpy (upd (upd (fun _ => 0) 0 (vp_nar .byte 110)) 1 (vp_nar .byte 48)) (fun _ => 0) 0 0 2)))], [(a12, .inl (kA 0, 24, .inl (upd ((fun _ => 0)) 0 2)))], [(a13, .inl (kA 0, 24, .inl (upd ((fun _ => 0)) 0 1)))], [(a14, .inl (kA 0, 24, .inl (upd ((fun _ => 0)) 0 0)))], [(a22, .inl (kA 0, 24, .inl (upd (f0) 0 0)))], [(u6 0, .inl (kA 0, 3782, .inl (upd (upd (upd (upd (upd ((upd (upd ((fun _ => 0)) 0 0) 1 0)) 122 1) 123 0) 124 (((((va_cpy (upd (upd (fun _ => 0) 0 (vp_nar .byte 110)) 1 (vp_nar .byte 48)) (fun _ => 0) 0 0 2) 0) ||| (((va_cpy (upd (upd (fun _ => 0) 0 (vp_nar .byte 110)) 1 (vp_nar .byte 48)) (fun _ => 0) 0 0 2) 1) <<< (8 &&& 31))) ||| 0) ||| 0)) 125 0) 126 258)))], [(u6 1, .inl (kA 1, 3, .inl (upd (upd (fun _ => 0) 0 (vp_nar .byte 110)) 1 (vp_nar .byte 48))))], [(a0, .inr (12, [.ref a1, .ref a2, .ref a3, .ref a4, .ref a5, .ref a6, .ref a7, .int 0, .int ((-1)), .ref a8, .ref a9, .int 0, .int 0, .ref a10, .int 0, .int 0, .null, .null, .null, .null, .null]))], [(a2, .inl (kA 5, 4, .inr (.inr (.inr (.inr (rr (g 1)))))))], [(g 1 j, .inr (2, [.int 0, .int 0, .int 0, .int 0, .ref a24, .ref a25, .ref a26, .ref a27, .ref a28, .ref a29, .ref a30, .ref a31, .ref a32, .ref a33, .ref a34]))], [(a3, .inl (kA 6, 4, .inr (.inr (.inr (.inr (rr (g 2)))))))], [(g 2 j, .inr (5, [.int ((-1)), .int ((-1)), .int ((-1)), .int 0, .ref a35, .int 0, .int 0, .ref a36, .ref a37, .ref a38, .ref a39, .ref a40, .ref a41, .int 0, .ref a42, .ref a43, .ref a44]))], [(a4, .inl (kA 7, 4, .inr (.inr (.inr (.inr (rr (g 3)))))))], [(g 3 j, .inr (0, [.ref a45, .int ((-1)), .ref a46, .ref a47, .ref a48, .ref a49, .ref a50, .int 0, .int 0, .int 0, .ref a51, .ref a52, .ref a53, .ref a54, .ref a55, .ref a56, .ref a57, .int 0, .int 0, .int 0, .int 0]))], [(a55, .inl (kA 0, 216, .inl (fl f1 216 0)))]]) := hD
  refine lv_iload (pc := 45) hx hb d_Ho_change_45 (lv_at hl 0 rfl) ?_
  refine W.widen (k := 3) (n := 3788) (Nat.le_of_ble_eq_true rfl) (Nat.le_of_ble_eq_true rfl) ?_
  exact W.iret (v := 0) hx hb hr (fun t ht hW => ⟨⟨0, [[(a1, .inl (kA 4, 4, .inr (.inr (.inr (.inr (rr (g 0)))))))], [(u4 0, .inl (kA 1, 3, .inl (upd (upd (fun _ => 0) 0 (vp_nar .byte 110)) 1 (vp_nar .byte 48))))], [(g 0 j, .inr (3, [.int 1, .int 0, .int 1, .ref a11, .ref a12, .ref a13, .ref a14, .ref a15, .ref a16, .ref a17, .ref a18, .ref a19, .ref a20, .ref a21, .ref a22, .ref a23, .ref (u6 0), .int 1, .int 0]))], [(a11, .inl (kA 1, 192, .inl (va_cpy (upd (upd (fun _ => 0) 0 (vp_nar .byte 110)) 1 (vp_nar .byte 48)) (fun _ => 0) 0 0 2)))], [(a12, .inl (kA 0, 24, .inl (upd ((fun _ => 0)) 0 2)))], [(a13, .inl (kA 0, 24, .inl (upd ((fun _ => 0)) 0 1)))], [(a14, .inl (kA 0, 24, .inl (upd ((fun _ => 0)) 0 0)))], [(a22, .inl (kA 0, 24, .inl (upd (f0) 0 0)))], [(u6 0, .inl (kA 0, 3782, .inl (upd (upd (upd (upd (upd ((upd (upd ((fun _ => 0)) 0 0) 1 0)) 122 1) 123 0) 124 (((((va_cpy (upd (upd (fun _ => 0) 0 (vp_nar .byte 110)) 1 (vp_nar .byte 48)) (fun _ => 0) 0 0 2) 0) ||| (((va_cpy (upd (upd (fun _ => 0) 0 (vp_nar .byte 110)) 1 (vp_nar .byte 48)) (fun _ => 0) 0 0 2) 1) <<< (8 &&& 31))) ||| 0) ||| 0)) 125 0) 126 258)))], [(u6 1, .inl (kA 1, 3, .inl (upd (upd (fun _ => 0) 0 (vp_nar .byte 110)) 1 (vp_nar .byte 48))))], [(a0, .inr (12, [.ref a1, .ref a2, .ref a3, .ref a4, .ref a5, .ref a6, .ref a7, .int 0, .int ((-1)), .ref a8, .ref a9, .int 0, .int 0, .ref a10, .int 0, .int 0, .null, .null, .null, .null, .null]))], [(a2, .inl (kA 5, 4, .inr (.inr (.inr (.inr (rr (g 1)))))))], [(g 1 j, .inr (2, [.int 0, .int 0, .int 0, .int 0, .ref a24, .ref a25, .ref a26, .ref a27, .ref a28, .ref a29, .ref a30, .ref a31, .ref a32, .ref a33, .ref a34]))], [(a3, .inl (kA 6, 4, .inr (.inr (.inr (.inr (rr (g 2)))))))], [(g 2 j, .inr (5, [.int ((-1)), .int ((-1)), .int ((-1)), .int 0, .ref a35, .int 0, .int 0, .ref a36, .ref a37, .ref a38, .ref a39, .ref a40, .ref a41, .int 0, .ref a42, .ref a43, .ref a44]))], [(a4, .inl (kA 7, 4, .inr (.inr (.inr (.inr (rr (g 3)))))))], [(g 3 j, .inr (0, [.ref a45, .int ((-1)), .ref a46, .ref a47, .ref a48, .ref a49, .ref a50, .int 0, .int 0, .int 0, .ref a51, .ref a52, .ref a53, .ref a54, .ref a55, .ref a56, .ref a57, .int 0, .int 0, .int 0, .int 0]))], [(a55, .inl (kA 0, 216, .inl (fl f1 216 0)))]], rfl, rfl, by rw [ht]; exact hP, va_K.moved hW.alike hK, hD⟩, hS.F ht⟩) hS.2.2 d_Ho_change_47
set_option maxRecDepth 100000 in
set_option maxHeartbeats 4000000 in
/-- DrawingHouseModel.take(I)V -/
theorem c_Mo_take_z2 (l : Launch) (D : va_G) (kA : Nat → ClassId) (a0 : Nat) (j : Nat) (qm : Nat → Nat) (hj : j < 4) : Cv l y_Mo_take z_Mo_take { frames := 1, cells := 0, slots := 0, locals := 21 } D classes (TY kA) [.ref a0, .int (nI j)] [[(a0, .inr (13, mF qm (va_up x0Mo 5 (nI (539 * (31 * j + 0)))) y0Mo))], [(qm 3, .inl (kA 0, 4, .inl (upd (fun _ => 0) j 1)))]] (fun _ : Unit => True) (fun u => [[(a0, .inr (13, mF qm (va_up x0Mo 5 (nI (539 * (31 * j + 1)))) y0Mo))], [(qm 3, .inl (kA 0, 4, .inl (upd (fun _ => 0) j 1)))]]) 0 0 := by
  intro sz
  refine k_met (cc := b_Mo_take) (maxL := 2) (ret := none) (by decide) rfl (Nat.le_of_ble_eq_true rfl) (fun p e s m below meth c ls X hl hB => ?_)
  obtain ⟨hsz, hP, hK, hD0, hN⟩ := hB
  subst hsz
  have hD := hD0.self (sz := s.heap.size)
  generalize hAe : va_A (cat [[(a0, .inr (13, mF qm (va_up x0Mo 5 (nI (539 * (31 * j + 0)))) y0Mo))], [(qm 3, .inl (kA 0, 4, .inl (upd (fun _ => 0) j 1)))]]) s.heap.size = A at hD ⊢
  have hA : ∀ q : Nat, s.heap.size ≤ q → A q := fun q h => by rw [← hAe]; exact Or.inr h
  have hS : va_S A s.heap s.heap [] := va_S.rf
  obtain ⟨hx, hb, hml, hown, hts, hr, hlk, hnm⟩ := id X
  have hl : lv_has ls 2 [(0, .ref a0), (1, .int (nI j))] := hl
  have hP : va_P D classes (cat [[(a0, .inr (13, mF qm (va_up x0Mo 5 (nI (539 * (31 * j + 0)))) y0Mo))], [(qm 3, .inl (kA 0, 4, .inl (upd (fun _ => 0) j 1)))]]) s.heap := hP
  have hK : va_K D classes (TY kA) s := hK
  refine lv_aload_n (pc := 0) hx hb d_Mo_take_0 rfl (lv_at hl 0 rfl) ?_
  refine lv_iload_n (pc := 1) hx hb d_Mo_take_1 rfl (lv_at hl 1 rfl) ?_
  refine lv_aload_n (pc := 2) hx hb d_Mo_take_2 rfl (lv_at hl 0 rfl) ?_
  refine k_get (pc := 3) (v := .ref (qm 3)) X hK hP 0 rfl rfl i_Mo 3 (by decide) wm_2436 rfl rfl d_Mo_take_3 ?_
  refine lv_iload_n (pc := 6) hx hb d_Mo_take_6 rfl (lv_at hl 1 rfl) ?_
  refine k_ild (pc := 7) hx hb hK hP 1 0 rfl rfl (j) rfl (by omega) (by decide) d_Mo_take_7 ?_
  refine k_cst (v := 1) (by simp [upd]) ?_
  refine k_goI (gr := [[(a0, .inr (13, mF qm (va_up x0Mo 5 (nI (539 * (31 * j + 0)))) y0Mo))], [(qm 3, .inl (kA 0, 4, .inl (upd (fun _ => 0) j 1)))]]) (k_rS (pc := 8) (As := [.int (nI j), .int 1]) (rest := [.ref a0]) X (c_Mo_rowOf l D kA j 1 s.heap.size) rfl wm_2420 wm_9 wm_2418 wm_2419 2 (by decide +kernel) ⟨Nat.le_of_ble_eq_true rfl, Nat.le_of_ble_eq_true rfl⟩ rfl rfl (k_pre hN hK hP hD [] [0, 1] 2 rfl (by decide) rfl) rfl hl.1 rfl (Nat.le_of_ble_eq_true rfl) d_Mo_take_8 ⟨Nat.le_of_ble_eq_true rfl, Nat.le_of_ble_eq_true rfl⟩) hP hD hS hA [] [0, 1] 2 rfl (by decide) rfl rfl (fun r1 u2 H locs hu2 hP hD hS => ?_)
  subst hu2
  have hP : va_P D classes (cat [[(a0, .inr (13, mF qm (va_up x0Mo 5 (nI (539 * (31 * j + 0)))) y0Mo))], [(qm 3, .inl (kA 0, 4, .inl (upd (fun _ => 0) j 1)))]]) H := hP
  have hD : va_D A (cat [[(a0, .inr (13, mF qm (va_up x0Mo 5 (nI (539 * (31 * j + 0)))) y0Mo))], [(qm 3, .inl (kA 0, 4, .inl (upd (fun _ => 0) j 1)))]]) := hD
  refine k_put (pc := 11) X hK hP hD hS 0 rfl rfl i_Mo t_Mo t_Mo_ok n_Mo 5 (by decide) wm_2438 rfl (Or.inl rfl) rfl rfl (Nat.le_of_ble_eq_true rfl) d_Mo_take_11 (fun H locs hP hD hS => ?_)
  have hP : va_P D classes (cat [[(a0, .inr (13, mF qm (va_up x0Mo 5 (nI (539 * (31 * j + 1)))) y0Mo))], [(qm 3, .inl (kA 0, 4, .inl (upd (fun _ => 0) j 1)))]]) H := hP
  have hD : va_D A (cat [[(a0, .inr (13, mF qm (va_up x0Mo 5 (nI (539 * (31 * j + 1)))) y0Mo))], [(qm 3, .inl (kA 0, 4, .inl (upd (fun _ => 0) j 1)))]]) := hD
  refine W.widen (k := 0) (n := 0) (Nat.le_of_ble_eq_true rfl) (Nat.le_of_ble_eq_true rfl) ?_
  exact W.vret hx hb hr (fun t ht hW => ⟨⟨(), rfl, trivial, by rw [ht]; exact hP, va_K.moved hW.alike hK, hD⟩, hS.F ht⟩) hS.2.2 d_Mo_take_14
set_option maxRecDepth 100000 in
set_option maxHeartbeats 4000000 in
theorem lp1_Mo_changed_z2 {p : Program} {l : Launch} {e : Env} {R : Room} {s : State} {m : MethodId} {args : Array Value} {below : List Frame} {meth : Method} {c : Code} {cells slots : Nat} {Q : State → Prop} {D : va_G} {kA : Nat → ClassId} {A : Nat → Prop} (X : cx p s m args meth c b_Mo_changed 3 none "DrawingHouseModel" "changed") (hK : va_K D classes (TY kA) s) (a0 : Nat) (qm : Nat → Nat) (j : Nat) (f0 : Nat → Int32) (hj : j < 4)
    (hex : ∀ (f80 : Nat → Int32) (H : Heap) (locs : List Loc) (ls : Array Slot), va_P D classes (cat [[(a0, .inr (13, mF qm (va_up x0Mo 5 (nI (539 * (31 * j + 1)))) y0Mo))], [(qm 61, .inl (kA 0, 4, .inl (upd f0 j ((-1)))))], [(qm 73, .inl (kA 0, 864, .inl f80))]]) H → va_D A (cat [[(a0, .inr (13, mF qm (va_up x0Mo 5 (nI (539 * (31 * j + 1)))) y0Mo))], [(qm 61, .inl (kA 0, 4, .inl (upd f0 j ((-1)))))], [(qm 73, .inl (kA 0, 864, .inl f80))]]) → va_S A s.heap H locs → lv_has ls 3 [(2, .int (nI 216)), (0, .ref a0), (1, .int (nI j))] → W p l e R s m args below meth c H locs cells slots Q (F0 m 35 ls [])) :
    ∀ (k i : Nat), i + k = 216 → ∀ (f80 : Nat → Int32) (H : Heap) (locs : List Loc) (ls : Array Slot), va_P D classes (cat [[(a0, .inr (13, mF qm (va_up x0Mo 5 (nI (539 * (31 * j + 1)))) y0Mo))], [(qm 61, .inl (kA 0, 4, .inl (upd f0 j ((-1)))))], [(qm 73, .inl (kA 0, 864, .inl f80))]]) H → va_D A (cat [[(a0, .inr (13, mF qm (va_up x0Mo 5 (nI (539 * (31 * j + 1)))) y0Mo))], [(qm 61, .inl (kA 0, 4, .inl (upd f0 j ((-1)))))], [(qm 73, .inl (kA 0, 864, .inl f80))]]) → va_S A s.heap H locs → lv_has ls 3 [(2, .int (nI i)), (0, .ref a0), (1, .int (nI j))] → W p l e R s m args below meth c H locs cells slots Q (F0 m 9 ls []) := by
  obtain ⟨hx, hb, hml, hown, hts, hr, hlk, hnm⟩ := id X
  intro k
  induction k with
  | zero =>
    intro i hi f80 H locs ls hP hD hS hl
    have hi : i = 216 := hi
    subst hi
    refine lv_iload_n (pc := 9) hx hb d_Mo_changed_9 rfl (lv_at hl 0 rfl) ?_
    refine lv_sipush (pc := 10) (v := 216) hx hb d_Mo_changed_10 (by decide) ?_
    refine k_cge (pc := 13) (x := 216) (y := 216) (tgt := 35) hx hb (by decide) (by decide) d_Mo_changed_13 (by decide) (fun c1 => ?_) (fun c1 => absurd c1 (by omega))
    exact hex f80 H locs ls hP hD hS hl
  | succ k ih =>
    intro i hi f80 H locs ls hP hD hS hl
    have hlt : i < 216 := by omega
    refine lv_iload_n (pc := 9) hx hb d_Mo_changed_9 rfl (lv_at hl 0 rfl) ?_
    refine lv_sipush (pc := 10) (v := 216) hx hb d_Mo_changed_10 (by decide) ?_
    refine k_cge (pc := 13) (x := i) (y := 216) (tgt := 35) hx hb (by omega) (by decide) d_Mo_changed_13 (by decide) (fun c1 => absurd c1 (by omega)) (fun c1 => ?_)
    refine lv_aload_n (pc := 16) hx hb d_Mo_changed_16 rfl (lv_at hl 1 rfl) ?_
    refine k_get (pc := 17) (v := .ref (qm 73)) X hK hP 0 rfl rfl i_Mo 73 (by decide) wm_2505 rfl rfl d_Mo_changed_17 ?_
    refine lv_sipush (pc := 20) (v := 216) hx hb d_Mo_changed_20 (by decide) ?_
    refine lv_iload_n (pc := 23) hx hb d_Mo_changed_23 rfl (lv_at hl 2 rfl) ?_
    refine k_mul (pc := 24) (x := 216) (y := j) hx hb d_Mo_changed_24 ?_
    refine lv_iload_n (pc := 25) hx hb d_Mo_changed_25 rfl (lv_at hl 0 rfl) ?_
    refine k_add (pc := 26) (x := 216 * j) (y := i) hx hb d_Mo_changed_26 ?_
    refine lv_iconst (pc := 27) (v := 0) hx hb d_Mo_changed_27 (by decide) ?_
    refine k_ist (pc := 28) hx hb hK hP hD hS 2 0 rfl rfl ((216 * j) + i) rfl (by omega) (by decide) d_Mo_changed_28 (fun H locs hP hD hS => ?_)
    have hP : va_P D classes (cat [[(a0, .inr (13, mF qm (va_up x0Mo 5 (nI (539 * (31 * j + 1)))) y0Mo))], [(qm 61, .inl (kA 0, 4, .inl (upd f0 j ((-1)))))], [(qm 73, .inl (kA 0, 864, .inl (upd f80 ((216 * j) + i) 0)))]]) H := hP
    have hD : va_D A (cat [[(a0, .inr (13, mF qm (va_up x0Mo 5 (nI (539 * (31 * j + 1)))) y0Mo))], [(qm 61, .inl (kA 0, 4, .inl (upd f0 j ((-1)))))], [(qm 73, .inl (kA 0, 864, .inl (upd f80 ((216 * j) + i) 0)))]]) := hD
    refine lv_iinc (pc := 29) (v := nI (i + 1)) (lv' := [(2, .int (nI (i + 1))), (0, .ref a0), (1, .int (nI j))]) hx hb d_Mo_changed_29 hl (k := 0) rfl (nI_add _ 1) (by decide) rfl (fun ls hl => ?_)
    refine lv_goto (pc := 32) (tgt := 9) hx hb d_Mo_changed_32 (by decide) ?_
    exact ih (i + 1) (by omega) _ H locs ls hP hD hS (lv_sub hl [0, 1, 2] rfl)
set_option maxRecDepth 100000 in
set_option maxHeartbeats 4000000 in
/-- DrawingHouseModel.changed(I)V -/
theorem c_Mo_changed_z2 (l : Launch) (D : va_G) (kA : Nat → ClassId) (a0 : Nat) (j : Nat) (qm : Nat → Nat) (f0 : Nat → Int32) (f1 : Nat → Int32) (hj : j < 4) : Cv l y_Mo_changed z_Mo_changed { frames := 0, cells := 0, slots := 0, locals := 0 } D classes (TY kA) [.ref a0, .int (nI j)] [[(a0, .inr (13, mF qm (va_up x0Mo 5 (nI (539 * (31 * j + 1)))) y0Mo))], [(qm 61, .inl (kA 0, 4, .inl f0))], [(qm 73, .inl (kA 0, 864, .inl f1))]] (fun _ : (Nat → Nat) × (Nat → Nat → Int32) => True) (fun u => [[(a0, .inr (13, mF qm (va_up x0Mo 5 (nI (539 * (31 * j + 1)))) y0Mo))], [(qm 61, .inl (kA 0, 4, .inl (upd f0 j ((-1)))))], [(qm 73, .inl (kA 0, 864, .inl (u.2 0)))]]) 0 0 := by
  intro sz
  refine k_met (cc := b_Mo_changed) (maxL := 3) (ret := none) (by decide) rfl (Nat.le_of_ble_eq_true rfl) (fun p e s m below meth c ls X hl hB => ?_)
  obtain ⟨hsz, hP, hK, hD0, hN⟩ := hB
  subst hsz
  have hD := hD0.self (sz := s.heap.size)
  generalize hAe : va_A (cat [[(a0, .inr (13, mF qm (va_up x0Mo 5 (nI (539 * (31 * j + 1)))) y0Mo))], [(qm 61, .inl (kA 0, 4, .inl f0))], [(qm 73, .inl (kA 0, 864, .inl f1))]]) s.heap.size = A at hD ⊢
  have hA : ∀ q : Nat, s.heap.size ≤ q → A q := fun q h => by rw [← hAe]; exact Or.inr h
  have hS : va_S A s.heap s.heap [] := va_S.rf
  obtain ⟨hx, hb, hml, hown, hts, hr, hlk, hnm⟩ := id X
  have hl : lv_has ls 3 [(0, .ref a0), (1, .int (nI j))] := hl
  have hP : va_P D classes (cat [[(a0, .inr (13, mF qm (va_up x0Mo 5 (nI (539 * (31 * j + 1)))) y0Mo))], [(qm 61, .inl (kA 0, 4, .inl f0))], [(qm 73, .inl (kA 0, 864, .inl f1))]]) s.heap := hP
  have hK : va_K D classes (TY kA) s := hK
  refine lv_aload_n (pc := 0) hx hb d_Mo_changed_0 rfl (lv_at hl 0 rfl) ?_
  refine k_get (pc := 1) (v := .ref (qm 61)) X hK hP 0 rfl rfl i_Mo 61 (by decide) wm_2493 rfl rfl d_Mo_changed_1 ?_
  refine lv_iload_n (pc := 4) hx hb d_Mo_changed_4 rfl (lv_at hl 1 rfl) ?_
  refine lv_iconst (pc := 5) (v := -1) hx hb d_Mo_changed_5 (by decide) ?_
  refine k_ist (pc := 6) hx hb hK hP hD hS 1 0 rfl rfl (j) rfl (by omega) (by decide) d_Mo_changed_6 (fun H locs hP hD hS => ?_)
  have hP : va_P D classes (cat [[(a0, .inr (13, mF qm (va_up x0Mo 5 (nI (539 * (31 * j + 1)))) y0Mo))], [(qm 61, .inl (kA 0, 4, .inl (upd f0 j ((-1)))))], [(qm 73, .inl (kA 0, 864, .inl f1))]]) H := hP
  have hD : va_D A (cat [[(a0, .inr (13, mF qm (va_up x0Mo 5 (nI (539 * (31 * j + 1)))) y0Mo))], [(qm 61, .inl (kA 0, 4, .inl (upd f0 j ((-1)))))], [(qm 73, .inl (kA 0, 864, .inl f1))]]) := hD
  refine lv_iconst (pc := 7) (v := 0) hx hb d_Mo_changed_7 (by decide) ?_
  refine lv_istore_n (pc := 8) (lv' := [(2, .int 0), (0, .ref a0), (1, .int (nI j))]) hx hb d_Mo_changed_8 rfl hl (by decide) rfl (fun ls hl => ?_)
  refine lp1_Mo_changed_z2 X hK a0 qm j f0 hj (fun f910 H locs ls hP hD hS hl => ?_) 216 0 (by omega) _ _ _ ls hP hD hS (lv_sub hl [0, 1, 2] rfl)
  refine W.widen (k := 0) (n := 0) (Nat.le_of_ble_eq_true rfl) (Nat.le_of_ble_eq_true rfl) ?_
  exact W.vret hx hb hr (fun t ht hW => ⟨⟨((fun _ => 0), (fun k => match k with | 0 => f910 | _ => fun _ => 0)), rfl, trivial, by rw [ht]; exact hP, va_K.moved hW.alike hK, hD⟩, hS.F ht⟩) hS.2.2 d_Mo_changed_35
set_option maxRecDepth 100000 in
set_option maxHeartbeats 4000000 in
theorem lp1_Mo_step_z1 {p : Program} {l : Launch} {e : Env} {R : Room} {s : State} {m : MethodId} {args : Array Value} {below : List Frame} {meth : Method} {c : Code} {cells slots : Nat} {Q : State → Prop} {D : va_G} {kA : Nat → ClassId} {A : Nat → Prop} (X : cx p s m args meth c b_Mo_step 4 none "DrawingHouseModel" "step") (hK : va_K D classes (TY kA) s) (a0 : Nat) (qm : Nat → Nat) (j : Nat) (f1 : Nat → Int32) (f2 : Nat → Int32) (f3 : Nat → Int32) (hj : j < 4)
    (hex : ∀ (f80 : Nat → Int32) (H : Heap) (locs : List Loc) (ls : Array Slot), va_P D classes (cat [[(a0, .inr (13, mF qm (va_up x0Mo 5 (nI (539 * (31 * j + 0)))) y0Mo))], [(qm 3, .inl (kA 0, 4, .inl (fun _ => 0)))], [(qm 2, .inl (kA 0, 66836, .inl f80))], [(qm 4, .inl (kA 0, 4, .inl f1))], [(qm 61, .inl (kA 0, 4, .inl f2))], [(qm 73, .inl (kA 0, 864, .inl f3))]]) H → va_D A (cat [[(a0, .inr (13, mF qm (va_up x0Mo 5 (nI (539 * (31 * j + 0)))) y0Mo))], [(qm 3, .inl (kA 0, 4, .inl (fun _ => 0)))], [(qm 2, .inl (kA 0, 66836, .inl f80))], [(qm 4, .inl (kA 0, 4, .inl f1))], [(qm 61, .inl (kA 0, 4, .inl f2))], [(qm 73, .inl (kA 0, 864, .inl f3))]]) → va_S A s.heap H locs → lv_has ls 4 [(3, .int (nI 539)), (2, .int (nI (539 * (31 * j + 0)))), (0, .ref a0), (1, .int (nI j))] → W p l e R s m args below meth c H locs cells slots Q (F0 m 106 ls [])) :
    ∀ (k i : Nat), i + k = 539 → ∀ (f80 : Nat → Int32) (H : Heap) (locs : List Loc) (ls : Array Slot), va_P D classes (cat [[(a0, .inr (13, mF qm (va_up x0Mo 5 (nI (539 * (31 * j + 0)))) y0Mo))], [(qm 3, .inl (kA 0, 4, .inl (fun _ => 0)))], [(qm 2, .inl (kA 0, 66836, .inl f80))], [(qm 4, .inl (kA 0, 4, .inl f1))], [(qm 61, .inl (kA 0, 4, .inl f2))], [(qm 73, .inl (kA 0, 864, .inl f3))]]) H → va_D A (cat [[(a0, .inr (13, mF qm (va_up x0Mo 5 (nI (539 * (31 * j + 0)))) y0Mo))], [(qm 3, .inl (kA 0, 4, .inl (fun _ => 0)))], [(qm 2, .inl (kA 0, 66836, .inl f80))], [(qm 4, .inl (kA 0, 4, .inl f1))], [(qm 61, .inl (kA 0, 4, .inl f2))], [(qm 73, .inl (kA 0, 864, .inl f3))]]) → va_S A s.heap H locs → lv_has ls 4 [(3, .int (nI i)), (2, .int (nI (539 * (31 * j + 0)))), (0, .ref a0), (1, .int (nI j))] → W p l e R s m args below meth c H locs cells slots Q (F0 m 73 ls []) := by
  obtain ⟨hx, hb, hml, hown, hts, hr, hlk, hnm⟩ := id X
  intro k
  induction k with
  | zero =>
    intro i hi f80 H locs ls hP hD hS hl
    have hi : i = 539 := hi
    subst hi
    refine lv_iload_n (pc := 73) hx hb d_Mo_step_73 rfl (lv_at hl 0 rfl) ?_
    refine lv_sipush (pc := 74) (v := 539) hx hb d_Mo_step_74 (by decide) ?_
    refine k_cge (pc := 77) (x := 539) (y := 539) (tgt := 106) hx hb (by decide) (by decide) d_Mo_step_77 (by decide) (fun c1 => ?_) (fun c1 => absurd c1 (by omega))
    exact hex f80 H locs ls hP hD hS hl
  | succ k ih =>
    intro i hi f80 H locs ls hP hD hS hl
    have hlt : i < 539 := by omega
    refine lv_iload_n (pc := 73) hx hb d_Mo_step_73 rfl (lv_at hl 0 rfl) ?_
    refine lv_sipush (pc := 74) (v := 539) hx hb d_Mo_step_74 (by decide) ?_
    refine k_cge (pc := 77) (x := i) (y := 539) (tgt := 106) hx hb (by omega) (by decide) d_Mo_step_77 (by decide) (fun c1 => absurd c1 (by omega)) (fun c1 => ?_)
    refine lv_aload_n (pc := 80) hx hb d_Mo_step_80 rfl (lv_at hl 2 rfl) ?_
    refine k_get (pc := 81) (v := .ref (qm 2)) X hK hP 0 rfl rfl i_Mo 2 (by decide) wm_2435 rfl rfl d_Mo_step_81 ?_
    refine lv_iload_n (pc := 84) hx hb d_Mo_step_84 rfl (lv_at hl 1 rfl) ?_
    refine lv_sipush (pc := 85) (v := 539) hx hb d_Mo_step_85 (by decide) ?_
    refine k_add (pc := 88) (x := 539 * (31 * j + 0)) (y := 539) hx hb d_Mo_step_88 ?_
    refine lv_iload_n (pc := 89) hx hb d_Mo_step_89 rfl (lv_at hl 0 rfl) ?_
    refine k_add (pc := 90) (x := (539 * (31 * j + 0)) + 539) (y := i) hx hb d_Mo_step_90 ?_
    refine lv_aload_n (pc := 91) hx hb d_Mo_step_91 rfl (lv_at hl 2 rfl) ?_
    refine k_get (pc := 92) (v := .ref (qm 2)) X hK hP 0 rfl rfl i_Mo 2 (by decide) wm_2435 rfl rfl d_Mo_step_92 ?_
    refine lv_iload_n (pc := 95) hx hb d_Mo_step_95 rfl (lv_at hl 1 rfl) ?_
    refine lv_iload_n (pc := 96) hx hb d_Mo_step_96 rfl (lv_at hl 0 rfl) ?_
    refine k_add (pc := 97) (x := 539 * (31 * j + 0)) (y := i) hx hb d_Mo_step_97 ?_
    refine k_ild (pc := 98) hx hb hK hP 2 0 rfl rfl ((539 * (31 * j + 0)) + i) rfl (by omega) (by decide) d_Mo_step_98 ?_
    refine k_ist (pc := 99) hx hb hK hP hD hS 2 0 rfl rfl (((539 * (31 * j + 0)) + 539) + i) rfl (by omega) (by decide) d_Mo_step_99 (fun H locs hP hD hS => ?_)
    have hP : va_P D classes (cat [[(a0, .inr (13, mF qm (va_up x0Mo 5 (nI (539 * (31 * j + 0)))) y0Mo))], [(qm 3, .inl (kA 0, 4, .inl (fun _ => 0)))], [(qm 2, .inl (kA 0, 66836, .inl (upd f80 (((539 * (31 * j + 0)) + 539) + i) (f80 ((539 * (31 * j + 0)) + i)))))], [(qm 4, .inl (kA 0, 4, .inl f1))], [(qm 61, .inl (kA 0, 4, .inl f2))], [(qm 73, .inl (kA 0, 864, .inl f3))]]) H := hP
    have hD : va_D A (cat [[(a0, .inr (13, mF qm (va_up x0Mo 5 (nI (539 * (31 * j + 0)))) y0Mo))], [(qm 3, .inl (kA 0, 4, .inl (fun _ => 0)))], [(qm 2, .inl (kA 0, 66836, .inl (upd f80 (((539 * (31 * j + 0)) + 539) + i) (f80 ((539 * (31 * j + 0)) + i)))))], [(qm 4, .inl (kA 0, 4, .inl f1))], [(qm 61, .inl (kA 0, 4, .inl f2))], [(qm 73, .inl (kA 0, 864, .inl f3))]]) := hD
    refine lv_iinc (pc := 100) (v := nI (i + 1)) (lv' := [(3, .int (nI (i + 1))), (2, .int (nI (539 * (31 * j + 0)))), (0, .ref a0), (1, .int (nI j))]) hx hb d_Mo_step_100 hl (k := 0) rfl (nI_add _ 1) (by decide) rfl (fun ls hl => ?_)
    refine lv_goto (pc := 103) (tgt := 73) hx hb d_Mo_step_103 (by decide) ?_
    exact ih (i + 1) (by omega) _ H locs ls hP hD hS (lv_sub hl [0, 1, 2, 3] rfl)
set_option maxRecDepth 100000 in
set_option maxHeartbeats 4000000 in
/-- DrawingHouseModel.step(I)V -/
theorem c_Mo_step_z1 (l : Launch) (D : va_G) (kA : Nat → ClassId) (a0 : Nat) (j : Nat) (qm : Nat → Nat) (f0 : Nat → Int32) (f1 : Nat → Int32) (f2 : Nat → Int32) (f3 : Nat → Int32) (hj : j < 4) : Cv l y_Mo_step z_Mo_step { frames := 2, cells := 0, slots := 0, locals := 42 } D classes (TY kA) [.ref a0, .int (nI j)] [[(a0, .inr (13, mF qm (va_up x0Mo 5 (nI (539 * (31 * j + 0)))) y0Mo))], [(qm 3, .inl (kA 0, 4, .inl (fun _ => 0)))], [(qm 2, .inl (kA 0, 66836, .inl f0))], [(qm 4, .inl (kA 0, 4, .inl f1))], [(qm 61, .inl (kA 0, 4, .inl f2))], [(qm 73, .inl (kA 0, 864, .inl f3))]] (fun _ : (Nat → Nat) × (Nat → Nat → Int32) => True) (fun u => [[(a0, .inr (13, mF qm (va_up x0Mo 5 (nI (539 * (31 * j + 1)))) y0Mo))], [(qm 3, .inl (kA 0, 4, .inl (upd (fun _ => 0) j 1)))], [(qm 2, .inl (kA 0, 66836, .inl (u.2 0)))], [(qm 4, .inl (kA 0, 4, .inl (upd f1 j 1)))], [(qm 61, .inl (kA 0, 4, .inl (upd f2 j ((-1)))))], [(qm 73, .inl (kA 0, 864, .inl (u.2 1)))]]) 0 0 := by
  intro sz
  refine k_met (cc := b_Mo_step) (maxL := 4) (ret := none) (by decide) rfl (Nat.le_of_ble_eq_true rfl) (fun p e s m below meth c ls X hl hB => ?_)
  obtain ⟨hsz, hP, hK, hD0, hN⟩ := hB
  subst hsz
  have hD := hD0.self (sz := s.heap.size)
  generalize hAe : va_A (cat [[(a0, .inr (13, mF qm (va_up x0Mo 5 (nI (539 * (31 * j + 0)))) y0Mo))], [(qm 3, .inl (kA 0, 4, .inl (fun _ => 0)))], [(qm 2, .inl (kA 0, 66836, .inl f0))], [(qm 4, .inl (kA 0, 4, .inl f1))], [(qm 61, .inl (kA 0, 4, .inl f2))], [(qm 73, .inl (kA 0, 864, .inl f3))]]) s.heap.size = A at hD ⊢
  have hA : ∀ q : Nat, s.heap.size ≤ q → A q := fun q h => by rw [← hAe]; exact Or.inr h
  have hS : va_S A s.heap s.heap [] := va_S.rf
  obtain ⟨hx, hb, hml, hown, hts, hr, hlk, hnm⟩ := id X
  have hl : lv_has ls 4 [(0, .ref a0), (1, .int (nI j))] := hl
  have hP : va_P D classes (cat [[(a0, .inr (13, mF qm (va_up x0Mo 5 (nI (539 * (31 * j + 0)))) y0Mo))], [(qm 3, .inl (kA 0, 4, .inl (fun _ => 0)))], [(qm 2, .inl (kA 0, 66836, .inl f0))], [(qm 4, .inl (kA 0, 4, .inl f1))], [(qm 61, .inl (kA 0, 4, .inl f2))], [(qm 73, .inl (kA 0, 864, .inl f3))]]) s.heap := hP
  have hK : va_K D classes (TY kA) s := hK
  refine lv_aload_n (pc := 0) hx hb d_Mo_step_0 rfl (lv_at hl 0 rfl) ?_
  refine k_get (pc := 1) (v := .ref (qm 3)) X hK hP 0 rfl rfl i_Mo 3 (by decide) wm_2436 rfl rfl d_Mo_step_1 ?_
  refine lv_iload_n (pc := 4) hx hb d_Mo_step_4 rfl (lv_at hl 1 rfl) ?_
  refine k_ild (pc := 5) hx hb hK hP 1 0 rfl rfl (j) rfl (by omega) (by decide) d_Mo_step_5 ?_
  refine k_cst (v := 0) (by rfl) ?_
  refine lv_bipush (pc := 6) (v := 30) hx hb d_Mo_step_6 (by decide) ?_
  refine lv_icmp_ne (pc := 8) (tgt := 60) hx hb d_Mo_step_8 (by decide) (fun _ => ?_) (fun c1 => absurd c1 (by decide))
  refine lv_iload_n (pc := 60) hx hb d_Mo_step_60 rfl (lv_at hl 1 rfl) ?_
  refine lv_aload_n (pc := 61) hx hb d_Mo_step_61 rfl (lv_at hl 0 rfl) ?_
  refine k_get (pc := 62) (v := .ref (qm 3)) X hK hP 0 rfl rfl i_Mo 3 (by decide) wm_2436 rfl rfl d_Mo_step_62 ?_
  refine lv_iload_n (pc := 65) hx hb d_Mo_step_65 rfl (lv_at hl 1 rfl) ?_
  refine k_ild (pc := 66) hx hb hK hP 1 0 rfl rfl (j) rfl (by omega) (by decide) d_Mo_step_66 ?_
  refine k_cst (v := 0) (by rfl) ?_
  refine k_goI (gr := [[(a0, .inr (13, mF qm (va_up x0Mo 5 (nI (539 * (31 * j + 0)))) y0Mo))], [(qm 3, .inl (kA 0, 4, .inl (fun _ => 0)))], [(qm 2, .inl (kA 0, 66836, .inl f0))], [(qm 4, .inl (kA 0, 4, .inl f1))], [(qm 61, .inl (kA 0, 4, .inl f2))], [(qm 73, .inl (kA 0, 864, .inl f3))]]) (k_rS (pc := 67) (As := [.int (nI j), .int 0]) (rest := []) X (c_Mo_rowOf l D kA j 0 s.heap.size) rfl wm_2420 wm_9 wm_2418 wm_2419 2 (by decide +kernel) ⟨Nat.le_of_ble_eq_true rfl, Nat.le_of_ble_eq_true rfl⟩ rfl rfl (k_pre hN hK hP hD [] [0, 1, 2, 3, 4, 5] 6 rfl (by decide) rfl) rfl hl.1 rfl (Nat.le_of_ble_eq_true rfl) d_Mo_step_67 ⟨Nat.le_of_ble_eq_true rfl, Nat.le_of_ble_eq_true rfl⟩) hP hD hS hA [] [0, 1, 2, 3, 4, 5] 6 rfl (by decide) rfl rfl (fun r1 u2 H locs hu2 hP hD hS => ?_)
  subst hu2
  have hP : va_P D classes (cat [[(a0, .inr (13, mF qm (va_up x0Mo 5 (nI (539 * (31 * j + 0)))) y0Mo))], [(qm 3, .inl (kA 0, 4, .inl (fun _ => 0)))], [(qm 2, .inl (kA 0, 66836, .inl f0))], [(qm 4, .inl (kA 0, 4, .inl f1))], [(qm 61, .inl (kA 0, 4, .inl f2))], [(qm 73, .inl (kA 0, 864, .inl f3))]]) H := hP
  have hD : va_D A (cat [[(a0, .inr (13, mF qm (va_up x0Mo 5 (nI (539 * (31 * j + 0)))) y0Mo))], [(qm 3, .inl (kA 0, 4, .inl (fun _ => 0)))], [(qm 2, .inl (kA 0, 66836, .inl f0))], [(qm 4, .inl (kA 0, 4, .inl f1))], [(qm 61, .inl (kA 0, 4, .inl f2))], [(qm 73, .inl (kA 0, 864, .inl f3))]]) := hD
  refine lv_istore_n (pc := 70) (lv' := [(2, .int (nI (539 * (31 * j + 0)))), (0, .ref a0), (1, .int (nI j))]) hx hb d_Mo_step_70 rfl hl (by decide) rfl (fun ls hl => ?_)
  refine lv_iconst (pc := 71) (v := 0) hx hb d_Mo_step_71 (by decide) ?_
  refine lv_istore_n (pc := 72) (lv' := [(3, .int 0), (2, .int (nI (539 * (31 * j + 0)))), (0, .ref a0), (1, .int (nI j))]) hx hb d_Mo_step_72 rfl hl (by decide) rfl (fun ls hl => ?_)
  refine lp1_Mo_step_z1 X hK a0 qm j f1 f2 f3 hj (fun f910 H locs ls hP hD hS hl => ?_) 539 0 (by omega) _ _ _ ls hP hD hS (lv_sub hl [0, 1, 2, 3] rfl)
  refine lv_aload_n (pc := 106) hx hb d_Mo_step_106 rfl (lv_at hl 2 rfl) ?_
  refine k_get (pc := 107) (v := .ref (qm 3)) X hK hP 0 rfl rfl i_Mo 3 (by decide) wm_2436 rfl rfl d_Mo_step_107 ?_
  refine lv_iload_n (pc := 110) hx hb d_Mo_step_110 rfl (lv_at hl 3 rfl) ?_
  refine lv_dup2_11 (pc := 111) hx hb d_Mo_step_111 rfl rfl ?_
  refine k_ild (pc := 112) hx hb hK hP 1 0 rfl rfl (j) rfl (by omega) (by decide) d_Mo_step_112 ?_
  refine k_cst (v := 0) (by rfl) ?_
  refine lv_iconst (pc := 113) (v := 1) hx hb d_Mo_step_113 (by decide) ?_
  refine lv_iadd (pc := 114) hx hb d_Mo_step_114 ?_
  refine k_cst (v := 1) (by decide) ?_
  refine k_ist (pc := 115) hx hb hK hP hD hS 1 0 rfl rfl (j) rfl (by omega) (by decide) d_Mo_step_115 (fun H locs hP hD hS => ?_)
  have hP : va_P D classes (cat [[(a0, .inr (13, mF qm (va_up x0Mo 5 (nI (539 * (31 * j + 0)))) y0Mo))], [(qm 3, .inl (kA 0, 4, .inl (upd (fun _ => 0) j 1)))], [(qm 2, .inl (kA 0, 66836, .inl f910))], [(qm 4, .inl (kA 0, 4, .inl f1))], [(qm 61, .inl (kA 0, 4, .inl f2))], [(qm 73, .inl (kA 0, 864, .inl f3))]]) H := hP
  have hD : va_D A (cat [[(a0, .inr (13, mF qm (va_up x0Mo 5 (nI (539 * (31 * j + 0)))) y0Mo))], [(qm 3, .inl (kA 0, 4, .inl (upd (fun _ => 0) j 1)))], [(qm 2, .inl (kA 0, 66836, .inl f910))], [(qm 4, .inl (kA 0, 4, .inl f1))], [(qm 61, .inl (kA 0, 4, .inl f2))], [(qm 73, .inl (kA 0, 864, .inl f3))]]) := hD
  refine lv_aload_n (pc := 116) hx hb d_Mo_step_116 rfl (lv_at hl 2 rfl) ?_
  refine k_get (pc := 117) (v := .ref (qm 4)) X hK hP 0 rfl rfl i_Mo 4 (by decide) wm_2437 rfl rfl d_Mo_step_117 ?_
  refine lv_iload_n (pc := 120) hx hb d_Mo_step_120 rfl (lv_at hl 3 rfl) ?_
  refine lv_aload_n (pc := 121) hx hb d_Mo_step_121 rfl (lv_at hl 2 rfl) ?_
  refine k_get (pc := 122) (v := .ref (qm 3)) X hK hP 0 rfl rfl i_Mo 3 (by decide) wm_2436 rfl rfl d_Mo_step_122 ?_
  refine lv_iload_n (pc := 125) hx hb d_Mo_step_125 rfl (lv_at hl 3 rfl) ?_
  refine k_ild (pc := 126) hx hb hK hP 1 0 rfl rfl (j) rfl (by omega) (by decide) d_Mo_step_126 ?_
  refine k_cst (v := 1) (by simp [upd]) ?_
  refine k_ist (pc := 127) hx hb hK hP hD hS 3 0 rfl rfl (j) rfl (by omega) (by decide) d_Mo_step_127 (fun H locs hP hD hS => ?_)
  have hP : va_P D classes (cat [[(a0, .inr (13, mF qm (va_up x0Mo 5 (nI (539 * (31 * j + 0)))) y0Mo))], [(qm 3, .inl (kA 0, 4, .inl (upd (fun _ => 0) j 1)))], [(qm 2, .inl (kA 0, 66836, .inl f910))], [(qm 4, .inl (kA 0, 4, .inl (upd f1 j 1)))], [(qm 61, .inl (kA 0, 4, .inl f2))], [(qm 73, .inl (kA 0, 864, .inl f3))]]) H := hP
  have hD : va_D A (cat [[(a0, .inr (13, mF qm (va_up x0Mo 5 (nI (539 * (31 * j + 0)))) y0Mo))], [(qm 3, .inl (kA 0, 4, .inl (upd (fun _ => 0) j 1)))], [(qm 2, .inl (kA 0, 66836, .inl f910))], [(qm 4, .inl (kA 0, 4, .inl (upd f1 j 1)))], [(qm 61, .inl (kA 0, 4, .inl f2))], [(qm 73, .inl (kA 0, 864, .inl f3))]]) := hD
  refine lv_aload_n (pc := 128) hx hb d_Mo_step_128 rfl (lv_at hl 2 rfl) ?_
  refine lv_iload_n (pc := 129) hx hb d_Mo_step_129 rfl (lv_at hl 3 rfl) ?_
  refine k_goV (gr := [[(qm 2, .inl (kA 0, 66836, .inl f910))], [(qm 4, .inl (kA 0, 4, .inl (upd f1 j 1)))], [(qm 61, .inl (kA 0, 4, .inl f2))], [(qm 73, .inl (kA 0, 864, .inl f3))]]) (k_rV (pc := 130) (As := [.int (nI j)]) (rest := []) X (c_Mo_take_z2 l D kA a0 j qm hj H.size) rfl wm_3091 wm_9 wm_3088 wm_3090 wv_14_2 1 (by decide +kernel) ⟨Nat.le_of_ble_eq_true rfl, Nat.le_of_ble_eq_true rfl⟩ rfl rfl (va_recv hK hP (ci := 13) (q0 := 0) rfl rfl) (k_pre hN hK hP hD [0, 1] [2, 3, 4, 5] 6 rfl (by decide) rfl) rfl hl.1 rfl (Nat.le_of_ble_eq_true rfl) d_Mo_step_130 ⟨Nat.le_of_ble_eq_true rfl, Nat.le_of_ble_eq_true rfl⟩) hP hD hS hA [0, 1] [2, 3, 4, 5] 6 rfl (by decide) rfl rfl (fun u4 H locs hu4 hP hD hS => ?_)
  have hP : va_P D classes (cat [[(qm 2, .inl (kA 0, 66836, .inl f910))], [(qm 4, .inl (kA 0, 4, .inl (upd f1 j 1)))], [(qm 61, .inl (kA 0, 4, .inl f2))], [(qm 73, .inl (kA 0, 864, .inl f3))], [(a0, .inr (13, mF qm (va_up x0Mo 5 (nI (539 * (31 * j + 1)))) y0Mo))], [(qm 3, .inl (kA 0, 4, .inl (upd (fun _ => 0) j 1)))]]) H := hP
  have hD : va_D A (cat [[(qm 2, .inl (kA 0, 66836, .inl f910))], [(qm 4, .inl (kA 0, 4, .inl (upd f1 j 1)))], [(qm 61, .inl (kA 0, 4, .inl f2))], [(qm 73, .inl (kA 0, 864, .inl f3))], [(a0, .inr (13, mF qm (va_up x0Mo 5 (nI (539 * (31 * j + 1)))) y0Mo))], [(qm 3, .inl (kA 0, 4, .inl (upd (fun _ => 0) j 1)))]]) := hD
  refine lv_aload_n (pc := 133) hx hb d_Mo_step_133 rfl (lv_at hl 2 rfl) ?_
  refine lv_iload_n (pc := 134) hx hb d_Mo_step_134 rfl (lv_at hl 3 rfl) ?_
  refine k_goV (gr := [[(qm 2, .inl (kA 0, 66836, .inl f910))], [(qm 4, .inl (kA 0, 4, .inl (upd f1 j 1)))], [(qm 3, .inl (kA 0, 4, .inl (upd (fun _ => 0) j 1)))]]) (k_rV (pc := 135) (As := [.int (nI j)]) (rest := []) X (c_Mo_changed_z2 l D kA a0 j qm f2 f3 hj H.size) rfl wm_3083 wm_9 wm_3080 wm_3082 wv_14_1 1 (by decide +kernel) ⟨Nat.le_of_ble_eq_true rfl, Nat.le_of_ble_eq_true rfl⟩ rfl rfl (va_recv hK hP (ci := 13) (q0 := 4) rfl rfl) (k_pre hN hK hP hD [4, 2, 3] [0, 1, 5] 6 rfl (by decide) rfl) rfl hl.1 rfl (Nat.le_of_ble_eq_true rfl) d_Mo_step_135 ⟨Nat.le_of_ble_eq_true rfl, Nat.le_of_ble_eq_true rfl⟩) hP hD hS hA [4, 2, 3] [0, 1, 5] 6 rfl (by decide) rfl rfl (fun u5 H locs hu5 hP hD hS => ?_)
  have hP : va_P D classes (cat [[(qm 2, .inl (kA 0, 66836, .inl f910))], [(qm 4, .inl (kA 0, 4, .inl (upd f1 j 1)))], [(qm 3, .inl (kA 0, 4, .inl (upd (fun _ => 0) j 1)))], [(a0, .inr (13, mF qm (va_up x0Mo 5 (nI (539 * (31 * j + 1)))) y0Mo))], [(qm 61, .inl (kA 0, 4, .inl (upd f2 j ((-1)))))], [(qm 73, .inl (kA 0, 864, .inl (u5.2 0)))]]) H := hP
  have hD : va_D A (cat [[(qm 2, .inl (kA 0, 66836, .inl f910))], [(qm 4, .inl (kA 0, 4, .inl (upd f1 j 1)))], [(qm 3, .inl (kA 0, 4, .inl (upd (fun _ => 0) j 1)))], [(a0, .inr (13, mF qm (va_up x0Mo 5 (nI (539 * (31 * j + 1)))) y0Mo))], [(qm 61, .inl (kA 0, 4, .inl (upd f2 j ((-1)))))], [(qm 73, .inl (kA 0, 864, .inl (u5.2 0)))]]) := hD
  obtain ⟨f950, hf950⟩ : ∃ z : Nat → Int32, u5.2 0 = z := ⟨_, rfl⟩
  rw [hf950] at hP hD
  obtain ⟨hP, hD⟩ := k_ord (gc := [[(a0, .inr (13, mF qm (va_up x0Mo 5 (nI (539 * (31 * j + 1)))) y0Mo))], [(qm 3, .inl (kA 0, 4, .inl (upd (fun _ => 0) j 1)))], [(qm 2, .inl (kA 0, 66836, .inl f910))], [(qm 4, .inl (kA 0, 4, .inl (upd f1 j 1)))], [(qm 61, .inl (kA 0, 4, .inl (upd f2 j ((-1)))))], [(qm 73, .inl (kA 0, 864, .inl f950))]]) hP hD [3, 2, 0, 1, 4, 5] 6 rfl (by decide) rfl
  refine W.widen (k := 0) (n := 0) (Nat.le_of_ble_eq_true rfl) (Nat.le_of_ble_eq_true rfl) ?_
  exact W.vret hx hb hr (fun t ht hW => ⟨⟨((fun _ => 0), (fun k => match k with | 0 => f910 | 1 => f950 | _ => fun _ => 0)), rfl, trivial, by rw [ht]; exact hP, va_K.moved hW.alike hK, hD⟩, hS.F ht⟩) hS.2.2 d_Mo_step_138
set_option maxRecDepth 100000 in
set_option maxHeartbeats 4000000 in
/-- DrawingHouseModel.newNode(II)I -/
theorem c_Mo_newNode_z3 (l : Launch) (D : va_G) (kA : Nat → ClassId) (a0 : Nat) (j : Nat) (qm : Nat → Nat) (f0 : Nat → Int32) (f1 : Nat → Int32) (f2 : Nat → Int32) (hj : j < 4) : Ci l y_Mo_newNode z_Mo_newNode { frames := 3, cells := 0, slots := 0, locals := 65 } D classes (TY kA) [.ref a0, .int (nI j), .int 0] [[(a0, .inr (13, mF qm (va_up x0Mo 5 (nI (539 * (31 * j + 0)))) y0Mo))], [(qm 2, .inl (kA 0, 66836, .inl all0))], [(qm 3, .inl (kA 0, 4, .inl (fun _ => 0)))], [(qm 4, .inl (kA 0, 4, .inl f0))], [(qm 61, .inl (kA 0, 4, .inl f1))], [(qm 73, .inl (kA 0, 864, .inl f2))]] (fun r (_ : (Nat → Nat) × (Nat → Nat → Int32)) => r = 0) (fun u => [[(a0, .inr (13, mF qm (va_up x0Mo 5 (nI (539 * (31 * j + 1)))) y0Mo))], [(qm 2, .inl (kA 0, 66836, .inl (upd (upd (upd (upd (upd (upd (upd (upd (upd (upd (upd (upd (upd (upd (u.2 0) (539 * (31 * j + 1)) (((u.2 0) (539 * (31 * j + 1))) + 1)) ((((539 * (31 * j + 1)) + 3) + 0) + 0) 0) ((((539 * (31 * j + 1)) + 3) + 0) + 1) 0) ((((539 * (31 * j + 1)) + 3) + 0) + 2) 0) ((((539 * (31 * j + 1)) + 3) + 0) + 3) 0) ((((539 * (31 * j + 1)) + 3) + 0) + 4) 0) ((((539 * (31 * j + 1)) + 3) + 0) + 5) 0) ((((539 * (31 * j + 1)) + 3) + 0) + 6) 0) ((((539 * (31 * j + 1)) + 3) + 0) + 7) 0) (((539 * (31 * j + 1)) + 3) + 0) 110) ((((539 * (31 * j + 1)) + 3) + 0) + 1) 48) (((539 * (31 * j + 1)) + 195) + 0) 2) (((539 * (31 * j + 1)) + 219) + 0) 1) (((539 * (31 * j + 1)) + 243) + 0) 0)))], [(qm 3, .inl (kA 0, 4, .inl (upd (fun _ => 0) j 1)))], [(qm 4, .inl (kA 0, 4, .inl (upd f0 j 1)))], [(qm 61, .inl (kA 0, 4, .inl (upd f1 j ((-1)))))], [(qm 73, .inl (kA 0, 864, .inl (u.2 1)))]]) 0 0 := by
  intro sz
  refine k_met (cc := b_Mo_newNode) (maxL := 8) (ret := (some .int)) (by decide) rfl (Nat.le_of_ble_eq_true rfl) (fun p e s m below meth c ls X hl hB => ?_)
  obtain ⟨hsz, hP, hK, hD0, hN⟩ := hB
  subst hsz
  have hD := hD0.self (sz := s.heap.size)
  generalize hAe : va_A (cat [[(a0, .inr (13, mF qm (va_up x0Mo 5 (nI (539 * (31 * j + 0)))) y0Mo))], [(qm 2, .inl (kA 0, 66836, .inl all0))], [(qm 3, .inl (kA 0, 4, .inl (fun _ => 0)))], [(qm 4, .inl (kA 0, 4, .inl f0))], [(qm 61, .inl (kA 0, 4, .inl f1))], [(qm 73, .inl (kA 0, 864, .inl f2))]]) s.heap.size = A at hD ⊢
  have hA : ∀ q : Nat, s.heap.size ≤ q → A q := fun q h => by rw [← hAe]; exact Or.inr h
  have hS : va_S A s.heap s.heap [] := va_S.rf
  obtain ⟨hx, hb, hml, hown, hts, hr, hlk, hnm⟩ := id X
  have hl : lv_has ls 8 [(0, .ref a0), (1, .int (nI j)), (2, .int 0)] := hl
  have hP : va_P D classes (cat [[(a0, .inr (13, mF qm (va_up x0Mo 5 (nI (539 * (31 * j + 0)))) y0Mo))], [(qm 2, .inl (kA 0, 66836, .inl all0))], [(qm 3, .inl (kA 0, 4, .inl (fun _ => 0)))], [(qm 4, .inl (kA 0, 4, .inl f0))], [(qm 61, .inl (kA 0, 4, .inl f1))], [(qm 73, .inl (kA 0, 864, .inl f2))]]) s.heap := hP
  have hK : va_K D classes (TY kA) s := hK
  refine lv_aload_n (pc := 0) hx hb d_Mo_newNode_0 rfl (lv_at hl 0 rfl) ?_
  refine k_goI (gr := [[(qm 3, .inl (kA 0, 4, .inl (fun _ => 0)))], [(qm 4, .inl (kA 0, 4, .inl f0))], [(qm 61, .inl (kA 0, 4, .inl f1))], [(qm 73, .inl (kA 0, 864, .inl f2))]]) (k_rV (pc := 1) (As := []) (rest := []) X (c_Mo_nodes_z1 l D kA a0 qm j hj s.heap.size) rfl wm_3025 wm_9 wm_3022 wm_3024 wv_13_3 0 (by decide +kernel) ⟨Nat.le_of_ble_eq_true rfl, Nat.le_of_ble_eq_true rfl⟩ rfl rfl (va_recv hK hP (ci := 13) (q0 := 0) rfl rfl) (k_pre hN hK hP hD [0, 1] [2, 3, 4, 5] 6 rfl (by decide) rfl) rfl hl.1 rfl (Nat.le_of_ble_eq_true rfl) d_Mo_newNode_1 ⟨Nat.le_of_ble_eq_true rfl, Nat.le_of_ble_eq_true rfl⟩) hP hD hS hA [0, 1] [2, 3, 4, 5] 6 rfl (by decide) rfl rfl (fun r1 u2 H locs hu2 hP hD hS => ?_)
  subst hu2
  have hP : va_P D classes (cat [[(qm 3, .inl (kA 0, 4, .inl (fun _ => 0)))], [(qm 4, .inl (kA 0, 4, .inl f0))], [(qm 61, .inl (kA 0, 4, .inl f1))], [(qm 73, .inl (kA 0, 864, .inl f2))], [(a0, .inr (13, mF qm (va_up x0Mo 5 (nI (539 * (31 * j + 0)))) y0Mo))], [(qm 2, .inl (kA 0, 66836, .inl all0))]]) H := hP
  have hD : va_D A (cat [[(qm 3, .inl (kA 0, 4, .inl (fun _ => 0)))], [(qm 4, .inl (kA 0, 4, .inl f0))], [(qm 61, .inl (kA 0, 4, .inl f1))], [(qm 73, .inl (kA 0, 864, .inl f2))], [(a0, .inr (13, mF qm (va_up x0Mo 5 (nI (539 * (31 * j + 0)))) y0Mo))], [(qm 2, .inl (kA 0, 66836, .inl all0))]]) := hD
  refine lv_istore_n (pc := 4) (lv' := [(3, .int 0), (0, .ref a0), (1, .int (nI j)), (2, .int 0)]) hx hb d_Mo_newNode_4 rfl hl (by decide) rfl (fun ls hl => ?_)
  refine lv_iload_n (pc := 5) hx hb d_Mo_newNode_5 rfl (lv_at hl 0 rfl) ?_
  refine lv_bipush (pc := 6) (v := 24) hx hb d_Mo_newNode_6 (by decide) ?_
  refine lv_icmp_eq (pc := 8) (tgt := 25) hx hb d_Mo_newNode_8 (by decide) (fun c1 => absurd c1 (by decide)) (fun _ => ?_)
  refine lv_iload_n (pc := 11) hx hb d_Mo_newNode_11 rfl (lv_at hl 3 rfl) ?_
  refine lv_iconst (pc := 12) (v := 0) hx hb d_Mo_newNode_12 (by decide) ?_
  refine lv_aload_n (pc := 13) hx hb d_Mo_newNode_13 rfl (lv_at hl 1 rfl) ?_
  refine k_goI (gr := [[(qm 3, .inl (kA 0, 4, .inl (fun _ => 0)))], [(qm 4, .inl (kA 0, 4, .inl f0))], [(qm 61, .inl (kA 0, 4, .inl f1))], [(qm 73, .inl (kA 0, 864, .inl f2))]]) (k_rV (pc := 14) (As := []) (rest := [.int 0, .int 0]) X (c_Mo_groups_z1 l D kA a0 qm j hj H.size) rfl wm_3070 wm_9 wm_3067 wm_3069 wv_13_14 0 (by decide +kernel) ⟨Nat.le_of_ble_eq_true rfl, Nat.le_of_ble_eq_true rfl⟩ rfl rfl (va_recv hK hP (ci := 13) (q0 := 4) rfl rfl) (k_pre hN hK hP hD [4, 5] [0, 1, 2, 3] 6 rfl (by decide) rfl) rfl hl.1 rfl (Nat.le_of_ble_eq_true rfl) d_Mo_newNode_14 ⟨Nat.le_of_ble_eq_true rfl, Nat.le_of_ble_eq_true rfl⟩) hP hD hS hA [4, 5] [0, 1, 2, 3] 6 rfl (by decide) rfl rfl (fun r3 u4 H locs hu4 hP hD hS => ?_)
  subst hu4
  have hP : va_P D classes (cat [[(qm 3, .inl (kA 0, 4, .inl (fun _ => 0)))], [(qm 4, .inl (kA 0, 4, .inl f0))], [(qm 61, .inl (kA 0, 4, .inl f1))], [(qm 73, .inl (kA 0, 864, .inl f2))], [(a0, .inr (13, mF qm (va_up x0Mo 5 (nI (539 * (31 * j + 0)))) y0Mo))], [(qm 2, .inl (kA 0, 66836, .inl all0))]]) H := hP
  have hD : va_D A (cat [[(qm 3, .inl (kA 0, 4, .inl (fun _ => 0)))], [(qm 4, .inl (kA 0, 4, .inl f0))], [(qm 61, .inl (kA 0, 4, .inl f1))], [(qm 73, .inl (kA 0, 864, .inl f2))], [(a0, .inr (13, mF qm (va_up x0Mo 5 (nI (539 * (31 * j + 0)))) y0Mo))], [(qm 2, .inl (kA 0, 66836, .inl all0))]]) := hD
  refine lv_iconst (pc := 17) (v := 1) hx hb d_Mo_newNode_17 (by decide) ?_
  refine lv_isub (pc := 18) hx hb d_Mo_newNode_18 ?_
  refine k_cst (v := 0) (by decide) ?_
  refine k_goI (gr := [[(qm 3, .inl (kA 0, 4, .inl (fun _ => 0)))], [(qm 4, .inl (kA 0, 4, .inl f0))], [(qm 61, .inl (kA 0, 4, .inl f1))], [(qm 73, .inl (kA 0, 864, .inl f2))], [(a0, .inr (13, mF qm (va_up x0Mo 5 (nI (539 * (31 * j + 0)))) y0Mo))], [(qm 2, .inl (kA 0, 66836, .inl all0))]]) (k_rS (pc := 19) (As := [.int 0, .int 0, .int 0]) (rest := []) X (c_Mo_in_z13 l D kA  H.size) rfl wm_2971 wm_9 wm_2969 wm_2970 3 (by decide +kernel) ⟨Nat.le_of_ble_eq_true rfl, Nat.le_of_ble_eq_true rfl⟩ rfl rfl (k_pre hN hK hP hD [] [0, 1, 2, 3, 4, 5] 6 rfl (by decide) rfl) rfl hl.1 rfl (Nat.le_of_ble_eq_true rfl) d_Mo_newNode_19 ⟨Nat.le_of_ble_eq_true rfl, Nat.le_of_ble_eq_true rfl⟩) hP hD hS hA [] [0, 1, 2, 3, 4, 5] 6 rfl (by decide) rfl rfl (fun r5 u6 H locs hu6 hP hD hS => ?_)
  subst hu6
  have hP : va_P D classes (cat [[(qm 3, .inl (kA 0, 4, .inl (fun _ => 0)))], [(qm 4, .inl (kA 0, 4, .inl f0))], [(qm 61, .inl (kA 0, 4, .inl f1))], [(qm 73, .inl (kA 0, 864, .inl f2))], [(a0, .inr (13, mF qm (va_up x0Mo 5 (nI (539 * (31 * j + 0)))) y0Mo))], [(qm 2, .inl (kA 0, 66836, .inl all0))]]) H := hP
  have hD : va_D A (cat [[(qm 3, .inl (kA 0, 4, .inl (fun _ => 0)))], [(qm 4, .inl (kA 0, 4, .inl f0))], [(qm 61, .inl (kA 0, 4, .inl f1))], [(qm 73, .inl (kA 0, 864, .inl f2))], [(a0, .inr (13, mF qm (va_up x0Mo 5 (nI (539 * (31 * j + 0)))) y0Mo))], [(qm 2, .inl (kA 0, 66836, .inl all0))]]) := hD
  refine lv_if_ne (pc := 22) (tgt := 27) hx hb d_Mo_newNode_22 (by decide) (fun c1 => ?_) (fun c1 => absurd c1 (by decide))
  refine lv_iload_n (pc := 27) hx hb d_Mo_newNode_27 rfl (lv_at hl 0 rfl) ?_
  refine lv_bipush (pc := 28) (v := 9) hx hb d_Mo_newNode_28 (by decide) ?_
  refine lv_icmp_le (pc := 30) (tgt := 37) hx hb d_Mo_newNode_30 (by decide) (fun _ => ?_) (fun c1 => absurd (by decide) c1)
  refine lv_iconst (pc := 37) (v := 1) hx hb d_Mo_newNode_37 (by decide) ?_
  refine lv_istore (pc := 38) (lv' := [(4, .int 1), (3, .int 0), (0, .ref a0), (1, .int (nI j)), (2, .int 0)]) hx hb d_Mo_newNode_38 hl (by decide) rfl (fun ls hl => ?_)
  refine lv_iconst (pc := 40) (v := 0) hx hb d_Mo_newNode_40 (by decide) ?_
  refine lv_istore (pc := 41) (lv' := [(5, .int 0), (4, .int 1), (3, .int 0), (0, .ref a0), (1, .int (nI j)), (2, .int 0)]) hx hb d_Mo_newNode_41 hl (by decide) rfl (fun ls hl => ?_)
  refine lv_iload (pc := 43) hx hb d_Mo_newNode_43 (lv_at hl 0 rfl) ?_
  refine lv_iload_n (pc := 45) hx hb d_Mo_newNode_45 rfl (lv_at hl 2 rfl) ?_
  refine lv_icmp_ge (pc := 46) (tgt := 153) hx hb d_Mo_newNode_46 (by decide) (fun _ => ?_) (fun c1 => absurd (by decide) c1)
  refine lv_aload_n (pc := 153) hx hb d_Mo_newNode_153 rfl (lv_at hl 3 rfl) ?_
  refine lv_iload_n (pc := 154) hx hb d_Mo_newNode_154 rfl (lv_at hl 4 rfl) ?_
  refine k_goV (gr := []) (k_rV (pc := 155) (As := [.int (nI j)]) (rest := []) X (c_Mo_step_z1 l D kA a0 j qm all0 f0 f1 f2 hj H.size) rfl wm_3099 wm_9 wm_3096 wm_3098 wv_14_4 1 (by decide +kernel) ⟨Nat.le_of_ble_eq_true rfl, Nat.le_of_ble_eq_true rfl⟩ rfl rfl (va_recv hK hP (ci := 13) (q0 := 4) rfl rfl) (k_pre hN hK hP hD [4, 0, 5, 1, 2, 3] [] 6 rfl (by decide) rfl) rfl hl.1 rfl (Nat.le_of_ble_eq_true rfl) d_Mo_newNode_155 ⟨Nat.le_of_ble_eq_true rfl, Nat.le_of_ble_eq_true rfl⟩) hP hD hS hA [4, 0, 5, 1, 2, 3] [] 6 rfl (by decide) rfl rfl (fun u7 H locs hu7 hP hD hS => ?_)
  have hP : va_P D classes (cat [[(a0, .inr (13, mF qm (va_up x0Mo 5 (nI (539 * (31 * j + 1)))) y0Mo))], [(qm 3, .inl (kA 0, 4, .inl (upd (fun _ => 0) j 1)))], [(qm 2, .inl (kA 0, 66836, .inl (u7.2 0)))], [(qm 4, .inl (kA 0, 4, .inl (upd f0 j 1)))], [(qm 61, .inl (kA 0, 4, .inl (upd f1 j ((-1)))))], [(qm 73, .inl (kA 0, 864, .inl (u7.2 1)))]]) H := hP
  have hD : va_D A (cat [[(a0, .inr (13, mF qm (va_up x0Mo 5 (nI (539 * (31 * j + 1)))) y0Mo))], [(qm 3, .inl (kA 0, 4, .inl (upd (fun _ => 0) j 1)))], [(qm 2, .inl (kA 0, 66836, .inl (u7.2 0)))], [(qm 4, .inl (kA 0, 4, .inl (upd f0 j 1)))], [(qm 61, .inl (kA 0, 4, .inl (upd f1 j ((-1)))))], [(qm 73, .inl (kA 0, 864, .inl (u7.2 1)))]]) := hD
  obtain ⟨f950, hf950⟩ : ∃ z : Nat → Int32, u7.2 0 = z := ⟨_, rfl⟩
  rw [hf950] at hP hD
  obtain ⟨f951, hf951⟩ : ∃ z : Nat → Int32, u7.2 1 = z := ⟨_, rfl⟩
  rw [hf951] at hP hD
  refine lv_aload_n (pc := 158) hx hb d_Mo_newNode_158 rfl (lv_at hl 3 rfl) ?_
  refine k_get (pc := 159) (v := .ref (qm 2)) X hK hP 0 rfl rfl i_Mo 2 (by decide) wm_2435 rfl rfl d_Mo_newNode_159 ?_
  refine lv_aload_n (pc := 162) hx hb d_Mo_newNode_162 rfl (lv_at hl 3 rfl) ?_
  refine k_get (pc := 163) (v := .int (nI (539 * (31 * j + 1)))) X hK hP 0 rfl rfl i_Mo 5 (by decide) wm_2438 rfl rfl d_Mo_newNode_163 ?_
  refine lv_dup2_11 (pc := 166) hx hb d_Mo_newNode_166 rfl rfl ?_
  refine k_ild (pc := 167) hx hb hK hP 2 0 rfl rfl (539 * (31 * j + 1)) rfl (by omega) (by decide) d_Mo_newNode_167 ?_
  refine lv_iconst (pc := 168) (v := 1) hx hb d_Mo_newNode_168 (by decide) ?_
  refine lv_iadd (pc := 169) hx hb d_Mo_newNode_169 ?_
  refine k_ist (pc := 170) hx hb hK hP hD hS 2 0 rfl rfl (539 * (31 * j + 1)) rfl (by omega) (by decide) d_Mo_newNode_170 (fun H locs hP hD hS => ?_)
  have hP : va_P D classes (cat [[(a0, .inr (13, mF qm (va_up x0Mo 5 (nI (539 * (31 * j + 1)))) y0Mo))], [(qm 3, .inl (kA 0, 4, .inl (upd (fun _ => 0) j 1)))], [(qm 2, .inl (kA 0, 66836, .inl (upd f950 (539 * (31 * j + 1)) ((f950 (539 * (31 * j + 1))) + 1))))], [(qm 4, .inl (kA 0, 4, .inl (upd f0 j 1)))], [(qm 61, .inl (kA 0, 4, .inl (upd f1 j ((-1)))))], [(qm 73, .inl (kA 0, 864, .inl f951))]]) H := hP
  have hD : va_D A (cat [[(a0, .inr (13, mF qm (va_up x0Mo 5 (nI (539 * (31 * j + 1)))) y0Mo))], [(qm 3, .inl (kA 0, 4, .inl (upd (fun _ => 0) j 1)))], [(qm 2, .inl (kA 0, 66836, .inl (upd f950 (539 * (31 * j + 1)) ((f950 (539 * (31 * j + 1))) + 1))))], [(qm 4, .inl (kA 0, 4, .inl (upd f0 j 1)))], [(qm 61, .inl (kA 0, 4, .inl (upd f1 j ((-1)))))], [(qm 73, .inl (kA 0, 864, .inl f951))]]) := hD
  refine lv_aload_n (pc := 171) hx hb d_Mo_newNode_171 rfl (lv_at hl 3 rfl) ?_
  refine k_get (pc := 172) (v := .int (nI (539 * (31 * j + 1)))) X hK hP 0 rfl rfl i_Mo 5 (by decide) wm_2438 rfl rfl d_Mo_newNode_172 ?_
  refine lv_iconst (pc := 175) (v := 3) hx hb d_Mo_newNode_175 (by decide) ?_
  refine k_add (pc := 176) (x := 539 * (31 * j + 1)) (y := 3) hx hb d_Mo_newNode_176 ?_
  refine lv_bipush (pc := 177) (v := 8) hx hb d_Mo_newNode_177 (by decide) ?_
  refine lv_iload_n (pc := 179) hx hb d_Mo_newNode_179 rfl (lv_at hl 2 rfl) ?_
  refine lv_imul (pc := 180) hx hb d_Mo_newNode_180 ?_
  refine k_cst (v := 0) (by decide) ?_
  refine k_add (pc := 181) (x := (539 * (31 * j + 1)) + 3) (y := 0) hx hb d_Mo_newNode_181 ?_
  refine lv_istore (pc := 182) (lv' := [(5, .int (nI (((539 * (31 * j + 1)) + 3) + 0))), (4, .int 1), (3, .int 0), (0, .ref a0), (1, .int (nI j)), (2, .int 0)]) hx hb d_Mo_newNode_182 hl (by decide) rfl (fun ls hl => ?_)
  refine lv_iconst (pc := 184) (v := 0) hx hb d_Mo_newNode_184 (by decide) ?_
  refine lv_istore (pc := 185) (lv' := [(6, .int 0), (5, .int (nI (((539 * (31 * j + 1)) + 3) + 0))), (4, .int 1), (3, .int 0), (0, .ref a0), (1, .int (nI j)), (2, .int 0)]) hx hb d_Mo_newNode_185 hl (by decide) rfl (fun ls hl => ?_)
  refine lv_iload (pc := 187) hx hb d_Mo_newNode_187 (lv_at hl 0 rfl) ?_
  refine lv_bipush (pc := 189) (v := 8) hx hb d_Mo_newNode_189 (by decide) ?_
  refine lv_icmp_ge (pc := 191) (tgt := 211) hx hb d_Mo_newNode_191 (by decide) (fun c1 => absurd c1 (by decide)) (fun _ => ?_)
  refine lv_aload_n (pc := 194) hx hb d_Mo_newNode_194 rfl (lv_at hl 4 rfl) ?_
  refine k_get (pc := 195) (v := .ref (qm 2)) X hK hP 0 rfl rfl i_Mo 2 (by decide) wm_2435 rfl rfl d_Mo_newNode_195 ?_
  refine lv_iload (pc := 198) hx hb d_Mo_newNode_198 (lv_at hl 1 rfl) ?_
  refine lv_iload (pc := 200) hx hb d_Mo_newNode_200 (lv_at hl 0 rfl) ?_
  refine k_add (pc := 202) (x := ((539 * (31 * j + 1)) + 3) + 0) (y := 0) hx hb d_Mo_newNode_202 ?_
  refine lv_iconst (pc := 203) (v := 0) hx hb d_Mo_newNode_203 (by decide) ?_
  refine k_ist (pc := 204) hx hb hK hP hD hS 2 0 rfl rfl ((((539 * (31 * j + 1)) + 3) + 0) + 0) rfl (by omega) (by decide) d_Mo_newNode_204 (fun H locs hP hD hS => ?_)
  have hP : va_P D classes (cat [[(a0, .inr (13, mF qm (va_up x0Mo 5 (nI (539 * (31 * j + 1)))) y0Mo))], [(qm 3, .inl (kA 0, 4, .inl (upd (fun _ => 0) j 1)))], [(qm 2, .inl (kA 0, 66836, .inl (upd (upd f950 (539 * (31 * j + 1)) ((f950 (539 * (31 * j + 1))) + 1)) ((((539 * (31 * j + 1)) + 3) + 0) + 0) 0)))], [(qm 4, .inl (kA 0, 4, .inl (upd f0 j 1)))], [(qm 61, .inl (kA 0, 4, .inl (upd f1 j ((-1)))))], [(qm 73, .inl (kA 0, 864, .inl f951))]]) H := hP
  have hD : va_D A (cat [[(a0, .inr (13, mF qm (va_up x0Mo 5 (nI (539 * (31 * j + 1)))) y0Mo))], [(qm 3, .inl (kA 0, 4, .inl (upd (fun _ => 0) j 1)))], [(qm 2, .inl (kA 0, 66836, .inl (upd (upd f950 (539 * (31 * j + 1)) ((f950 (539 * (31 * j + 1))) + 1)) ((((539 * (31 * j + 1)) + 3) + 0) + 0) 0)))], [(qm 4, .inl (kA 0, 4, .inl (upd f0 j 1)))], [(qm 61, .inl (kA 0, 4, .inl (upd f1 j ((-1)))))], [(qm 73, .inl (kA 0, 864, .inl f951))]]) := hD
  refine lv_iinc (pc := 205) (v := 1) (lv' := [(6, .int 1), (5, .int (nI (((539 * (31 * j + 1)) + 3) + 0))), (4, .int 1), (3, .int 0), (0, .ref a0), (1, .int (nI j)), (2, .int 0)]) hx hb d_Mo_newNode_205 hl (k := 0) rfl (by decide) (by decide) rfl (fun ls hl => ?_)
  refine lv_goto (pc := 208) (tgt := 187) hx hb d_Mo_newNode_208 (by decide) ?_
  refine lv_iload (pc := 187) hx hb d_Mo_newNode_187 (lv_at hl 0 rfl) ?_
  refine lv_bipush (pc := 189) (v := 8) hx hb d_Mo_newNode_189 (by decide) ?_
  refine lv_icmp_ge (pc := 191) (tgt := 211) hx hb d_Mo_newNode_191 (by decide) (fun c1 => absurd c1 (by decide)) (fun _ => ?_)
  refine lv_aload_n (pc := 194) hx hb d_Mo_newNode_194 rfl (lv_at hl 4 rfl) ?_
  refine k_get (pc := 195) (v := .ref (qm 2)) X hK hP 0 rfl rfl i_Mo 2 (by decide) wm_2435 rfl rfl d_Mo_newNode_195 ?_
  refine lv_iload (pc := 198) hx hb d_Mo_newNode_198 (lv_at hl 1 rfl) ?_
  refine lv_iload (pc := 200) hx hb d_Mo_newNode_200 (lv_at hl 0 rfl) ?_
  refine k_add (pc := 202) (x := ((539 * (31 * j + 1)) + 3) + 0) (y := 1) hx hb d_Mo_newNode_202 ?_
  refine lv_iconst (pc := 203) (v := 0) hx hb d_Mo_newNode_203 (by decide) ?_
  refine k_ist (pc := 204) hx hb hK hP hD hS 2 0 rfl rfl ((((539 * (31 * j + 1)) + 3) + 0) + 1) rfl (by omega) (by decide) d_Mo_newNode_204 (fun H locs hP hD hS => ?_)
  have hP : va_P D classes (cat [[(a0, .inr (13, mF qm (va_up x0Mo 5 (nI (539 * (31 * j + 1)))) y0Mo))], [(qm 3, .inl (kA 0, 4, .inl (upd (fun _ => 0) j 1)))], [(qm 2, .inl (kA 0, 66836, .inl (upd (upd (upd f950 (539 * (31 * j + 1)) ((f950 (539 * (31 * j + 1))) + 1)) ((((539 * (31 * j + 1)) + 3) + 0) + 0) 0) ((((539 * (31 * j + 1)) + 3) + 0) + 1) 0)))], [(qm 4, .inl (kA 0, 4, .inl (upd f0 j 1)))], [(qm 61, .inl (kA 0, 4, .inl (upd f1 j ((-1)))))], [(qm 73, .inl (kA 0, 864, .inl f951))]]) H := hP
  have hD : va_D A (cat [[(a0, .inr (13, mF qm (va_up x0Mo 5 (nI (539 * (31 * j + 1)))) y0Mo))], [(qm 3, .inl (kA 0, 4, .inl (upd (fun _ => 0) j 1)))], [(qm 2, .inl (kA 0, 66836, .inl (upd (upd (upd f950 (539 * (31 * j + 1)) ((f950 (539 * (31 * j + 1))) + 1)) ((((539 * (31 * j + 1)) + 3) + 0) + 0) 0) ((((539 * (31 * j + 1)) + 3) + 0) + 1) 0)))], [(qm 4, .inl (kA 0, 4, .inl (upd f0 j 1)))], [(qm 61, .inl (kA 0, 4, .inl (upd f1 j ((-1)))))], [(qm 73, .inl (kA 0, 864, .inl f951))]]) := hD
  refine lv_iinc (pc := 205) (v := 2) (lv' := [(6, .int 2), (5, .int (nI (((539 * (31 * j + 1)) + 3) + 0))), (4, .int 1), (3, .int 0), (0, .ref a0), (1, .int (nI j)), (2, .int 0)]) hx hb d_Mo_newNode_205 hl (k := 0) rfl (by decide) (by decide) rfl (fun ls hl => ?_)
  refine lv_goto (pc := 208) (tgt := 187) hx hb d_Mo_newNode_208 (by decide) ?_
  refine lv_iload (pc := 187) hx hb d_Mo_newNode_187 (lv_at hl 0 rfl) ?_
  refine lv_bipush (pc := 189) (v := 8) hx hb d_Mo_newNode_189 (by decide) ?_
  refine lv_icmp_ge (pc := 191) (tgt := 211) hx hb d_Mo_newNode_191 (by decide) (fun c1 => absurd c1 (by decide)) (fun _ => ?_)
  refine lv_aload_n (pc := 194) hx hb d_Mo_newNode_194 rfl (lv_at hl 4 rfl) ?_
  refine k_get (pc := 195) (v := .ref (qm 2)) X hK hP 0 rfl rfl i_Mo 2 (by decide) wm_2435 rfl rfl d_Mo_newNode_195 ?_
  refine lv_iload (pc := 198) hx hb d_Mo_newNode_198 (lv_at hl 1 rfl) ?_
  refine lv_iload (pc := 200) hx hb d_Mo_newNode_200 (lv_at hl 0 rfl) ?_
  refine k_add (pc := 202) (x := ((539 * (31 * j + 1)) + 3) + 0) (y := 2) hx hb d_Mo_newNode_202 ?_
  refine lv_iconst (pc := 203) (v := 0) hx hb d_Mo_newNode_203 (by decide) ?_
  refine k_ist (pc := 204) hx hb hK hP hD hS 2 0 rfl rfl ((((539 * (31 * j + 1)) + 3) + 0) + 2) rfl (by omega) (by decide) d_Mo_newNode_204 (fun H locs hP hD hS => ?_)
  have hP : va_P D classes (cat [[(a0, .inr (13, mF qm (va_up x0Mo 5 (nI (539 * (31 * j + 1)))) y0Mo))], [(qm 3, .inl (kA 0, 4, .inl (upd (fun _ => 0) j 1)))], [(qm 2, .inl (kA 0, 66836, .inl (upd (upd (upd (upd f950 (539 * (31 * j + 1)) ((f950 (539 * (31 * j + 1))) + 1)) ((((539 * (31 * j + 1)) + 3) + 0) + 0) 0) ((((539 * (31 * j + 1)) + 3) + 0) + 1) 0) ((((539 * (31 * j + 1)) + 3) + 0) + 2) 0)))], [(qm 4, .inl (kA 0, 4, .inl (upd f0 j 1)))], [(qm 61, .inl (kA 0, 4, .inl (upd f1 j ((-1)))))], [(qm 73, .inl (kA 0, 864, .inl f951))]]) H := hP
  have hD : va_D A (cat [[(a0, .inr (13, mF qm (va_up x0Mo 5 (nI (539 * (31 * j + 1)))) y0Mo))], [(qm 3, .inl (kA 0, 4, .inl (upd (fun _ => 0) j 1)))], [(qm 2, .inl (kA 0, 66836, .inl (upd (upd (upd (upd f950 (539 * (31 * j + 1)) ((f950 (539 * (31 * j + 1))) + 1)) ((((539 * (31 * j + 1)) + 3) + 0) + 0) 0) ((((539 * (31 * j + 1)) + 3) + 0) + 1) 0) ((((539 * (31 * j + 1)) + 3) + 0) + 2) 0)))], [(qm 4, .inl (kA 0, 4, .inl (upd f0 j 1)))], [(qm 61, .inl (kA 0, 4, .inl (upd f1 j ((-1)))))], [(qm 73, .inl (kA 0, 864, .inl f951))]]) := hD
  refine lv_iinc (pc := 205) (v := 3) (lv' := [(6, .int 3), (5, .int (nI (((539 * (31 * j + 1)) + 3) + 0))), (4, .int 1), (3, .int 0), (0, .ref a0), (1, .int (nI j)), (2, .int 0)]) hx hb d_Mo_newNode_205 hl (k := 0) rfl (by decide) (by decide) rfl (fun ls hl => ?_)
  refine lv_goto (pc := 208) (tgt := 187) hx hb d_Mo_newNode_208 (by decide) ?_
  refine lv_iload (pc := 187) hx hb d_Mo_newNode_187 (lv_at hl 0 rfl) ?_
  refine lv_bipush (pc := 189) (v := 8) hx hb d_Mo_newNode_189 (by decide) ?_
  refine lv_icmp_ge (pc := 191) (tgt := 211) hx hb d_Mo_newNode_191 (by decide) (fun c1 => absurd c1 (by decide)) (fun _ => ?_)
  refine lv_aload_n (pc := 194) hx hb d_Mo_newNode_194 rfl (lv_at hl 4 rfl) ?_
  refine k_get (pc := 195) (v := .ref (qm 2)) X hK hP 0 rfl rfl i_Mo 2 (by decide) wm_2435 rfl rfl d_Mo_newNode_195 ?_
  refine lv_iload (pc := 198) hx hb d_Mo_newNode_198 (lv_at hl 1 rfl) ?_
  refine lv_iload (pc := 200) hx hb d_Mo_newNode_200 (lv_at hl 0 rfl) ?_
  refine k_add (pc := 202) (x := ((539 * (31 * j + 1)) + 3) + 0) (y := 3) hx hb d_Mo_newNode_202 ?_
  refine lv_iconst (pc := 203) (v := 0) hx hb d_Mo_newNode_203 (by decide) ?_
  refine k_ist (pc := 204) hx hb hK hP hD hS 2 0 rfl rfl ((((539 * (31 * j + 1)) + 3) + 0) + 3) rfl (by omega) (by decide) d_Mo_newNode_204 (fun H locs hP hD hS => ?_)
  have hP : va_P D classes (cat [[(a0, .inr (13, mF qm (va_up x0Mo 5 (nI (539 * (31 * j + 1)))) y0Mo))], [(qm 3, .inl (kA 0, 4, .inl (upd (fun _ => 0) j 1)))], [(qm 2, .inl (kA 0, 66836, .inl (upd (upd (upd (upd (upd f950 (539 * (31 * j + 1)) ((f950 (539 * (31 * j + 1))) + 1)) ((((539 * (31 * j + 1)) + 3) + 0) + 0) 0) ((((539 * (31 * j + 1)) + 3) + 0) + 1) 0) ((((539 * (31 * j + 1)) + 3) + 0) + 2) 0) ((((539 * (31 * j + 1)) + 3) + 0) + 3) 0)))], [(qm 4, .inl (kA 0, 4, .inl (upd f0 j 1)))], [(qm 61, .inl (kA 0, 4, .inl (upd f1 j ((-1)))))], [(qm 73, .inl (kA 0, 864, .inl f951))]]) H := hP
  have hD : va_D A (cat [[(a0, .inr (13, mF qm (va_up x0Mo 5 (nI (539 * (31 * j + 1)))) y0Mo))], [(qm 3, .inl (kA 0, 4, .inl (upd (fun _ => 0) j 1)))], [(qm 2, .inl (kA 0, 66836, .inl (upd (upd (upd (upd (upd f950 (539 * (31 * j + 1)) ((f950 (539 * (31 * j + 1))) + 1)) ((((539 * (31 * j + 1)) + 3) + 0) + 0) 0) ((((539 * (31 * j + 1)) + 3) + 0) + 1) 0) ((((539 * (31 * j + 1)) + 3) + 0) + 2) 0) ((((539 * (31 * j + 1)) + 3) + 0) + 3) 0)))], [(qm 4, .inl (kA 0, 4, .inl (upd f0 j 1)))], [(qm 61, .inl (kA 0, 4, .inl (upd f1 j ((-1)))))], [(qm 73, .inl (kA 0, 864, .inl f951))]]) := hD
  refine lv_iinc (pc := 205) (v := 4) (lv' := [(6, .int 4), (5, .int (nI (((539 * (31 * j + 1)) + 3) + 0))), (4, .int 1), (3, .int 0), (0, .ref a0), (1, .int (nI j)), (2, .int 0)]) hx hb d_Mo_newNode_205 hl (k := 0) rfl (by decide) (by decide) rfl (fun ls hl => ?_)
  refine lv_goto (pc := 208) (tgt := 187) hx hb d_Mo_newNode_208 (by decide) ?_
  refine lv_iload (pc := 187) hx hb d_Mo_newNode_187 (lv_at hl 0 rfl) ?_
  refine lv_bipush (pc := 189) (v := 8) hx hb d_Mo_newNode_189 (by decide) ?_
  refine lv_icmp_ge (pc := 191) (tgt := 211) hx hb d_Mo_newNode_191 (by decide) (fun c1 => absurd c1 (by decide)) (fun _ => ?_)
  refine lv_aload_n (pc := 194) hx hb d_Mo_newNode_194 rfl (lv_at hl 4 rfl) ?_
  refine k_get (pc := 195) (v := .ref (qm 2)) X hK hP 0 rfl rfl i_Mo 2 (by decide) wm_2435 rfl rfl d_Mo_newNode_195 ?_
  refine lv_iload (pc := 198) hx hb d_Mo_newNode_198 (lv_at hl 1 rfl) ?_
  refine lv_iload (pc := 200) hx hb d_Mo_newNode_200 (lv_at hl 0 rfl) ?_
  refine k_add (pc := 202) (x := ((539 * (31 * j + 1)) + 3) + 0) (y := 4) hx hb d_Mo_newNode_202 ?_
  refine lv_iconst (pc := 203) (v := 0) hx hb d_Mo_newNode_203 (by decide) ?_
  refine k_ist (pc := 204) hx hb hK hP hD hS 2 0 rfl rfl ((((539 * (31 * j + 1)) + 3) + 0) + 4) rfl (by omega) (by decide) d_Mo_newNode_204 (fun H locs hP hD hS => ?_)
  have hP : va_P D classes (cat [[(a0, .inr (13, mF qm (va_up x0Mo 5 (nI (539 * (31 * j + 1)))) y0Mo))], [(qm 3, .inl (kA 0, 4, .inl (upd (fun _ => 0) j 1)))], [(qm 2, .inl (kA 0, 66836, .inl (upd (upd (upd (upd (upd (upd f950 (539 * (31 * j + 1)) ((f950 (539 * (31 * j + 1))) + 1)) ((((539 * (31 * j + 1)) + 3) + 0) + 0) 0) ((((539 * (31 * j + 1)) + 3) + 0) + 1) 0) ((((539 * (31 * j + 1)) + 3) + 0) + 2) 0) ((((539 * (31 * j + 1)) + 3) + 0) + 3) 0) ((((539 * (31 * j + 1)) + 3) + 0) + 4) 0)))], [(qm 4, .inl (kA 0, 4, .inl (upd f0 j 1)))], [(qm 61, .inl (kA 0, 4, .inl (upd f1 j ((-1)))))], [(qm 73, .inl (kA 0, 864, .inl f951))]]) H := hP
  have hD : va_D A (cat [[(a0, .inr (13, mF qm (va_up x0Mo 5 (nI (539 * (31 * j + 1)))) y0Mo))], [(qm 3, .inl (kA 0, 4, .inl (upd (fun _ => 0) j 1)))], [(qm 2, .inl (kA 0, 66836, .inl (upd (upd (upd (upd (upd (upd f950 (539 * (31 * j + 1)) ((f950 (539 * (31 * j + 1))) + 1)) ((((539 * (31 * j + 1)) + 3) + 0) + 0) 0) ((((539 * (31 * j + 1)) + 3) + 0) + 1) 0) ((((539 * (31 * j + 1)) + 3) + 0) + 2) 0) ((((539 * (31 * j + 1)) + 3) + 0) + 3) 0) ((((539 * (31 * j + 1)) + 3) + 0) + 4) 0)))], [(qm 4, .inl (kA 0, 4, .inl (upd f0 j 1)))], [(qm 61, .inl (kA 0, 4, .inl (upd f1 j ((-1)))))], [(qm 73, .inl (kA 0, 864, .inl f951))]]) := hD
  refine lv_iinc (pc := 205) (v := 5) (lv' := [(6, .int 5), (5, .int (nI (((539 * (31 * j + 1)) + 3) + 0))), (4, .int 1), (3, .int 0), (0, .ref a0), (1, .int (nI j)), (2, .int 0)]) hx hb d_Mo_newNode_205 hl (k := 0) rfl (by decide) (by decide) rfl (fun ls hl => ?_)
  refine lv_goto (pc := 208) (tgt := 187) hx hb d_Mo_newNode_208 (by decide) ?_
  refine lv_iload (pc := 187) hx hb d_Mo_newNode_187 (lv_at hl 0 rfl) ?_
  refine lv_bipush (pc := 189) (v := 8) hx hb d_Mo_newNode_189 (by decide) ?_
  refine lv_icmp_ge (pc := 191) (tgt := 211) hx hb d_Mo_newNode_191 (by decide) (fun c1 => absurd c1 (by decide)) (fun _ => ?_)
  refine lv_aload_n (pc := 194) hx hb d_Mo_newNode_194 rfl (lv_at hl 4 rfl) ?_
  refine k_get (pc := 195) (v := .ref (qm 2)) X hK hP 0 rfl rfl i_Mo 2 (by decide) wm_2435 rfl rfl d_Mo_newNode_195 ?_
  refine lv_iload (pc := 198) hx hb d_Mo_newNode_198 (lv_at hl 1 rfl) ?_
  refine lv_iload (pc := 200) hx hb d_Mo_newNode_200 (lv_at hl 0 rfl) ?_
  refine k_add (pc := 202) (x := ((539 * (31 * j + 1)) + 3) + 0) (y := 5) hx hb d_Mo_newNode_202 ?_
  refine lv_iconst (pc := 203) (v := 0) hx hb d_Mo_newNode_203 (by decide) ?_
  refine k_ist (pc := 204) hx hb hK hP hD hS 2 0 rfl rfl ((((539 * (31 * j + 1)) + 3) + 0) + 5) rfl (by omega) (by decide) d_Mo_newNode_204 (fun H locs hP hD hS => ?_)
  have hP : va_P D classes (cat [[(a0, .inr (13, mF qm (va_up x0Mo 5 (nI (539 * (31 * j + 1)))) y0Mo))], [(qm 3, .inl (kA 0, 4, .inl (upd (fun _ => 0) j 1)))], [(qm 2, .inl (kA 0, 66836, .inl (upd (upd (upd (upd (upd (upd (upd f950 (539 * (31 * j + 1)) ((f950 (539 * (31 * j + 1))) + 1)) ((((539 * (31 * j + 1)) + 3) + 0) + 0) 0) ((((539 * (31 * j + 1)) + 3) + 0) + 1) 0) ((((539 * (31 * j + 1)) + 3) + 0) + 2) 0) ((((539 * (31 * j + 1)) + 3) + 0) + 3) 0) ((((539 * (31 * j + 1)) + 3) + 0) + 4) 0) ((((539 * (31 * j + 1)) + 3) + 0) + 5) 0)))], [(qm 4, .inl (kA 0, 4, .inl (upd f0 j 1)))], [(qm 61, .inl (kA 0, 4, .inl (upd f1 j ((-1)))))], [(qm 73, .inl (kA 0, 864, .inl f951))]]) H := hP
  have hD : va_D A (cat [[(a0, .inr (13, mF qm (va_up x0Mo 5 (nI (539 * (31 * j + 1)))) y0Mo))], [(qm 3, .inl (kA 0, 4, .inl (upd (fun _ => 0) j 1)))], [(qm 2, .inl (kA 0, 66836, .inl (upd (upd (upd (upd (upd (upd (upd f950 (539 * (31 * j + 1)) ((f950 (539 * (31 * j + 1))) + 1)) ((((539 * (31 * j + 1)) + 3) + 0) + 0) 0) ((((539 * (31 * j + 1)) + 3) + 0) + 1) 0) ((((539 * (31 * j + 1)) + 3) + 0) + 2) 0) ((((539 * (31 * j + 1)) + 3) + 0) + 3) 0) ((((539 * (31 * j + 1)) + 3) + 0) + 4) 0) ((((539 * (31 * j + 1)) + 3) + 0) + 5) 0)))], [(qm 4, .inl (kA 0, 4, .inl (upd f0 j 1)))], [(qm 61, .inl (kA 0, 4, .inl (upd f1 j ((-1)))))], [(qm 73, .inl (kA 0, 864, .inl f951))]]) := hD
  refine lv_iinc (pc := 205) (v := 6) (lv' := [(6, .int 6), (5, .int (nI (((539 * (31 * j + 1)) + 3) + 0))), (4, .int 1), (3, .int 0), (0, .ref a0), (1, .int (nI j)), (2, .int 0)]) hx hb d_Mo_newNode_205 hl (k := 0) rfl (by decide) (by decide) rfl (fun ls hl => ?_)
  refine lv_goto (pc := 208) (tgt := 187) hx hb d_Mo_newNode_208 (by decide) ?_
  refine lv_iload (pc := 187) hx hb d_Mo_newNode_187 (lv_at hl 0 rfl) ?_
  refine lv_bipush (pc := 189) (v := 8) hx hb d_Mo_newNode_189 (by decide) ?_
  refine lv_icmp_ge (pc := 191) (tgt := 211) hx hb d_Mo_newNode_191 (by decide) (fun c1 => absurd c1 (by decide)) (fun _ => ?_)
  refine lv_aload_n (pc := 194) hx hb d_Mo_newNode_194 rfl (lv_at hl 4 rfl) ?_
  refine k_get (pc := 195) (v := .ref (qm 2)) X hK hP 0 rfl rfl i_Mo 2 (by decide) wm_2435 rfl rfl d_Mo_newNode_195 ?_
  refine lv_iload (pc := 198) hx hb d_Mo_newNode_198 (lv_at hl 1 rfl) ?_
  refine lv_iload (pc := 200) hx hb d_Mo_newNode_200 (lv_at hl 0 rfl) ?_
  refine k_add (pc := 202) (x := ((539 * (31 * j + 1)) + 3) + 0) (y := 6) hx hb d_Mo_newNode_202 ?_
  refine lv_iconst (pc := 203) (v := 0) hx hb d_Mo_newNode_203 (by decide) ?_
  refine k_ist (pc := 204) hx hb hK hP hD hS 2 0 rfl rfl ((((539 * (31 * j + 1)) + 3) + 0) + 6) rfl (by omega) (by decide) d_Mo_newNode_204 (fun H locs hP hD hS => ?_)
  have hP : va_P D classes (cat [[(a0, .inr (13, mF qm (va_up x0Mo 5 (nI (539 * (31 * j + 1)))) y0Mo))], [(qm 3, .inl (kA 0, 4, .inl (upd (fun _ => 0) j 1)))], [(qm 2, .inl (kA 0, 66836, .inl (upd (upd (upd (upd (upd (upd (upd (upd f950 (539 * (31 * j + 1)) ((f950 (539 * (31 * j + 1))) + 1)) ((((539 * (31 * j + 1)) + 3) + 0) + 0) 0) ((((539 * (31 * j + 1)) + 3) + 0) + 1) 0) ((((539 * (31 * j + 1)) + 3) + 0) + 2) 0) ((((539 * (31 * j + 1)) + 3) + 0) + 3) 0) ((((539 * (31 * j + 1)) + 3) + 0) + 4) 0) ((((539 * (31 * j + 1)) + 3) + 0) + 5) 0) ((((539 * (31 * j + 1)) + 3) + 0) + 6) 0)))], [(qm 4, .inl (kA 0, 4, .inl (upd f0 j 1)))], [(qm 61, .inl (kA 0, 4, .inl (upd f1 j ((-1)))))], [(qm 73, .inl (kA 0, 864, .inl f951))]]) H := hP
  have hD : va_D A (cat [[(a0, .inr (13, mF qm (va_up x0Mo 5 (nI (539 * (31 * j + 1)))) y0Mo))], [(qm 3, .inl (kA 0, 4, .inl (upd (fun _ => 0) j 1)))], [(qm 2, .inl (kA 0, 66836, .inl (upd (upd (upd (upd (upd (upd (upd (upd f950 (539 * (31 * j + 1)) ((f950 (539 * (31 * j + 1))) + 1)) ((((539 * (31 * j + 1)) + 3) + 0) + 0) 0) ((((539 * (31 * j + 1)) + 3) + 0) + 1) 0) ((((539 * (31 * j + 1)) + 3) + 0) + 2) 0) ((((539 * (31 * j + 1)) + 3) + 0) + 3) 0) ((((539 * (31 * j + 1)) + 3) + 0) + 4) 0) ((((539 * (31 * j + 1)) + 3) + 0) + 5) 0) ((((539 * (31 * j + 1)) + 3) + 0) + 6) 0)))], [(qm 4, .inl (kA 0, 4, .inl (upd f0 j 1)))], [(qm 61, .inl (kA 0, 4, .inl (upd f1 j ((-1)))))], [(qm 73, .inl (kA 0, 864, .inl f951))]]) := hD
  refine lv_iinc (pc := 205) (v := 7) (lv' := [(6, .int 7), (5, .int (nI (((539 * (31 * j + 1)) + 3) + 0))), (4, .int 1), (3, .int 0), (0, .ref a0), (1, .int (nI j)), (2, .int 0)]) hx hb d_Mo_newNode_205 hl (k := 0) rfl (by decide) (by decide) rfl (fun ls hl => ?_)
  refine lv_goto (pc := 208) (tgt := 187) hx hb d_Mo_newNode_208 (by decide) ?_
  refine lv_iload (pc := 187) hx hb d_Mo_newNode_187 (lv_at hl 0 rfl) ?_
  refine lv_bipush (pc := 189) (v := 8) hx hb d_Mo_newNode_189 (by decide) ?_
  refine lv_icmp_ge (pc := 191) (tgt := 211) hx hb d_Mo_newNode_191 (by decide) (fun c1 => absurd c1 (by decide)) (fun _ => ?_)
  refine lv_aload_n (pc := 194) hx hb d_Mo_newNode_194 rfl (lv_at hl 4 rfl) ?_
  refine k_get (pc := 195) (v := .ref (qm 2)) X hK hP 0 rfl rfl i_Mo 2 (by decide) wm_2435 rfl rfl d_Mo_newNode_195 ?_
  refine lv_iload (pc := 198) hx hb d_Mo_newNode_198 (lv_at hl 1 rfl) ?_
  refine lv_iload (pc := 200) hx hb d_Mo_newNode_200 (lv_at hl 0 rfl) ?_
  refine k_add (pc := 202) (x := ((539 * (31 * j + 1)) + 3) + 0) (y := 7) hx hb d_Mo_newNode_202 ?_
  refine lv_iconst (pc := 203) (v := 0) hx hb d_Mo_newNode_203 (by decide) ?_
  refine k_ist (pc := 204) hx hb hK hP hD hS 2 0 rfl rfl ((((539 * (31 * j + 1)) + 3) + 0) + 7) rfl (by omega) (by decide) d_Mo_newNode_204 (fun H locs hP hD hS => ?_)
  have hP : va_P D classes (cat [[(a0, .inr (13, mF qm (va_up x0Mo 5 (nI (539 * (31 * j + 1)))) y0Mo))], [(qm 3, .inl (kA 0, 4, .inl (upd (fun _ => 0) j 1)))], [(qm 2, .inl (kA 0, 66836, .inl (upd (upd (upd (upd (upd (upd (upd (upd (upd f950 (539 * (31 * j + 1)) ((f950 (539 * (31 * j + 1))) + 1)) ((((539 * (31 * j + 1)) + 3) + 0) + 0) 0) ((((539 * (31 * j + 1)) + 3) + 0) + 1) 0) ((((539 * (31 * j + 1)) + 3) + 0) + 2) 0) ((((539 * (31 * j + 1)) + 3) + 0) + 3) 0) ((((539 * (31 * j + 1)) + 3) + 0) + 4) 0) ((((539 * (31 * j + 1)) + 3) + 0) + 5) 0) ((((539 * (31 * j + 1)) + 3) + 0) + 6) 0) ((((539 * (31 * j + 1)) + 3) + 0) + 7) 0)))], [(qm 4, .inl (kA 0, 4, .inl (upd f0 j 1)))], [(qm 61, .inl (kA 0, 4, .inl (upd f1 j ((-1)))))], [(qm 73, .inl (kA 0, 864, .inl f951))]]) H := hP
  have hD : va_D A (cat [[(a0, .inr (13, mF qm (va_up x0Mo 5 (nI (539 * (31 * j + 1)))) y0Mo))], [(qm 3, .inl (kA 0, 4, .inl (upd (fun _ => 0) j 1)))], [(qm 2, .inl (kA 0, 66836, .inl (upd (upd (upd (upd (upd (upd (upd (upd (upd f950 (539 * (31 * j + 1)) ((f950 (539 * (31 * j + 1))) + 1)) ((((539 * (31 * j + 1)) + 3) + 0) + 0) 0) ((((539 * (31 * j + 1)) + 3) + 0) + 1) 0) ((((539 * (31 * j + 1)) + 3) + 0) + 2) 0) ((((539 * (31 * j + 1)) + 3) + 0) + 3) 0) ((((539 * (31 * j + 1)) + 3) + 0) + 4) 0) ((((539 * (31 * j + 1)) + 3) + 0) + 5) 0) ((((539 * (31 * j + 1)) + 3) + 0) + 6) 0) ((((539 * (31 * j + 1)) + 3) + 0) + 7) 0)))], [(qm 4, .inl (kA 0, 4, .inl (upd f0 j 1)))], [(qm 61, .inl (kA 0, 4, .inl (upd f1 j ((-1)))))], [(qm 73, .inl (kA 0, 864, .inl f951))]]) := hD
  refine lv_iinc (pc := 205) (v := 8) (lv' := [(6, .int 8), (5, .int (nI (((539 * (31 * j + 1)) + 3) + 0))), (4, .int 1), (3, .int 0), (0, .ref a0), (1, .int (nI j)), (2, .int 0)]) hx hb d_Mo_newNode_205 hl (k := 0) rfl (by decide) (by decide) rfl (fun ls hl => ?_)
  refine lv_goto (pc := 208) (tgt := 187) hx hb d_Mo_newNode_208 (by decide) ?_
  refine lv_iload (pc := 187) hx hb d_Mo_newNode_187 (lv_at hl 0 rfl) ?_
  refine lv_bipush (pc := 189) (v := 8) hx hb d_Mo_newNode_189 (by decide) ?_
  refine lv_icmp_ge (pc := 191) (tgt := 211) hx hb d_Mo_newNode_191 (by decide) (fun _ => ?_) (fun c1 => absurd (by decide) c1)
  refine lv_aload_n (pc := 211) hx hb d_Mo_newNode_211 rfl (lv_at hl 4 rfl) ?_
  refine k_get (pc := 212) (v := .ref (qm 2)) X hK hP 0 rfl rfl i_Mo 2 (by decide) wm_2435 rfl rfl d_Mo_newNode_212 ?_
  refine lv_iload (pc := 215) hx hb d_Mo_newNode_215 (lv_at hl 1 rfl) ?_
  refine lv_bipush (pc := 217) (v := 110) hx hb d_Mo_newNode_217 (by decide) ?_
  refine k_ist (pc := 219) hx hb hK hP hD hS 2 0 rfl rfl (((539 * (31 * j + 1)) + 3) + 0) rfl (by omega) (by decide) d_Mo_newNode_219 (fun H locs hP hD hS => ?_)
  have hP : va_P D classes (cat [[(a0, .inr (13, mF qm (va_up x0Mo 5 (nI (539 * (31 * j + 1)))) y0Mo))], [(qm 3, .inl (kA 0, 4, .inl (upd (fun _ => 0) j 1)))], [(qm 2, .inl (kA 0, 66836, .inl (upd (upd (upd (upd (upd (upd (upd (upd (upd (upd f950 (539 * (31 * j + 1)) ((f950 (539 * (31 * j + 1))) + 1)) ((((539 * (31 * j + 1)) + 3) + 0) + 0) 0) ((((539 * (31 * j + 1)) + 3) + 0) + 1) 0) ((((539 * (31 * j + 1)) + 3) + 0) + 2) 0) ((((539 * (31 * j + 1)) + 3) + 0) + 3) 0) ((((539 * (31 * j + 1)) + 3) + 0) + 4) 0) ((((539 * (31 * j + 1)) + 3) + 0) + 5) 0) ((((539 * (31 * j + 1)) + 3) + 0) + 6) 0) ((((539 * (31 * j + 1)) + 3) + 0) + 7) 0) (((539 * (31 * j + 1)) + 3) + 0) 110)))], [(qm 4, .inl (kA 0, 4, .inl (upd f0 j 1)))], [(qm 61, .inl (kA 0, 4, .inl (upd f1 j ((-1)))))], [(qm 73, .inl (kA 0, 864, .inl f951))]]) H := hP
  have hD : va_D A (cat [[(a0, .inr (13, mF qm (va_up x0Mo 5 (nI (539 * (31 * j + 1)))) y0Mo))], [(qm 3, .inl (kA 0, 4, .inl (upd (fun _ => 0) j 1)))], [(qm 2, .inl (kA 0, 66836, .inl (upd (upd (upd (upd (upd (upd (upd (upd (upd (upd f950 (539 * (31 * j + 1)) ((f950 (539 * (31 * j + 1))) + 1)) ((((539 * (31 * j + 1)) + 3) + 0) + 0) 0) ((((539 * (31 * j + 1)) + 3) + 0) + 1) 0) ((((539 * (31 * j + 1)) + 3) + 0) + 2) 0) ((((539 * (31 * j + 1)) + 3) + 0) + 3) 0) ((((539 * (31 * j + 1)) + 3) + 0) + 4) 0) ((((539 * (31 * j + 1)) + 3) + 0) + 5) 0) ((((539 * (31 * j + 1)) + 3) + 0) + 6) 0) ((((539 * (31 * j + 1)) + 3) + 0) + 7) 0) (((539 * (31 * j + 1)) + 3) + 0) 110)))], [(qm 4, .inl (kA 0, 4, .inl (upd f0 j 1)))], [(qm 61, .inl (kA 0, 4, .inl (upd f1 j ((-1)))))], [(qm 73, .inl (kA 0, 864, .inl f951))]]) := hD
  refine lv_iload (pc := 220) hx hb d_Mo_newNode_220 (lv_at hl 2 rfl) ?_
  refine lv_iconst (pc := 222) (v := 2) hx hb d_Mo_newNode_222 (by decide) ?_
  refine lv_icmp_ne (pc := 223) (tgt := 242) hx hb d_Mo_newNode_223 (by decide) (fun _ => ?_) (fun c1 => absurd c1 (by decide))
  refine lv_aload_n (pc := 242) hx hb d_Mo_newNode_242 rfl (lv_at hl 4 rfl) ?_
  refine k_get (pc := 243) (v := .ref (qm 2)) X hK hP 0 rfl rfl i_Mo 2 (by decide) wm_2435 rfl rfl d_Mo_newNode_243 ?_
  refine lv_iload (pc := 246) hx hb d_Mo_newNode_246 (lv_at hl 1 rfl) ?_
  refine lv_iload (pc := 248) hx hb d_Mo_newNode_248 (lv_at hl 2 rfl) ?_
  refine k_add (pc := 250) (x := ((539 * (31 * j + 1)) + 3) + 0) (y := 1) hx hb d_Mo_newNode_250 ?_
  refine lv_bipush (pc := 251) (v := 48) hx hb d_Mo_newNode_251 (by decide) ?_
  refine lv_iload_n (pc := 253) hx hb d_Mo_newNode_253 rfl (lv_at hl 3 rfl) ?_
  refine lv_bipush (pc := 254) (v := 10) hx hb d_Mo_newNode_254 (by decide) ?_
  refine lv_irem (pc := 256) hx hb d_Mo_newNode_256 (by decide) ?_
  refine k_cst (v := 0) (by decide) ?_
  refine lv_iadd (pc := 257) hx hb d_Mo_newNode_257 ?_
  refine k_cst (v := 48) (by decide) ?_
  refine k_ist (pc := 258) hx hb hK hP hD hS 2 0 rfl rfl ((((539 * (31 * j + 1)) + 3) + 0) + 1) rfl (by omega) (by decide) d_Mo_newNode_258 (fun H locs hP hD hS => ?_)
  have hP : va_P D classes (cat [[(a0, .inr (13, mF qm (va_up x0Mo 5 (nI (539 * (31 * j + 1)))) y0Mo))], [(qm 3, .inl (kA 0, 4, .inl (upd (fun _ => 0) j 1)))], [(qm 2, .inl (kA 0, 66836, .inl (upd (upd (upd (upd (upd (upd (upd (upd (upd (upd (upd f950 (539 * (31 * j + 1)) ((f950 (539 * (31 * j + 1))) + 1)) ((((539 * (31 * j + 1)) + 3) + 0) + 0) 0) ((((539 * (31 * j + 1)) + 3) + 0) + 1) 0) ((((539 * (31 * j + 1)) + 3) + 0) + 2) 0) ((((539 * (31 * j + 1)) + 3) + 0) + 3) 0) ((((539 * (31 * j + 1)) + 3) + 0) + 4) 0) ((((539 * (31 * j + 1)) + 3) + 0) + 5) 0) ((((539 * (31 * j + 1)) + 3) + 0) + 6) 0) ((((539 * (31 * j + 1)) + 3) + 0) + 7) 0) (((539 * (31 * j + 1)) + 3) + 0) 110) ((((539 * (31 * j + 1)) + 3) + 0) + 1) 48)))], [(qm 4, .inl (kA 0, 4, .inl (upd f0 j 1)))], [(qm 61, .inl (kA 0, 4, .inl (upd f1 j ((-1)))))], [(qm 73, .inl (kA 0, 864, .inl f951))]]) H := hP
  have hD : va_D A (cat [[(a0, .inr (13, mF qm (va_up x0Mo 5 (nI (539 * (31 * j + 1)))) y0Mo))], [(qm 3, .inl (kA 0, 4, .inl (upd (fun _ => 0) j 1)))], [(qm 2, .inl (kA 0, 66836, .inl (upd (upd (upd (upd (upd (upd (upd (upd (upd (upd (upd f950 (539 * (31 * j + 1)) ((f950 (539 * (31 * j + 1))) + 1)) ((((539 * (31 * j + 1)) + 3) + 0) + 0) 0) ((((539 * (31 * j + 1)) + 3) + 0) + 1) 0) ((((539 * (31 * j + 1)) + 3) + 0) + 2) 0) ((((539 * (31 * j + 1)) + 3) + 0) + 3) 0) ((((539 * (31 * j + 1)) + 3) + 0) + 4) 0) ((((539 * (31 * j + 1)) + 3) + 0) + 5) 0) ((((539 * (31 * j + 1)) + 3) + 0) + 6) 0) ((((539 * (31 * j + 1)) + 3) + 0) + 7) 0) (((539 * (31 * j + 1)) + 3) + 0) 110) ((((539 * (31 * j + 1)) + 3) + 0) + 1) 48)))], [(qm 4, .inl (kA 0, 4, .inl (upd f0 j 1)))], [(qm 61, .inl (kA 0, 4, .inl (upd f1 j ((-1)))))], [(qm 73, .inl (kA 0, 864, .inl f951))]]) := hD
  refine lv_aload_n (pc := 259) hx hb d_Mo_newNode_259 rfl (lv_at hl 4 rfl) ?_
  refine k_get (pc := 260) (v := .ref (qm 2)) X hK hP 0 rfl rfl i_Mo 2 (by decide) wm_2435 rfl rfl d_Mo_newNode_260 ?_
  refine lv_aload_n (pc := 263) hx hb d_Mo_newNode_263 rfl (lv_at hl 4 rfl) ?_
  refine k_get (pc := 264) (v := .int (nI (539 * (31 * j + 1)))) X hK hP 0 rfl rfl i_Mo 5 (by decide) wm_2438 rfl rfl d_Mo_newNode_264 ?_
  refine lv_sipush (pc := 267) (v := 195) hx hb d_Mo_newNode_267 (by decide) ?_
  refine k_add (pc := 270) (x := 539 * (31 * j + 1)) (y := 195) hx hb d_Mo_newNode_270 ?_
  refine lv_iload_n (pc := 271) hx hb d_Mo_newNode_271 rfl (lv_at hl 3 rfl) ?_
  refine k_add (pc := 272) (x := (539 * (31 * j + 1)) + 195) (y := 0) hx hb d_Mo_newNode_272 ?_
  refine lv_iload (pc := 273) hx hb d_Mo_newNode_273 (lv_at hl 2 rfl) ?_
  refine lv_iconst (pc := 275) (v := 1) hx hb d_Mo_newNode_275 (by decide) ?_
  refine lv_iadd (pc := 276) hx hb d_Mo_newNode_276 ?_
  refine k_cst (v := 2) (by decide) ?_
  refine k_ist (pc := 277) hx hb hK hP hD hS 2 0 rfl rfl (((539 * (31 * j + 1)) + 195) + 0) rfl (by omega) (by decide) d_Mo_newNode_277 (fun H locs hP hD hS => ?_)
  have hP : va_P D classes (cat [[(a0, .inr (13, mF qm (va_up x0Mo 5 (nI (539 * (31 * j + 1)))) y0Mo))], [(qm 3, .inl (kA 0, 4, .inl (upd (fun _ => 0) j 1)))], [(qm 2, .inl (kA 0, 66836, .inl (upd (upd (upd (upd (upd (upd (upd (upd (upd (upd (upd (upd f950 (539 * (31 * j + 1)) ((f950 (539 * (31 * j + 1))) + 1)) ((((539 * (31 * j + 1)) + 3) + 0) + 0) 0) ((((539 * (31 * j + 1)) + 3) + 0) + 1) 0) ((((539 * (31 * j + 1)) + 3) + 0) + 2) 0) ((((539 * (31 * j + 1)) + 3) + 0) + 3) 0) ((((539 * (31 * j + 1)) + 3) + 0) + 4) 0) ((((539 * (31 * j + 1)) + 3) + 0) + 5) 0) ((((539 * (31 * j + 1)) + 3) + 0) + 6) 0) ((((539 * (31 * j + 1)) + 3) + 0) + 7) 0) (((539 * (31 * j + 1)) + 3) + 0) 110) ((((539 * (31 * j + 1)) + 3) + 0) + 1) 48) (((539 * (31 * j + 1)) + 195) + 0) 2)))], [(qm 4, .inl (kA 0, 4, .inl (upd f0 j 1)))], [(qm 61, .inl (kA 0, 4, .inl (upd f1 j ((-1)))))], [(qm 73, .inl (kA 0, 864, .inl f951))]]) H := hP
  have hD : va_D A (cat [[(a0, .inr (13, mF qm (va_up x0Mo 5 (nI (539 * (31 * j + 1)))) y0Mo))], [(qm 3, .inl (kA 0, 4, .inl (upd (fun _ => 0) j 1)))], [(qm 2, .inl (kA 0, 66836, .inl (upd (upd (upd (upd (upd (upd (upd (upd (upd (upd (upd (upd f950 (539 * (31 * j + 1)) ((f950 (539 * (31 * j + 1))) + 1)) ((((539 * (31 * j + 1)) + 3) + 0) + 0) 0) ((((539 * (31 * j + 1)) + 3) + 0) + 1) 0) ((((539 * (31 * j + 1)) + 3) + 0) + 2) 0) ((((539 * (31 * j + 1)) + 3) + 0) + 3) 0) ((((539 * (31 * j + 1)) + 3) + 0) + 4) 0) ((((539 * (31 * j + 1)) + 3) + 0) + 5) 0) ((((539 * (31 * j + 1)) + 3) + 0) + 6) 0) ((((539 * (31 * j + 1)) + 3) + 0) + 7) 0) (((539 * (31 * j + 1)) + 3) + 0) 110) ((((539 * (31 * j + 1)) + 3) + 0) + 1) 48) (((539 * (31 * j + 1)) + 195) + 0) 2)))], [(qm 4, .inl (kA 0, 4, .inl (upd f0 j 1)))], [(qm 61, .inl (kA 0, 4, .inl (upd f1 j ((-1)))))], [(qm 73, .inl (kA 0, 864, .inl f951))]]) := hD
  refine lv_aload_n (pc := 278) hx hb d_Mo_newNode_278 rfl (lv_at hl 4 rfl) ?_
  refine k_get (pc := 279) (v := .ref (qm 2)) X hK hP 0 rfl rfl i_Mo 2 (by decide) wm_2435 rfl rfl d_Mo_newNode_279 ?_
  refine lv_aload_n (pc := 282) hx hb d_Mo_newNode_282 rfl (lv_at hl 4 rfl) ?_
  refine k_get (pc := 283) (v := .int (nI (539 * (31 * j + 1)))) X hK hP 0 rfl rfl i_Mo 5 (by decide) wm_2438 rfl rfl d_Mo_newNode_283 ?_
  refine lv_sipush (pc := 286) (v := 219) hx hb d_Mo_newNode_286 (by decide) ?_
  refine k_add (pc := 289) (x := 539 * (31 * j + 1)) (y := 219) hx hb d_Mo_newNode_289 ?_
  refine lv_iload_n (pc := 290) hx hb d_Mo_newNode_290 rfl (lv_at hl 3 rfl) ?_
  refine k_add (pc := 291) (x := (539 * (31 * j + 1)) + 219) (y := 0) hx hb d_Mo_newNode_291 ?_
  refine lv_iconst (pc := 292) (v := 1) hx hb d_Mo_newNode_292 (by decide) ?_
  refine k_ist (pc := 293) hx hb hK hP hD hS 2 0 rfl rfl (((539 * (31 * j + 1)) + 219) + 0) rfl (by omega) (by decide) d_Mo_newNode_293 (fun H locs hP hD hS => ?_)
  have hP : va_P D classes (cat [[(a0, .inr (13, mF qm (va_up x0Mo 5 (nI (539 * (31 * j + 1)))) y0Mo))], [(qm 3, .inl (kA 0, 4, .inl (upd (fun _ => 0) j 1)))], [(qm 2, .inl (kA 0, 66836, .inl (upd (upd (upd (upd (upd (upd (upd (upd (upd (upd (upd (upd (upd f950 (539 * (31 * j + 1)) ((f950 (539 * (31 * j + 1))) + 1)) ((((539 * (31 * j + 1)) + 3) + 0) + 0) 0) ((((539 * (31 * j + 1)) + 3) + 0) + 1) 0) ((((539 * (31 * j + 1)) + 3) + 0) + 2) 0) ((((539 * (31 * j + 1)) + 3) + 0) + 3) 0) ((((539 * (31 * j + 1)) + 3) + 0) + 4) 0) ((((539 * (31 * j + 1)) + 3) + 0) + 5) 0) ((((539 * (31 * j + 1)) + 3) + 0) + 6) 0) ((((539 * (31 * j + 1)) + 3) + 0) + 7) 0) (((539 * (31 * j + 1)) + 3) + 0) 110) ((((539 * (31 * j + 1)) + 3) + 0) + 1) 48) (((539 * (31 * j + 1)) + 195) + 0) 2) (((539 * (31 * j + 1)) + 219) + 0) 1)))], [(qm 4, .inl (kA 0, 4, .inl (upd f0 j 1)))], [(qm 61, .inl (kA 0, 4, .inl (upd f1 j ((-1)))))], [(qm 73, .inl (kA 0, 864, .inl f951))]]) H := hP
  have hD : va_D A (cat [[(a0, .inr (13, mF qm (va_up x0Mo 5 (nI (539 * (31 * j + 1)))) y0Mo))], [(qm 3, .inl (kA 0, 4, .inl (upd (fun _ => 0) j 1)))], [(qm 2, .inl (kA 0, 66836, .inl (upd (upd (upd (upd (upd (upd (upd (upd (upd (upd (upd (upd (upd f950 (539 * (31 * j + 1)) ((f950 (539 * (31 * j + 1))) + 1)) ((((539 * (31 * j + 1)) + 3) + 0) + 0) 0) ((((539 * (31 * j + 1)) + 3) + 0) + 1) 0) ((((539 * (31 * j + 1)) + 3) + 0) + 2) 0) ((((539 * (31 * j + 1)) + 3) + 0) + 3) 0) ((((539 * (31 * j + 1)) + 3) + 0) + 4) 0) ((((539 * (31 * j + 1)) + 3) + 0) + 5) 0) ((((539 * (31 * j + 1)) + 3) + 0) + 6) 0) ((((539 * (31 * j + 1)) + 3) + 0) + 7) 0) (((539 * (31 * j + 1)) + 3) + 0) 110) ((((539 * (31 * j + 1)) + 3) + 0) + 1) 48) (((539 * (31 * j + 1)) + 195) + 0) 2) (((539 * (31 * j + 1)) + 219) + 0) 1)))], [(qm 4, .inl (kA 0, 4, .inl (upd f0 j 1)))], [(qm 61, .inl (kA 0, 4, .inl (upd f1 j ((-1)))))], [(qm 73, .inl (kA 0, 864, .inl f951))]]) := hD
  refine lv_aload_n (pc := 294) hx hb d_Mo_newNode_294 rfl (lv_at hl 4 rfl) ?_
  refine k_get (pc := 295) (v := .ref (qm 2)) X hK hP 0 rfl rfl i_Mo 2 (by decide) wm_2435 rfl rfl d_Mo_newNode_295 ?_
  refine lv_aload_n (pc := 298) hx hb d_Mo_newNode_298 rfl (lv_at hl 4 rfl) ?_
  refine k_get (pc := 299) (v := .int (nI (539 * (31 * j + 1)))) X hK hP 0 rfl rfl i_Mo 5 (by decide) wm_2438 rfl rfl d_Mo_newNode_299 ?_
  refine lv_sipush (pc := 302) (v := 243) hx hb d_Mo_newNode_302 (by decide) ?_
  refine k_add (pc := 305) (x := 539 * (31 * j + 1)) (y := 243) hx hb d_Mo_newNode_305 ?_
  refine lv_iload_n (pc := 306) hx hb d_Mo_newNode_306 rfl (lv_at hl 3 rfl) ?_
  refine k_add (pc := 307) (x := (539 * (31 * j + 1)) + 243) (y := 0) hx hb d_Mo_newNode_307 ?_
  refine lv_iload_n (pc := 308) hx hb d_Mo_newNode_308 rfl (lv_at hl 6 rfl) ?_
  refine k_ist (pc := 309) hx hb hK hP hD hS 2 0 rfl rfl (((539 * (31 * j + 1)) + 243) + 0) rfl (by omega) (by decide) d_Mo_newNode_309 (fun H locs hP hD hS => ?_)
  have hP : va_P D classes (cat [[(a0, .inr (13, mF qm (va_up x0Mo 5 (nI (539 * (31 * j + 1)))) y0Mo))], [(qm 3, .inl (kA 0, 4, .inl (upd (fun _ => 0) j 1)))], [(qm 2, .inl (kA 0, 66836, .inl (upd (upd (upd (upd (upd (upd (upd (upd (upd (upd (upd (upd (upd (upd f950 (539 * (31 * j + 1)) ((f950 (539 * (31 * j + 1))) + 1)) ((((539 * (31 * j + 1)) + 3) + 0) + 0) 0) ((((539 * (31 * j + 1)) + 3) + 0) + 1) 0) ((((539 * (31 * j + 1)) + 3) + 0) + 2) 0) ((((539 * (31 * j + 1)) + 3) + 0) + 3) 0) ((((539 * (31 * j + 1)) + 3) + 0) + 4) 0) ((((539 * (31 * j + 1)) + 3) + 0) + 5) 0) ((((539 * (31 * j + 1)) + 3) + 0) + 6) 0) ((((539 * (31 * j + 1)) + 3) + 0) + 7) 0) (((539 * (31 * j + 1)) + 3) + 0) 110) ((((539 * (31 * j + 1)) + 3) + 0) + 1) 48) (((539 * (31 * j + 1)) + 195) + 0) 2) (((539 * (31 * j + 1)) + 219) + 0) 1) (((539 * (31 * j + 1)) + 243) + 0) 0)))], [(qm 4, .inl (kA 0, 4, .inl (upd f0 j 1)))], [(qm 61, .inl (kA 0, 4, .inl (upd f1 j ((-1)))))], [(qm 73, .inl (kA 0, 864, .inl f951))]]) H := hP
  have hD : va_D A (cat [[(a0, .inr (13, mF qm (va_up x0Mo 5 (nI (539 * (31 * j + 1)))) y0Mo))], [(qm 3, .inl (kA 0, 4, .inl (upd (fun _ => 0) j 1)))], [(qm 2, .inl (kA 0, 66836, .inl (upd (upd (upd (upd (upd (upd (upd (upd (upd (upd (upd (upd (upd (upd f950 (539 * (31 * j + 1)) ((f950 (539 * (31 * j + 1))) + 1)) ((((539 * (31 * j + 1)) + 3) + 0) + 0) 0) ((((539 * (31 * j + 1)) + 3) + 0) + 1) 0) ((((539 * (31 * j + 1)) + 3) + 0) + 2) 0) ((((539 * (31 * j + 1)) + 3) + 0) + 3) 0) ((((539 * (31 * j + 1)) + 3) + 0) + 4) 0) ((((539 * (31 * j + 1)) + 3) + 0) + 5) 0) ((((539 * (31 * j + 1)) + 3) + 0) + 6) 0) ((((539 * (31 * j + 1)) + 3) + 0) + 7) 0) (((539 * (31 * j + 1)) + 3) + 0) 110) ((((539 * (31 * j + 1)) + 3) + 0) + 1) 48) (((539 * (31 * j + 1)) + 195) + 0) 2) (((539 * (31 * j + 1)) + 219) + 0) 1) (((539 * (31 * j + 1)) + 243) + 0) 0)))], [(qm 4, .inl (kA 0, 4, .inl (upd f0 j 1)))], [(qm 61, .inl (kA 0, 4, .inl (upd f1 j ((-1)))))], [(qm 73, .inl (kA 0, 864, .inl f951))]]) := hD
  refine lv_iload_n (pc := 310) hx hb d_Mo_newNode_310 rfl (lv_at hl 3 rfl) ?_
  obtain ⟨hP, hD⟩ := k_ord (gc := [[(a0, .inr (13, mF qm (va_up x0Mo 5 (nI (539 * (31 * j + 1)))) y0Mo))], [(qm 2, .inl (kA 0, 66836, .inl (upd (upd (upd (upd (upd (upd (upd (upd (upd (upd (upd (upd (upd (upd f950 (539 * (31 * j + 1)) ((f950 (539 * (31 * j + 1))) + 1)) ((((539 * (31 * j + 1)) + 3) + 0) + 0) 0) ((((539 * (31 * j + 1)) + 3) + 0) + 1) 0) ((((539 * (31 * j + 1)) + 3) + 0) + 2) 0) ((((539 * (31 * j + 1)) + 3) + 0) + 3) 0) ((((539 * (31 * j + 1)) + 3) + 0) + 4) 0) ((((539 * (31 * j + 1)) + 3) + 0) + 5) 0) ((((539 * (31 * j + 1)) + 3) + 0) + 6) 0) ((((539 * (31 * j + 1)) + 3) + 0) + 7) 0) (((539 * (31 * j + 1)) + 3) + 0) 110) ((((539 * (31 * j + 1)) + 3) + 0) + 1) 48) (((539 * (31 * j + 1)) + 195) + 0) 2) (((539 * (31 * j + 1)) + 219) + 0) 1) (((539 * (31 * j + 1)) + 243) + 0) 0)))], [(qm 3, .inl (kA 0, 4, .inl (upd (fun _ => 0) j 1)))], [(qm 4, .inl (kA 0, 4, .inl (upd f0 j 1)))], [(qm 61, .inl (kA 0, 4, .inl (upd f1 j ((-1)))))], [(qm 73, .inl (kA 0, 864, .inl f951))]]) hP hD [0, 2, 1, 3, 4, 5] 6 rfl (by decide) rfl
  refine W.widen (k := 0) (n := 0) (Nat.le_of_ble_eq_true rfl) (Nat.le_of_ble_eq_true rfl) ?_
  exact W.iret (v := 0) hx hb hr (fun t ht hW => ⟨⟨0, ((fun _ => 0), (fun k => match k with | 0 => f950 | 1 => f951 | _ => fun _ => 0)), rfl, rfl, by rw [ht]; exact hP, va_K.moved hW.alike hK, hD⟩, hS.F ht⟩) hS.2.2 d_Mo_newNode_311
set_option maxRecDepth 100000 in
set_option maxHeartbeats 4000000 in
/-- DrawingHouseModel.change(IIII)I -/
theorem c_Mo_change_z5 (l : Launch) (D : va_G) (kA : Nat → ClassId) (a0 : Nat) (j : Nat) (v4 : Int32) (qm : Nat → Nat) (f0 : Nat → Int32) (f1 : Nat → Int32) (f2 : Nat → Int32) (hj : j < 4) : Ci l y_Mo_change z_Mo_change { frames := 4, cells := 0, slots := 0, locals := 92 } D classes (TY kA) [.ref a0, .int (nI j), .int 0, .int 0, .int v4] [[(a0, .inr (13, mF qm x0Mo y0Mo))], [(qm 3, .inl (kA 0, 4, .inl (fun _ => 0)))], [(qm 2, .inl (kA 0, 66836, .inl all0))], [(qm 4, .inl (kA 0, 4, .inl f0))], [(qm 61, .inl (kA 0, 4, .inl f1))], [(qm 73, .inl (kA 0, 864, .inl f2))]] (fun r (_ : List va_W) => r = 0) (fun u => u) 0 0 := by
  intro sz
  refine k_met (cc := b_Mo_change) (maxL := 5) (ret := (some .int)) (by decide) rfl (Nat.le_of_ble_eq_true rfl) (fun p e s m below meth c ls X hl hB => ?_)
  obtain ⟨hsz, hP, hK, hD0, hN⟩ := hB
  subst hsz
  have hD := hD0.self (sz := s.heap.size)
  generalize hAe : va_A (cat [[(a0, .inr (13, mF qm x0Mo y0Mo))], [(qm 3, .inl (kA 0, 4, .inl (fun _ => 0)))], [(qm 2, .inl (kA 0, 66836, .inl all0))], [(qm 4, .inl (kA 0, 4, .inl f0))], [(qm 61, .inl (kA 0, 4, .inl f1))], [(qm 73, .inl (kA 0, 864, .inl f2))]]) s.heap.size = A at hD ⊢
  have hA : ∀ q : Nat, s.heap.size ≤ q → A q := fun q h => by rw [← hAe]; exact Or.inr h
  have hS : va_S A s.heap s.heap [] := va_S.rf
  obtain ⟨hx, hb, hml, hown, hts, hr, hlk, hnm⟩ := id X
  have hl : lv_has ls 5 [(0, .ref a0), (1, .int (nI j)), (2, .int 0), (3, .int 0), (4, .int v4)] := hl
  have hP : va_P D classes (cat [[(a0, .inr (13, mF qm x0Mo y0Mo))], [(qm 3, .inl (kA 0, 4, .inl (fun _ => 0)))], [(qm 2, .inl (kA 0, 66836, .inl all0))], [(qm 4, .inl (kA 0, 4, .inl f0))], [(qm 61, .inl (kA 0, 4, .inl f1))], [(qm 73, .inl (kA 0, 864, .inl f2))]]) s.heap := hP
  have hK : va_K D classes (TY kA) s := hK
  refine lv_iload_n (pc := 0) hx hb d_Mo_change_0 rfl (lv_at hl 1 rfl) ?_
  refine k_goI (gr := [[(a0, .inr (13, mF qm x0Mo y0Mo))], [(qm 3, .inl (kA 0, 4, .inl (fun _ => 0)))], [(qm 2, .inl (kA 0, 66836, .inl all0))], [(qm 4, .inl (kA 0, 4, .inl f0))], [(qm 61, .inl (kA 0, 4, .inl f1))], [(qm 73, .inl (kA 0, 864, .inl f2))]]) (k_rS (pc := 1) (As := [.int (nI j)]) (rest := []) X (c_Mo_isPlace l D kA (nI j) s.heap.size) rfl wm_2978 wm_9 wm_2976 wm_2977 1 (by decide +kernel) ⟨Nat.le_of_ble_eq_true rfl, Nat.le_of_ble_eq_true rfl⟩ rfl rfl (k_pre hN hK hP hD [] [0, 1, 2, 3, 4, 5] 6 rfl (by decide) rfl) rfl hl.1 rfl (Nat.le_of_ble_eq_true rfl) d_Mo_change_1 ⟨Nat.le_of_ble_eq_true rfl, Nat.le_of_ble_eq_true rfl⟩) hP hD hS hA [] [0, 1, 2, 3, 4, 5] 6 rfl (by decide) rfl rfl (fun r1 u2 H locs hu2 hP hD hS => ?_)
  subst hu2
  refine k_cst (v := 1) (placeM_ok hj) ?_
  have hP : va_P D classes (cat [[(a0, .inr (13, mF qm x0Mo y0Mo))], [(qm 3, .inl (kA 0, 4, .inl (fun _ => 0)))], [(qm 2, .inl (kA 0, 66836, .inl all0))], [(qm 4, .inl (kA 0, 4, .inl f0))], [(qm 61, .inl (kA 0, 4, .inl f1))], [(qm 73, .inl (kA 0, 864, .inl f2))]]) H := hP
  have hD : va_D A (cat [[(a0, .inr (13, mF qm x0Mo y0Mo))], [(qm 3, .inl (kA 0, 4, .inl (fun _ => 0)))], [(qm 2, .inl (kA 0, 66836, .inl all0))], [(qm 4, .inl (kA 0, 4, .inl f0))], [(qm 61, .inl (kA 0, 4, .inl f1))], [(qm 73, .inl (kA 0, 864, .inl f2))]]) := hD
  refine lv_if_ne (pc := 4) (tgt := 9) hx hb d_Mo_change_4 (by decide) (fun c1 => ?_) (fun c1 => absurd c1 (by decide))
  refine lv_aload_n (pc := 9) hx hb d_Mo_change_9 rfl (lv_at hl 0 rfl) ?_
  refine lv_iload_n (pc := 10) hx hb d_Mo_change_10 rfl (lv_at hl 1 rfl) ?_
  refine k_goV (gr := [[(qm 2, .inl (kA 0, 66836, .inl all0))], [(qm 4, .inl (kA 0, 4, .inl f0))], [(qm 61, .inl (kA 0, 4, .inl f1))], [(qm 73, .inl (kA 0, 864, .inl f2))]]) (k_rV (pc := 11) (As := [.int (nI j)]) (rest := []) X (c_Mo_take_z1 l D kA a0 j qm hj H.size) rfl wm_3091 wm_9 wm_3088 wm_3090 wv_14_2 1 (by decide +kernel) ⟨Nat.le_of_ble_eq_true rfl, Nat.le_of_ble_eq_true rfl⟩ rfl rfl (va_recv hK hP (ci := 13) (q0 := 0) rfl rfl) (k_pre hN hK hP hD [0, 1] [2, 3, 4, 5] 6 rfl (by decide) rfl) rfl hl.1 rfl (Nat.le_of_ble_eq_true rfl) d_Mo_change_11 ⟨Nat.le_of_ble_eq_true rfl, Nat.le_of_ble_eq_true rfl⟩) hP hD hS hA [0, 1] [2, 3, 4, 5] 6 rfl (by decide) rfl rfl (fun u3 H locs hu3 hP hD hS => ?_)
  have hP : va_P D classes (cat [[(qm 2, .inl (kA 0, 66836, .inl all0))], [(qm 4, .inl (kA 0, 4, .inl f0))], [(qm 61, .inl (kA 0, 4, .inl f1))], [(qm 73, .inl (kA 0, 864, .inl f2))], [(a0, .inr (13, mF qm (va_up x0Mo 5 (nI (539 * (31 * j + 0)))) y0Mo))], [(qm 3, .inl (kA 0, 4, .inl (fun _ => 0)))]]) H := hP
  have hD : va_D A (cat [[(qm 2, .inl (kA 0, 66836, .inl all0))], [(qm 4, .inl (kA 0, 4, .inl f0))], [(qm 61, .inl (kA 0, 4, .inl f1))], [(qm 73, .inl (kA 0, 864, .inl f2))], [(a0, .inr (13, mF qm (va_up x0Mo 5 (nI (539 * (31 * j + 0)))) y0Mo))], [(qm 3, .inl (kA 0, 4, .inl (fun _ => 0)))]]) := hD
  refine lv_iload_n (pc := 14) hx hb d_Mo_change_14 rfl (lv_at hl 2 rfl) ?_
  refine lv_tableIn (pc := 15) (tgt := 60) hx hb d_Mo_change_15 (by decide) (by decide) rfl (by decide) ?_
  refine lv_aload_n (pc := 60) hx hb d_Mo_change_60 rfl (lv_at hl 0 rfl) ?_
  refine lv_iload_n (pc := 61) hx hb d_Mo_change_61 rfl (lv_at hl 1 rfl) ?_
  refine lv_iload_n (pc := 62) hx hb d_Mo_change_62 rfl (lv_at hl 3 rfl) ?_
  refine k_goI (gr := []) (k_rV (pc := 63) (As := [.int (nI j), .int 0]) (rest := []) X (c_Mo_newNode_z3 l D kA a0 j qm f0 f1 f2 hj H.size) rfl wm_3095 wm_9 wm_3092 wm_3094 wv_14_3 2 (by decide +kernel) ⟨Nat.le_of_ble_eq_true rfl, Nat.le_of_ble_eq_true rfl⟩ rfl rfl (va_recv hK hP (ci := 13) (q0 := 4) rfl rfl) (k_pre hN hK hP hD [4, 0, 5, 1, 2, 3] [] 6 rfl (by decide) rfl) rfl hl.1 rfl (Nat.le_of_ble_eq_true rfl) d_Mo_change_63 ⟨Nat.le_of_ble_eq_true rfl, Nat.le_of_ble_eq_true rfl⟩) hP hD hS hA [4, 0, 5, 1, 2, 3] [] 6 rfl (by decide) rfl rfl (fun r4 u5 H locs hu5 hP hD hS => ?_)
  have hP : va_P D classes (cat [[(a0, .inr (13, mF qm (va_up x0Mo 5 (nI (539 * (31 * j + 1)))) y0Mo))], [(qm 2, .inl (kA 0, 66836, .inl (upd (upd (upd (upd (upd (upd (upd (upd (upd (upd (upd (upd (upd (upd (u5.2 0) (539 * (31 * j + 1)) (((u5.2 0) (539 * (31 * j + 1))) + 1)) ((((539 * (31 * j + 1)) + 3) + 0) + 0) 0) ((((539 * (31 * j + 1)) + 3) + 0) + 1) 0) ((((539 * (31 * j + 1)) + 3) + 0) + 2) 0) ((((539 * (31 * j + 1)) + 3) + 0) + 3) 0) ((((539 * (31 * j + 1)) + 3) + 0) + 4) 0) ((((539 * (31 * j + 1)) + 3) + 0) + 5) 0) ((((539 * (31 * j + 1)) + 3) + 0) + 6) 0) ((((539 * (31 * j + 1)) + 3) + 0) + 7) 0) (((539 * (31 * j + 1)) + 3) + 0) 110) ((((539 * (31 * j + 1)) + 3) + 0) + 1) 48) (((539 * (31 * j + 1)) + 195) + 0) 2) (((539 * (31 * j + 1)) + 219) + 0) 1) (((539 * (31 * j + 1)) + 243) + 0) 0)))], [(qm 3, .inl (kA 0, 4, .inl (upd (fun _ => 0) j 1)))], [(qm 4, .inl (kA 0, 4, .inl (upd f0 j 1)))], [(qm 61, .inl (kA 0, 4, .inl (upd f1 j ((-1)))))], [(qm 73, .inl (kA 0, 864, .inl (u5.2 1)))]]) H := hP
  have hD : va_D A (cat [[(a0, .inr (13, mF qm (va_up x0Mo 5 (nI (539 * (31 * j + 1)))) y0Mo))], [(qm 2, .inl (kA 0, 66836, .inl (upd (upd (upd (upd (upd (upd (upd (upd (upd (upd (upd (upd (upd (upd (u5.2 0) (539 * (31 * j + 1)) (((u5.2 0) (539 * (31 * j + 1))) + 1)) ((((539 * (31 * j + 1)) + 3) + 0) + 0) 0) ((((539 * (31 * j + 1)) + 3) + 0) + 1) 0) ((((539 * (31 * j + 1)) + 3) + 0) + 2) 0) ((((539 * (31 * j + 1)) + 3) + 0) + 3) 0) ((((539 * (31 * j + 1)) + 3) + 0) + 4) 0) ((((539 * (31 * j + 1)) + 3) + 0) + 5) 0) ((((539 * (31 * j + 1)) + 3) + 0) + 6) 0) ((((539 * (31 * j + 1)) + 3) + 0) + 7) 0) (((539 * (31 * j + 1)) + 3) + 0) 110) ((((539 * (31 * j + 1)) + 3) + 0) + 1) 48) (((539 * (31 * j + 1)) + 195) + 0) 2) (((539 * (31 * j + 1)) + 219) + 0) 1) (((539 * (31 * j + 1)) + 243) + 0) 0)))], [(qm 3, .inl (kA 0, 4, .inl (upd (fun _ => 0) j 1)))], [(qm 4, .inl (kA 0, 4, .inl (upd f0 j 1)))], [(qm 61, .inl (kA 0, 4, .inl (upd f1 j ((-1)))))], [(qm 73, .inl (kA 0, 864, .inl (u5.2 1)))]]) := hD
  obtain ⟨f950, hf950⟩ : ∃ z : Nat → Int32, u5.2 0 = z := ⟨_, rfl⟩
  rw [hf950] at hP hD
  obtain ⟨f951, hf951⟩ : ∃ z : Nat → Int32, u5.2 1 = z := ⟨_, rfl⟩
  rw [hf951] at hP hD
  subst hu5
  refine W.widen (k := 0) (n := 0) (Nat.le_of_ble_eq_true rfl) (Nat.le_of_ble_eq_true rfl) ?_
  exact W.iret (v := 0) hx hb hr (fun t ht hW => ⟨⟨0, [[(a0, .inr (13, mF qm (va_up x0Mo 5 (nI (539 * (31 * j + 1)))) y0Mo))], [(qm 2, .inl (kA 0, 66836, .inl (upd (upd (upd (upd (upd (upd (upd (upd (upd (upd (upd (upd (upd (upd f950 (539 * (31 * j + 1)) ((f950 (539 * (31 * j + 1))) + 1)) ((((539 * (31 * j + 1)) + 3) + 0) + 0) 0) ((((539 * (31 * j + 1)) + 3) + 0) + 1) 0) ((((539 * (31 * j + 1)) + 3) + 0) + 2) 0) ((((539 * (31 * j + 1)) + 3) + 0) + 3) 0) ((((539 * (31 * j + 1)) + 3) + 0) + 4) 0) ((((539 * (31 * j + 1)) + 3) + 0) + 5) 0) ((((539 * (31 * j + 1)) + 3) + 0) + 6) 0) ((((539 * (31 * j + 1)) + 3) + 0) + 7) 0) (((539 * (31 * j + 1)) + 3) + 0) 110) ((((539 * (31 * j + 1)) + 3) + 0) + 1) 48) (((539 * (31 * j + 1)) + 195) + 0) 2) (((539 * (31 * j + 1)) + 219) + 0) 1) (((539 * (31 * j + 1)) + 243) + 0) 0)))], [(qm 3, .inl (kA 0, 4, .inl (upd (fun _ => 0) j 1)))], [(qm 4, .inl (kA 0, 4, .inl (upd f0 j 1)))], [(qm 61, .inl (kA 0, 4, .inl (upd f1 j ((-1)))))], [(qm 73, .inl (kA 0, 864, .inl f951))]], rfl, rfl, by rw [ht]; exact hP, va_K.moved hW.alike hK, hD⟩, hS.F ht⟩) hS.2.2 d_Mo_change_66
set_option maxRecDepth 100000 in
set_option maxHeartbeats 4000000 in
/-- change, a fresh house -/
theorem lf_change_5 {p : Program} {e : Env} {s : State} {m : MethodId} {below : List Frame} {meth : Method} {c : Code} (l : Launch) {b : Nat} {xs : Nat → Int32} (C0 : lw_At p s m meth c b 6 xs) {D : va_G} {kA : Nat → ClassId} (h : Nat) (h2 : Nat) (q : Nat → Nat) (qg : Nat → Nat) (qf : Nat → Nat) (qn : Nat → Nat) (qd : Nat → Nat) (qm : Nat → Nat) (g : Nat → Nat → Nat) (j : Nat) (v4 : Int32) (hj : j < 4) (hv1 : xs 1 = nI j) (hv2 : xs 2 = 0) (hv3 : xs 3 = 0) (hv4 : xs 4 = v4) {H : Heap} {locs : List Loc} {ls : Array Slot} (hK : va_K D classes (TY kA) s) (hN : nst s) (hP : va_P D classes (cat [[(h, .inr (12, [.ref (q 0), .ref (q 1), .ref (q 2), .ref (q 3), .ref (q 4), .ref (q 5), .ref (q 6), .int 0, .int ((-1)), .ref (q 9), .ref (q 10), .int 0, .int 0, .ref (q 13), .int 0, .int 0, .null, .null, .null, .null, .null]))], [(q 0, .inl (kA 4, 4, .inr (.inr (.inr (.inr (rr (g 0)))))))], [(g 0 j, .inr (3, [.int 0, .int 0, .int 1, .ref (qg 3), .ref (qg 4), .ref (qg 5), .ref (qg 6), .ref (qg 7), .ref (qg 8), .ref (qg 9), .ref (qg 10), .ref (qg 11), .ref (qg 12), .ref (qg 13), .ref (qg 14), .ref (qg 15), .null, .int 0, .int 0]))], [(qg 3, .inl (kA 1, 192, .inl (fun _ => 0)))], [(qg 4, .inl (kA 0, 24, .inl (fun _ => 0)))], [(qg 5, .inl (kA 0, 24, .inl (fun _ => 0)))], [(qg 6, .inl (kA 0, 24, .inl (fun _ => 0)))], [(qg 14, .inl (kA 0, 24, .inl (fun _ => 0)))], [(q 1, .inl (kA 5, 4, .inr (.inr (.inr (.inr (rr (g 1)))))))], [(g 1 j, .inr (2, [.int 0, .int 0, .int 0, .int 0, .ref (qf 4), .ref (qf 5), .ref (qf 6), .ref (qf 7), .ref (qf 8), .ref (qf 9), .ref (qf 10), .ref (qf 11), .ref (qf 12), .ref (qf 13), .ref (qf 14)]))], [(q 2, .inl (kA 6, 4, .inr (.inr (.inr (.inr (rr (g 2)))))))], [(g 2 j, .inr (5, [.int ((-1)), .int ((-1)), .int ((-1)), .int 0, .ref (qn 4), .int 0, .int 0, .ref (qn 7), .ref (qn 8), .ref (qn 9), .ref (qn 10), .ref (qn 11), .ref (qn 12), .int 0, .ref (qn 14), .ref (qn 15), .ref (qn 16)]))], [(q 3, .inl (kA 7, 4, .inr (.inr (.inr (.inr (rr (g 3)))))))], [(g 3 j, .inr (0, [.ref (qd 0), .int ((-1)), .ref (qd 2), .ref (qd 3), .ref (qd 4), .ref (qd 5), .ref (qd 6), .int 0, .int 0, .int 0, .ref (qd 10), .ref (qd 11), .ref (qd 12), .ref (qd 13), .ref (qd 14), .ref (qd 15), .ref (qd 16), .int 0, .int 0, .int 0, .int 0]))], [(qd 14, .inl (kA 0, 216, .inl (fun _ => 0)))], [(h2, .inr (13, mF qm x0Mo y0Mo))], [(qm 3, .inl (kA 0, 4, .inl (fun _ => 0)))], [(qm 2, .inl (kA 0, 66836, .inl all0))], [(qm 4, .inl (kA 0, 4, .inl (fun _ => 0)))], [(qm 61, .inl (kA 0, 4, .inl (upd (upd (upd (upd (fun _ => 0) 0 (-1)) 1 (-1)) 2 (-1)) 3 (-1))))], [(qm 73, .inl (kA 0, 864, .inl (fun _ => 0)))]]) H) (hD : va_D (fun q : Nat => s.heap.size ≤ q) (cat [[(h, .inr (12, [.ref (q 0), .ref (q 1), .ref (q 2), .ref (q 3), .ref (q 4), .ref (q 5), .ref (q 6), .int 0, .int ((-1)), .ref (q 9), .ref (q 10), .int 0, .int 0, .ref (q 13), .int 0, .int 0, .null, .null, .null, .null, .null]))], [(q 0, .inl (kA 4, 4, .inr (.inr (.inr (.inr (rr (g 0)))))))], [(g 0 j, .inr (3, [.int 0, .int 0, .int 1, .ref (qg 3), .ref (qg 4), .ref (qg 5), .ref (qg 6), .ref (qg 7), .ref (qg 8), .ref (qg 9), .ref (qg 10), .ref (qg 11), .ref (qg 12), .ref (qg 13), .ref (qg 14), .ref (qg 15), .null, .int 0, .int 0]))], [(qg 3, .inl (kA 1, 192, .inl (fun _ => 0)))], [(qg 4, .inl (kA 0, 24, .inl (fun _ => 0)))], [(qg 5, .inl (kA 0, 24, .inl (fun _ => 0)))], [(qg 6, .inl (kA 0, 24, .inl (fun _ => 0)))], [(qg 14, .inl (kA 0, 24, .inl (fun _ => 0)))], [(q 1, .inl (kA 5, 4, .inr (.inr (.inr (.inr (rr (g 1)))))))], [(g 1 j, .inr (2, [.int 0, .int 0, .int 0, .int 0, .ref (qf 4), .ref (qf 5), .ref (qf 6), .ref (qf 7), .ref (qf 8), .ref (qf 9), .ref (qf 10), .ref (qf 11), .ref (qf 12), .ref (qf 13), .ref (qf 14)]))], [(q 2, .inl (kA 6, 4, .inr (.inr (.inr (.inr (rr (g 2)))))))], [(g 2 j, .inr (5, [.int ((-1)), .int ((-1)), .int ((-1)), .int 0, .ref (qn 4), .int 0, .int 0, .ref (qn 7), .ref (qn 8), .ref (qn 9), .ref (qn 10), .ref (qn 11), .ref (qn 12), .int 0, .ref (qn 14), .ref (qn 15), .ref (qn 16)]))], [(q 3, .inl (kA 7, 4, .inr (.inr (.inr (.inr (rr (g 3)))))))], [(g 3 j, .inr (0, [.ref (qd 0), .int ((-1)), .ref (qd 2), .ref (qd 3), .ref (qd 4), .ref (qd 5), .ref (qd 6), .int 0, .int 0, .int 0, .ref (qd 10), .ref (qd 11), .ref (qd 12), .ref (qd 13), .ref (qd 14), .ref (qd 15), .ref (qd 16), .int 0, .int 0, .int 0, .int 0]))], [(qd 14, .inl (kA 0, 216, .inl (fun _ => 0)))], [(h2, .inr (13, mF qm x0Mo y0Mo))], [(qm 3, .inl (kA 0, 4, .inl (fun _ => 0)))], [(qm 2, .inl (kA 0, 66836, .inl all0))], [(qm 4, .inl (kA 0, 4, .inl (fun _ => 0)))], [(qm 61, .inl (kA 0, 4, .inl (upd (upd (upd (upd (fun _ => 0) 0 (-1)) 1 (-1)) 2 (-1)) 3 (-1))))], [(qm 73, .inl (kA 0, 864, .inl (fun _ => 0)))]])) (hS : va_S (fun q : Nat => s.heap.size ≤ q) s.heap H locs) (hl : lv_has ls 4 [(3, .int 0), (2, .ref h2), (1, .ref h), (0, .ref b)]) : W p l e room_1 s m #[Value.ref b] below meth c H locs 368 365796 (lw_Z below #[Value.ref b] s) (F0 m 494 ls []) := by
  obtain ⟨hx, hb, hr, hml, hown, hts0, hX, hbl, hlocks, hgv⟩ := id C0
  have hts : ∀ w ∈ lw_g, w.before #[Value.ref b] s = true := fun w h => hts0 w (lw_gt h)
  have X : cx p s m #[Value.ref b] meth c b_law_law 4 ret "DrawingHouseLaw" meth.name := ⟨hx, hb, hml, hown, hts, hr, hlocks, rfl⟩
  obtain ⟨A, hAe⟩ : ∃ A : Nat → Prop, A = fun q : Nat => s.heap.size ≤ q := ⟨_, rfl⟩
  have hA : ∀ q : Nat, s.heap.size ≤ q → A q := fun q h => by rw [hAe]; exact h
  have hbA : ¬ A b := by rw [hAe]; exact Nat.not_le.mpr hbl
  rw [← hAe] at hD hS
  refine lv_aload_n (pc := 494) hx hb d_law_law_494 rfl (lv_at hl 2 rfl) ?_
  refine lv_aload_n (pc := 495) hx hb d_law_law_495 rfl (lv_at hl 3 rfl) ?_
  refine lv_iload_n (pc := 496) hx hb d_law_law_496 rfl (lv_at hl 0 rfl) ?_
  refine lv_iconst (pc := 497) (v := 1) hx hb d_law_law_497 (by decide) ?_
  refine lv_iadd (pc := 498) hx hb d_law_law_498 ?_
  refine k_cst (v := 1) (by decide) ?_
  refine va_sld (pc := 499) hx hb hX hbl hbA hS (by unfold vp_in; decide) d_law_law_499 ?_
  refine k_cst (v := nI j) hv1 ?_
  refine lv_aload_n (pc := 500) hx hb d_law_law_500 rfl (lv_at hl 3 rfl) ?_
  refine lv_iload_n (pc := 501) hx hb d_law_law_501 rfl (lv_at hl 0 rfl) ?_
  refine lv_iconst (pc := 502) (v := 2) hx hb d_law_law_502 (by decide) ?_
  refine lv_iadd (pc := 503) hx hb d_law_law_503 ?_
  refine k_cst (v := 2) (by decide) ?_
  refine va_sld (pc := 504) hx hb hX hbl hbA hS (by unfold vp_in; decide) d_law_law_504 ?_
  refine k_cst (v := 0) hv2 ?_
  refine lv_aload_n (pc := 505) hx hb d_law_law_505 rfl (lv_at hl 3 rfl) ?_
  refine lv_iload_n (pc := 506) hx hb d_law_law_506 rfl (lv_at hl 0 rfl) ?_
  refine lv_iconst (pc := 507) (v := 3) hx hb d_law_law_507 (by decide) ?_
  refine lv_iadd (pc := 508) hx hb d_law_law_508 ?_
  refine k_cst (v := 3) (by decide) ?_
  refine va_sld (pc := 509) hx hb hX hbl hbA hS (by unfold vp_in; decide) d_law_law_509 ?_
  refine k_cst (v := 0) hv3 ?_
  refine lv_aload_n (pc := 510) hx hb d_law_law_510 rfl (lv_at hl 3 rfl) ?_
  refine lv_iload_n (pc := 511) hx hb d_law_law_511 rfl (lv_at hl 0 rfl) ?_
  refine lv_iconst (pc := 512) (v := 4) hx hb d_law_law_512 (by decide) ?_
  refine lv_iadd (pc := 513) hx hb d_law_law_513 ?_
  refine k_cst (v := 4) (by decide) ?_
  refine va_sld (pc := 514) hx hb hX hbl hbA hS (by unfold vp_in; decide) d_law_law_514 ?_
  refine k_cst (v := v4) hv4 ?_
  refine k_goI (gr := [[(h2, .inr (13, mF qm x0Mo y0Mo))], [(qm 3, .inl (kA 0, 4, .inl (fun _ => 0)))], [(qm 2, .inl (kA 0, 66836, .inl all0))], [(qm 4, .inl (kA 0, 4, .inl (fun _ => 0)))], [(qm 61, .inl (kA 0, 4, .inl (upd (upd (upd (upd (fun _ => 0) 0 (-1)) 1 (-1)) 2 (-1)) 3 (-1))))], [(qm 73, .inl (kA 0, 864, .inl (fun _ => 0)))]]) (k_rV (pc := 515) (As := [.int (nI j), .int 0, .int 0, .int v4]) (rest := []) X (c_Ho_change_z5 l D kA h j v4 (q 0) (q 1) (q 2) (q 3) (q 4) (q 5) (q 6) (q 9) (q 10) (q 13) g (qg 3) (qg 4) (qg 5) (qg 6) (qg 7) (qg 8) (qg 9) (qg 10) (qg 11) (qg 12) (qg 13) (qg 14) (qg 15) (fun _ => 0) (qf 4) (qf 5) (qf 6) (qf 7) (qf 8) (qf 9) (qf 10) (qf 11) (qf 12) (qf 13) (qf 14) (qn 4) (qn 7) (qn 8) (qn 9) (qn 10) (qn 11) (qn 12) (qn 14) (qn 15) (qn 16) (qd 0) (qd 2) (qd 3) (qd 4) (qd 5) (qd 6) (qd 10) (qd 11) (qd 12) (qd 13) (qd 14) (qd 15) (qd 16) (fun _ => 0) hj H.size) rfl wm_954 wm_1 wm_951 wm_952 wm_953 4 (by decide +kernel) ⟨Nat.le_of_ble_eq_true rfl, Nat.le_of_ble_eq_true rfl⟩ rfl rfl (va_recv hK hP (ci := 12) (q0 := 0) rfl rfl) (k_pre hN hK hP hD [0, 1, 2, 3, 4, 5, 6, 7, 8, 9, 10, 11, 12, 13, 14] [15, 16, 17, 18, 19, 20] 21 rfl (by decide) rfl) rfl hl.1 rfl (Nat.le_of_ble_eq_true rfl) d_law_law_515 ⟨Nat.le_of_ble_eq_true rfl, Nat.le_of_ble_eq_true rfl⟩) hP hD hS hA [0, 1, 2, 3, 4, 5, 6, 7, 8, 9, 10, 11, 12, 13, 14] [15, 16, 17, 18, 19, 20] 21 rfl (by decide) rfl rfl (fun r1 u2 H locs hu2 hP hD hS => ?_)
  obtain ⟨hP, hD⟩ := k_left hP hD
  subst hu2
  have hP : va_P D classes (cat [[(h2, .inr (13, mF qm x0Mo y0Mo))], [(qm 3, .inl (kA 0, 4, .inl (fun _ => 0)))], [(qm 2, .inl (kA 0, 66836, .inl all0))], [(qm 4, .inl (kA 0, 4, .inl (fun _ => 0)))], [(qm 61, .inl (kA 0, 4, .inl (upd (upd (upd (upd (fun _ => 0) 0 (-1)) 1 (-1)) 2 (-1)) 3 (-1))))], [(qm 73, .inl (kA 0, 864, .inl (fun _ => 0)))]]) H := hP
  have hD : va_D A (cat [[(h2, .inr (13, mF qm x0Mo y0Mo))], [(qm 3, .inl (kA 0, 4, .inl (fun _ => 0)))], [(qm 2, .inl (kA 0, 66836, .inl all0))], [(qm 4, .inl (kA 0, 4, .inl (fun _ => 0)))], [(qm 61, .inl (kA 0, 4, .inl (upd (upd (upd (upd (fun _ => 0) 0 (-1)) 1 (-1)) 2 (-1)) 3 (-1))))], [(qm 73, .inl (kA 0, 864, .inl (fun _ => 0)))]]) := hD
  refine W.widen (k := 371) (n := 369584) (by omega) (by omega) ?_
  refine lv_aload_n (pc := 518) hx hb d_law_law_518 rfl (lv_at hl 1 rfl) ?_
  refine lv_aload_n (pc := 519) hx hb d_law_law_519 rfl (lv_at hl 3 rfl) ?_
  refine lv_iload_n (pc := 520) hx hb d_law_law_520 rfl (lv_at hl 0 rfl) ?_
  refine lv_iconst (pc := 521) (v := 1) hx hb d_law_law_521 (by decide) ?_
  refine lv_iadd (pc := 522) hx hb d_law_law_522 ?_
  refine k_cst (v := 1) (by decide) ?_
  refine va_sld (pc := 523) hx hb hX hbl hbA hS (by unfold vp_in; decide) d_law_law_523 ?_
  refine k_cst (v := nI j) hv1 ?_
  refine lv_aload_n (pc := 524) hx hb d_law_law_524 rfl (lv_at hl 3 rfl) ?_
  refine lv_iload_n (pc := 525) hx hb d_law_law_525 rfl (lv_at hl 0 rfl) ?_
  refine lv_iconst (pc := 526) (v := 2) hx hb d_law_law_526 (by decide) ?_
  refine lv_iadd (pc := 527) hx hb d_law_law_527 ?_
  refine k_cst (v := 2) (by decide) ?_
  refine va_sld (pc := 528) hx hb hX hbl hbA hS (by unfold vp_in; decide) d_law_law_528 ?_
  refine k_cst (v := 0) hv2 ?_
  refine lv_aload_n (pc := 529) hx hb d_law_law_529 rfl (lv_at hl 3 rfl) ?_
  refine lv_iload_n (pc := 530) hx hb d_law_law_530 rfl (lv_at hl 0 rfl) ?_
  refine lv_iconst (pc := 531) (v := 3) hx hb d_law_law_531 (by decide) ?_
  refine lv_iadd (pc := 532) hx hb d_law_law_532 ?_
  refine k_cst (v := 3) (by decide) ?_
  refine va_sld (pc := 533) hx hb hX hbl hbA hS (by unfold vp_in; decide) d_law_law_533 ?_
  refine k_cst (v := 0) hv3 ?_
  refine lv_aload_n (pc := 534) hx hb d_law_law_534 rfl (lv_at hl 3 rfl) ?_
  refine lv_iload_n (pc := 535) hx hb d_law_law_535 rfl (lv_at hl 0 rfl) ?_
  refine lv_iconst (pc := 536) (v := 4) hx hb d_law_law_536 (by decide) ?_
  refine lv_iadd (pc := 537) hx hb d_law_law_537 ?_
  refine k_cst (v := 4) (by decide) ?_
  refine va_sld (pc := 538) hx hb hX hbl hbA hS (by unfold vp_in; decide) d_law_law_538 ?_
  refine k_cst (v := v4) hv4 ?_
  refine k_goI (gr := []) (k_rV (pc := 539) (As := [.int (nI j), .int 0, .int 0, .int v4]) (rest := [.int 0]) X (c_Mo_change_z5 l D kA h2 j v4 qm (fun _ => 0) (upd (upd (upd (upd (fun _ => 0) 0 (-1)) 1 (-1)) 2 (-1)) 3 (-1)) (fun _ => 0) hj H.size) rfl wm_3087 wm_9 wm_3084 wm_3085 wm_3086 4 (by decide +kernel) ⟨Nat.le_of_ble_eq_true rfl, Nat.le_of_ble_eq_true rfl⟩ rfl rfl (va_recv hK hP (ci := 13) (q0 := 0) rfl rfl) (k_pre hN hK hP hD [0, 1, 2, 3, 4, 5] [] 6 rfl (by decide) rfl) rfl hl.1 rfl (Nat.le_of_ble_eq_true rfl) d_law_law_539 ⟨Nat.le_of_ble_eq_true rfl, Nat.le_of_ble_eq_true rfl⟩) hP hD hS hA [0, 1, 2, 3, 4, 5] [] 6 rfl (by decide) rfl rfl (fun r3 u4 H locs hu4 hP hD hS => ?_)
  obtain ⟨hP, hD⟩ := k_left hP hD
  subst hu4
  have hP : va_P D classes (cat []) H := hP
  have hD : va_D A (cat []) := hD
  refine lv_icmp_eq (pc := 542) (tgt := 1295) hx hb d_law_law_542 (by decide) (fun _ => ?_) (fun c1 => absurd (by decide) c1)
  rw [hAe] at hS
  exact law_exit l C0 (Nat.le_of_ble_eq_true rfl) (Nat.le_of_ble_eq_true rfl) hS hl
set_option maxRecDepth 100000 in
set_option maxHeartbeats 4000000 in
/-- DrawingHouse$Graph.mayAlter(III)Z -/
theorem c_Gr_mayAlter_z5 (l : Launch) (D : va_G) (kA : Nat → ClassId) (g : Nat → Nat → Nat) (j : Nat) (v3 : Int32) (v4 : Int32) (a0 : Nat) (a1 : Nat) (a2 : Nat) (a3 : Nat) (a4 : Nat) (a5 : Nat) (a6 : Nat) (a7 : Nat) (a8 : Nat) (a9 : Nat) (a10 : Nat) (a11 : Nat) (a12 : Nat) (hj : j < 4) : Ci l y_Gr_mayAlter z_Gr_mayAlter { frames := 1, cells := 0, slots := 0, locals := 21 } D classes (TY kA) [.ref (g 0 j), .int 1, .int v3, .int v4] [[(g 0 j, .inr (3, [.int 0, .int 0, .int 1, .ref a0, .ref a1, .ref a2, .ref a3, .ref a4, .ref a5, .ref a6, .ref a7, .ref a8, .ref a9, .ref a10, .ref a11, .ref a12, .null, .int 0, .int 0]))]] (fun r (_ : Unit) => r = 0) (fun u => [[(g 0 j, .inr (3, [.int 0, .int 0, .int 1, .ref a0, .ref a1, .ref a2, .ref a3, .ref a4, .ref a5, .ref a6, .ref a7, .ref a8, .ref a9, .ref a10, .ref a11, .ref a12, .null, .int 0, .int 0]))]]) 0 0 := by
  intro sz
  refine k_met (cc := b_Gr_mayAlter) (maxL := 4) (ret := (some .boolean)) (by decide) rfl (Nat.le_of_ble_eq_true rfl) (fun p e s m below meth c ls X hl hB => ?_)
  obtain ⟨hsz, hP, hK, hD0, hN⟩ := hB
  subst hsz
  have hD := hD0.self (sz := s.heap.size)
  generalize hAe : va_A (cat [[(g 0 j, .inr (3, [.int 0, .int 0, .int 1, .ref a0, .ref a1, .ref a2, .ref a3, .ref a4, .ref a5, .ref a6, .ref a7, .ref a8, .ref a9, .ref a10, .ref a11, .ref a12, .null, .int 0, .int 0]))]]) s.heap.size = A at hD ⊢
  have hA : ∀ q : Nat, s.heap.size ≤ q → A q := fun q h => by rw [← hAe]; exact Or.inr h
  have hS : va_S A s.heap s.heap [] := va_S.rf
  obtain ⟨hx, hb, hml, hown, hts, hr, hlk, hnm⟩ := id X
  have hl : lv_has ls 4 [(0, .ref (g 0 j)), (1, .int 1), (2, .int v3), (3, .int v4)] := hl
  have hP : va_P D classes (cat [[(g 0 j, .inr (3, [.int 0, .int 0, .int 1, .ref a0, .ref a1, .ref a2, .ref a3, .ref a4, .ref a5, .ref a6, .ref a7, .ref a8, .ref a9, .ref a10, .ref a11, .ref a12, .null, .int 0, .int 0]))]]) s.heap := hP
  have hK : va_K D classes (TY kA) s := hK
  refine lv_iload_n (pc := 0) hx hb d_Gr_mayAlter_0 rfl (lv_at hl 1 rfl) ?_
  refine lv_tableIn (pc := 1) (tgt := 78) hx hb d_Gr_mayAlter_1 (by decide) (by decide) rfl (by decide) ?_
  refine lv_aload_n (pc := 78) hx hb d_Gr_mayAlter_78 rfl (lv_at hl 0 rfl) ?_
  refine lv_iload_n (pc := 79) hx hb d_Gr_mayAlter_79 rfl (lv_at hl 2 rfl) ?_
  refine k_goI (gr := []) (k_rV (pc := 80) (As := [.int v3]) (rest := []) X (c_Gr_hasNode_z2 l D kA g j v3 a0 a1 a2 a3 a4 a5 a6 a7 a8 a9 a10 a11 a12 hj s.heap.size) rfl wm_921 wm_3 wm_969 wm_919 wm_920 1 (by decide +kernel) ⟨Nat.le_of_ble_eq_true rfl, Nat.le_of_ble_eq_true rfl⟩ rfl rfl (va_recv hK hP (ci := 3) (q0 := 0) rfl rfl) (k_pre hN hK hP hD [0] [] 1 rfl (by decide) rfl) rfl hl.1 rfl (Nat.le_of_ble_eq_true rfl) d_Gr_mayAlter_80 ⟨Nat.le_of_ble_eq_true rfl, Nat.le_of_ble_eq_true rfl⟩) hP hD hS hA [0] [] 1 rfl (by decide) rfl rfl (fun r1 u2 H locs hu2 hP hD hS => ?_)
  subst hu2
  have hP : va_P D classes (cat [[(g 0 j, .inr (3, [.int 0, .int 0, .int 1, .ref a0, .ref a1, .ref a2, .ref a3, .ref a4, .ref a5, .ref a6, .ref a7, .ref a8, .ref a9, .ref a10, .ref a11, .ref a12, .null, .int 0, .int 0]))]]) H := hP
  have hD : va_D A (cat [[(g 0 j, .inr (3, [.int 0, .int 0, .int 1, .ref a0, .ref a1, .ref a2, .ref a3, .ref a4, .ref a5, .ref a6, .ref a7, .ref a8, .ref a9, .ref a10, .ref a11, .ref a12, .null, .int 0, .int 0]))]]) := hD
  refine lv_if_eq (pc := 83) (tgt := 122) hx hb d_Gr_mayAlter_83 (by decide) (fun c1 => ?_) (fun c1 => absurd (by decide) c1)
  refine lv_iconst (pc := 122) (v := 0) hx hb d_Gr_mayAlter_122 (by decide) ?_
  refine W.widen (k := 0) (n := 0) (Nat.le_of_ble_eq_true rfl) (Nat.le_of_ble_eq_true rfl) ?_
  exact W.zret (v := 0) hx hb hr rfl (fun t ht hW => ⟨⟨0, (), rfl, rfl, by rw [ht]; exact hP, va_K.moved hW.alike hK, hD⟩, hS.F ht⟩) hS.2.2 d_Gr_mayAlter_123
set_option maxRecDepth 100000 in
set_option maxHeartbeats 4000000 in
/-- DrawingHouse.change(IIII)I -/
theorem c_Ho_change_z6 (l : Launch) (D : va_G) (kA : Nat → ClassId) (a0 : Nat) (j : Nat) (v3 : Int32) (v4 : Int32) (a1 : Nat) (a2 : Nat) (a3 : Nat) (a4 : Nat) (a5 : Nat) (a6 : Nat) (a7 : Nat) (a8 : Nat) (a9 : Nat) (a10 : Nat) (g : Nat → Nat → Nat) (a11 : Nat) (a12 : Nat) (a13 : Nat) (a14 : Nat) (a15 : Nat) (a16 : Nat) (a17 : Nat) (a18 : Nat) (a19 : Nat) (a20 : Nat) (a21 : Nat) (a22 : Nat) (a23 : Nat) (hj : j < 4) : Ci l y_Ho_change z_Ho_change { frames := 2, cells := 0, slots := 0, locals := 44 } D classes (TY kA) [.ref a0, .int (nI j), .int 1, .int v3, .int v4] [[(a0, .inr (12, [.ref a1, .ref a2, .ref a3, .ref a4, .ref a5, .ref a6, .ref a7, .int 0, .int ((-1)), .ref a8, .ref a9, .int 0, .int 0, .ref a10, .int 0, .int 0, .null, .null, .null, .null, .null]))], [(a1, .inl (kA 4, 4, .inr (.inr (.inr (.inr (rr (g 0)))))))], [(g 0 j, .inr (3, [.int 0, .int 0, .int 1, .ref a11, .ref a12, .ref a13, .ref a14, .ref a15, .ref a16, .ref a17, .ref a18, .ref a19, .ref a20, .ref a21, .ref a22, .ref a23, .null, .int 0, .int 0]))]] (fun r (_ : List va_W) => r = (-1)) (fun u => u) 0 0 := by
  intro sz
  refine k_met (cc := b_Ho_change) (maxL := 6) (ret := (some .int)) (by decide) rfl (Nat.le_of_ble_eq_true rfl) (fun p e s m below meth c ls X hl hB => ?_)
  obtain ⟨hsz, hP, hK, hD0, hN⟩ := hB
  subst hsz
  have hD := hD0.self (sz := s.heap.size)
  generalize hAe : va_A (cat [[(a0, .inr (12, [.ref a1, .ref a2, .ref a3, .ref a4, .ref a5, .ref a6, .ref a7, .int 0, .int ((-1)), .ref a8, .ref a9, .int 0, .int 0, .ref a10, .int 0, .int 0, .null, .null, .null, .null, .null]))], [(a1, .inl (kA 4, 4, .inr (.inr (.inr (.inr (rr (g 0)))))))], [(g 0 j, .inr (3, [.int 0, .int 0, .int 1, .ref a11, .ref a12, .ref a13, .ref a14, .ref a15, .ref a16, .ref a17, .ref a18, .ref a19, .ref a20, .ref a21, .ref a22, .ref a23, .null, .int 0, .int 0]))]]) s.heap.size = A at hD ⊢
  have hA : ∀ q : Nat, s.heap.size ≤ q → A q := fun q h => by rw [← hAe]; exact Or.inr h
  have hS : va_S A s.heap s.heap [] := va_S.rf
  obtain ⟨hx, hb, hml, hown, hts, hr, hlk, hnm⟩ := id X
  have hl : lv_has ls 6 [(0, .ref a0), (1, .int (nI j)), (2, .int 1), (3, .int v3), (4, .int v4)] := hl
  have hP : va_P D classes (cat [[(a0, .inr (12, [.ref a1, .ref a2, .ref a3, .ref a4, .ref a5, .ref a6, .ref a7, .int 0, .int ((-1)), .ref a8, .ref a9, .int 0, .int 0, .ref a10, .int 0, .int 0, .null, .null, .null, .null, .null]))], [(a1, .inl (kA 4, 4, .inr (.inr (.inr (.inr (rr (g 0)))))))], [(g 0 j, .inr (3, [.int 0, .int 0, .int 1, .ref a11, .ref a12, .ref a13, .ref a14, .ref a15, .ref a16, .ref a17, .ref a18, .ref a19, .ref a20, .ref a21, .ref a22, .ref a23, .null, .int 0, .int 0]))]]) s.heap := hP
  have hK : va_K D classes (TY kA) s := hK
  refine lv_iload_n (pc := 0) hx hb d_Ho_change_0 rfl (lv_at hl 1 rfl) ?_
  refine k_goI (gr := [[(a0, .inr (12, [.ref a1, .ref a2, .ref a3, .ref a4, .ref a5, .ref a6, .ref a7, .int 0, .int ((-1)), .ref a8, .ref a9, .int 0, .int 0, .ref a10, .int 0, .int 0, .null, .null, .null, .null, .null]))], [(a1, .inl (kA 4, 4, .inr (.inr (.inr (.inr (rr (g 0)))))))], [(g 0 j, .inr (3, [.int 0, .int 0, .int 1, .ref a11, .ref a12, .ref a13, .ref a14, .ref a15, .ref a16, .ref a17, .ref a18, .ref a19, .ref a20, .ref a21, .ref a22, .ref a23, .null, .int 0, .int 0]))]]) (k_rS (pc := 1) (As := [.int (nI j)]) (rest := []) X (c_Ho_isPlace l D kA (nI j) s.heap.size) rfl wm_633 wm_1 wm_631 wm_632 1 (by decide +kernel) ⟨Nat.le_of_ble_eq_true rfl, Nat.le_of_ble_eq_true rfl⟩ rfl rfl (k_pre hN hK hP hD [] [0, 1, 2] 3 rfl (by decide) rfl) rfl hl.1 rfl (Nat.le_of_ble_eq_true rfl) d_Ho_change_1 ⟨Nat.le_of_ble_eq_true rfl, Nat.le_of_ble_eq_true rfl⟩) hP hD hS hA [] [0, 1, 2] 3 rfl (by decide) rfl rfl (fun r1 u2 H locs hu2 hP hD hS => ?_)
  subst hu2
  refine k_cst (v := 1) (place_ok hj) ?_
  have hP : va_P D classes (cat [[(a0, .inr (12, [.ref a1, .ref a2, .ref a3, .ref a4, .ref a5, .ref a6, .ref a7, .int 0, .int ((-1)), .ref a8, .ref a9, .int 0, .int 0, .ref a10, .int 0, .int 0, .null, .null, .null, .null, .null]))], [(a1, .inl (kA 4, 4, .inr (.inr (.inr (.inr (rr (g 0)))))))], [(g 0 j, .inr (3, [.int 0, .int 0, .int 1, .ref a11, .ref a12, .ref a13, .ref a14, .ref a15, .ref a16, .ref a17, .ref a18, .ref a19, .ref a20, .ref a21, .ref a22, .ref a23, .null, .int 0, .int 0]))]]) H := hP
  have hD : va_D A (cat [[(a0, .inr (12, [.ref a1, .ref a2, .ref a3, .ref a4, .ref a5, .ref a6, .ref a7, .int 0, .int ((-1)), .ref a8, .ref a9, .int 0, .int 0, .ref a10, .int 0, .int 0, .null, .null, .null, .null, .null]))], [(a1, .inl (kA 4, 4, .inr (.inr (.inr (.inr (rr (g 0)))))))], [(g 0 j, .inr (3, [.int 0, .int 0, .int 1, .ref a11, .ref a12, .ref a13, .ref a14, .ref a15, .ref a16, .ref a17, .ref a18, .ref a19, .ref a20, .ref a21, .ref a22, .ref a23, .null, .int 0, .int 0]))]]) := hD
  refine lv_if_eq (pc := 4) (tgt := 23) hx hb d_Ho_change_4 (by decide) (fun c1 => absurd c1 (by decide)) (fun c1 => ?_)
  refine lv_aload_n (pc := 7) hx hb d_Ho_change_7 rfl (lv_at hl 0 rfl) ?_
  refine k_get (pc := 8) X hK hP 0 rfl rfl i_Ho 0 (by decide) wm_555 rfl rfl d_Ho_change_8 ?_
  refine lv_iload_n (pc := 11) hx hb d_Ho_change_11 rfl (lv_at hl 1 rfl) ?_
  refine k_ald (pc := 12) hx hb hK hP 1 4 rfl rfl (j) rfl (by omega) (by decide) (rr_at (by omega)) d_Ho_change_12 ?_
  refine lv_iload_n (pc := 13) hx hb d_Ho_change_13 rfl (lv_at hl 2 rfl) ?_
  refine lv_iload_n (pc := 14) hx hb d_Ho_change_14 rfl (lv_at hl 3 rfl) ?_
  refine lv_iload (pc := 15) hx hb d_Ho_change_15 (lv_at hl 4 rfl) ?_
  refine k_goI (gr := [[(a0, .inr (12, [.ref a1, .ref a2, .ref a3, .ref a4, .ref a5, .ref a6, .ref a7, .int 0, .int ((-1)), .ref a8, .ref a9, .int 0, .int 0, .ref a10, .int 0, .int 0, .null, .null, .null, .null, .null]))], [(a1, .inl (kA 4, 4, .inr (.inr (.inr (.inr (rr (g 0)))))))]]) (k_rV (pc := 17) (As := [.int 1, .int v3, .int v4]) (rest := []) X (c_Gr_mayAlter_z5 l D kA g j v3 v4 a11 a12 a13 a14 a15 a16 a17 a18 a19 a20 a21 a22 a23 hj H.size) rfl wm_958 wm_3 wm_955 wm_956 wm_957 3 (by decide +kernel) ⟨Nat.le_of_ble_eq_true rfl, Nat.le_of_ble_eq_true rfl⟩ rfl rfl (va_recv hK hP (ci := 3) (q0 := 2) rfl rfl) (k_pre hN hK hP hD [2] [0, 1] 3 rfl (by decide) rfl) rfl hl.1 rfl (Nat.le_of_ble_eq_true rfl) d_Ho_change_17 ⟨Nat.le_of_ble_eq_true rfl, Nat.le_of_ble_eq_true rfl⟩) hP hD hS hA [2] [0, 1] 3 rfl (by decide) rfl rfl (fun r3 u4 H locs hu4 hP hD hS => ?_)
  subst hu4
  have hP : va_P D classes (cat [[(a0, .inr (12, [.ref a1, .ref a2, .ref a3, .ref a4, .ref a5, .ref a6, .ref a7, .int 0, .int ((-1)), .ref a8, .ref a9, .int 0, .int 0, .ref a10, .int 0, .int 0, .null, .null, .null, .null, .null]))], [(a1, .inl (kA 4, 4, .inr (.inr (.inr (.inr (rr (g 0)))))))], [(g 0 j, .inr (3, [.int 0, .int 0, .int 1, .ref a11, .ref a12, .ref a13, .ref a14, .ref a15, .ref a16, .ref a17, .ref a18, .ref a19, .ref a20, .ref a21, .ref a22, .ref a23, .null, .int 0, .int 0]))]]) H := hP
  have hD : va_D A (cat [[(a0, .inr (12, [.ref a1, .ref a2, .ref a3, .ref a4, .ref a5, .ref a6, .ref a7, .int 0, .int ((-1)), .ref a8, .ref a9, .int 0, .int 0, .ref a10, .int 0, .int 0, .null, .null, .null, .null, .null]))], [(a1, .inl (kA 4, 4, .inr (.inr (.inr (.inr (rr (g 0)))))))], [(g 0 j, .inr (3, [.int 0, .int 0, .int 1, .ref a11, .ref a12, .ref a13, .ref a14, .ref a15, .ref a16, .ref a17, .ref a18, .ref a19, .ref a20, .ref a21, .ref a22, .ref a23, .null, .int 0, .int 0]))]]) := hD
  refine lv_if_ne (pc := 20) (tgt := 25) hx hb d_Ho_change_20 (by decide) (fun c1 => absurd (by decide) c1) (fun c1 => ?_)
  refine lv_iconst (pc := 23) (v := -1) hx hb d_Ho_change_23 (by decide) ?_
  refine W.widen (k := 0) (n := 0) (Nat.le_of_ble_eq_true rfl) (Nat.le_of_ble_eq_true rfl) ?_
  exact W.iret (v := (-1)) hx hb hr (fun t ht hW => ⟨⟨(-1), [[(a0, .inr (12, [.ref a1, .ref a2, .ref a3, .ref a4, .ref a5, .ref a6, .ref a7, .int 0, .int ((-1)), .ref a8, .ref a9, .int 0, .int 0, .ref a10, .int 0, .int 0, .null, .null, .null, .null, .null]))], [(a1, .inl (kA 4, 4, .inr (.inr (.inr (.inr (rr (g 0)))))))], [(g 0 j, .inr (3, [.int 0, .int 0, .int 1, .ref a11, .ref a12, .ref a13, .ref a14, .ref a15, .ref a16, .ref a17, .ref a18, .ref a19, .ref a20, .ref a21, .ref a22, .ref a23, .null, .int 0, .int 0]))]], rfl, rfl, by rw [ht]; exact hP, va_K.moved hW.alike hK, hD⟩, hS.F ht⟩) hS.2.2 d_Ho_change_24
set_option maxRecDepth 100000 in
set_option maxHeartbeats 4000000 in
/-- DrawingHouseModel.change(IIII)I -/
theorem c_Mo_change_z6 (l : Launch) (D : va_G) (kA : Nat → ClassId) (a0 : Nat) (j : Nat) (v3 : Int32) (v4 : Int32) (qm : Nat → Nat) (hj : j < 4) : Ci l y_Mo_change z_Mo_change { frames := 2, cells := 0, slots := 0, locals := 42 } D classes (TY kA) [.ref a0, .int (nI j), .int 1, .int v3, .int v4] [[(a0, .inr (13, mF qm x0Mo y0Mo))], [(qm 3, .inl (kA 0, 4, .inl (fun _ => 0)))], [(qm 2, .inl (kA 0, 66836, .inl all0))]] (fun r (_ : List va_W) => r = (-1)) (fun u => u) 0 0 := by
  intro sz
  refine k_met (cc := b_Mo_change) (maxL := 5) (ret := (some .int)) (by decide) rfl (Nat.le_of_ble_eq_true rfl) (fun p e s m below meth c ls X hl hB => ?_)
  obtain ⟨hsz, hP, hK, hD0, hN⟩ := hB
  subst hsz
  have hD := hD0.self (sz := s.heap.size)
  generalize hAe : va_A (cat [[(a0, .inr (13, mF qm x0Mo y0Mo))], [(qm 3, .inl (kA 0, 4, .inl (fun _ => 0)))], [(qm 2, .inl (kA 0, 66836, .inl all0))]]) s.heap.size = A at hD ⊢
  have hA : ∀ q : Nat, s.heap.size ≤ q → A q := fun q h => by rw [← hAe]; exact Or.inr h
  have hS : va_S A s.heap s.heap [] := va_S.rf
  obtain ⟨hx, hb, hml, hown, hts, hr, hlk, hnm⟩ := id X
  have hl : lv_has ls 5 [(0, .ref a0), (1, .int (nI j)), (2, .int 1), (3, .int v3), (4, .int v4)] := hl
  have hP : va_P D classes (cat [[(a0, .inr (13, mF qm x0Mo y0Mo))], [(qm 3, .inl (kA 0, 4, .inl (fun _ => 0)))], [(qm 2, .inl (kA 0, 66836, .inl all0))]]) s.heap := hP
  have hK : va_K D classes (TY kA) s := hK
  refine lv_iload_n (pc := 0) hx hb d_Mo_change_0 rfl (lv_at hl 1 rfl) ?_
  refine k_goI (gr := [[(a0, .inr (13, mF qm x0Mo y0Mo))], [(qm 3, .inl (kA 0, 4, .inl (fun _ => 0)))], [(qm 2, .inl (kA 0, 66836, .inl all0))]]) (k_rS (pc := 1) (As := [.int (nI j)]) (rest := []) X (c_Mo_isPlace l D kA (nI j) s.heap.size) rfl wm_2978 wm_9 wm_2976 wm_2977 1 (by decide +kernel) ⟨Nat.le_of_ble_eq_true rfl, Nat.le_of_ble_eq_true rfl⟩ rfl rfl (k_pre hN hK hP hD [] [0, 1, 2] 3 rfl (by decide) rfl) rfl hl.1 rfl (Nat.le_of_ble_eq_true rfl) d_Mo_change_1 ⟨Nat.le_of_ble_eq_true rfl, Nat.le_of_ble_eq_true rfl⟩) hP hD hS hA [] [0, 1, 2] 3 rfl (by decide) rfl rfl (fun r1 u2 H locs hu2 hP hD hS => ?_)
  subst hu2
  refine k_cst (v := 1) (placeM_ok hj) ?_
  have hP : va_P D classes (cat [[(a0, .inr (13, mF qm x0Mo y0Mo))], [(qm 3, .inl (kA 0, 4, .inl (fun _ => 0)))], [(qm 2, .inl (kA 0, 66836, .inl all0))]]) H := hP
  have hD : va_D A (cat [[(a0, .inr (13, mF qm x0Mo y0Mo))], [(qm 3, .inl (kA 0, 4, .inl (fun _ => 0)))], [(qm 2, .inl (kA 0, 66836, .inl all0))]]) := hD
  refine lv_if_ne (pc := 4) (tgt := 9) hx hb d_Mo_change_4 (by decide) (fun c1 => ?_) (fun c1 => absurd c1 (by decide))
  refine lv_aload_n (pc := 9) hx hb d_Mo_change_9 rfl (lv_at hl 0 rfl) ?_
  refine lv_iload_n (pc := 10) hx hb d_Mo_change_10 rfl (lv_at hl 1 rfl) ?_
  refine k_goV (gr := [[(qm 2, .inl (kA 0, 66836, .inl all0))]]) (k_rV (pc := 11) (As := [.int (nI j)]) (rest := []) X (c_Mo_take_z1 l D kA a0 j qm hj H.size) rfl wm_3091 wm_9 wm_3088 wm_3090 wv_14_2 1 (by decide +kernel) ⟨Nat.le_of_ble_eq_true rfl, Nat.le_of_ble_eq_true rfl⟩ rfl rfl (va_recv hK hP (ci := 13) (q0 := 0) rfl rfl) (k_pre hN hK hP hD [0, 1] [2] 3 rfl (by decide) rfl) rfl hl.1 rfl (Nat.le_of_ble_eq_true rfl) d_Mo_change_11 ⟨Nat.le_of_ble_eq_true rfl, Nat.le_of_ble_eq_true rfl⟩) hP hD hS hA [0, 1] [2] 3 rfl (by decide) rfl rfl (fun u3 H locs hu3 hP hD hS => ?_)
  have hP : va_P D classes (cat [[(qm 2, .inl (kA 0, 66836, .inl all0))], [(a0, .inr (13, mF qm (va_up x0Mo 5 (nI (539 * (31 * j + 0)))) y0Mo))], [(qm 3, .inl (kA 0, 4, .inl (fun _ => 0)))]]) H := hP
  have hD : va_D A (cat [[(qm 2, .inl (kA 0, 66836, .inl all0))], [(a0, .inr (13, mF qm (va_up x0Mo 5 (nI (539 * (31 * j + 0)))) y0Mo))], [(qm 3, .inl (kA 0, 4, .inl (fun _ => 0)))]]) := hD
  refine lv_iload_n (pc := 14) hx hb d_Mo_change_14 rfl (lv_at hl 2 rfl) ?_
  refine lv_tableIn (pc := 15) (tgt := 67) hx hb d_Mo_change_15 (by decide) (by decide) rfl (by decide) ?_
  refine lv_iload_n (pc := 67) hx hb d_Mo_change_67 rfl (lv_at hl 3 rfl) ?_
  refine lv_iconst (pc := 68) (v := 0) hx hb d_Mo_change_68 (by decide) ?_
  refine lv_aload_n (pc := 69) hx hb d_Mo_change_69 rfl (lv_at hl 0 rfl) ?_
  refine k_goI (gr := [[(qm 3, .inl (kA 0, 4, .inl (fun _ => 0)))]]) (k_rV (pc := 70) (As := []) (rest := [.int 0, .int v3]) X (c_Mo_nodes_z1 l D kA a0 qm j hj H.size) rfl wm_3025 wm_9 wm_3022 wm_3024 wv_13_3 0 (by decide +kernel) ⟨Nat.le_of_ble_eq_true rfl, Nat.le_of_ble_eq_true rfl⟩ rfl rfl (va_recv hK hP (ci := 13) (q0 := 1) rfl rfl) (k_pre hN hK hP hD [1, 0] [2] 3 rfl (by decide) rfl) rfl hl.1 rfl (Nat.le_of_ble_eq_true rfl) d_Mo_change_70 ⟨Nat.le_of_ble_eq_true rfl, Nat.le_of_ble_eq_true rfl⟩) hP hD hS hA [1, 0] [2] 3 rfl (by decide) rfl rfl (fun r4 u5 H locs hu5 hP hD hS => ?_)
  subst hu5
  have hP : va_P D classes (cat [[(qm 3, .inl (kA 0, 4, .inl (fun _ => 0)))], [(a0, .inr (13, mF qm (va_up x0Mo 5 (nI (539 * (31 * j + 0)))) y0Mo))], [(qm 2, .inl (kA 0, 66836, .inl all0))]]) H := hP
  have hD : va_D A (cat [[(qm 3, .inl (kA 0, 4, .inl (fun _ => 0)))], [(a0, .inr (13, mF qm (va_up x0Mo 5 (nI (539 * (31 * j + 0)))) y0Mo))], [(qm 2, .inl (kA 0, 66836, .inl all0))]]) := hD
  refine lv_iconst (pc := 73) (v := 1) hx hb d_Mo_change_73 (by decide) ?_
  refine lv_isub (pc := 74) hx hb d_Mo_change_74 ?_
  refine k_cst (v := (-1)) (by decide) ?_
  refine k_goI (gr := [[(qm 3, .inl (kA 0, 4, .inl (fun _ => 0)))], [(a0, .inr (13, mF qm (va_up x0Mo 5 (nI (539 * (31 * j + 0)))) y0Mo))], [(qm 2, .inl (kA 0, 66836, .inl all0))]]) (k_rS (pc := 75) (As := [.int v3, .int 0, .int ((-1))]) (rest := []) X (c_Mo_in_z5 l D kA v3 H.size) rfl wm_2971 wm_9 wm_2969 wm_2970 3 (by decide +kernel) ⟨Nat.le_of_ble_eq_true rfl, Nat.le_of_ble_eq_true rfl⟩ rfl rfl (k_pre hN hK hP hD [] [0, 1, 2] 3 rfl (by decide) rfl) rfl hl.1 rfl (Nat.le_of_ble_eq_true rfl) d_Mo_change_75 ⟨Nat.le_of_ble_eq_true rfl, Nat.le_of_ble_eq_true rfl⟩) hP hD hS hA [] [0, 1, 2] 3 rfl (by decide) rfl rfl (fun r6 u7 H locs hu7 hP hD hS => ?_)
  subst hu7
  have hP : va_P D classes (cat [[(qm 3, .inl (kA 0, 4, .inl (fun _ => 0)))], [(a0, .inr (13, mF qm (va_up x0Mo 5 (nI (539 * (31 * j + 0)))) y0Mo))], [(qm 2, .inl (kA 0, 66836, .inl all0))]]) H := hP
  have hD : va_D A (cat [[(qm 3, .inl (kA 0, 4, .inl (fun _ => 0)))], [(a0, .inr (13, mF qm (va_up x0Mo 5 (nI (539 * (31 * j + 0)))) y0Mo))], [(qm 2, .inl (kA 0, 66836, .inl all0))]]) := hD
  refine lv_if_eq (pc := 78) (tgt := 121) hx hb d_Mo_change_78 (by decide) (fun c1 => ?_) (fun c1 => absurd (by decide) c1)
  refine lv_iconst (pc := 121) (v := -1) hx hb d_Mo_change_121 (by decide) ?_
  refine W.widen (k := 0) (n := 0) (Nat.le_of_ble_eq_true rfl) (Nat.le_of_ble_eq_true rfl) ?_
  exact W.iret (v := (-1)) hx hb hr (fun t ht hW => ⟨⟨(-1), [[(qm 3, .inl (kA 0, 4, .inl (fun _ => 0)))], [(a0, .inr (13, mF qm (va_up x0Mo 5 (nI (539 * (31 * j + 0)))) y0Mo))], [(qm 2, .inl (kA 0, 66836, .inl all0))]], rfl, rfl, by rw [ht]; exact hP, va_K.moved hW.alike hK, hD⟩, hS.F ht⟩) hS.2.2 d_Mo_change_122
set_option maxRecDepth 100000 in
set_option maxHeartbeats 4000000 in
/-- change, a fresh house -/
theorem lf_change_6 {p : Program} {e : Env} {s : State} {m : MethodId} {below : List Frame} {meth : Method} {c : Code} (l : Launch) {b : Nat} {xs : Nat → Int32} (C0 : lw_At p s m meth c b 6 xs) {D : va_G} {kA : Nat → ClassId} (h : Nat) (h2 : Nat) (q : Nat → Nat) (qg : Nat → Nat) (qm : Nat → Nat) (g : Nat → Nat → Nat) (j : Nat) (v3 : Int32) (v4 : Int32) (hj : j < 4) (hv1 : xs 1 = nI j) (hv2 : xs 2 = 1) (hv3 : xs 3 = v3) (hv4 : xs 4 = v4) {H : Heap} {locs : List Loc} {ls : Array Slot} (hK : va_K D classes (TY kA) s) (hN : nst s) (hP : va_P D classes (cat [[(h, .inr (12, [.ref (q 0), .ref (q 1), .ref (q 2), .ref (q 3), .ref (q 4), .ref (q 5), .ref (q 6), .int 0, .int ((-1)), .ref (q 9), .ref (q 10), .int 0, .int 0, .ref (q 13), .int 0, .int 0, .null, .null, .null, .null, .null]))], [(q 0, .inl (kA 4, 4, .inr (.inr (.inr (.inr (rr (g 0)))))))], [(g 0 j, .inr (3, [.int 0, .int 0, .int 1, .ref (qg 3), .ref (qg 4), .ref (qg 5), .ref (qg 6), .ref (qg 7), .ref (qg 8), .ref (qg 9), .ref (qg 10), .ref (qg 11), .ref (qg 12), .ref (qg 13), .ref (qg 14), .ref (qg 15), .null, .int 0, .int 0]))], [(h2, .inr (13, mF qm x0Mo y0Mo))], [(qm 3, .inl (kA 0, 4, .inl (fun _ => 0)))], [(qm 2, .inl (kA 0, 66836, .inl all0))]]) H) (hD : va_D (fun q : Nat => s.heap.size ≤ q) (cat [[(h, .inr (12, [.ref (q 0), .ref (q 1), .ref (q 2), .ref (q 3), .ref (q 4), .ref (q 5), .ref (q 6), .int 0, .int ((-1)), .ref (q 9), .ref (q 10), .int 0, .int 0, .ref (q 13), .int 0, .int 0, .null, .null, .null, .null, .null]))], [(q 0, .inl (kA 4, 4, .inr (.inr (.inr (.inr (rr (g 0)))))))], [(g 0 j, .inr (3, [.int 0, .int 0, .int 1, .ref (qg 3), .ref (qg 4), .ref (qg 5), .ref (qg 6), .ref (qg 7), .ref (qg 8), .ref (qg 9), .ref (qg 10), .ref (qg 11), .ref (qg 12), .ref (qg 13), .ref (qg 14), .ref (qg 15), .null, .int 0, .int 0]))], [(h2, .inr (13, mF qm x0Mo y0Mo))], [(qm 3, .inl (kA 0, 4, .inl (fun _ => 0)))], [(qm 2, .inl (kA 0, 66836, .inl all0))]])) (hS : va_S (fun q : Nat => s.heap.size ≤ q) s.heap H locs) (hl : lv_has ls 4 [(3, .int 0), (2, .ref h2), (1, .ref h), (0, .ref b)]) : W p l e room_1 s m #[Value.ref b] below meth c H locs 368 365796 (lw_Z below #[Value.ref b] s) (F0 m 494 ls []) := by
  obtain ⟨hx, hb, hr, hml, hown, hts0, hX, hbl, hlocks, hgv⟩ := id C0
  have hts : ∀ w ∈ lw_g, w.before #[Value.ref b] s = true := fun w h => hts0 w (lw_gt h)
  have X : cx p s m #[Value.ref b] meth c b_law_law 4 ret "DrawingHouseLaw" meth.name := ⟨hx, hb, hml, hown, hts, hr, hlocks, rfl⟩
  obtain ⟨A, hAe⟩ : ∃ A : Nat → Prop, A = fun q : Nat => s.heap.size ≤ q := ⟨_, rfl⟩
  have hA : ∀ q : Nat, s.heap.size ≤ q → A q := fun q h => by rw [hAe]; exact h
  have hbA : ¬ A b := by rw [hAe]; exact Nat.not_le.mpr hbl
  rw [← hAe] at hD hS
  refine lv_aload_n (pc := 494) hx hb d_law_law_494 rfl (lv_at hl 2 rfl) ?_
  refine lv_aload_n (pc := 495) hx hb d_law_law_495 rfl (lv_at hl 3 rfl) ?_
  refine lv_iload_n (pc := 496) hx hb d_law_law_496 rfl (lv_at hl 0 rfl) ?_
  refine lv_iconst (pc := 497) (v := 1) hx hb d_law_law_497 (by decide) ?_
  refine lv_iadd (pc := 498) hx hb d_law_law_498 ?_
  refine k_cst (v := 1) (by decide) ?_
  refine va_sld (pc := 499) hx hb hX hbl hbA hS (by unfold vp_in; decide) d_law_law_499 ?_
  refine k_cst (v := nI j) hv1 ?_
  refine lv_aload_n (pc := 500) hx hb d_law_law_500 rfl (lv_at hl 3 rfl) ?_
  refine lv_iload_n (pc := 501) hx hb d_law_law_501 rfl (lv_at hl 0 rfl) ?_
  refine lv_iconst (pc := 502) (v := 2) hx hb d_law_law_502 (by decide) ?_
  refine lv_iadd (pc := 503) hx hb d_law_law_503 ?_
  refine k_cst (v := 2) (by decide) ?_
  refine va_sld (pc := 504) hx hb hX hbl hbA hS (by unfold vp_in; decide) d_law_law_504 ?_
  refine k_cst (v := 1) hv2 ?_
  refine lv_aload_n (pc := 505) hx hb d_law_law_505 rfl (lv_at hl 3 rfl) ?_
  refine lv_iload_n (pc := 506) hx hb d_law_law_506 rfl (lv_at hl 0 rfl) ?_
  refine lv_iconst (pc := 507) (v := 3) hx hb d_law_law_507 (by decide) ?_
  refine lv_iadd (pc := 508) hx hb d_law_law_508 ?_
  refine k_cst (v := 3) (by decide) ?_
  refine va_sld (pc := 509) hx hb hX hbl hbA hS (by unfold vp_in; decide) d_law_law_509 ?_
  refine k_cst (v := v3) hv3 ?_
  refine lv_aload_n (pc := 510) hx hb d_law_law_510 rfl (lv_at hl 3 rfl) ?_
  refine lv_iload_n (pc := 511) hx hb d_law_law_511 rfl (lv_at hl 0 rfl) ?_
  refine lv_iconst (pc := 512) (v := 4) hx hb d_law_law_512 (by decide) ?_
  refine lv_iadd (pc := 513) hx hb d_law_law_513 ?_
  refine k_cst (v := 4) (by decide) ?_
  refine va_sld (pc := 514) hx hb hX hbl hbA hS (by unfold vp_in; decide) d_law_law_514 ?_
  refine k_cst (v := v4) hv4 ?_
  refine k_goI (gr := [[(h2, .inr (13, mF qm x0Mo y0Mo))], [(qm 3, .inl (kA 0, 4, .inl (fun _ => 0)))], [(qm 2, .inl (kA 0, 66836, .inl all0))]]) (k_rV (pc := 515) (As := [.int (nI j), .int 1, .int v3, .int v4]) (rest := []) X (c_Ho_change_z6 l D kA h j v3 v4 (q 0) (q 1) (q 2) (q 3) (q 4) (q 5) (q 6) (q 9) (q 10) (q 13) g (qg 3) (qg 4) (qg 5) (qg 6) (qg 7) (qg 8) (qg 9) (qg 10) (qg 11) (qg 12) (qg 13) (qg 14) (qg 15) hj H.size) rfl wm_954 wm_1 wm_951 wm_952 wm_953 4 (by decide +kernel) ⟨Nat.le_of_ble_eq_true rfl, Nat.le_of_ble_eq_true rfl⟩ rfl rfl (va_recv hK hP (ci := 12) (q0 := 0) rfl rfl) (k_pre hN hK hP hD [0, 1, 2] [3, 4, 5] 6 rfl (by decide) rfl) rfl hl.1 rfl (Nat.le_of_ble_eq_true rfl) d_law_law_515 ⟨Nat.le_of_ble_eq_true rfl, Nat.le_of_ble_eq_true rfl⟩) hP hD hS hA [0, 1, 2] [3, 4, 5] 6 rfl (by decide) rfl rfl (fun r1 u2 H locs hu2 hP hD hS => ?_)
  obtain ⟨hP, hD⟩ := k_left hP hD
  subst hu2
  have hP : va_P D classes (cat [[(h2, .inr (13, mF qm x0Mo y0Mo))], [(qm 3, .inl (kA 0, 4, .inl (fun _ => 0)))], [(qm 2, .inl (kA 0, 66836, .inl all0))]]) H := hP
  have hD : va_D A (cat [[(h2, .inr (13, mF qm x0Mo y0Mo))], [(qm 3, .inl (kA 0, 4, .inl (fun _ => 0)))], [(qm 2, .inl (kA 0, 66836, .inl all0))]]) := hD
  refine lv_aload_n (pc := 518) hx hb d_law_law_518 rfl (lv_at hl 1 rfl) ?_
  refine lv_aload_n (pc := 519) hx hb d_law_law_519 rfl (lv_at hl 3 rfl) ?_
  refine lv_iload_n (pc := 520) hx hb d_law_law_520 rfl (lv_at hl 0 rfl) ?_
  refine lv_iconst (pc := 521) (v := 1) hx hb d_law_law_521 (by decide) ?_
  refine lv_iadd (pc := 522) hx hb d_law_law_522 ?_
  refine k_cst (v := 1) (by decide) ?_
  refine va_sld (pc := 523) hx hb hX hbl hbA hS (by unfold vp_in; decide) d_law_law_523 ?_
  refine k_cst (v := nI j) hv1 ?_
  refine lv_aload_n (pc := 524) hx hb d_law_law_524 rfl (lv_at hl 3 rfl) ?_
  refine lv_iload_n (pc := 525) hx hb d_law_law_525 rfl (lv_at hl 0 rfl) ?_
  refine lv_iconst (pc := 526) (v := 2) hx hb d_law_law_526 (by decide) ?_
  refine lv_iadd (pc := 527) hx hb d_law_law_527 ?_
  refine k_cst (v := 2) (by decide) ?_
  refine va_sld (pc := 528) hx hb hX hbl hbA hS (by unfold vp_in; decide) d_law_law_528 ?_
  refine k_cst (v := 1) hv2 ?_
  refine lv_aload_n (pc := 529) hx hb d_law_law_529 rfl (lv_at hl 3 rfl) ?_
  refine lv_iload_n (pc := 530) hx hb d_law_law_530 rfl (lv_at hl 0 rfl) ?_
  refine lv_iconst (pc := 531) (v := 3) hx hb d_law_law_531 (by decide) ?_
  refine lv_iadd (pc := 532) hx hb d_law_law_532 ?_
  refine k_cst (v := 3) (by decide) ?_
  refine va_sld (pc := 533) hx hb hX hbl hbA hS (by unfold vp_in; decide) d_law_law_533 ?_
  refine k_cst (v := v3) hv3 ?_
  refine lv_aload_n (pc := 534) hx hb d_law_law_534 rfl (lv_at hl 3 rfl) ?_
  refine lv_iload_n (pc := 535) hx hb d_law_law_535 rfl (lv_at hl 0 rfl) ?_
  refine lv_iconst (pc := 536) (v := 4) hx hb d_law_law_536 (by decide) ?_
  refine lv_iadd (pc := 537) hx hb d_law_law_537 ?_
  refine k_cst (v := 4) (by decide) ?_
  refine va_sld (pc := 538) hx hb hX hbl hbA hS (by unfold vp_in; decide) d_law_law_538 ?_
  refine k_cst (v := v4) hv4 ?_
  refine k_goI (gr := []) (k_rV (pc := 539) (As := [.int (nI j), .int 1, .int v3, .int v4]) (rest := [.int ((-1))]) X (c_Mo_change_z6 l D kA h2 j v3 v4 qm hj H.size) rfl wm_3087 wm_9 wm_3084 wm_3085 wm_3086 4 (by decide +kernel) ⟨Nat.le_of_ble_eq_true rfl, Nat.le_of_ble_eq_true rfl⟩ rfl rfl (va_recv hK hP (ci := 13) (q0 := 0) rfl rfl) (k_pre hN hK hP hD [0, 1, 2] [] 3 rfl (by decide) rfl) rfl hl.1 rfl (Nat.le_of_ble_eq_true rfl) d_law_law_539 ⟨Nat.le_of_ble_eq_true rfl, Nat.le_of_ble_eq_true rfl⟩) hP hD hS hA [0, 1, 2] [] 3 rfl (by decide) rfl rfl (fun r3 u4 H locs hu4 hP hD hS => ?_)
  obtain ⟨hP, hD⟩ := k_left hP hD
  subst hu4
  have hP : va_P D classes (cat []) H := hP
  have hD : va_D A (cat []) := hD
  refine lv_icmp_eq (pc := 542) (tgt := 1295) hx hb d_law_law_542 (by decide) (fun _ => ?_) (fun c1 => absurd (by decide) c1)
  rw [hAe] at hS
  exact law_exit l C0 (Nat.le_of_ble_eq_true rfl) (Nat.le_of_ble_eq_true rfl) hS hl
set_option maxRecDepth 100000 in
set_option maxHeartbeats 4000000 in
/-- DrawingHouse$Graph.mayAlter(III)Z -/
theorem c_Gr_mayAlter_z6 (l : Launch) (D : va_G) (kA : Nat → ClassId) (g : Nat → Nat → Nat) (j : Nat) (v3 : Int32) (v4 : Int32) (a0 : Nat) (a1 : Nat) (a2 : Nat) (a3 : Nat) (a4 : Nat) (a5 : Nat) (a6 : Nat) (a7 : Nat) (a8 : Nat) (a9 : Nat) (a10 : Nat) (a11 : Nat) (a12 : Nat) (hj : j < 4) : Ci l y_Gr_mayAlter z_Gr_mayAlter { frames := 1, cells := 0, slots := 0, locals := 21 } D classes (TY kA) [.ref (g 0 j), .int 2, .int v3, .int v4] [[(g 0 j, .inr (3, [.int 0, .int 0, .int 1, .ref a0, .ref a1, .ref a2, .ref a3, .ref a4, .ref a5, .ref a6, .ref a7, .ref a8, .ref a9, .ref a10, .ref a11, .ref a12, .null, .int 0, .int 0]))]] (fun r (_ : Unit) => r = 0) (fun u => [[(g 0 j, .inr (3, [.int 0, .int 0, .int 1, .ref a0, .ref a1, .ref a2, .ref a3, .ref a4, .ref a5, .ref a6, .ref a7, .ref a8, .ref a9, .ref a10, .ref a11, .ref a12, .null, .int 0, .int 0]))]]) 0 0 := by
  intro sz
  refine k_met (cc := b_Gr_mayAlter) (maxL := 4) (ret := (some .boolean)) (by decide) rfl (Nat.le_of_ble_eq_true rfl) (fun p e s m below meth c ls X hl hB => ?_)
  obtain ⟨hsz, hP, hK, hD0, hN⟩ := hB
  subst hsz
  have hD := hD0.self (sz := s.heap.size)
  generalize hAe : va_A (cat [[(g 0 j, .inr (3, [.int 0, .int 0, .int 1, .ref a0, .ref a1, .ref a2, .ref a3, .ref a4, .ref a5, .ref a6, .ref a7, .ref a8, .ref a9, .ref a10, .ref a11, .ref a12, .null, .int 0, .int 0]))]]) s.heap.size = A at hD ⊢
  have hA : ∀ q : Nat, s.heap.size ≤ q → A q := fun q h => by rw [← hAe]; exact Or.inr h
  have hS : va_S A s.heap s.heap [] := va_S.rf
  obtain ⟨hx, hb, hml, hown, hts, hr, hlk, hnm⟩ := id X
  have hl : lv_has ls 4 [(0, .ref (g 0 j)), (1, .int 2), (2, .int v3), (3, .int v4)] := hl
  have hP : va_P D classes (cat [[(g 0 j, .inr (3, [.int 0, .int 0, .int 1, .ref a0, .ref a1, .ref a2, .ref a3, .ref a4, .ref a5, .ref a6, .ref a7, .ref a8, .ref a9, .ref a10, .ref a11, .ref a12, .null, .int 0, .int 0]))]]) s.heap := hP
  have hK : va_K D classes (TY kA) s := hK
  refine lv_iload_n (pc := 0) hx hb d_Gr_mayAlter_0 rfl (lv_at hl 1 rfl) ?_
  refine lv_tableIn (pc := 1) (tgt := 124) hx hb d_Gr_mayAlter_1 (by decide) (by decide) rfl (by decide) ?_
  refine lv_aload_n (pc := 124) hx hb d_Gr_mayAlter_124 rfl (lv_at hl 0 rfl) ?_
  refine lv_iload_n (pc := 125) hx hb d_Gr_mayAlter_125 rfl (lv_at hl 2 rfl) ?_
  refine k_goI (gr := []) (k_rV (pc := 126) (As := [.int v3]) (rest := []) X (c_Gr_hasEdge_z2 l D kA g j v3 a0 a1 a2 a3 a4 a5 a6 a7 a8 a9 a10 a11 a12 hj s.heap.size) rfl wm_930 wm_3 wm_971 wm_928 wm_929 1 (by decide +kernel) ⟨Nat.le_of_ble_eq_true rfl, Nat.le_of_ble_eq_true rfl⟩ rfl rfl (va_recv hK hP (ci := 3) (q0 := 0) rfl rfl) (k_pre hN hK hP hD [0] [] 1 rfl (by decide) rfl) rfl hl.1 rfl (Nat.le_of_ble_eq_true rfl) d_Gr_mayAlter_126 ⟨Nat.le_of_ble_eq_true rfl, Nat.le_of_ble_eq_true rfl⟩) hP hD hS hA [0] [] 1 rfl (by decide) rfl rfl (fun r1 u2 H locs hu2 hP hD hS => ?_)
  subst hu2
  have hP : va_P D classes (cat [[(g 0 j, .inr (3, [.int 0, .int 0, .int 1, .ref a0, .ref a1, .ref a2, .ref a3, .ref a4, .ref a5, .ref a6, .ref a7, .ref a8, .ref a9, .ref a10, .ref a11, .ref a12, .null, .int 0, .int 0]))]]) H := hP
  have hD : va_D A (cat [[(g 0 j, .inr (3, [.int 0, .int 0, .int 1, .ref a0, .ref a1, .ref a2, .ref a3, .ref a4, .ref a5, .ref a6, .ref a7, .ref a8, .ref a9, .ref a10, .ref a11, .ref a12, .null, .int 0, .int 0]))]]) := hD
  refine W.widen (k := 0) (n := 0) (Nat.le_of_ble_eq_true rfl) (Nat.le_of_ble_eq_true rfl) ?_
  exact W.zret (v := 0) hx hb hr rfl (fun t ht hW => ⟨⟨0, (), rfl, rfl, by rw [ht]; exact hP, va_K.moved hW.alike hK, hD⟩, hS.F ht⟩) hS.2.2 d_Gr_mayAlter_129
set_option maxRecDepth 100000 in
set_option maxHeartbeats 4000000 in
/-- DrawingHouse.change(IIII)I -/
theorem c_Ho_change_z7 (l : Launch) (D : va_G) (kA : Nat → ClassId) (a0 : Nat) (j : Nat) (v3 : Int32) (v4 : Int32) (a1 : Nat) (a2 : Nat) (a3 : Nat) (a4 : Nat) (a5 : Nat) (a6 : Nat) (a7 : Nat) (a8 : Nat) (a9 : Nat) (a10 : Nat) (g : Nat → Nat → Nat) (a11 : Nat) (a12 : Nat) (a13 : Nat) (a14 : Nat) (a15 : Nat) (a16 : Nat) (a17 : Nat) (a18 : Nat) (a19 : Nat) (a20 : Nat) (a21 : Nat) (a22 : Nat) (a23 : Nat) (hj : j < 4) : Ci l y_Ho_change z_Ho_change { frames := 2, cells := 0, slots := 0, locals := 44 } D classes (TY kA) [.ref a0, .int (nI j), .int 2, .int v3, .int v4] [[(a0, .inr (12, [.ref a1, .ref a2, .ref a3, .ref a4, .ref a5, .ref a6, .ref a7, .int 0, .int ((-1)), .ref a8, .ref a9, .int 0, .int 0, .ref a10, .int 0, .int 0, .null, .null, .null, .null, .null]))], [(a1, .inl (kA 4, 4, .inr (.inr (.inr (.inr (rr (g 0)))))))], [(g 0 j, .inr (3, [.int 0, .int 0, .int 1, .ref a11, .ref a12, .ref a13, .ref a14, .ref a15, .ref a16, .ref a17, .ref a18, .ref a19, .ref a20, .ref a21, .ref a22, .ref a23, .null, .int 0, .int 0]))]] (fun r (_ : List va_W) => r = (-1)) (fun u => u) 0 0 := by
  intro sz
  refine k_met (cc := b_Ho_change) (maxL := 6) (ret := (some .int)) (by decide) rfl (Nat.le_of_ble_eq_true rfl) (fun p e s m below meth c ls X hl hB => ?_)
  obtain ⟨hsz, hP, hK, hD0, hN⟩ := hB
  subst hsz
  have hD := hD0.self (sz := s.heap.size)
  generalize hAe : va_A (cat [[(a0, .inr (12, [.ref a1, .ref a2, .ref a3, .ref a4, .ref a5, .ref a6, .ref a7, .int 0, .int ((-1)), .ref a8, .ref a9, .int 0, .int 0, .ref a10, .int 0, .int 0, .null, .null, .null, .null, .null]))], [(a1, .inl (kA 4, 4, .inr (.inr (.inr (.inr (rr (g 0)))))))], [(g 0 j, .inr (3, [.int 0, .int 0, .int 1, .ref a11, .ref a12, .ref a13, .ref a14, .ref a15, .ref a16, .ref a17, .ref a18, .ref a19, .ref a20, .ref a21, .ref a22, .ref a23, .null, .int 0, .int 0]))]]) s.heap.size = A at hD ⊢
  have hA : ∀ q : Nat, s.heap.size ≤ q → A q := fun q h => by rw [← hAe]; exact Or.inr h
  have hS : va_S A s.heap s.heap [] := va_S.rf
  obtain ⟨hx, hb, hml, hown, hts, hr, hlk, hnm⟩ := id X
  have hl : lv_has ls 6 [(0, .ref a0), (1, .int (nI j)), (2, .int 2), (3, .int v3), (4, .int v4)] := hl
  have hP : va_P D classes (cat [[(a0, .inr (12, [.ref a1, .ref a2, .ref a3, .ref a4, .ref a5, .ref a6, .ref a7, .int 0, .int ((-1)), .ref a8, .ref a9, .int 0, .int 0, .ref a10, .int 0, .int 0, .null, .null, .null, .null, .null]))], [(a1, .inl (kA 4, 4, .inr (.inr (.inr (.inr (rr (g 0)))))))], [(g 0 j, .inr (3, [.int 0, .int 0, .int 1, .ref a11, .ref a12, .ref a13, .ref a14, .ref a15, .ref a16, .ref a17, .ref a18, .ref a19, .ref a20, .ref a21, .ref a22, .ref a23, .null, .int 0, .int 0]))]]) s.heap := hP
  have hK : va_K D classes (TY kA) s := hK
  refine lv_iload_n (pc := 0) hx hb d_Ho_change_0 rfl (lv_at hl 1 rfl) ?_
  refine k_goI (gr := [[(a0, .inr (12, [.ref a1, .ref a2, .ref a3, .ref a4, .ref a5, .ref a6, .ref a7, .int 0, .int ((-1)), .ref a8, .ref a9, .int 0, .int 0, .ref a10, .int 0, .int 0, .null, .null, .null, .null, .null]))], [(a1, .inl (kA 4, 4, .inr (.inr (.inr (.inr (rr (g 0)))))))], [(g 0 j, .inr (3, [.int 0, .int 0, .int 1, .ref a11, .ref a12, .ref a13, .ref a14, .ref a15, .ref a16, .ref a17, .ref a18, .ref a19, .ref a20, .ref a21, .ref a22, .ref a23, .null, .int 0, .int 0]))]]) (k_rS (pc := 1) (As := [.int (nI j)]) (rest := []) X (c_Ho_isPlace l D kA (nI j) s.heap.size) rfl wm_633 wm_1 wm_631 wm_632 1 (by decide +kernel) ⟨Nat.le_of_ble_eq_true rfl, Nat.le_of_ble_eq_true rfl⟩ rfl rfl (k_pre hN hK hP hD [] [0, 1, 2] 3 rfl (by decide) rfl) rfl hl.1 rfl (Nat.le_of_ble_eq_true rfl) d_Ho_change_1 ⟨Nat.le_of_ble_eq_true rfl, Nat.le_of_ble_eq_true rfl⟩) hP hD hS hA [] [0, 1, 2] 3 rfl (by decide) rfl rfl (fun r1 u2 H locs hu2 hP hD hS => ?_)
  subst hu2
  refine k_cst (v := 1) (place_ok hj) ?_
  have hP : va_P D classes (cat [[(a0, .inr (12, [.ref a1, .ref a2, .ref a3, .ref a4, .ref a5, .ref a6, .ref a7, .int 0, .int ((-1)), .ref a8, .ref a9, .int 0, .int 0, .ref a10, .int 0, .int 0, .null, .null, .null, .null, .null]))], [(a1, .inl (kA 4, 4, .inr (.inr (.inr (.inr (rr (g 0)))))))], [(g 0 j, .inr (3, [.int 0, .int 0, .int 1, .ref a11, .ref a12, .ref a13, .ref a14, .ref a15, .ref a16, .ref a17, .ref a18, .ref a19, .ref a20, .ref a21, .ref a22, .ref a23, .null, .int 0, .int 0]))]]) H := hP
  have hD : va_D A (cat [[(a0, .inr (12, [.ref a1, .ref a2, .ref a3, .ref a4, .ref a5, .ref a6, .ref a7, .int 0, .int ((-1)), .ref a8, .ref a9, .int 0, .int 0, .ref a10, .int 0, .int 0, .null, .null, .null, .null, .null]))], [(a1, .inl (kA 4, 4, .inr (.inr (.inr (.inr (rr (g 0)))))))], [(g 0 j, .inr (3, [.int 0, .int 0, .int 1, .ref a11, .ref a12, .ref a13, .ref a14, .ref a15, .ref a16, .ref a17, .ref a18, .ref a19, .ref a20, .ref a21, .ref a22, .ref a23, .null, .int 0, .int 0]))]]) := hD
  refine lv_if_eq (pc := 4) (tgt := 23) hx hb d_Ho_change_4 (by decide) (fun c1 => absurd c1 (by decide)) (fun c1 => ?_)
  refine lv_aload_n (pc := 7) hx hb d_Ho_change_7 rfl (lv_at hl 0 rfl) ?_
  refine k_get (pc := 8) X hK hP 0 rfl rfl i_Ho 0 (by decide) wm_555 rfl rfl d_Ho_change_8 ?_
  refine lv_iload_n (pc := 11) hx hb d_Ho_change_11 rfl (lv_at hl 1 rfl) ?_
  refine k_ald (pc := 12) hx hb hK hP 1 4 rfl rfl (j) rfl (by omega) (by decide) (rr_at (by omega)) d_Ho_change_12 ?_
  refine lv_iload_n (pc := 13) hx hb d_Ho_change_13 rfl (lv_at hl 2 rfl) ?_
  refine lv_iload_n (pc := 14) hx hb d_Ho_change_14 rfl (lv_at hl 3 rfl) ?_
  refine lv_iload (pc := 15) hx hb d_Ho_change_15 (lv_at hl 4 rfl) ?_
  refine k_goI (gr := [[(a0, .inr (12, [.ref a1, .ref a2, .ref a3, .ref a4, .ref a5, .ref a6, .ref a7, .int 0, .int ((-1)), .ref a8, .ref a9, .int 0, .int 0, .ref a10, .int 0, .int 0, .null, .null, .null, .null, .null]))], [(a1, .inl (kA 4, 4, .inr (.inr (.inr (.inr (rr (g 0)))))))]]) (k_rV (pc := 17) (As := [.int 2, .int v3, .int v4]) (rest := []) X (c_Gr_mayAlter_z6 l D kA g j v3 v4 a11 a12 a13 a14 a15 a16 a17 a18 a19 a20 a21 a22 a23 hj H.size) rfl wm_958 wm_3 wm_955 wm_956 wm_957 3 (by decide +kernel) ⟨Nat.le_of_ble_eq_true rfl, Nat.le_of_ble_eq_true rfl⟩ rfl rfl (va_recv hK hP (ci := 3) (q0 := 2) rfl rfl) (k_pre hN hK hP hD [2] [0, 1] 3 rfl (by decide) rfl) rfl hl.1 rfl (Nat.le_of_ble_eq_true rfl) d_Ho_change_17 ⟨Nat.le_of_ble_eq_true rfl, Nat.le_of_ble_eq_true rfl⟩) hP hD hS hA [2] [0, 1] 3 rfl (by decide) rfl rfl (fun r3 u4 H locs hu4 hP hD hS => ?_)
  subst hu4
  have hP : va_P D classes (cat [[(a0, .inr (12, [.ref a1, .ref a2, .ref a3, .ref a4, .ref a5, .ref a6, .ref a7, .int 0, .int ((-1)), .ref a8, .ref a9, .int 0, .int 0, .ref a10, .int 0, .int 0, .null, .null, .null, .null, .null]))], [(a1, .inl (kA 4, 4, .inr (.inr (.inr (.inr (rr (g 0)))))))], [(g 0 j, .inr (3, [.int 0, .int 0, .int 1, .ref a11, .ref a12, .ref a13, .ref a14, .ref a15, .ref a16, .ref a17, .ref a18, .ref a19, .ref a20, .ref a21, .ref a22, .ref a23, .null, .int 0, .int 0]))]]) H := hP
  have hD : va_D A (cat [[(a0, .inr (12, [.ref a1, .ref a2, .ref a3, .ref a4, .ref a5, .ref a6, .ref a7, .int 0, .int ((-1)), .ref a8, .ref a9, .int 0, .int 0, .ref a10, .int 0, .int 0, .null, .null, .null, .null, .null]))], [(a1, .inl (kA 4, 4, .inr (.inr (.inr (.inr (rr (g 0)))))))], [(g 0 j, .inr (3, [.int 0, .int 0, .int 1, .ref a11, .ref a12, .ref a13, .ref a14, .ref a15, .ref a16, .ref a17, .ref a18, .ref a19, .ref a20, .ref a21, .ref a22, .ref a23, .null, .int 0, .int 0]))]]) := hD
  refine lv_if_ne (pc := 20) (tgt := 25) hx hb d_Ho_change_20 (by decide) (fun c1 => absurd (by decide) c1) (fun c1 => ?_)
  refine lv_iconst (pc := 23) (v := -1) hx hb d_Ho_change_23 (by decide) ?_
  refine W.widen (k := 0) (n := 0) (Nat.le_of_ble_eq_true rfl) (Nat.le_of_ble_eq_true rfl) ?_
  exact W.iret (v := (-1)) hx hb hr (fun t ht hW => ⟨⟨(-1), [[(a0, .inr (12, [.ref a1, .ref a2, .ref a3, .ref a4, .ref a5, .ref a6, .ref a7, .int 0, .int ((-1)), .ref a8, .ref a9, .int 0, .int 0, .ref a10, .int 0, .int 0, .null, .null, .null, .null, .null]))], [(a1, .inl (kA 4, 4, .inr (.inr (.inr (.inr (rr (g 0)))))))], [(g 0 j, .inr (3, [.int 0, .int 0, .int 1, .ref a11, .ref a12, .ref a13, .ref a14, .ref a15, .ref a16, .ref a17, .ref a18, .ref a19, .ref a20, .ref a21, .ref a22, .ref a23, .null, .int 0, .int 0]))]], rfl, rfl, by rw [ht]; exact hP, va_K.moved hW.alike hK, hD⟩, hS.F ht⟩) hS.2.2 d_Ho_change_24
set_option maxRecDepth 100000 in
set_option maxHeartbeats 4000000 in
/-- DrawingHouseModel.change(IIII)I -/
theorem c_Mo_change_z7 (l : Launch) (D : va_G) (kA : Nat → ClassId) (a0 : Nat) (j : Nat) (v3 : Int32) (v4 : Int32) (qm : Nat → Nat) (hj : j < 4) : Ci l y_Mo_change z_Mo_change { frames := 2, cells := 0, slots := 0, locals := 42 } D classes (TY kA) [.ref a0, .int (nI j), .int 2, .int v3, .int v4] [[(a0, .inr (13, mF qm x0Mo y0Mo))], [(qm 3, .inl (kA 0, 4, .inl (fun _ => 0)))], [(qm 2, .inl (kA 0, 66836, .inl all0))]] (fun r (_ : List va_W) => r = (-1)) (fun u => u) 0 0 := by
  intro sz
  refine k_met (cc := b_Mo_change) (maxL := 5) (ret := (some .int)) (by decide) rfl (Nat.le_of_ble_eq_true rfl) (fun p e s m below meth c ls X hl hB => ?_)
  obtain ⟨hsz, hP, hK, hD0, hN⟩ := hB
  subst hsz
  have hD := hD0.self (sz := s.heap.size)
  generalize hAe : va_A (cat [[(a0, .inr (13, mF qm x0Mo y0Mo))], [(qm 3, .inl (kA 0, 4, .inl (fun _ => 0)))], [(qm 2, .inl (kA 0, 66836, .inl all0))]]) s.heap.size = A at hD ⊢
  have hA : ∀ q : Nat, s.heap.size ≤ q → A q := fun q h => by rw [← hAe]; exact Or.inr h
  have hS : va_S A s.heap s.heap [] := va_S.rf
  obtain ⟨hx, hb, hml, hown, hts, hr, hlk, hnm⟩ := id X
  have hl : lv_has ls 5 [(0, .ref a0), (1, .int (nI j)), (2, .int 2), (3, .int v3), (4, .int v4)] := hl
  have hP : va_P D classes (cat [[(a0, .inr (13, mF qm x0Mo y0Mo))], [(qm 3, .inl (kA 0, 4, .inl (fun _ => 0)))], [(qm 2, .inl (kA 0, 66836, .inl all0))]]) s.heap := hP
  have hK : va_K D classes (TY kA) s := hK
  refine lv_iload_n (pc := 0) hx hb d_Mo_change_0 rfl (lv_at hl 1 rfl) ?_
  refine k_goI (gr := [[(a0, .inr (13, mF qm x0Mo y0Mo))], [(qm 3, .inl (kA 0, 4, .inl (fun _ => 0)))], [(qm 2, .inl (kA 0, 66836, .inl all0))]]) (k_rS (pc := 1) (As := [.int (nI j)]) (rest := []) X (c_Mo_isPlace l D kA (nI j) s.heap.size) rfl wm_2978 wm_9 wm_2976 wm_2977 1 (by decide +kernel) ⟨Nat.le_of_ble_eq_true rfl, Nat.le_of_ble_eq_true rfl⟩ rfl rfl (k_pre hN hK hP hD [] [0, 1, 2] 3 rfl (by decide) rfl) rfl hl.1 rfl (Nat.le_of_ble_eq_true rfl) d_Mo_change_1 ⟨Nat.le_of_ble_eq_true rfl, Nat.le_of_ble_eq_true rfl⟩) hP hD hS hA [] [0, 1, 2] 3 rfl (by decide) rfl rfl (fun r1 u2 H locs hu2 hP hD hS => ?_)
  subst hu2
  refine k_cst (v := 1) (placeM_ok hj) ?_
  have hP : va_P D classes (cat [[(a0, .inr (13, mF qm x0Mo y0Mo))], [(qm 3, .inl (kA 0, 4, .inl (fun _ => 0)))], [(qm 2, .inl (kA 0, 66836, .inl all0))]]) H := hP
  have hD : va_D A (cat [[(a0, .inr (13, mF qm x0Mo y0Mo))], [(qm 3, .inl (kA 0, 4, .inl (fun _ => 0)))], [(qm 2, .inl (kA 0, 66836, .inl all0))]]) := hD
  refine lv_if_ne (pc := 4) (tgt := 9) hx hb d_Mo_change_4 (by decide) (fun c1 => ?_) (fun c1 => absurd c1 (by decide))
  refine lv_aload_n (pc := 9) hx hb d_Mo_change_9 rfl (lv_at hl 0 rfl) ?_
  refine lv_iload_n (pc := 10) hx hb d_Mo_change_10 rfl (lv_at hl 1 rfl) ?_
  refine k_goV (gr := [[(qm 2, .inl (kA 0, 66836, .inl all0))]]) (k_rV (pc := 11) (As := [.int (nI j)]) (rest := []) X (c_Mo_take_z1 l D kA a0 j qm hj H.size) rfl wm_3091 wm_9 wm_3088 wm_3090 wv_14_2 1 (by decide +kernel) ⟨Nat.le_of_ble_eq_true rfl, Nat.le_of_ble_eq_true rfl⟩ rfl rfl (va_recv hK hP (ci := 13) (q0 := 0) rfl rfl) (k_pre hN hK hP hD [0, 1] [2] 3 rfl (by decide) rfl) rfl hl.1 rfl (Nat.le_of_ble_eq_true rfl) d_Mo_change_11 ⟨Nat.le_of_ble_eq_true rfl, Nat.le_of_ble_eq_true rfl⟩) hP hD hS hA [0, 1] [2] 3 rfl (by decide) rfl rfl (fun u3 H locs hu3 hP hD hS => ?_)
  have hP : va_P D classes (cat [[(qm 2, .inl (kA 0, 66836, .inl all0))], [(a0, .inr (13, mF qm (va_up x0Mo 5 (nI (539 * (31 * j + 0)))) y0Mo))], [(qm 3, .inl (kA 0, 4, .inl (fun _ => 0)))]]) H := hP
  have hD : va_D A (cat [[(qm 2, .inl (kA 0, 66836, .inl all0))], [(a0, .inr (13, mF qm (va_up x0Mo 5 (nI (539 * (31 * j + 0)))) y0Mo))], [(qm 3, .inl (kA 0, 4, .inl (fun _ => 0)))]]) := hD
  refine lv_iload_n (pc := 14) hx hb d_Mo_change_14 rfl (lv_at hl 2 rfl) ?_
  refine lv_tableIn (pc := 15) (tgt := 143) hx hb d_Mo_change_15 (by decide) (by decide) rfl (by decide) ?_
  refine lv_iload_n (pc := 143) hx hb d_Mo_change_143 rfl (lv_at hl 3 rfl) ?_
  refine lv_iconst (pc := 144) (v := 0) hx hb d_Mo_change_144 (by decide) ?_
  refine lv_aload_n (pc := 145) hx hb d_Mo_change_145 rfl (lv_at hl 0 rfl) ?_
  refine k_goI (gr := [[(qm 3, .inl (kA 0, 4, .inl (fun _ => 0)))]]) (k_rV (pc := 146) (As := []) (rest := [.int 0, .int v3]) X (c_Mo_edges_z1 l D kA a0 qm j hj H.size) rfl wm_3037 wm_9 wm_3034 wm_3036 wv_13_6 0 (by decide +kernel) ⟨Nat.le_of_ble_eq_true rfl, Nat.le_of_ble_eq_true rfl⟩ rfl rfl (va_recv hK hP (ci := 13) (q0 := 1) rfl rfl) (k_pre hN hK hP hD [1, 0] [2] 3 rfl (by decide) rfl) rfl hl.1 rfl (Nat.le_of_ble_eq_true rfl) d_Mo_change_146 ⟨Nat.le_of_ble_eq_true rfl, Nat.le_of_ble_eq_true rfl⟩) hP hD hS hA [1, 0] [2] 3 rfl (by decide) rfl rfl (fun r4 u5 H locs hu5 hP hD hS => ?_)
  subst hu5
  have hP : va_P D classes (cat [[(qm 3, .inl (kA 0, 4, .inl (fun _ => 0)))], [(a0, .inr (13, mF qm (va_up x0Mo 5 (nI (539 * (31 * j + 0)))) y0Mo))], [(qm 2, .inl (kA 0, 66836, .inl all0))]]) H := hP
  have hD : va_D A (cat [[(qm 3, .inl (kA 0, 4, .inl (fun _ => 0)))], [(a0, .inr (13, mF qm (va_up x0Mo 5 (nI (539 * (31 * j + 0)))) y0Mo))], [(qm 2, .inl (kA 0, 66836, .inl all0))]]) := hD
  refine lv_iconst (pc := 149) (v := 1) hx hb d_Mo_change_149 (by decide) ?_
  refine lv_isub (pc := 150) hx hb d_Mo_change_150 ?_
  refine k_cst (v := (-1)) (by decide) ?_
  refine k_goI (gr := [[(qm 3, .inl (kA 0, 4, .inl (fun _ => 0)))], [(a0, .inr (13, mF qm (va_up x0Mo 5 (nI (539 * (31 * j + 0)))) y0Mo))], [(qm 2, .inl (kA 0, 66836, .inl all0))]]) (k_rS (pc := 151) (As := [.int v3, .int 0, .int ((-1))]) (rest := []) X (c_Mo_in_z5 l D kA v3 H.size) rfl wm_2971 wm_9 wm_2969 wm_2970 3 (by decide +kernel) ⟨Nat.le_of_ble_eq_true rfl, Nat.le_of_ble_eq_true rfl⟩ rfl rfl (k_pre hN hK hP hD [] [0, 1, 2] 3 rfl (by decide) rfl) rfl hl.1 rfl (Nat.le_of_ble_eq_true rfl) d_Mo_change_151 ⟨Nat.le_of_ble_eq_true rfl, Nat.le_of_ble_eq_true rfl⟩) hP hD hS hA [] [0, 1, 2] 3 rfl (by decide) rfl rfl (fun r6 u7 H locs hu7 hP hD hS => ?_)
  subst hu7
  have hP : va_P D classes (cat [[(qm 3, .inl (kA 0, 4, .inl (fun _ => 0)))], [(a0, .inr (13, mF qm (va_up x0Mo 5 (nI (539 * (31 * j + 0)))) y0Mo))], [(qm 2, .inl (kA 0, 66836, .inl all0))]]) H := hP
  have hD : va_D A (cat [[(qm 3, .inl (kA 0, 4, .inl (fun _ => 0)))], [(a0, .inr (13, mF qm (va_up x0Mo 5 (nI (539 * (31 * j + 0)))) y0Mo))], [(qm 2, .inl (kA 0, 66836, .inl all0))]]) := hD
  refine lv_if_ne (pc := 154) (tgt := 159) hx hb d_Mo_change_154 (by decide) (fun c1 => absurd (by decide) c1) (fun c1 => ?_)
  refine lv_iconst (pc := 157) (v := -1) hx hb d_Mo_change_157 (by decide) ?_
  refine W.widen (k := 0) (n := 0) (Nat.le_of_ble_eq_true rfl) (Nat.le_of_ble_eq_true rfl) ?_
  exact W.iret (v := (-1)) hx hb hr (fun t ht hW => ⟨⟨(-1), [[(qm 3, .inl (kA 0, 4, .inl (fun _ => 0)))], [(a0, .inr (13, mF qm (va_up x0Mo 5 (nI (539 * (31 * j + 0)))) y0Mo))], [(qm 2, .inl (kA 0, 66836, .inl all0))]], rfl, rfl, by rw [ht]; exact hP, va_K.moved hW.alike hK, hD⟩, hS.F ht⟩) hS.2.2 d_Mo_change_158
set_option maxRecDepth 100000 in
set_option maxHeartbeats 4000000 in
/-- change, a fresh house -/
theorem lf_change_7 {p : Program} {e : Env} {s : State} {m : MethodId} {below : List Frame} {meth : Method} {c : Code} (l : Launch) {b : Nat} {xs : Nat → Int32} (C0 : lw_At p s m meth c b 6 xs) {D : va_G} {kA : Nat → ClassId} (h : Nat) (h2 : Nat) (q : Nat → Nat) (qg : Nat → Nat) (qm : Nat → Nat) (g : Nat → Nat → Nat) (j : Nat) (v3 : Int32) (v4 : Int32) (hj : j < 4) (hv1 : xs 1 = nI j) (hv2 : xs 2 = 2) (hv3 : xs 3 = v3) (hv4 : xs 4 = v4) {H : Heap} {locs : List Loc} {ls : Array Slot} (hK : va_K D classes (TY kA) s) (hN : nst s) (hP : va_P D classes (cat [[(h, .inr (12, [.ref (q 0), .ref (q 1), .ref (q 2), .ref (q 3), .ref (q 4), .ref (q 5), .ref (q 6), .int 0, .int ((-1)), .ref (q 9), .ref (q 10), .int 0, .int 0, .ref (q 13), .int 0, .int 0, .null, .null, .null, .null, .null]))], [(q 0, .inl (kA 4, 4, .inr (.inr (.inr (.inr (rr (g 0)))))))], [(g 0 j, .inr (3, [.int 0, .int 0, .int 1, .ref (qg 3), .ref (qg 4), .ref (qg 5), .ref (qg 6), .ref (qg 7), .ref (qg 8), .ref (qg 9), .ref (qg 10), .ref (qg 11), .ref (qg 12), .ref (qg 13), .ref (qg 14), .ref (qg 15), .null, .int 0, .int 0]))], [(h2, .inr (13, mF qm x0Mo y0Mo))], [(qm 3, .inl (kA 0, 4, .inl (fun _ => 0)))], [(qm 2, .inl (kA 0, 66836, .inl all0))]]) H) (hD : va_D (fun q : Nat => s.heap.size ≤ q) (cat [[(h, .inr (12, [.ref (q 0), .ref (q 1), .ref (q 2), .ref (q 3), .ref (q 4), .ref (q 5), .ref (q 6), .int 0, .int ((-1)), .ref (q 9), .ref (q 10), .int 0, .int 0, .ref (q 13), .int 0, .int 0, .null, .null, .null, .null, .null]))], [(q 0, .inl (kA 4, 4, .inr (.inr (.inr (.inr (rr (g 0)))))))], [(g 0 j, .inr (3, [.int 0, .int 0, .int 1, .ref (qg 3), .ref (qg 4), .ref (qg 5), .ref (qg 6), .ref (qg 7), .ref (qg 8), .ref (qg 9), .ref (qg 10), .ref (qg 11), .ref (qg 12), .ref (qg 13), .ref (qg 14), .ref (qg 15), .null, .int 0, .int 0]))], [(h2, .inr (13, mF qm x0Mo y0Mo))], [(qm 3, .inl (kA 0, 4, .inl (fun _ => 0)))], [(qm 2, .inl (kA 0, 66836, .inl all0))]])) (hS : va_S (fun q : Nat => s.heap.size ≤ q) s.heap H locs) (hl : lv_has ls 4 [(3, .int 0), (2, .ref h2), (1, .ref h), (0, .ref b)]) : W p l e room_1 s m #[Value.ref b] below meth c H locs 368 365796 (lw_Z below #[Value.ref b] s) (F0 m 494 ls []) := by
  obtain ⟨hx, hb, hr, hml, hown, hts0, hX, hbl, hlocks, hgv⟩ := id C0
  have hts : ∀ w ∈ lw_g, w.before #[Value.ref b] s = true := fun w h => hts0 w (lw_gt h)
  have X : cx p s m #[Value.ref b] meth c b_law_law 4 ret "DrawingHouseLaw" meth.name := ⟨hx, hb, hml, hown, hts, hr, hlocks, rfl⟩
  obtain ⟨A, hAe⟩ : ∃ A : Nat → Prop, A = fun q : Nat => s.heap.size ≤ q := ⟨_, rfl⟩
  have hA : ∀ q : Nat, s.heap.size ≤ q → A q := fun q h => by rw [hAe]; exact h
  have hbA : ¬ A b := by rw [hAe]; exact Nat.not_le.mpr hbl
  rw [← hAe] at hD hS
  refine lv_aload_n (pc := 494) hx hb d_law_law_494 rfl (lv_at hl 2 rfl) ?_
  refine lv_aload_n (pc := 495) hx hb d_law_law_495 rfl (lv_at hl 3 rfl) ?_
  refine lv_iload_n (pc := 496) hx hb d_law_law_496 rfl (lv_at hl 0 rfl) ?_
  refine lv_iconst (pc := 497) (v := 1) hx hb d_law_law_497 (by decide) ?_
  refine lv_iadd (pc := 498) hx hb d_law_law_498 ?_
  refine k_cst (v := 1) (by decide) ?_
  refine va_sld (pc := 499) hx hb hX hbl hbA hS (by unfold vp_in; decide) d_law_law_499 ?_
  refine k_cst (v := nI j) hv1 ?_
  refine lv_aload_n (pc := 500) hx hb d_law_law_500 rfl (lv_at hl 3 rfl) ?_
  refine lv_iload_n (pc := 501) hx hb d_law_law_501 rfl (lv_at hl 0 rfl) ?_
  refine lv_iconst (pc := 502) (v := 2) hx hb d_law_law_502 (by decide) ?_
  refine lv_iadd (pc := 503) hx hb d_law_law_503 ?_
  refine k_cst (v := 2) (by decide) ?_
  refine va_sld (pc := 504) hx hb hX hbl hbA hS (by unfold vp_in; decide) d_law_law_504 ?_
  refine k_cst (v := 2) hv2 ?_
  refine lv_aload_n (pc := 505) hx hb d_law_law_505 rfl (lv_at hl 3 rfl) ?_
  refine lv_iload_n (pc := 506) hx hb d_law_law_506 rfl (lv_at hl 0 rfl) ?_
  refine lv_iconst (pc := 507) (v := 3) hx hb d_law_law_507 (by decide) ?_
  refine lv_iadd (pc := 508) hx hb d_law_law_508 ?_
  refine k_cst (v := 3) (by decide) ?_
  refine va_sld (pc := 509) hx hb hX hbl hbA hS (by unfold vp_in; decide) d_law_law_509 ?_
  refine k_cst (v := v3) hv3 ?_
  refine lv_aload_n (pc := 510) hx hb d_law_law_510 rfl (lv_at hl 3 rfl) ?_
  refine lv_iload_n (pc := 511) hx hb d_law_law_511 rfl (lv_at hl 0 rfl) ?_
  refine lv_iconst (pc := 512) (v := 4) hx hb d_law_law_512 (by decide) ?_
  refine lv_iadd (pc := 513) hx hb d_law_law_513 ?_
  refine k_cst (v := 4) (by decide) ?_
  refine va_sld (pc := 514) hx hb hX hbl hbA hS (by unfold vp_in; decide) d_law_law_514 ?_
  refine k_cst (v := v4) hv4 ?_
  refine k_goI (gr := [[(h2, .inr (13, mF qm x0Mo y0Mo))], [(qm 3, .inl (kA 0, 4, .inl (fun _ => 0)))], [(qm 2, .inl (kA 0, 66836, .inl all0))]]) (k_rV (pc := 515) (As := [.int (nI j), .int 2, .int v3, .int v4]) (rest := []) X (c_Ho_change_z7 l D kA h j v3 v4 (q 0) (q 1) (q 2) (q 3) (q 4) (q 5) (q 6) (q 9) (q 10) (q 13) g (qg 3) (qg 4) (qg 5) (qg 6) (qg 7) (qg 8) (qg 9) (qg 10) (qg 11) (qg 12) (qg 13) (qg 14) (qg 15) hj H.size) rfl wm_954 wm_1 wm_951 wm_952 wm_953 4 (by decide +kernel) ⟨Nat.le_of_ble_eq_true rfl, Nat.le_of_ble_eq_true rfl⟩ rfl rfl (va_recv hK hP (ci := 12) (q0 := 0) rfl rfl) (k_pre hN hK hP hD [0, 1, 2] [3, 4, 5] 6 rfl (by decide) rfl) rfl hl.1 rfl (Nat.le_of_ble_eq_true rfl) d_law_law_515 ⟨Nat.le_of_ble_eq_true rfl, Nat.le_of_ble_eq_true rfl⟩) hP hD hS hA [0, 1, 2] [3, 4, 5] 6 rfl (by decide) rfl rfl (fun r1 u2 H locs hu2 hP hD hS => ?_)
  obtain ⟨hP, hD⟩ := k_left hP hD
  subst hu2
  have hP : va_P D classes (cat [[(h2, .inr (13, mF qm x0Mo y0Mo))], [(qm 3, .inl (kA 0, 4, .inl (fun _ => 0)))], [(qm 2, .inl (kA 0, 66836, .inl all0))]]) H := hP
  have hD : va_D A (cat [[(h2, .inr (13, mF qm x0Mo y0Mo))], [(qm 3, .inl (kA 0, 4, .inl (fun _ => 0)))], [(qm 2, .inl (kA 0, 66836, .inl all0))]]) := hD
  refine lv_aload_n (pc := 518) hx hb d_law_law_518 rfl (lv_at hl 1 rfl) ?_
  refine lv_aload_n (pc := 519) hx hb d_law_law_519 rfl (lv_at hl 3 rfl) ?_
  refine lv_iload_n (pc := 520) hx hb d_law_law_520 rfl (lv_at hl 0 rfl) ?_
  refine lv_iconst (pc := 521) (v := 1) hx hb d_law_law_521 (by decide) ?_
  refine lv_iadd (pc := 522) hx hb d_law_law_522 ?_
  refine k_cst (v := 1) (by decide) ?_
  refine va_sld (pc := 523) hx hb hX hbl hbA hS (by unfold vp_in; decide) d_law_law_523 ?_
  refine k_cst (v := nI j) hv1 ?_
  refine lv_aload_n (pc := 524) hx hb d_law_law_524 rfl (lv_at hl 3 rfl) ?_
  refine lv_iload_n (pc := 525) hx hb d_law_law_525 rfl (lv_at hl 0 rfl) ?_
  refine lv_iconst (pc := 526) (v := 2) hx hb d_law_law_526 (by decide) ?_
  refine lv_iadd (pc := 527) hx hb d_law_law_527 ?_
  refine k_cst (v := 2) (by decide) ?_
  refine va_sld (pc := 528) hx hb hX hbl hbA hS (by unfold vp_in; decide) d_law_law_528 ?_
  refine k_cst (v := 2) hv2 ?_
  refine lv_aload_n (pc := 529) hx hb d_law_law_529 rfl (lv_at hl 3 rfl) ?_
  refine lv_iload_n (pc := 530) hx hb d_law_law_530 rfl (lv_at hl 0 rfl) ?_
  refine lv_iconst (pc := 531) (v := 3) hx hb d_law_law_531 (by decide) ?_
  refine lv_iadd (pc := 532) hx hb d_law_law_532 ?_
  refine k_cst (v := 3) (by decide) ?_
  refine va_sld (pc := 533) hx hb hX hbl hbA hS (by unfold vp_in; decide) d_law_law_533 ?_
  refine k_cst (v := v3) hv3 ?_
  refine lv_aload_n (pc := 534) hx hb d_law_law_534 rfl (lv_at hl 3 rfl) ?_
  refine lv_iload_n (pc := 535) hx hb d_law_law_535 rfl (lv_at hl 0 rfl) ?_
  refine lv_iconst (pc := 536) (v := 4) hx hb d_law_law_536 (by decide) ?_
  refine lv_iadd (pc := 537) hx hb d_law_law_537 ?_
  refine k_cst (v := 4) (by decide) ?_
  refine va_sld (pc := 538) hx hb hX hbl hbA hS (by unfold vp_in; decide) d_law_law_538 ?_
  refine k_cst (v := v4) hv4 ?_
  refine k_goI (gr := []) (k_rV (pc := 539) (As := [.int (nI j), .int 2, .int v3, .int v4]) (rest := [.int ((-1))]) X (c_Mo_change_z7 l D kA h2 j v3 v4 qm hj H.size) rfl wm_3087 wm_9 wm_3084 wm_3085 wm_3086 4 (by decide +kernel) ⟨Nat.le_of_ble_eq_true rfl, Nat.le_of_ble_eq_true rfl⟩ rfl rfl (va_recv hK hP (ci := 13) (q0 := 0) rfl rfl) (k_pre hN hK hP hD [0, 1, 2] [] 3 rfl (by decide) rfl) rfl hl.1 rfl (Nat.le_of_ble_eq_true rfl) d_law_law_539 ⟨Nat.le_of_ble_eq_true rfl, Nat.le_of_ble_eq_true rfl⟩) hP hD hS hA [0, 1, 2] [] 3 rfl (by decide) rfl rfl (fun r3 u4 H locs hu4 hP hD hS => ?_)
  obtain ⟨hP, hD⟩ := k_left hP hD
  subst hu4
  have hP : va_P D classes (cat []) H := hP
  have hD : va_D A (cat []) := hD
  refine lv_icmp_eq (pc := 542) (tgt := 1295) hx hb d_law_law_542 (by decide) (fun _ => ?_) (fun c1 => absurd (by decide) c1)
  rw [hAe] at hS
  exact law_exit l C0 (Nat.le_of_ble_eq_true rfl) (Nat.le_of_ble_eq_true rfl) hS hl
set_option maxRecDepth 100000 in
set_option maxHeartbeats 4000000 in
/-- DrawingHouse$Graph.mayAlter(III)Z -/
theorem c_Gr_mayAlter_z7 (l : Launch) (D : va_G) (kA : Nat → ClassId) (g : Nat → Nat → Nat) (j : Nat) (v3 : Int32) (v4 : Int32) (a0 : Nat) (a1 : Nat) (a2 : Nat) (a3 : Nat) (a4 : Nat) (a5 : Nat) (a6 : Nat) (a7 : Nat) (a8 : Nat) (a9 : Nat) (a10 : Nat) (a11 : Nat) (a12 : Nat) (hj : j < 4) : Ci l y_Gr_mayAlter z_Gr_mayAlter { frames := 1, cells := 0, slots := 0, locals := 21 } D classes (TY kA) [.ref (g 0 j), .int 3, .int v3, .int v4] [[(g 0 j, .inr (3, [.int 0, .int 0, .int 1, .ref a0, .ref a1, .ref a2, .ref a3, .ref a4, .ref a5, .ref a6, .ref a7, .ref a8, .ref a9, .ref a10, .ref a11, .ref a12, .null, .int 0, .int 0]))]] (fun r (_ : Unit) => r = 0) (fun u => [[(g 0 j, .inr (3, [.int 0, .int 0, .int 1, .ref a0, .ref a1, .ref a2, .ref a3, .ref a4, .ref a5, .ref a6, .ref a7, .ref a8, .ref a9, .ref a10, .ref a11, .ref a12, .null, .int 0, .int 0]))]]) 0 0 := by
  intro sz
  refine k_met (cc := b_Gr_mayAlter) (maxL := 4) (ret := (some .boolean)) (by decide) rfl (Nat.le_of_ble_eq_true rfl) (fun p e s m below meth c ls X hl hB => ?_)
  obtain ⟨hsz, hP, hK, hD0, hN⟩ := hB
  subst hsz
  have hD := hD0.self (sz := s.heap.size)
  generalize hAe : va_A (cat [[(g 0 j, .inr (3, [.int 0, .int 0, .int 1, .ref a0, .ref a1, .ref a2, .ref a3, .ref a4, .ref a5, .ref a6, .ref a7, .ref a8, .ref a9, .ref a10, .ref a11, .ref a12, .null, .int 0, .int 0]))]]) s.heap.size = A at hD ⊢
  have hA : ∀ q : Nat, s.heap.size ≤ q → A q := fun q h => by rw [← hAe]; exact Or.inr h
  have hS : va_S A s.heap s.heap [] := va_S.rf
  obtain ⟨hx, hb, hml, hown, hts, hr, hlk, hnm⟩ := id X
  have hl : lv_has ls 4 [(0, .ref (g 0 j)), (1, .int 3), (2, .int v3), (3, .int v4)] := hl
  have hP : va_P D classes (cat [[(g 0 j, .inr (3, [.int 0, .int 0, .int 1, .ref a0, .ref a1, .ref a2, .ref a3, .ref a4, .ref a5, .ref a6, .ref a7, .ref a8, .ref a9, .ref a10, .ref a11, .ref a12, .null, .int 0, .int 0]))]]) s.heap := hP
  have hK : va_K D classes (TY kA) s := hK
  refine lv_iload_n (pc := 0) hx hb d_Gr_mayAlter_0 rfl (lv_at hl 1 rfl) ?_
  refine lv_tableIn (pc := 1) (tgt := 130) hx hb d_Gr_mayAlter_1 (by decide) (by decide) rfl (by decide) ?_
  refine lv_aload_n (pc := 130) hx hb d_Gr_mayAlter_130 rfl (lv_at hl 0 rfl) ?_
  refine lv_iload_n (pc := 131) hx hb d_Gr_mayAlter_131 rfl (lv_at hl 2 rfl) ?_
  refine k_goI (gr := []) (k_rV (pc := 132) (As := [.int v3]) (rest := []) X (c_Gr_hasNode_z2 l D kA g j v3 a0 a1 a2 a3 a4 a5 a6 a7 a8 a9 a10 a11 a12 hj s.heap.size) rfl wm_921 wm_3 wm_969 wm_919 wm_920 1 (by decide +kernel) ⟨Nat.le_of_ble_eq_true rfl, Nat.le_of_ble_eq_true rfl⟩ rfl rfl (va_recv hK hP (ci := 3) (q0 := 0) rfl rfl) (k_pre hN hK hP hD [0] [] 1 rfl (by decide) rfl) rfl hl.1 rfl (Nat.le_of_ble_eq_true rfl) d_Gr_mayAlter_132 ⟨Nat.le_of_ble_eq_true rfl, Nat.le_of_ble_eq_true rfl⟩) hP hD hS hA [0] [] 1 rfl (by decide) rfl rfl (fun r1 u2 H locs hu2 hP hD hS => ?_)
  subst hu2
  have hP : va_P D classes (cat [[(g 0 j, .inr (3, [.int 0, .int 0, .int 1, .ref a0, .ref a1, .ref a2, .ref a3, .ref a4, .ref a5, .ref a6, .ref a7, .ref a8, .ref a9, .ref a10, .ref a11, .ref a12, .null, .int 0, .int 0]))]]) H := hP
  have hD : va_D A (cat [[(g 0 j, .inr (3, [.int 0, .int 0, .int 1, .ref a0, .ref a1, .ref a2, .ref a3, .ref a4, .ref a5, .ref a6, .ref a7, .ref a8, .ref a9, .ref a10, .ref a11, .ref a12, .null, .int 0, .int 0]))]]) := hD
  refine W.widen (k := 0) (n := 0) (Nat.le_of_ble_eq_true rfl) (Nat.le_of_ble_eq_true rfl) ?_
  exact W.zret (v := 0) hx hb hr rfl (fun t ht hW => ⟨⟨0, (), rfl, rfl, by rw [ht]; exact hP, va_K.moved hW.alike hK, hD⟩, hS.F ht⟩) hS.2.2 d_Gr_mayAlter_135
set_option maxRecDepth 100000 in
set_option maxHeartbeats 4000000 in
/-- DrawingHouse.change(IIII)I -/
theorem c_Ho_change_z8 (l : Launch) (D : va_G) (kA : Nat → ClassId) (a0 : Nat) (j : Nat) (v3 : Int32) (v4 : Int32) (a1 : Nat) (a2 : Nat) (a3 : Nat) (a4 : Nat) (a5 : Nat) (a6 : Nat) (a7 : Nat) (a8 : Nat) (a9 : Nat) (a10 : Nat) (g : Nat → Nat → Nat) (a11 : Nat) (a12 : Nat) (a13 : Nat) (a14 : Nat) (a15 : Nat) (a16 : Nat) (a17 : Nat) (a18 : Nat) (a19 : Nat) (a20 : Nat) (a21 : Nat) (a22 : Nat) (a23 : Nat) (hj : j < 4) : Ci l y_Ho_change z_Ho_change { frames := 2, cells := 0, slots := 0, locals := 44 } D classes (TY kA) [.ref a0, .int (nI j), .int 3, .int v3, .int v4] [[(a0, .inr (12, [.ref a1, .ref a2, .ref a3, .ref a4, .ref a5, .ref a6, .ref a7, .int 0, .int ((-1)), .ref a8, .ref a9, .int 0, .int 0, .ref a10, .int 0, .int 0, .null, .null, .null, .null, .null]))], [(a1, .inl (kA 4, 4, .inr (.inr (.inr (.inr (rr (g 0)))))))], [(g 0 j, .inr (3, [.int 0, .int 0, .int 1, .ref a11, .ref a12, .ref a13, .ref a14, .ref a15, .ref a16, .ref a17, .ref a18, .ref a19, .ref a20, .ref a21, .ref a22, .ref a23, .null, .int 0, .int 0]))]] (fun r (_ : List va_W) => r = (-1)) (fun u => u) 0 0 := by
  intro sz
  refine k_met (cc := b_Ho_change) (maxL := 6) (ret := (some .int)) (by decide) rfl (Nat.le_of_ble_eq_true rfl) (fun p e s m below meth c ls X hl hB => ?_)
  obtain ⟨hsz, hP, hK, hD0, hN⟩ := hB
  subst hsz
  have hD := hD0.self (sz := s.heap.size)
  generalize hAe : va_A (cat [[(a0, .inr (12, [.ref a1, .ref a2, .ref a3, .ref a4, .ref a5, .ref a6, .ref a7, .int 0, .int ((-1)), .ref a8, .ref a9, .int 0, .int 0, .ref a10, .int 0, .int 0, .null, .null, .null, .null, .null]))], [(a1, .inl (kA 4, 4, .inr (.inr (.inr (.inr (rr (g 0)))))))], [(g 0 j, .inr (3, [.int 0, .int 0, .int 1, .ref a11, .ref a12, .ref a13, .ref a14, .ref a15, .ref a16, .ref a17, .ref a18, .ref a19, .ref a20, .ref a21, .ref a22, .ref a23, .null, .int 0, .int 0]))]]) s.heap.size = A at hD ⊢
  have hA : ∀ q : Nat, s.heap.size ≤ q → A q := fun q h => by rw [← hAe]; exact Or.inr h
  have hS : va_S A s.heap s.heap [] := va_S.rf
  obtain ⟨hx, hb, hml, hown, hts, hr, hlk, hnm⟩ := id X
  have hl : lv_has ls 6 [(0, .ref a0), (1, .int (nI j)), (2, .int 3), (3, .int v3), (4, .int v4)] := hl
  have hP : va_P D classes (cat [[(a0, .inr (12, [.ref a1, .ref a2, .ref a3, .ref a4, .ref a5, .ref a6, .ref a7, .int 0, .int ((-1)), .ref a8, .ref a9, .int 0, .int 0, .ref a10, .int 0, .int 0, .null, .null, .null, .null, .null]))], [(a1, .inl (kA 4, 4, .inr (.inr (.inr (.inr (rr (g 0)))))))], [(g 0 j, .inr (3, [.int 0, .int 0, .int 1, .ref a11, .ref a12, .ref a13, .ref a14, .ref a15, .ref a16, .ref a17, .ref a18, .ref a19, .ref a20, .ref a21, .ref a22, .ref a23, .null, .int 0, .int 0]))]]) s.heap := hP
  have hK : va_K D classes (TY kA) s := hK
  refine lv_iload_n (pc := 0) hx hb d_Ho_change_0 rfl (lv_at hl 1 rfl) ?_
  refine k_goI (gr := [[(a0, .inr (12, [.ref a1, .ref a2, .ref a3, .ref a4, .ref a5, .ref a6, .ref a7, .int 0, .int ((-1)), .ref a8, .ref a9, .int 0, .int 0, .ref a10, .int 0, .int 0, .null, .null, .null, .null, .null]))], [(a1, .inl (kA 4, 4, .inr (.inr (.inr (.inr (rr (g 0)))))))], [(g 0 j, .inr (3, [.int 0, .int 0, .int 1, .ref a11, .ref a12, .ref a13, .ref a14, .ref a15, .ref a16, .ref a17, .ref a18, .ref a19, .ref a20, .ref a21, .ref a22, .ref a23, .null, .int 0, .int 0]))]]) (k_rS (pc := 1) (As := [.int (nI j)]) (rest := []) X (c_Ho_isPlace l D kA (nI j) s.heap.size) rfl wm_633 wm_1 wm_631 wm_632 1 (by decide +kernel) ⟨Nat.le_of_ble_eq_true rfl, Nat.le_of_ble_eq_true rfl⟩ rfl rfl (k_pre hN hK hP hD [] [0, 1, 2] 3 rfl (by decide) rfl) rfl hl.1 rfl (Nat.le_of_ble_eq_true rfl) d_Ho_change_1 ⟨Nat.le_of_ble_eq_true rfl, Nat.le_of_ble_eq_true rfl⟩) hP hD hS hA [] [0, 1, 2] 3 rfl (by decide) rfl rfl (fun r1 u2 H locs hu2 hP hD hS => ?_)
  subst hu2
  refine k_cst (v := 1) (place_ok hj) ?_
  have hP : va_P D classes (cat [[(a0, .inr (12, [.ref a1, .ref a2, .ref a3, .ref a4, .ref a5, .ref a6, .ref a7, .int 0, .int ((-1)), .ref a8, .ref a9, .int 0, .int 0, .ref a10, .int 0, .int 0, .null, .null, .null, .null, .null]))], [(a1, .inl (kA 4, 4, .inr (.inr (.inr (.inr (rr (g 0)))))))], [(g 0 j, .inr (3, [.int 0, .int 0, .int 1, .ref a11, .ref a12, .ref a13, .ref a14, .ref a15, .ref a16, .ref a17, .ref a18, .ref a19, .ref a20, .ref a21, .ref a22, .ref a23, .null, .int 0, .int 0]))]]) H := hP
  have hD : va_D A (cat [[(a0, .inr (12, [.ref a1, .ref a2, .ref a3, .ref a4, .ref a5, .ref a6, .ref a7, .int 0, .int ((-1)), .ref a8, .ref a9, .int 0, .int 0, .ref a10, .int 0, .int 0, .null, .null, .null, .null, .null]))], [(a1, .inl (kA 4, 4, .inr (.inr (.inr (.inr (rr (g 0)))))))], [(g 0 j, .inr (3, [.int 0, .int 0, .int 1, .ref a11, .ref a12, .ref a13, .ref a14, .ref a15, .ref a16, .ref a17, .ref a18, .ref a19, .ref a20, .ref a21, .ref a22, .ref a23, .null, .int 0, .int 0]))]]) := hD
  refine lv_if_eq (pc := 4) (tgt := 23) hx hb d_Ho_change_4 (by decide) (fun c1 => absurd c1 (by decide)) (fun c1 => ?_)
  refine lv_aload_n (pc := 7) hx hb d_Ho_change_7 rfl (lv_at hl 0 rfl) ?_
  refine k_get (pc := 8) X hK hP 0 rfl rfl i_Ho 0 (by decide) wm_555 rfl rfl d_Ho_change_8 ?_
  refine lv_iload_n (pc := 11) hx hb d_Ho_change_11 rfl (lv_at hl 1 rfl) ?_
  refine k_ald (pc := 12) hx hb hK hP 1 4 rfl rfl (j) rfl (by omega) (by decide) (rr_at (by omega)) d_Ho_change_12 ?_
  refine lv_iload_n (pc := 13) hx hb d_Ho_change_13 rfl (lv_at hl 2 rfl) ?_
  refine lv_iload_n (pc := 14) hx hb d_Ho_change_14 rfl (lv_at hl 3 rfl) ?_
  refine lv_iload (pc := 15) hx hb d_Ho_change_15 (lv_at hl 4 rfl) ?_
  refine k_goI (gr := [[(a0, .inr (12, [.ref a1, .ref a2, .ref a3, .ref a4, .ref a5, .ref a6, .ref a7, .int 0, .int ((-1)), .ref a8, .ref a9, .int 0, .int 0, .ref a10, .int 0, .int 0, .null, .null, .null, .null, .null]))], [(a1, .inl (kA 4, 4, .inr (.inr (.inr (.inr (rr (g 0)))))))]]) (k_rV (pc := 17) (As := [.int 3, .int v3, .int v4]) (rest := []) X (c_Gr_mayAlter_z7 l D kA g j v3 v4 a11 a12 a13 a14 a15 a16 a17 a18 a19 a20 a21 a22 a23 hj H.size) rfl wm_958 wm_3 wm_955 wm_956 wm_957 3 (by decide +kernel) ⟨Nat.le_of_ble_eq_true rfl, Nat.le_of_ble_eq_true rfl⟩ rfl rfl (va_recv hK hP (ci := 3) (q0 := 2) rfl rfl) (k_pre hN hK hP hD [2] [0, 1] 3 rfl (by decide) rfl) rfl hl.1 rfl (Nat.le_of_ble_eq_true rfl) d_Ho_change_17 ⟨Nat.le_of_ble_eq_true rfl, Nat.le_of_ble_eq_true rfl⟩) hP hD hS hA [2] [0, 1] 3 rfl (by decide) rfl rfl (fun r3 u4 H locs hu4 hP hD hS => ?_)
  subst hu4
  have hP : va_P D classes (cat [[(a0, .inr (12, [.ref a1, .ref a2, .ref a3, .ref a4, .ref a5, .ref a6, .ref a7, .int 0, .int ((-1)), .ref a8, .ref a9, .int 0, .int 0, .ref a10, .int 0, .int 0, .null, .null, .null, .null, .null]))], [(a1, .inl (kA 4, 4, .inr (.inr (.inr (.inr (rr (g 0)))))))], [(g 0 j, .inr (3, [.int 0, .int 0, .int 1, .ref a11, .ref a12, .ref a13, .ref a14, .ref a15, .ref a16, .ref a17, .ref a18, .ref a19, .ref a20, .ref a21, .ref a22, .ref a23, .null, .int 0, .int 0]))]]) H := hP
  have hD : va_D A (cat [[(a0, .inr (12, [.ref a1, .ref a2, .ref a3, .ref a4, .ref a5, .ref a6, .ref a7, .int 0, .int ((-1)), .ref a8, .ref a9, .int 0, .int 0, .ref a10, .int 0, .int 0, .null, .null, .null, .null, .null]))], [(a1, .inl (kA 4, 4, .inr (.inr (.inr (.inr (rr (g 0)))))))], [(g 0 j, .inr (3, [.int 0, .int 0, .int 1, .ref a11, .ref a12, .ref a13, .ref a14, .ref a15, .ref a16, .ref a17, .ref a18, .ref a19, .ref a20, .ref a21, .ref a22, .ref a23, .null, .int 0, .int 0]))]]) := hD
  refine lv_if_ne (pc := 20) (tgt := 25) hx hb d_Ho_change_20 (by decide) (fun c1 => absurd (by decide) c1) (fun c1 => ?_)
  refine lv_iconst (pc := 23) (v := -1) hx hb d_Ho_change_23 (by decide) ?_
  refine W.widen (k := 0) (n := 0) (Nat.le_of_ble_eq_true rfl) (Nat.le_of_ble_eq_true rfl) ?_
  exact W.iret (v := (-1)) hx hb hr (fun t ht hW => ⟨⟨(-1), [[(a0, .inr (12, [.ref a1, .ref a2, .ref a3, .ref a4, .ref a5, .ref a6, .ref a7, .int 0, .int ((-1)), .ref a8, .ref a9, .int 0, .int 0, .ref a10, .int 0, .int 0, .null, .null, .null, .null, .null]))], [(a1, .inl (kA 4, 4, .inr (.inr (.inr (.inr (rr (g 0)))))))], [(g 0 j, .inr (3, [.int 0, .int 0, .int 1, .ref a11, .ref a12, .ref a13, .ref a14, .ref a15, .ref a16, .ref a17, .ref a18, .ref a19, .ref a20, .ref a21, .ref a22, .ref a23, .null, .int 0, .int 0]))]], rfl, rfl, by rw [ht]; exact hP, va_K.moved hW.alike hK, hD⟩, hS.F ht⟩) hS.2.2 d_Ho_change_24
set_option maxRecDepth 100000 in
set_option maxHeartbeats 4000000 in
/-- DrawingHouseModel.change(IIII)I -/
theorem c_Mo_change_z8 (l : Launch) (D : va_G) (kA : Nat → ClassId) (a0 : Nat) (j : Nat) (v3 : Int32) (v4 : Int32) (qm : Nat → Nat) (hj : j < 4) : Ci l y_Mo_change z_Mo_change { frames := 2, cells := 0, slots := 0, locals := 42 } D classes (TY kA) [.ref a0, .int (nI j), .int 3, .int v3, .int v4] [[(a0, .inr (13, mF qm x0Mo y0Mo))], [(qm 3, .inl (kA 0, 4, .inl (fun _ => 0)))], [(qm 2, .inl (kA 0, 66836, .inl all0))]] (fun r (_ : List va_W) => r = (-1)) (fun u => u) 0 0 := by
  intro sz
  refine k_met (cc := b_Mo_change) (maxL := 5) (ret := (some .int)) (by decide) rfl (Nat.le_of_ble_eq_true rfl) (fun p e s m below meth c ls X hl hB => ?_)
  obtain ⟨hsz, hP, hK, hD0, hN⟩ := hB
  subst hsz
  have hD := hD0.self (sz := s.heap.size)
  generalize hAe : va_A (cat [[(a0, .inr (13, mF qm x0Mo y0Mo))], [(qm 3, .inl (kA 0, 4, .inl (fun _ => 0)))], [(qm 2, .inl (kA 0, 66836, .inl all0))]]) s.heap.size = A at hD ⊢
  have hA : ∀ q : Nat, s.heap.size ≤ q → A q := fun q h => by rw [← hAe]; exact Or.inr h
  have hS : va_S A s.heap s.heap [] := va_S.rf
  obtain ⟨hx, hb, hml, hown, hts, hr, hlk, hnm⟩ := id X
  have hl : lv_has ls 5 [(0, .ref a0), (1, .int (nI j)), (2, .int 3), (3, .int v3), (4, .int v4)] := hl
  have hP : va_P D classes (cat [[(a0, .inr (13, mF qm x0Mo y0Mo))], [(qm 3, .inl (kA 0, 4, .inl (fun _ => 0)))], [(qm 2, .inl (kA 0, 66836, .inl all0))]]) s.heap := hP
  have hK : va_K D classes (TY kA) s := hK
  refine lv_iload_n (pc := 0) hx hb d_Mo_change_0 rfl (lv_at hl 1 rfl) ?_
  refine k_goI (gr := [[(a0, .inr (13, mF qm x0Mo y0Mo))], [(qm 3, .inl (kA 0, 4, .inl (fun _ => 0)))], [(qm 2, .inl (kA 0, 66836, .inl all0))]]) (k_rS (pc := 1) (As := [.int (nI j)]) (rest := []) X (c_Mo_isPlace l D kA (nI j) s.heap.size) rfl wm_2978 wm_9 wm_2976 wm_2977 1 (by decide +kernel) ⟨Nat.le_of_ble_eq_true rfl, Nat.le_of_ble_eq_true rfl⟩ rfl rfl (k_pre hN hK hP hD [] [0, 1, 2] 3 rfl (by decide) rfl) rfl hl.1 rfl (Nat.le_of_ble_eq_true rfl) d_Mo_change_1 ⟨Nat.le_of_ble_eq_true rfl, Nat.le_of_ble_eq_true rfl⟩) hP hD hS hA [] [0, 1, 2] 3 rfl (by decide) rfl rfl (fun r1 u2 H locs hu2 hP hD hS => ?_)
  subst hu2
  refine k_cst (v := 1) (placeM_ok hj) ?_
  have hP : va_P D classes (cat [[(a0, .inr (13, mF qm x0Mo y0Mo))], [(qm 3, .inl (kA 0, 4, .inl (fun _ => 0)))], [(qm 2, .inl (kA 0, 66836, .inl all0))]]) H := hP
  have hD : va_D A (cat [[(a0, .inr (13, mF qm x0Mo y0Mo))], [(qm 3, .inl (kA 0, 4, .inl (fun _ => 0)))], [(qm 2, .inl (kA 0, 66836, .inl all0))]]) := hD
  refine lv_if_ne (pc := 4) (tgt := 9) hx hb d_Mo_change_4 (by decide) (fun c1 => ?_) (fun c1 => absurd c1 (by decide))
  refine lv_aload_n (pc := 9) hx hb d_Mo_change_9 rfl (lv_at hl 0 rfl) ?_
  refine lv_iload_n (pc := 10) hx hb d_Mo_change_10 rfl (lv_at hl 1 rfl) ?_
  refine k_goV (gr := [[(qm 2, .inl (kA 0, 66836, .inl all0))]]) (k_rV (pc := 11) (As := [.int (nI j)]) (rest := []) X (c_Mo_take_z1 l D kA a0 j qm hj H.size) rfl wm_3091 wm_9 wm_3088 wm_3090 wv_14_2 1 (by decide +kernel) ⟨Nat.le_of_ble_eq_true rfl, Nat.le_of_ble_eq_true rfl⟩ rfl rfl (va_recv hK hP (ci := 13) (q0 := 0) rfl rfl) (k_pre hN hK hP hD [0, 1] [2] 3 rfl (by decide) rfl) rfl hl.1 rfl (Nat.le_of_ble_eq_true rfl) d_Mo_change_11 ⟨Nat.le_of_ble_eq_true rfl, Nat.le_of_ble_eq_true rfl⟩) hP hD hS hA [0, 1] [2] 3 rfl (by decide) rfl rfl (fun u3 H locs hu3 hP hD hS => ?_)
  have hP : va_P D classes (cat [[(qm 2, .inl (kA 0, 66836, .inl all0))], [(a0, .inr (13, mF qm (va_up x0Mo 5 (nI (539 * (31 * j + 0)))) y0Mo))], [(qm 3, .inl (kA 0, 4, .inl (fun _ => 0)))]]) H := hP
  have hD : va_D A (cat [[(qm 2, .inl (kA 0, 66836, .inl all0))], [(a0, .inr (13, mF qm (va_up x0Mo 5 (nI (539 * (31 * j + 0)))) y0Mo))], [(qm 3, .inl (kA 0, 4, .inl (fun _ => 0)))]]) := hD
  refine lv_iload_n (pc := 14) hx hb d_Mo_change_14 rfl (lv_at hl 2 rfl) ?_
  refine lv_tableIn (pc := 15) (tgt := 171) hx hb d_Mo_change_15 (by decide) (by decide) rfl (by decide) ?_
  refine lv_iload_n (pc := 171) hx hb d_Mo_change_171 rfl (lv_at hl 3 rfl) ?_
  refine lv_iconst (pc := 172) (v := 0) hx hb d_Mo_change_172 (by decide) ?_
  refine lv_aload_n (pc := 173) hx hb d_Mo_change_173 rfl (lv_at hl 0 rfl) ?_
  refine k_goI (gr := [[(qm 3, .inl (kA 0, 4, .inl (fun _ => 0)))]]) (k_rV (pc := 174) (As := []) (rest := [.int 0, .int v3]) X (c_Mo_nodes_z1 l D kA a0 qm j hj H.size) rfl wm_3025 wm_9 wm_3022 wm_3024 wv_13_3 0 (by decide +kernel) ⟨Nat.le_of_ble_eq_true rfl, Nat.le_of_ble_eq_true rfl⟩ rfl rfl (va_recv hK hP (ci := 13) (q0 := 1) rfl rfl) (k_pre hN hK hP hD [1, 0] [2] 3 rfl (by decide) rfl) rfl hl.1 rfl (Nat.le_of_ble_eq_true rfl) d_Mo_change_174 ⟨Nat.le_of_ble_eq_true rfl, Nat.le_of_ble_eq_true rfl⟩) hP hD hS hA [1, 0] [2] 3 rfl (by decide) rfl rfl (fun r4 u5 H locs hu5 hP hD hS => ?_)
  subst hu5
  have hP : va_P D classes (cat [[(qm 3, .inl (kA 0, 4, .inl (fun _ => 0)))], [(a0, .inr (13, mF qm (va_up x0Mo 5 (nI (539 * (31 * j + 0)))) y0Mo))], [(qm 2, .inl (kA 0, 66836, .inl all0))]]) H := hP
  have hD : va_D A (cat [[(qm 3, .inl (kA 0, 4, .inl (fun _ => 0)))], [(a0, .inr (13, mF qm (va_up x0Mo 5 (nI (539 * (31 * j + 0)))) y0Mo))], [(qm 2, .inl (kA 0, 66836, .inl all0))]]) := hD
  refine lv_iconst (pc := 177) (v := 1) hx hb d_Mo_change_177 (by decide) ?_
  refine lv_isub (pc := 178) hx hb d_Mo_change_178 ?_
  refine k_cst (v := (-1)) (by decide) ?_
  refine k_goI (gr := [[(qm 3, .inl (kA 0, 4, .inl (fun _ => 0)))], [(a0, .inr (13, mF qm (va_up x0Mo 5 (nI (539 * (31 * j + 0)))) y0Mo))], [(qm 2, .inl (kA 0, 66836, .inl all0))]]) (k_rS (pc := 179) (As := [.int v3, .int 0, .int ((-1))]) (rest := []) X (c_Mo_in_z5 l D kA v3 H.size) rfl wm_2971 wm_9 wm_2969 wm_2970 3 (by decide +kernel) ⟨Nat.le_of_ble_eq_true rfl, Nat.le_of_ble_eq_true rfl⟩ rfl rfl (k_pre hN hK hP hD [] [0, 1, 2] 3 rfl (by decide) rfl) rfl hl.1 rfl (Nat.le_of_ble_eq_true rfl) d_Mo_change_179 ⟨Nat.le_of_ble_eq_true rfl, Nat.le_of_ble_eq_true rfl⟩) hP hD hS hA [] [0, 1, 2] 3 rfl (by decide) rfl rfl (fun r6 u7 H locs hu7 hP hD hS => ?_)
  subst hu7
  have hP : va_P D classes (cat [[(qm 3, .inl (kA 0, 4, .inl (fun _ => 0)))], [(a0, .inr (13, mF qm (va_up x0Mo 5 (nI (539 * (31 * j + 0)))) y0Mo))], [(qm 2, .inl (kA 0, 66836, .inl all0))]]) H := hP
  have hD : va_D A (cat [[(qm 3, .inl (kA 0, 4, .inl (fun _ => 0)))], [(a0, .inr (13, mF qm (va_up x0Mo 5 (nI (539 * (31 * j + 0)))) y0Mo))], [(qm 2, .inl (kA 0, 66836, .inl all0))]]) := hD
  refine lv_if_ne (pc := 182) (tgt := 187) hx hb d_Mo_change_182 (by decide) (fun c1 => absurd (by decide) c1) (fun c1 => ?_)
  refine lv_iconst (pc := 185) (v := -1) hx hb d_Mo_change_185 (by decide) ?_
  refine W.widen (k := 0) (n := 0) (Nat.le_of_ble_eq_true rfl) (Nat.le_of_ble_eq_true rfl) ?_
  exact W.iret (v := (-1)) hx hb hr (fun t ht hW => ⟨⟨(-1), [[(qm 3, .inl (kA 0, 4, .inl (fun _ => 0)))], [(a0, .inr (13, mF qm (va_up x0Mo 5 (nI (539 * (31 * j + 0)))) y0Mo))], [(qm 2, .inl (kA 0, 66836, .inl all0))]], rfl, rfl, by rw [ht]; exact hP, va_K.moved hW.alike hK, hD⟩, hS.F ht⟩) hS.2.2 d_Mo_change_186
set_option maxRecDepth 100000 in
set_option maxHeartbeats 4000000 in
/-- change, a fresh house -/
theorem lf_change_8 {p : Program} {e : Env} {s : State} {m : MethodId} {below : List Frame} {meth : Method} {c : Code} (l : Launch) {b : Nat} {xs : Nat → Int32} (C0 : lw_At p s m meth c b 6 xs) {D : va_G} {kA : Nat → ClassId} (h : Nat) (h2 : Nat) (q : Nat → Nat) (qg : Nat → Nat) (qm : Nat → Nat) (g : Nat → Nat → Nat) (j : Nat) (v3 : Int32) (v4 : Int32) (hj : j < 4) (hv1 : xs 1 = nI j) (hv2 : xs 2 = 3) (hv3 : xs 3 = v3) (hv4 : xs 4 = v4) {H : Heap} {locs : List Loc} {ls : Array Slot} (hK : va_K D classes (TY kA) s) (hN : nst s) (hP : va_P D classes (cat [[(h, .inr (12, [.ref (q 0), .ref (q 1), .ref (q 2), .ref (q 3), .ref (q 4), .ref (q 5), .ref (q 6), .int 0, .int ((-1)), .ref (q 9), .ref (q 10), .int 0, .int 0, .ref (q 13), .int 0, .int 0, .null, .null, .null, .null, .null]))], [(q 0, .inl (kA 4, 4, .inr (.inr (.inr (.inr (rr (g 0)))))))], [(g 0 j, .inr (3, [.int 0, .int 0, .int 1, .ref (qg 3), .ref (qg 4), .ref (qg 5), .ref (qg 6), .ref (qg 7), .ref (qg 8), .ref (qg 9), .ref (qg 10), .ref (qg 11), .ref (qg 12), .ref (qg 13), .ref (qg 14), .ref (qg 15), .null, .int 0, .int 0]))], [(h2, .inr (13, mF qm x0Mo y0Mo))], [(qm 3, .inl (kA 0, 4, .inl (fun _ => 0)))], [(qm 2, .inl (kA 0, 66836, .inl all0))]]) H) (hD : va_D (fun q : Nat => s.heap.size ≤ q) (cat [[(h, .inr (12, [.ref (q 0), .ref (q 1), .ref (q 2), .ref (q 3), .ref (q 4), .ref (q 5), .ref (q 6), .int 0, .int ((-1)), .ref (q 9), .ref (q 10), .int 0, .int 0, .ref (q 13), .int 0, .int 0, .null, .null, .null, .null, .null]))], [(q 0, .inl (kA 4, 4, .inr (.inr (.inr (.inr (rr (g 0)))))))], [(g 0 j, .inr (3, [.int 0, .int 0, .int 1, .ref (qg 3), .ref (qg 4), .ref (qg 5), .ref (qg 6), .ref (qg 7), .ref (qg 8), .ref (qg 9), .ref (qg 10), .ref (qg 11), .ref (qg 12), .ref (qg 13), .ref (qg 14), .ref (qg 15), .null, .int 0, .int 0]))], [(h2, .inr (13, mF qm x0Mo y0Mo))], [(qm 3, .inl (kA 0, 4, .inl (fun _ => 0)))], [(qm 2, .inl (kA 0, 66836, .inl all0))]])) (hS : va_S (fun q : Nat => s.heap.size ≤ q) s.heap H locs) (hl : lv_has ls 4 [(3, .int 0), (2, .ref h2), (1, .ref h), (0, .ref b)]) : W p l e room_1 s m #[Value.ref b] below meth c H locs 368 365796 (lw_Z below #[Value.ref b] s) (F0 m 494 ls []) := by
  obtain ⟨hx, hb, hr, hml, hown, hts0, hX, hbl, hlocks, hgv⟩ := id C0
  have hts : ∀ w ∈ lw_g, w.before #[Value.ref b] s = true := fun w h => hts0 w (lw_gt h)
  have X : cx p s m #[Value.ref b] meth c b_law_law 4 ret "DrawingHouseLaw" meth.name := ⟨hx, hb, hml, hown, hts, hr, hlocks, rfl⟩
  obtain ⟨A, hAe⟩ : ∃ A : Nat → Prop, A = fun q : Nat => s.heap.size ≤ q := ⟨_, rfl⟩
  have hA : ∀ q : Nat, s.heap.size ≤ q → A q := fun q h => by rw [hAe]; exact h
  have hbA : ¬ A b := by rw [hAe]; exact Nat.not_le.mpr hbl
  rw [← hAe] at hD hS
  refine lv_aload_n (pc := 494) hx hb d_law_law_494 rfl (lv_at hl 2 rfl) ?_
  refine lv_aload_n (pc := 495) hx hb d_law_law_495 rfl (lv_at hl 3 rfl) ?_
  refine lv_iload_n (pc := 496) hx hb d_law_law_496 rfl (lv_at hl 0 rfl) ?_
  refine lv_iconst (pc := 497) (v := 1) hx hb d_law_law_497 (by decide) ?_
  refine lv_iadd (pc := 498) hx hb d_law_law_498 ?_
  refine k_cst (v := 1) (by decide) ?_
  refine va_sld (pc := 499) hx hb hX hbl hbA hS (by unfold vp_in; decide) d_law_law_499 ?_
  refine k_cst (v := nI j) hv1 ?_
  refine lv_aload_n (pc := 500) hx hb d_law_law_500 rfl (lv_at hl 3 rfl) ?_
  refine lv_iload_n (pc := 501) hx hb d_law_law_501 rfl (lv_at hl 0 rfl) ?_
  refine lv_iconst (pc := 502) (v := 2) hx hb d_law_law_502 (by decide) ?_
  refine lv_iadd (pc := 503) hx hb d_law_law_503 ?_
  refine k_cst (v := 2) (by decide) ?_
  refine va_sld (pc := 504) hx hb hX hbl hbA hS (by unfold vp_in; decide) d_law_law_504 ?_
  refine k_cst (v := 3) hv2 ?_
  refine lv_aload_n (pc := 505) hx hb d_law_law_505 rfl (lv_at hl 3 rfl) ?_
  refine lv_iload_n (pc := 506) hx hb d_law_law_506 rfl (lv_at hl 0 rfl) ?_
  refine lv_iconst (pc := 507) (v := 3) hx hb d_law_law_507 (by decide) ?_
  refine lv_iadd (pc := 508) hx hb d_law_law_508 ?_
  refine k_cst (v := 3) (by decide) ?_
  refine va_sld (pc := 509) hx hb hX hbl hbA hS (by unfold vp_in; decide) d_law_law_509 ?_
  refine k_cst (v := v3) hv3 ?_
  refine lv_aload_n (pc := 510) hx hb d_law_law_510 rfl (lv_at hl 3 rfl) ?_
  refine lv_iload_n (pc := 511) hx hb d_law_law_511 rfl (lv_at hl 0 rfl) ?_
  refine lv_iconst (pc := 512) (v := 4) hx hb d_law_law_512 (by decide) ?_
  refine lv_iadd (pc := 513) hx hb d_law_law_513 ?_
  refine k_cst (v := 4) (by decide) ?_
  refine va_sld (pc := 514) hx hb hX hbl hbA hS (by unfold vp_in; decide) d_law_law_514 ?_
  refine k_cst (v := v4) hv4 ?_
  refine k_goI (gr := [[(h2, .inr (13, mF qm x0Mo y0Mo))], [(qm 3, .inl (kA 0, 4, .inl (fun _ => 0)))], [(qm 2, .inl (kA 0, 66836, .inl all0))]]) (k_rV (pc := 515) (As := [.int (nI j), .int 3, .int v3, .int v4]) (rest := []) X (c_Ho_change_z8 l D kA h j v3 v4 (q 0) (q 1) (q 2) (q 3) (q 4) (q 5) (q 6) (q 9) (q 10) (q 13) g (qg 3) (qg 4) (qg 5) (qg 6) (qg 7) (qg 8) (qg 9) (qg 10) (qg 11) (qg 12) (qg 13) (qg 14) (qg 15) hj H.size) rfl wm_954 wm_1 wm_951 wm_952 wm_953 4 (by decide +kernel) ⟨Nat.le_of_ble_eq_true rfl, Nat.le_of_ble_eq_true rfl⟩ rfl rfl (va_recv hK hP (ci := 12) (q0 := 0) rfl rfl) (k_pre hN hK hP hD [0, 1, 2] [3, 4, 5] 6 rfl (by decide) rfl) rfl hl.1 rfl (Nat.le_of_ble_eq_true rfl) d_law_law_515 ⟨Nat.le_of_ble_eq_true rfl, Nat.le_of_ble_eq_true rfl⟩) hP hD hS hA [0, 1, 2] [3, 4, 5] 6 rfl (by decide) rfl rfl (fun r1 u2 H locs hu2 hP hD hS => ?_)
  obtain ⟨hP, hD⟩ := k_left hP hD
  subst hu2
  have hP : va_P D classes (cat [[(h2, .inr (13, mF qm x0Mo y0Mo))], [(qm 3, .inl (kA 0, 4, .inl (fun _ => 0)))], [(qm 2, .inl (kA 0, 66836, .inl all0))]]) H := hP
  have hD : va_D A (cat [[(h2, .inr (13, mF qm x0Mo y0Mo))], [(qm 3, .inl (kA 0, 4, .inl (fun _ => 0)))], [(qm 2, .inl (kA 0, 66836, .inl all0))]]) := hD
  refine lv_aload_n (pc := 518) hx hb d_law_law_518 rfl (lv_at hl 1 rfl) ?_
  refine lv_aload_n (pc := 519) hx hb d_law_law_519 rfl (lv_at hl 3 rfl) ?_
  refine lv_iload_n (pc := 520) hx hb d_law_law_520 rfl (lv_at hl 0 rfl) ?_
  refine lv_iconst (pc := 521) (v := 1) hx hb d_law_law_521 (by decide) ?_
  refine lv_iadd (pc := 522) hx hb d_law_law_522 ?_
  refine k_cst (v := 1) (by decide) ?_
  refine va_sld (pc := 523) hx hb hX hbl hbA hS (by unfold vp_in; decide) d_law_law_523 ?_
  refine k_cst (v := nI j) hv1 ?_
  refine lv_aload_n (pc := 524) hx hb d_law_law_524 rfl (lv_at hl 3 rfl) ?_
  refine lv_iload_n (pc := 525) hx hb d_law_law_525 rfl (lv_at hl 0 rfl) ?_
  refine lv_iconst (pc := 526) (v := 2) hx hb d_law_law_526 (by decide) ?_
  refine lv_iadd (pc := 527) hx hb d_law_law_527 ?_
  refine k_cst (v := 2) (by decide) ?_
  refine va_sld (pc := 528) hx hb hX hbl hbA hS (by unfold vp_in; decide) d_law_law_528 ?_
  refine k_cst (v := 3) hv2 ?_
  refine lv_aload_n (pc := 529) hx hb d_law_law_529 rfl (lv_at hl 3 rfl) ?_
  refine lv_iload_n (pc := 530) hx hb d_law_law_530 rfl (lv_at hl 0 rfl) ?_
  refine lv_iconst (pc := 531) (v := 3) hx hb d_law_law_531 (by decide) ?_
  refine lv_iadd (pc := 532) hx hb d_law_law_532 ?_
  refine k_cst (v := 3) (by decide) ?_
  refine va_sld (pc := 533) hx hb hX hbl hbA hS (by unfold vp_in; decide) d_law_law_533 ?_
  refine k_cst (v := v3) hv3 ?_
  refine lv_aload_n (pc := 534) hx hb d_law_law_534 rfl (lv_at hl 3 rfl) ?_
  refine lv_iload_n (pc := 535) hx hb d_law_law_535 rfl (lv_at hl 0 rfl) ?_
  refine lv_iconst (pc := 536) (v := 4) hx hb d_law_law_536 (by decide) ?_
  refine lv_iadd (pc := 537) hx hb d_law_law_537 ?_
  refine k_cst (v := 4) (by decide) ?_
  refine va_sld (pc := 538) hx hb hX hbl hbA hS (by unfold vp_in; decide) d_law_law_538 ?_
  refine k_cst (v := v4) hv4 ?_
  refine k_goI (gr := []) (k_rV (pc := 539) (As := [.int (nI j), .int 3, .int v3, .int v4]) (rest := [.int ((-1))]) X (c_Mo_change_z8 l D kA h2 j v3 v4 qm hj H.size) rfl wm_3087 wm_9 wm_3084 wm_3085 wm_3086 4 (by decide +kernel) ⟨Nat.le_of_ble_eq_true rfl, Nat.le_of_ble_eq_true rfl⟩ rfl rfl (va_recv hK hP (ci := 13) (q0 := 0) rfl rfl) (k_pre hN hK hP hD [0, 1, 2] [] 3 rfl (by decide) rfl) rfl hl.1 rfl (Nat.le_of_ble_eq_true rfl) d_law_law_539 ⟨Nat.le_of_ble_eq_true rfl, Nat.le_of_ble_eq_true rfl⟩) hP hD hS hA [0, 1, 2] [] 3 rfl (by decide) rfl rfl (fun r3 u4 H locs hu4 hP hD hS => ?_)
  obtain ⟨hP, hD⟩ := k_left hP hD
  subst hu4
  have hP : va_P D classes (cat []) H := hP
  have hD : va_D A (cat []) := hD
  refine lv_icmp_eq (pc := 542) (tgt := 1295) hx hb d_law_law_542 (by decide) (fun _ => ?_) (fun c1 => absurd (by decide) c1)
  rw [hAe] at hS
  exact law_exit l C0 (Nat.le_of_ble_eq_true rfl) (Nat.le_of_ble_eq_true rfl) hS hl
set_option maxRecDepth 100000 in
set_option maxHeartbeats 4000000 in
/-- DrawingHouse$Graph.mayAlter(III)Z -/
theorem c_Gr_mayAlter_z8 (l : Launch) (D : va_G) (kA : Nat → ClassId) (g : Nat → Nat → Nat) (j : Nat) (v3 : Int32) (v4 : Int32) (a0 : Nat) (a1 : Nat) (a2 : Nat) (a3 : Nat) (a4 : Nat) (a5 : Nat) (a6 : Nat) (a7 : Nat) (a8 : Nat) (a9 : Nat) (a10 : Nat) (a11 : Nat) (a12 : Nat) (hj : j < 4) : Ci l y_Gr_mayAlter z_Gr_mayAlter { frames := 1, cells := 0, slots := 0, locals := 21 } D classes (TY kA) [.ref (g 0 j), .int 4, .int v3, .int v4] [[(g 0 j, .inr (3, [.int 0, .int 0, .int 1, .ref a0, .ref a1, .ref a2, .ref a3, .ref a4, .ref a5, .ref a6, .ref a7, .ref a8, .ref a9, .ref a10, .ref a11, .ref a12, .null, .int 0, .int 0]))]] (fun r (_ : Unit) => r = 0) (fun u => [[(g 0 j, .inr (3, [.int 0, .int 0, .int 1, .ref a0, .ref a1, .ref a2, .ref a3, .ref a4, .ref a5, .ref a6, .ref a7, .ref a8, .ref a9, .ref a10, .ref a11, .ref a12, .null, .int 0, .int 0]))]]) 0 0 := by
  intro sz
  refine k_met (cc := b_Gr_mayAlter) (maxL := 4) (ret := (some .boolean)) (by decide) rfl (Nat.le_of_ble_eq_true rfl) (fun p e s m below meth c ls X hl hB => ?_)
  obtain ⟨hsz, hP, hK, hD0, hN⟩ := hB
  subst hsz
  have hD := hD0.self (sz := s.heap.size)
  generalize hAe : va_A (cat [[(g 0 j, .inr (3, [.int 0, .int 0, .int 1, .ref a0, .ref a1, .ref a2, .ref a3, .ref a4, .ref a5, .ref a6, .ref a7, .ref a8, .ref a9, .ref a10, .ref a11, .ref a12, .null, .int 0, .int 0]))]]) s.heap.size = A at hD ⊢
  have hA : ∀ q : Nat, s.heap.size ≤ q → A q := fun q h => by rw [← hAe]; exact Or.inr h
  have hS : va_S A s.heap s.heap [] := va_S.rf
  obtain ⟨hx, hb, hml, hown, hts, hr, hlk, hnm⟩ := id X
  have hl : lv_has ls 4 [(0, .ref (g 0 j)), (1, .int 4), (2, .int v3), (3, .int v4)] := hl
  have hP : va_P D classes (cat [[(g 0 j, .inr (3, [.int 0, .int 0, .int 1, .ref a0, .ref a1, .ref a2, .ref a3, .ref a4, .ref a5, .ref a6, .ref a7, .ref a8, .ref a9, .ref a10, .ref a11, .ref a12, .null, .int 0, .int 0]))]]) s.heap := hP
  have hK : va_K D classes (TY kA) s := hK
  refine lv_iload_n (pc := 0) hx hb d_Gr_mayAlter_0 rfl (lv_at hl 1 rfl) ?_
  refine lv_tableIn (pc := 1) (tgt := 136) hx hb d_Gr_mayAlter_1 (by decide) (by decide) rfl (by decide) ?_
  refine lv_aload_n (pc := 136) hx hb d_Gr_mayAlter_136 rfl (lv_at hl 0 rfl) ?_
  refine lv_iload_n (pc := 137) hx hb d_Gr_mayAlter_137 rfl (lv_at hl 2 rfl) ?_
  refine k_goI (gr := []) (k_rV (pc := 138) (As := [.int v3]) (rest := []) X (c_Gr_hasNode_z2 l D kA g j v3 a0 a1 a2 a3 a4 a5 a6 a7 a8 a9 a10 a11 a12 hj s.heap.size) rfl wm_921 wm_3 wm_969 wm_919 wm_920 1 (by decide +kernel) ⟨Nat.le_of_ble_eq_true rfl, Nat.le_of_ble_eq_true rfl⟩ rfl rfl (va_recv hK hP (ci := 3) (q0 := 0) rfl rfl) (k_pre hN hK hP hD [0] [] 1 rfl (by decide) rfl) rfl hl.1 rfl (Nat.le_of_ble_eq_true rfl) d_Gr_mayAlter_138 ⟨Nat.le_of_ble_eq_true rfl, Nat.le_of_ble_eq_true rfl⟩) hP hD hS hA [0] [] 1 rfl (by decide) rfl rfl (fun r1 u2 H locs hu2 hP hD hS => ?_)
  subst hu2
  have hP : va_P D classes (cat [[(g 0 j, .inr (3, [.int 0, .int 0, .int 1, .ref a0, .ref a1, .ref a2, .ref a3, .ref a4, .ref a5, .ref a6, .ref a7, .ref a8, .ref a9, .ref a10, .ref a11, .ref a12, .null, .int 0, .int 0]))]]) H := hP
  have hD : va_D A (cat [[(g 0 j, .inr (3, [.int 0, .int 0, .int 1, .ref a0, .ref a1, .ref a2, .ref a3, .ref a4, .ref a5, .ref a6, .ref a7, .ref a8, .ref a9, .ref a10, .ref a11, .ref a12, .null, .int 0, .int 0]))]]) := hD
  refine lv_if_eq (pc := 141) (tgt := 159) hx hb d_Gr_mayAlter_141 (by decide) (fun c1 => ?_) (fun c1 => absurd (by decide) c1)
  refine lv_iconst (pc := 159) (v := 0) hx hb d_Gr_mayAlter_159 (by decide) ?_
  refine W.widen (k := 0) (n := 0) (Nat.le_of_ble_eq_true rfl) (Nat.le_of_ble_eq_true rfl) ?_
  exact W.zret (v := 0) hx hb hr rfl (fun t ht hW => ⟨⟨0, (), rfl, rfl, by rw [ht]; exact hP, va_K.moved hW.alike hK, hD⟩, hS.F ht⟩) hS.2.2 d_Gr_mayAlter_160
set_option maxRecDepth 100000 in
set_option maxHeartbeats 4000000 in
/-- DrawingHouse.change(IIII)I -/
theorem c_Ho_change_z9 (l : Launch) (D : va_G) (kA : Nat → ClassId) (a0 : Nat) (j : Nat) (v3 : Int32) (v4 : Int32) (a1 : Nat) (a2 : Nat) (a3 : Nat) (a4 : Nat) (a5 : Nat) (a6 : Nat) (a7 : Nat) (a8 : Nat) (a9 : Nat) (a10 : Nat) (g : Nat → Nat → Nat) (a11 : Nat) (a12 : Nat) (a13 : Nat) (a14 : Nat) (a15 : Nat) (a16 : Nat) (a17 : Nat) (a18 : Nat) (a19 : Nat) (a20 : Nat) (a21 : Nat) (a22 : Nat) (a23 : Nat) (hj : j < 4) : Ci l y_Ho_change z_Ho_change { frames := 2, cells := 0, slots := 0, locals := 44 } D classes (TY kA) [.ref a0, .int (nI j), .int 4, .int v3, .int v4] [[(a0, .inr (12, [.ref a1, .ref a2, .ref a3, .ref a4, .ref a5, .ref a6, .ref a7, .int 0, .int ((-1)), .ref a8, .ref a9, .int 0, .int 0, .ref a10, .int 0, .int 0, .null, .null, .null, .null, .null]))], [(a1, .inl (kA 4, 4, .inr (.inr (.inr (.inr (rr (g 0)))))))], [(g 0 j, .inr (3, [.int 0, .int 0, .int 1, .ref a11, .ref a12, .ref a13, .ref a14, .ref a15, .ref a16, .ref a17, .ref a18, .ref a19, .ref a20, .ref a21, .ref a22, .ref a23, .null, .int 0, .int 0]))]] (fun r (_ : List va_W) => r = (-1)) (fun u => u) 0 0 := by
  intro sz
  refine k_met (cc := b_Ho_change) (maxL := 6) (ret := (some .int)) (by decide) rfl (Nat.le_of_ble_eq_true rfl) (fun p e s m below meth c ls X hl hB => ?_)
  obtain ⟨hsz, hP, hK, hD0, hN⟩ := hB
  subst hsz
  have hD := hD0.self (sz := s.heap.size)
  generalize hAe : va_A (cat [[(a0, .inr (12, [.ref a1, .ref a2, .ref a3, .ref a4, .ref a5, .ref a6, .ref a7, .int 0, .int ((-1)), .ref a8, .ref a9, .int 0, .int 0, .ref a10, .int 0, .int 0, .null, .null, .null, .null, .null]))], [(a1, .inl (kA 4, 4, .inr (.inr (.inr (.inr (rr (g 0)))))))], [(g 0 j, .inr (3, [.int 0, .int 0, .int 1, .ref a11, .ref a12, .ref a13, .ref a14, .ref a15, .ref a16, .ref a17, .ref a18, .ref a19, .ref a20, .ref a21, .ref a22, .ref a23, .null, .int 0, .int 0]))]]) s.heap.size = A at hD ⊢
  have hA : ∀ q : Nat, s.heap.size ≤ q → A q := fun q h => by rw [← hAe]; exact Or.inr h
  have hS : va_S A s.heap s.heap [] := va_S.rf
  obtain ⟨hx, hb, hml, hown, hts, hr, hlk, hnm⟩ := id X
  have hl : lv_has ls 6 [(0, .ref a0), (1, .int (nI j)), (2, .int 4), (3, .int v3), (4, .int v4)] := hl
  have hP : va_P D classes (cat [[(a0, .inr (12, [.ref a1, .ref a2, .ref a3, .ref a4, .ref a5, .ref a6, .ref a7, .int 0, .int ((-1)), .ref a8, .ref a9, .int 0, .int 0, .ref a10, .int 0, .int 0, .null, .null, .null, .null, .null]))], [(a1, .inl (kA 4, 4, .inr (.inr (.inr (.inr (rr (g 0)))))))], [(g 0 j, .inr (3, [.int 0, .int 0, .int 1, .ref a11, .ref a12, .ref a13, .ref a14, .ref a15, .ref a16, .ref a17, .ref a18, .ref a19, .ref a20, .ref a21, .ref a22, .ref a23, .null, .int 0, .int 0]))]]) s.heap := hP
  have hK : va_K D classes (TY kA) s := hK
  refine lv_iload_n (pc := 0) hx hb d_Ho_change_0 rfl (lv_at hl 1 rfl) ?_
  refine k_goI (gr := [[(a0, .inr (12, [.ref a1, .ref a2, .ref a3, .ref a4, .ref a5, .ref a6, .ref a7, .int 0, .int ((-1)), .ref a8, .ref a9, .int 0, .int 0, .ref a10, .int 0, .int 0, .null, .null, .null, .null, .null]))], [(a1, .inl (kA 4, 4, .inr (.inr (.inr (.inr (rr (g 0)))))))], [(g 0 j, .inr (3, [.int 0, .int 0, .int 1, .ref a11, .ref a12, .ref a13, .ref a14, .ref a15, .ref a16, .ref a17, .ref a18, .ref a19, .ref a20, .ref a21, .ref a22, .ref a23, .null, .int 0, .int 0]))]]) (k_rS (pc := 1) (As := [.int (nI j)]) (rest := []) X (c_Ho_isPlace l D kA (nI j) s.heap.size) rfl wm_633 wm_1 wm_631 wm_632 1 (by decide +kernel) ⟨Nat.le_of_ble_eq_true rfl, Nat.le_of_ble_eq_true rfl⟩ rfl rfl (k_pre hN hK hP hD [] [0, 1, 2] 3 rfl (by decide) rfl) rfl hl.1 rfl (Nat.le_of_ble_eq_true rfl) d_Ho_change_1 ⟨Nat.le_of_ble_eq_true rfl, Nat.le_of_ble_eq_true rfl⟩) hP hD hS hA [] [0, 1, 2] 3 rfl (by decide) rfl rfl (fun r1 u2 H locs hu2 hP hD hS => ?_)
  subst hu2
  refine k_cst (v := 1) (place_ok hj) ?_
  have hP : va_P D classes (cat [[(a0, .inr (12, [.ref a1, .ref a2, .ref a3, .ref a4, .ref a5, .ref a6, .ref a7, .int 0, .int ((-1)), .ref a8, .ref a9, .int 0, .int 0, .ref a10, .int 0, .int 0, .null, .null, .null, .null, .null]))], [(a1, .inl (kA 4, 4, .inr (.inr (.inr (.inr (rr (g 0)))))))], [(g 0 j, .inr (3, [.int 0, .int 0, .int 1, .ref a11, .ref a12, .ref a13, .ref a14, .ref a15, .ref a16, .ref a17, .ref a18, .ref a19, .ref a20, .ref a21, .ref a22, .ref a23, .null, .int 0, .int 0]))]]) H := hP
  have hD : va_D A (cat [[(a0, .inr (12, [.ref a1, .ref a2, .ref a3, .ref a4, .ref a5, .ref a6, .ref a7, .int 0, .int ((-1)), .ref a8, .ref a9, .int 0, .int 0, .ref a10, .int 0, .int 0, .null, .null, .null, .null, .null]))], [(a1, .inl (kA 4, 4, .inr (.inr (.inr (.inr (rr (g 0)))))))], [(g 0 j, .inr (3, [.int 0, .int 0, .int 1, .ref a11, .ref a12, .ref a13, .ref a14, .ref a15, .ref a16, .ref a17, .ref a18, .ref a19, .ref a20, .ref a21, .ref a22, .ref a23, .null, .int 0, .int 0]))]]) := hD
  refine lv_if_eq (pc := 4) (tgt := 23) hx hb d_Ho_change_4 (by decide) (fun c1 => absurd c1 (by decide)) (fun c1 => ?_)
  refine lv_aload_n (pc := 7) hx hb d_Ho_change_7 rfl (lv_at hl 0 rfl) ?_
  refine k_get (pc := 8) X hK hP 0 rfl rfl i_Ho 0 (by decide) wm_555 rfl rfl d_Ho_change_8 ?_
  refine lv_iload_n (pc := 11) hx hb d_Ho_change_11 rfl (lv_at hl 1 rfl) ?_
  refine k_ald (pc := 12) hx hb hK hP 1 4 rfl rfl (j) rfl (by omega) (by decide) (rr_at (by omega)) d_Ho_change_12 ?_
  refine lv_iload_n (pc := 13) hx hb d_Ho_change_13 rfl (lv_at hl 2 rfl) ?_
  refine lv_iload_n (pc := 14) hx hb d_Ho_change_14 rfl (lv_at hl 3 rfl) ?_
  refine lv_iload (pc := 15) hx hb d_Ho_change_15 (lv_at hl 4 rfl) ?_
  refine k_goI (gr := [[(a0, .inr (12, [.ref a1, .ref a2, .ref a3, .ref a4, .ref a5, .ref a6, .ref a7, .int 0, .int ((-1)), .ref a8, .ref a9, .int 0, .int 0, .ref a10, .int 0, .int 0, .null, .null, .null, .null, .null]))], [(a1, .inl (kA 4, 4, .inr (.inr (.inr (.inr (rr (g 0)))))))]]) (k_rV (pc := 17) (As := [.int 4, .int v3, .int v4]) (rest := []) X (c_Gr_mayAlter_z8 l D kA g j v3 v4 a11 a12 a13 a14 a15 a16 a17 a18 a19 a20 a21 a22 a23 hj H.size) rfl wm_958 wm_3 wm_955 wm_956 wm_957 3 (by decide +kernel) ⟨Nat.le_of_ble_eq_true rfl, Nat.le_of_ble_eq_true rfl⟩ rfl rfl (va_recv hK hP (ci := 3) (q0 := 2) rfl rfl) (k_pre hN hK hP hD [2] [0, 1] 3 rfl (by decide) rfl) rfl hl.1 rfl (Nat.le_of_ble_eq_true rfl) d_Ho_change_17 ⟨Nat.le_of_ble_eq_true rfl, Nat.le_of_ble_eq_true rfl⟩) hP hD hS hA [2] [0, 1] 3 rfl (by decide) rfl rfl (fun r3 u4 H locs hu4 hP hD hS => ?_)
  subst hu4
  have hP : va_P D classes (cat [[(a0, .inr (12, [.ref a1, .ref a2, .ref a3, .ref a4, .ref a5, .ref a6, .ref a7, .int 0, .int ((-1)), .ref a8, .ref a9, .int 0, .int 0, .ref a10, .int 0, .int 0, .null, .null, .null, .null, .null]))], [(a1, .inl (kA 4, 4, .inr (.inr (.inr (.inr (rr (g 0)))))))], [(g 0 j, .inr (3, [.int 0, .int 0, .int 1, .ref a11, .ref a12, .ref a13, .ref a14, .ref a15, .ref a16, .ref a17, .ref a18, .ref a19, .ref a20, .ref a21, .ref a22, .ref a23, .null, .int 0, .int 0]))]]) H := hP
  have hD : va_D A (cat [[(a0, .inr (12, [.ref a1, .ref a2, .ref a3, .ref a4, .ref a5, .ref a6, .ref a7, .int 0, .int ((-1)), .ref a8, .ref a9, .int 0, .int 0, .ref a10, .int 0, .int 0, .null, .null, .null, .null, .null]))], [(a1, .inl (kA 4, 4, .inr (.inr (.inr (.inr (rr (g 0)))))))], [(g 0 j, .inr (3, [.int 0, .int 0, .int 1, .ref a11, .ref a12, .ref a13, .ref a14, .ref a15, .ref a16, .ref a17, .ref a18, .ref a19, .ref a20, .ref a21, .ref a22, .ref a23, .null, .int 0, .int 0]))]]) := hD
  refine lv_if_ne (pc := 20) (tgt := 25) hx hb d_Ho_change_20 (by decide) (fun c1 => absurd (by decide) c1) (fun c1 => ?_)
  refine lv_iconst (pc := 23) (v := -1) hx hb d_Ho_change_23 (by decide) ?_
  refine W.widen (k := 0) (n := 0) (Nat.le_of_ble_eq_true rfl) (Nat.le_of_ble_eq_true rfl) ?_
  exact W.iret (v := (-1)) hx hb hr (fun t ht hW => ⟨⟨(-1), [[(a0, .inr (12, [.ref a1, .ref a2, .ref a3, .ref a4, .ref a5, .ref a6, .ref a7, .int 0, .int ((-1)), .ref a8, .ref a9, .int 0, .int 0, .ref a10, .int 0, .int 0, .null, .null, .null, .null, .null]))], [(a1, .inl (kA 4, 4, .inr (.inr (.inr (.inr (rr (g 0)))))))], [(g 0 j, .inr (3, [.int 0, .int 0, .int 1, .ref a11, .ref a12, .ref a13, .ref a14, .ref a15, .ref a16, .ref a17, .ref a18, .ref a19, .ref a20, .ref a21, .ref a22, .ref a23, .null, .int 0, .int 0]))]], rfl, rfl, by rw [ht]; exact hP, va_K.moved hW.alike hK, hD⟩, hS.F ht⟩) hS.2.2 d_Ho_change_24
set_option maxRecDepth 100000 in
set_option maxHeartbeats 4000000 in
/-- DrawingHouseModel.becomes(IIZII)I -/
theorem c_Mo_becomes_z1 (l : Launch) (D : va_G) (kA : Nat → ClassId) (a0 : Nat) (j : Nat) (v3 : Int32) (v4 : Int32) (hj : j < 4) : Ci l y_Mo_becomes z_Mo_becomes { frames := 0, cells := 0, slots := 0, locals := 0 } D classes (TY kA) [.ref a0, .int (nI j), .int 219, .int 0, .int v3, .int v4] [] (fun r (_ : Unit) => r = (-1)) (fun u => []) 0 0 := by
  intro sz
  refine k_met (cc := b_Mo_becomes) (maxL := 6) (ret := (some .int)) (by decide) rfl (Nat.le_of_ble_eq_true rfl) (fun p e s m below meth c ls X hl hB => ?_)
  obtain ⟨hsz, hP, hK, hD0, hN⟩ := hB
  subst hsz
  have hD := hD0.self (sz := s.heap.size)
  generalize hAe : va_A (cat []) s.heap.size = A at hD ⊢
  have hA : ∀ q : Nat, s.heap.size ≤ q → A q := fun q h => by rw [← hAe]; exact Or.inr h
  have hS : va_S A s.heap s.heap [] := va_S.rf
  obtain ⟨hx, hb, hml, hown, hts, hr, hlk, hnm⟩ := id X
  have hl : lv_has ls 6 [(0, .ref a0), (1, .int (nI j)), (2, .int 219), (3, .int 0), (4, .int v3), (5, .int v4)] := hl
  have hP : va_P D classes (cat []) s.heap := hP
  have hK : va_K D classes (TY kA) s := hK
  refine lv_iload_n (pc := 0) hx hb d_Mo_becomes_0 rfl (lv_at hl 3 rfl) ?_
  refine lv_if_ne (pc := 1) (tgt := 6) hx hb d_Mo_becomes_1 (by decide) (fun c1 => absurd (by decide) c1) (fun c1 => ?_)
  refine lv_iconst (pc := 4) (v := -1) hx hb d_Mo_becomes_4 (by decide) ?_
  refine W.widen (k := 0) (n := 0) (Nat.le_of_ble_eq_true rfl) (Nat.le_of_ble_eq_true rfl) ?_
  exact W.iret (v := (-1)) hx hb hr (fun t ht hW => ⟨⟨(-1), (), rfl, rfl, by rw [ht]; exact hP, va_K.moved hW.alike hK, hD⟩, hS.F ht⟩) hS.2.2 d_Mo_becomes_5
set_option maxRecDepth 100000 in
set_option maxHeartbeats 4000000 in
/-- DrawingHouseModel.change(IIII)I -/
theorem c_Mo_change_z9 (l : Launch) (D : va_G) (kA : Nat → ClassId) (a0 : Nat) (j : Nat) (v3 : Int32) (v4 : Int32) (qm : Nat → Nat) (hj : j < 4) : Ci l y_Mo_change z_Mo_change { frames := 2, cells := 0, slots := 0, locals := 42 } D classes (TY kA) [.ref a0, .int (nI j), .int 4, .int v3, .int v4] [[(a0, .inr (13, mF qm x0Mo y0Mo))], [(qm 3, .inl (kA 0, 4, .inl (fun _ => 0)))], [(qm 2, .inl (kA 0, 66836, .inl all0))]] (fun r (_ : List va_W) => r = (-1)) (fun u => u) 0 0 := by
  intro sz
  refine k_met (cc := b_Mo_change) (maxL := 5) (ret := (some .int)) (by decide) rfl (Nat.le_of_ble_eq_true rfl) (fun p e s m below meth c ls X hl hB => ?_)
  obtain ⟨hsz, hP, hK, hD0, hN⟩ := hB
  subst hsz
  have hD := hD0.self (sz := s.heap.size)
  generalize hAe : va_A (cat [[(a0, .inr (13, mF qm x0Mo y0Mo))], [(qm 3, .inl (kA 0, 4, .inl (fun _ => 0)))], [(qm 2, .inl (kA 0, 66836, .inl all0))]]) s.heap.size = A at hD ⊢
  have hA : ∀ q : Nat, s.heap.size ≤ q → A q := fun q h => by rw [← hAe]; exact Or.inr h
  have hS : va_S A s.heap s.heap [] := va_S.rf
  obtain ⟨hx, hb, hml, hown, hts, hr, hlk, hnm⟩ := id X
  have hl : lv_has ls 5 [(0, .ref a0), (1, .int (nI j)), (2, .int 4), (3, .int v3), (4, .int v4)] := hl
  have hP : va_P D classes (cat [[(a0, .inr (13, mF qm x0Mo y0Mo))], [(qm 3, .inl (kA 0, 4, .inl (fun _ => 0)))], [(qm 2, .inl (kA 0, 66836, .inl all0))]]) s.heap := hP
  have hK : va_K D classes (TY kA) s := hK
  refine lv_iload_n (pc := 0) hx hb d_Mo_change_0 rfl (lv_at hl 1 rfl) ?_
  refine k_goI (gr := [[(a0, .inr (13, mF qm x0Mo y0Mo))], [(qm 3, .inl (kA 0, 4, .inl (fun _ => 0)))], [(qm 2, .inl (kA 0, 66836, .inl all0))]]) (k_rS (pc := 1) (As := [.int (nI j)]) (rest := []) X (c_Mo_isPlace l D kA (nI j) s.heap.size) rfl wm_2978 wm_9 wm_2976 wm_2977 1 (by decide +kernel) ⟨Nat.le_of_ble_eq_true rfl, Nat.le_of_ble_eq_true rfl⟩ rfl rfl (k_pre hN hK hP hD [] [0, 1, 2] 3 rfl (by decide) rfl) rfl hl.1 rfl (Nat.le_of_ble_eq_true rfl) d_Mo_change_1 ⟨Nat.le_of_ble_eq_true rfl, Nat.le_of_ble_eq_true rfl⟩) hP hD hS hA [] [0, 1, 2] 3 rfl (by decide) rfl rfl (fun r1 u2 H locs hu2 hP hD hS => ?_)
  subst hu2
  refine k_cst (v := 1) (placeM_ok hj) ?_
  have hP : va_P D classes (cat [[(a0, .inr (13, mF qm x0Mo y0Mo))], [(qm 3, .inl (kA 0, 4, .inl (fun _ => 0)))], [(qm 2, .inl (kA 0, 66836, .inl all0))]]) H := hP
  have hD : va_D A (cat [[(a0, .inr (13, mF qm x0Mo y0Mo))], [(qm 3, .inl (kA 0, 4, .inl (fun _ => 0)))], [(qm 2, .inl (kA 0, 66836, .inl all0))]]) := hD
  refine lv_if_ne (pc := 4) (tgt := 9) hx hb d_Mo_change_4 (by decide) (fun c1 => ?_) (fun c1 => absurd c1 (by decide))
  refine lv_aload_n (pc := 9) hx hb d_Mo_change_9 rfl (lv_at hl 0 rfl) ?_
  refine lv_iload_n (pc := 10) hx hb d_Mo_change_10 rfl (lv_at hl 1 rfl) ?_
  refine k_goV (gr := [[(qm 2, .inl (kA 0, 66836, .inl all0))]]) (k_rV (pc := 11) (As := [.int (nI j)]) (rest := []) X (c_Mo_take_z1 l D kA a0 j qm hj H.size) rfl wm_3091 wm_9 wm_3088 wm_3090 wv_14_2 1 (by decide +kernel) ⟨Nat.le_of_ble_eq_true rfl, Nat.le_of_ble_eq_true rfl⟩ rfl rfl (va_recv hK hP (ci := 13) (q0 := 0) rfl rfl) (k_pre hN hK hP hD [0, 1] [2] 3 rfl (by decide) rfl) rfl hl.1 rfl (Nat.le_of_ble_eq_true rfl) d_Mo_change_11 ⟨Nat.le_of_ble_eq_true rfl, Nat.le_of_ble_eq_true rfl⟩) hP hD hS hA [0, 1] [2] 3 rfl (by decide) rfl rfl (fun u3 H locs hu3 hP hD hS => ?_)
  have hP : va_P D classes (cat [[(qm 2, .inl (kA 0, 66836, .inl all0))], [(a0, .inr (13, mF qm (va_up x0Mo 5 (nI (539 * (31 * j + 0)))) y0Mo))], [(qm 3, .inl (kA 0, 4, .inl (fun _ => 0)))]]) H := hP
  have hD : va_D A (cat [[(qm 2, .inl (kA 0, 66836, .inl all0))], [(a0, .inr (13, mF qm (va_up x0Mo 5 (nI (539 * (31 * j + 0)))) y0Mo))], [(qm 3, .inl (kA 0, 4, .inl (fun _ => 0)))]]) := hD
  refine lv_iload_n (pc := 14) hx hb d_Mo_change_14 rfl (lv_at hl 2 rfl) ?_
  refine lv_tableIn (pc := 15) (tgt := 199) hx hb d_Mo_change_15 (by decide) (by decide) rfl (by decide) ?_
  refine lv_aload_n (pc := 199) hx hb d_Mo_change_199 rfl (lv_at hl 0 rfl) ?_
  refine lv_iload_n (pc := 200) hx hb d_Mo_change_200 rfl (lv_at hl 1 rfl) ?_
  refine lv_sipush (pc := 201) (v := 219) hx hb d_Mo_change_201 (by decide) ?_
  refine lv_iload_n (pc := 204) hx hb d_Mo_change_204 rfl (lv_at hl 3 rfl) ?_
  refine lv_iconst (pc := 205) (v := 0) hx hb d_Mo_change_205 (by decide) ?_
  refine lv_aload_n (pc := 206) hx hb d_Mo_change_206 rfl (lv_at hl 0 rfl) ?_
  refine k_goI (gr := [[(qm 3, .inl (kA 0, 4, .inl (fun _ => 0)))]]) (k_rV (pc := 207) (As := []) (rest := [.int 0, .int v3, .int 219, .int (nI j), .ref a0]) X (c_Mo_nodes_z1 l D kA a0 qm j hj H.size) rfl wm_3025 wm_9 wm_3022 wm_3024 wv_13_3 0 (by decide +kernel) ⟨Nat.le_of_ble_eq_true rfl, Nat.le_of_ble_eq_true rfl⟩ rfl rfl (va_recv hK hP (ci := 13) (q0 := 1) rfl rfl) (k_pre hN hK hP hD [1, 0] [2] 3 rfl (by decide) rfl) rfl hl.1 rfl (Nat.le_of_ble_eq_true rfl) d_Mo_change_207 ⟨Nat.le_of_ble_eq_true rfl, Nat.le_of_ble_eq_true rfl⟩) hP hD hS hA [1, 0] [2] 3 rfl (by decide) rfl rfl (fun r4 u5 H locs hu5 hP hD hS => ?_)
  subst hu5
  have hP : va_P D classes (cat [[(qm 3, .inl (kA 0, 4, .inl (fun _ => 0)))], [(a0, .inr (13, mF qm (va_up x0Mo 5 (nI (539 * (31 * j + 0)))) y0Mo))], [(qm 2, .inl (kA 0, 66836, .inl all0))]]) H := hP
  have hD : va_D A (cat [[(qm 3, .inl (kA 0, 4, .inl (fun _ => 0)))], [(a0, .inr (13, mF qm (va_up x0Mo 5 (nI (539 * (31 * j + 0)))) y0Mo))], [(qm 2, .inl (kA 0, 66836, .inl all0))]]) := hD
  refine lv_iconst (pc := 210) (v := 1) hx hb d_Mo_change_210 (by decide) ?_
  refine lv_isub (pc := 211) hx hb d_Mo_change_211 ?_
  refine k_cst (v := (-1)) (by decide) ?_
  refine k_goI (gr := [[(qm 3, .inl (kA 0, 4, .inl (fun _ => 0)))], [(a0, .inr (13, mF qm (va_up x0Mo 5 (nI (539 * (31 * j + 0)))) y0Mo))], [(qm 2, .inl (kA 0, 66836, .inl all0))]]) (k_rS (pc := 212) (As := [.int v3, .int 0, .int ((-1))]) (rest := [.int 219, .int (nI j), .ref a0]) X (c_Mo_in_z5 l D kA v3 H.size) rfl wm_2971 wm_9 wm_2969 wm_2970 3 (by decide +kernel) ⟨Nat.le_of_ble_eq_true rfl, Nat.le_of_ble_eq_true rfl⟩ rfl rfl (k_pre hN hK hP hD [] [0, 1, 2] 3 rfl (by decide) rfl) rfl hl.1 rfl (Nat.le_of_ble_eq_true rfl) d_Mo_change_212 ⟨Nat.le_of_ble_eq_true rfl, Nat.le_of_ble_eq_true rfl⟩) hP hD hS hA [] [0, 1, 2] 3 rfl (by decide) rfl rfl (fun r6 u7 H locs hu7 hP hD hS => ?_)
  subst hu7
  have hP : va_P D classes (cat [[(qm 3, .inl (kA 0, 4, .inl (fun _ => 0)))], [(a0, .inr (13, mF qm (va_up x0Mo 5 (nI (539 * (31 * j + 0)))) y0Mo))], [(qm 2, .inl (kA 0, 66836, .inl all0))]]) H := hP
  have hD : va_D A (cat [[(qm 3, .inl (kA 0, 4, .inl (fun _ => 0)))], [(a0, .inr (13, mF qm (va_up x0Mo 5 (nI (539 * (31 * j + 0)))) y0Mo))], [(qm 2, .inl (kA 0, 66836, .inl all0))]]) := hD
  refine lv_if_eq (pc := 215) (tgt := 233) hx hb d_Mo_change_215 (by decide) (fun c1 => ?_) (fun c1 => absurd (by decide) c1)
  refine lv_iconst (pc := 233) (v := 0) hx hb d_Mo_change_233 (by decide) ?_
  refine lv_iload_n (pc := 234) hx hb d_Mo_change_234 rfl (lv_at hl 3 rfl) ?_
  refine lv_iload (pc := 235) hx hb d_Mo_change_235 (lv_at hl 4 rfl) ?_
  refine k_goI (gr := [[(qm 3, .inl (kA 0, 4, .inl (fun _ => 0)))], [(a0, .inr (13, mF qm (va_up x0Mo 5 (nI (539 * (31 * j + 0)))) y0Mo))], [(qm 2, .inl (kA 0, 66836, .inl all0))]]) (k_rV (pc := 237) (As := [.int (nI j), .int 219, .int 0, .int v3, .int v4]) (rest := []) X (c_Mo_becomes_z1 l D kA a0 j v3 v4 hj H.size) rfl wm_3111 wm_9 wm_3108 wm_3110 wv_14_7 5 (by decide +kernel) ⟨Nat.le_of_ble_eq_true rfl, Nat.le_of_ble_eq_true rfl⟩ rfl rfl (va_recv hK hP (ci := 13) (q0 := 1) rfl rfl) (k_pre hN hK hP hD [] [0, 1, 2] 3 rfl (by decide) rfl) rfl hl.1 rfl (Nat.le_of_ble_eq_true rfl) d_Mo_change_237 ⟨Nat.le_of_ble_eq_true rfl, Nat.le_of_ble_eq_true rfl⟩) hP hD hS hA [] [0, 1, 2] 3 rfl (by decide) rfl rfl (fun r8 u9 H locs hu9 hP hD hS => ?_)
  subst hu9
  have hP : va_P D classes (cat [[(qm 3, .inl (kA 0, 4, .inl (fun _ => 0)))], [(a0, .inr (13, mF qm (va_up x0Mo 5 (nI (539 * (31 * j + 0)))) y0Mo))], [(qm 2, .inl (kA 0, 66836, .inl all0))]]) H := hP
  have hD : va_D A (cat [[(qm 3, .inl (kA 0, 4, .inl (fun _ => 0)))], [(a0, .inr (13, mF qm (va_up x0Mo 5 (nI (539 * (31 * j + 0)))) y0Mo))], [(qm 2, .inl (kA 0, 66836, .inl all0))]]) := hD
  refine W.widen (k := 0) (n := 0) (Nat.le_of_ble_eq_true rfl) (Nat.le_of_ble_eq_true rfl) ?_
  exact W.iret (v := (-1)) hx hb hr (fun t ht hW => ⟨⟨(-1), [[(qm 3, .inl (kA 0, 4, .inl (fun _ => 0)))], [(a0, .inr (13, mF qm (va_up x0Mo 5 (nI (539 * (31 * j + 0)))) y0Mo))], [(qm 2, .inl (kA 0, 66836, .inl all0))]], rfl, rfl, by rw [ht]; exact hP, va_K.moved hW.alike hK, hD⟩, hS.F ht⟩) hS.2.2 d_Mo_change_240
set_option maxRecDepth 100000 in
set_option maxHeartbeats 4000000 in
/-- change, a fresh house -/
theorem lf_change_9 {p : Program} {e : Env} {s : State} {m : MethodId} {below : List Frame} {meth : Method} {c : Code} (l : Launch) {b : Nat} {xs : Nat → Int32} (C0 : lw_At p s m meth c b 6 xs) {D : va_G} {kA : Nat → ClassId} (h : Nat) (h2 : Nat) (q : Nat → Nat) (qg : Nat → Nat) (qm : Nat → Nat) (g : Nat → Nat → Nat) (j : Nat) (v3 : Int32) (v4 : Int32) (hj : j < 4) (hv1 : xs 1 = nI j) (hv2 : xs 2 = 4) (hv3 : xs 3 = v3) (hv4 : xs 4 = v4) {H : Heap} {locs : List Loc} {ls : Array Slot} (hK : va_K D classes (TY kA) s) (hN : nst s) (hP : va_P D classes (cat [[(h, .inr (12, [.ref (q 0), .ref (q 1), .ref (q 2), .ref (q 3), .ref (q 4), .ref (q 5), .ref (q 6), .int 0, .int ((-1)), .ref (q 9), .ref (q 10), .int 0, .int 0, .ref (q 13), .int 0, .int 0, .null, .null, .null, .null, .null]))], [(q 0, .inl (kA 4, 4, .inr (.inr (.inr (.inr (rr (g 0)))))))], [(g 0 j, .inr (3, [.int 0, .int 0, .int 1, .ref (qg 3), .ref (qg 4), .ref (qg 5), .ref (qg 6), .ref (qg 7), .ref (qg 8), .ref (qg 9), .ref (qg 10), .ref (qg 11), .ref (qg 12), .ref (qg 13), .ref (qg 14), .ref (qg 15), .null, .int 0, .int 0]))], [(h2, .inr (13, mF qm x0Mo y0Mo))], [(qm 3, .inl (kA 0, 4, .inl (fun _ => 0)))], [(qm 2, .inl (kA 0, 66836, .inl all0))]]) H) (hD : va_D (fun q : Nat => s.heap.size ≤ q) (cat [[(h, .inr (12, [.ref (q 0), .ref (q 1), .ref (q 2), .ref (q 3), .ref (q 4), .ref (q 5), .ref (q 6), .int 0, .int ((-1)), .ref (q 9), .ref (q 10), .int 0, .int 0, .ref (q 13), .int 0, .int 0, .null, .null, .null, .null, .null]))], [(q 0, .inl (kA 4, 4, .inr (.inr (.inr (.inr (rr (g 0)))))))], [(g 0 j, .inr (3, [.int 0, .int 0, .int 1, .ref (qg 3), .ref (qg 4), .ref (qg 5), .ref (qg 6), .ref (qg 7), .ref (qg 8), .ref (qg 9), .ref (qg 10), .ref (qg 11), .ref (qg 12), .ref (qg 13), .ref (qg 14), .ref (qg 15), .null, .int 0, .int 0]))], [(h2, .inr (13, mF qm x0Mo y0Mo))], [(qm 3, .inl (kA 0, 4, .inl (fun _ => 0)))], [(qm 2, .inl (kA 0, 66836, .inl all0))]])) (hS : va_S (fun q : Nat => s.heap.size ≤ q) s.heap H locs) (hl : lv_has ls 4 [(3, .int 0), (2, .ref h2), (1, .ref h), (0, .ref b)]) : W p l e room_1 s m #[Value.ref b] below meth c H locs 368 365796 (lw_Z below #[Value.ref b] s) (F0 m 494 ls []) := by
  obtain ⟨hx, hb, hr, hml, hown, hts0, hX, hbl, hlocks, hgv⟩ := id C0
  have hts : ∀ w ∈ lw_g, w.before #[Value.ref b] s = true := fun w h => hts0 w (lw_gt h)
  have X : cx p s m #[Value.ref b] meth c b_law_law 4 ret "DrawingHouseLaw" meth.name := ⟨hx, hb, hml, hown, hts, hr, hlocks, rfl⟩
  obtain ⟨A, hAe⟩ : ∃ A : Nat → Prop, A = fun q : Nat => s.heap.size ≤ q := ⟨_, rfl⟩
  have hA : ∀ q : Nat, s.heap.size ≤ q → A q := fun q h => by rw [hAe]; exact h
  have hbA : ¬ A b := by rw [hAe]; exact Nat.not_le.mpr hbl
  rw [← hAe] at hD hS
  refine lv_aload_n (pc := 494) hx hb d_law_law_494 rfl (lv_at hl 2 rfl) ?_
  refine lv_aload_n (pc := 495) hx hb d_law_law_495 rfl (lv_at hl 3 rfl) ?_
  refine lv_iload_n (pc := 496) hx hb d_law_law_496 rfl (lv_at hl 0 rfl) ?_
  refine lv_iconst (pc := 497) (v := 1) hx hb d_law_law_497 (by decide) ?_
  refine lv_iadd (pc := 498) hx hb d_law_law_498 ?_
  refine k_cst (v := 1) (by decide) ?_
  refine va_sld (pc := 499) hx hb hX hbl hbA hS (by unfold vp_in; decide) d_law_law_499 ?_
  refine k_cst (v := nI j) hv1 ?_
  refine lv_aload_n (pc := 500) hx hb d_law_law_500 rfl (lv_at hl 3 rfl) ?_
  refine lv_iload_n (pc := 501) hx hb d_law_law_501 rfl (lv_at hl 0 rfl) ?_
  refine lv_iconst (pc := 502) (v := 2) hx hb d_law_law_502 (by decide) ?_
  refine lv_iadd (pc := 503) hx hb d_law_law_503 ?_
  refine k_cst (v := 2) (by decide) ?_
  refine va_sld (pc := 504) hx hb hX hbl hbA hS (by unfold vp_in; decide) d_law_law_504 ?_
  refine k_cst (v := 4) hv2 ?_
  refine lv_aload_n (pc := 505) hx hb d_law_law_505 rfl (lv_at hl 3 rfl) ?_
  refine lv_iload_n (pc := 506) hx hb d_law_law_506 rfl (lv_at hl 0 rfl) ?_
  refine lv_iconst (pc := 507) (v := 3) hx hb d_law_law_507 (by decide) ?_
  refine lv_iadd (pc := 508) hx hb d_law_law_508 ?_
  refine k_cst (v := 3) (by decide) ?_
  refine va_sld (pc := 509) hx hb hX hbl hbA hS (by unfold vp_in; decide) d_law_law_509 ?_
  refine k_cst (v := v3) hv3 ?_
  refine lv_aload_n (pc := 510) hx hb d_law_law_510 rfl (lv_at hl 3 rfl) ?_
  refine lv_iload_n (pc := 511) hx hb d_law_law_511 rfl (lv_at hl 0 rfl) ?_
  refine lv_iconst (pc := 512) (v := 4) hx hb d_law_law_512 (by decide) ?_
  refine lv_iadd (pc := 513) hx hb d_law_law_513 ?_
  refine k_cst (v := 4) (by decide) ?_
  refine va_sld (pc := 514) hx hb hX hbl hbA hS (by unfold vp_in; decide) d_law_law_514 ?_
  refine k_cst (v := v4) hv4 ?_
  refine k_goI (gr := [[(h2, .inr (13, mF qm x0Mo y0Mo))], [(qm 3, .inl (kA 0, 4, .inl (fun _ => 0)))], [(qm 2, .inl (kA 0, 66836, .inl all0))]]) (k_rV (pc := 515) (As := [.int (nI j), .int 4, .int v3, .int v4]) (rest := []) X (c_Ho_change_z9 l D kA h j v3 v4 (q 0) (q 1) (q 2) (q 3) (q 4) (q 5) (q 6) (q 9) (q 10) (q 13) g (qg 3) (qg 4) (qg 5) (qg 6) (qg 7) (qg 8) (qg 9) (qg 10) (qg 11) (qg 12) (qg 13) (qg 14) (qg 15) hj H.size) rfl wm_954 wm_1 wm_951 wm_952 wm_953 4 (by decide +kernel) ⟨Nat.le_of_ble_eq_true rfl, Nat.le_of_ble_eq_true rfl⟩ rfl rfl (va_recv hK hP (ci := 12) (q0 := 0) rfl rfl) (k_pre hN hK hP hD [0, 1, 2] [3, 4, 5] 6 rfl (by decide) rfl) rfl hl.1 rfl (Nat.le_of_ble_eq_true rfl) d_law_law_515 ⟨Nat.le_of_ble_eq_true rfl, Nat.le_of_ble_eq_true rfl⟩) hP hD hS hA [0, 1, 2] [3, 4, 5] 6 rfl (by decide) rfl rfl (fun r1 u2 H locs hu2 hP hD hS => ?_)
  obtain ⟨hP, hD⟩ := k_left hP hD
  subst hu2
  have hP : va_P D classes (cat [[(h2, .inr (13, mF qm x0Mo y0Mo))], [(qm 3, .inl (kA 0, 4, .inl (fun _ => 0)))], [(qm 2, .inl (kA 0, 66836, .inl all0))]]) H := hP
  have hD : va_D A (cat [[(h2, .inr (13, mF qm x0Mo y0Mo))], [(qm 3, .inl (kA 0, 4, .inl (fun _ => 0)))], [(qm 2, .inl (kA 0, 66836, .inl all0))]]) := hD
  refine lv_aload_n (pc := 518) hx hb d_law_law_518 rfl (lv_at hl 1 rfl) ?_
  refine lv_aload_n (pc := 519) hx hb d_law_law_519 rfl (lv_at hl 3 rfl) ?_
  refine lv_iload_n (pc := 520) hx hb d_law_law_520 rfl (lv_at hl 0 rfl) ?_
  refine lv_iconst (pc := 521) (v := 1) hx hb d_law_law_521 (by decide) ?_
  refine lv_iadd (pc := 522) hx hb d_law_law_522 ?_
  refine k_cst (v := 1) (by decide) ?_
  refine va_sld (pc := 523) hx hb hX hbl hbA hS (by unfold vp_in; decide) d_law_law_523 ?_
  refine k_cst (v := nI j) hv1 ?_
  refine lv_aload_n (pc := 524) hx hb d_law_law_524 rfl (lv_at hl 3 rfl) ?_
  refine lv_iload_n (pc := 525) hx hb d_law_law_525 rfl (lv_at hl 0 rfl) ?_
  refine lv_iconst (pc := 526) (v := 2) hx hb d_law_law_526 (by decide) ?_
  refine lv_iadd (pc := 527) hx hb d_law_law_527 ?_
  refine k_cst (v := 2) (by decide) ?_
  refine va_sld (pc := 528) hx hb hX hbl hbA hS (by unfold vp_in; decide) d_law_law_528 ?_
  refine k_cst (v := 4) hv2 ?_
  refine lv_aload_n (pc := 529) hx hb d_law_law_529 rfl (lv_at hl 3 rfl) ?_
  refine lv_iload_n (pc := 530) hx hb d_law_law_530 rfl (lv_at hl 0 rfl) ?_
  refine lv_iconst (pc := 531) (v := 3) hx hb d_law_law_531 (by decide) ?_
  refine lv_iadd (pc := 532) hx hb d_law_law_532 ?_
  refine k_cst (v := 3) (by decide) ?_
  refine va_sld (pc := 533) hx hb hX hbl hbA hS (by unfold vp_in; decide) d_law_law_533 ?_
  refine k_cst (v := v3) hv3 ?_
  refine lv_aload_n (pc := 534) hx hb d_law_law_534 rfl (lv_at hl 3 rfl) ?_
  refine lv_iload_n (pc := 535) hx hb d_law_law_535 rfl (lv_at hl 0 rfl) ?_
  refine lv_iconst (pc := 536) (v := 4) hx hb d_law_law_536 (by decide) ?_
  refine lv_iadd (pc := 537) hx hb d_law_law_537 ?_
  refine k_cst (v := 4) (by decide) ?_
  refine va_sld (pc := 538) hx hb hX hbl hbA hS (by unfold vp_in; decide) d_law_law_538 ?_
  refine k_cst (v := v4) hv4 ?_
  refine k_goI (gr := []) (k_rV (pc := 539) (As := [.int (nI j), .int 4, .int v3, .int v4]) (rest := [.int ((-1))]) X (c_Mo_change_z9 l D kA h2 j v3 v4 qm hj H.size) rfl wm_3087 wm_9 wm_3084 wm_3085 wm_3086 4 (by decide +kernel) ⟨Nat.le_of_ble_eq_true rfl, Nat.le_of_ble_eq_true rfl⟩ rfl rfl (va_recv hK hP (ci := 13) (q0 := 0) rfl rfl) (k_pre hN hK hP hD [0, 1, 2] [] 3 rfl (by decide) rfl) rfl hl.1 rfl (Nat.le_of_ble_eq_true rfl) d_law_law_539 ⟨Nat.le_of_ble_eq_true rfl, Nat.le_of_ble_eq_true rfl⟩) hP hD hS hA [0, 1, 2] [] 3 rfl (by decide) rfl rfl (fun r3 u4 H locs hu4 hP hD hS => ?_)
  obtain ⟨hP, hD⟩ := k_left hP hD
  subst hu4
  have hP : va_P D classes (cat []) H := hP
  have hD : va_D A (cat []) := hD
  refine lv_icmp_eq (pc := 542) (tgt := 1295) hx hb d_law_law_542 (by decide) (fun _ => ?_) (fun c1 => absurd (by decide) c1)
  rw [hAe] at hS
  exact law_exit l C0 (Nat.le_of_ble_eq_true rfl) (Nat.le_of_ble_eq_true rfl) hS hl
set_option maxRecDepth 100000 in
set_option maxHeartbeats 4000000 in
/-- DrawingHouse$Graph.mayAlter(III)Z -/
theorem c_Gr_mayAlter_z9 (l : Launch) (D : va_G) (kA : Nat → ClassId) (g : Nat → Nat → Nat) (j : Nat) (v3 : Int32) (v4 : Int32) (a0 : Nat) (a1 : Nat) (a2 : Nat) (a3 : Nat) (a4 : Nat) (a5 : Nat) (a6 : Nat) (a7 : Nat) (a8 : Nat) (a9 : Nat) (a10 : Nat) (a11 : Nat) (a12 : Nat) (hj : j < 4) : Ci l y_Gr_mayAlter z_Gr_mayAlter { frames := 1, cells := 0, slots := 0, locals := 21 } D classes (TY kA) [.ref (g 0 j), .int 5, .int v3, .int v4] [[(g 0 j, .inr (3, [.int 0, .int 0, .int 1, .ref a0, .ref a1, .ref a2, .ref a3, .ref a4, .ref a5, .ref a6, .ref a7, .ref a8, .ref a9, .ref a10, .ref a11, .ref a12, .null, .int 0, .int 0]))]] (fun r (_ : Unit) => r = 0) (fun u => [[(g 0 j, .inr (3, [.int 0, .int 0, .int 1, .ref a0, .ref a1, .ref a2, .ref a3, .ref a4, .ref a5, .ref a6, .ref a7, .ref a8, .ref a9, .ref a10, .ref a11, .ref a12, .null, .int 0, .int 0]))]]) 0 0 := by
  intro sz
  refine k_met (cc := b_Gr_mayAlter) (maxL := 4) (ret := (some .boolean)) (by decide) rfl (Nat.le_of_ble_eq_true rfl) (fun p e s m below meth c ls X hl hB => ?_)
  obtain ⟨hsz, hP, hK, hD0, hN⟩ := hB
  subst hsz
  have hD := hD0.self (sz := s.heap.size)
  generalize hAe : va_A (cat [[(g 0 j, .inr (3, [.int 0, .int 0, .int 1, .ref a0, .ref a1, .ref a2, .ref a3, .ref a4, .ref a5, .ref a6, .ref a7, .ref a8, .ref a9, .ref a10, .ref a11, .ref a12, .null, .int 0, .int 0]))]]) s.heap.size = A at hD ⊢
  have hA : ∀ q : Nat, s.heap.size ≤ q → A q := fun q h => by rw [← hAe]; exact Or.inr h
  have hS : va_S A s.heap s.heap [] := va_S.rf
  obtain ⟨hx, hb, hml, hown, hts, hr, hlk, hnm⟩ := id X
  have hl : lv_has ls 4 [(0, .ref (g 0 j)), (1, .int 5), (2, .int v3), (3, .int v4)] := hl
  have hP : va_P D classes (cat [[(g 0 j, .inr (3, [.int 0, .int 0, .int 1, .ref a0, .ref a1, .ref a2, .ref a3, .ref a4, .ref a5, .ref a6, .ref a7, .ref a8, .ref a9, .ref a10, .ref a11, .ref a12, .null, .int 0, .int 0]))]]) s.heap := hP
  have hK : va_K D classes (TY kA) s := hK
  refine lv_iload_n (pc := 0) hx hb d_Gr_mayAlter_0 rfl (lv_at hl 1 rfl) ?_
  refine lv_tableIn (pc := 1) (tgt := 161) hx hb d_Gr_mayAlter_1 (by decide) (by decide) rfl (by decide) ?_
  refine lv_aload_n (pc := 161) hx hb d_Gr_mayAlter_161 rfl (lv_at hl 0 rfl) ?_
  refine lv_iload_n (pc := 162) hx hb d_Gr_mayAlter_162 rfl (lv_at hl 2 rfl) ?_
  refine k_goI (gr := []) (k_rV (pc := 163) (As := [.int v3]) (rest := []) X (c_Gr_hasEdge_z2 l D kA g j v3 a0 a1 a2 a3 a4 a5 a6 a7 a8 a9 a10 a11 a12 hj s.heap.size) rfl wm_930 wm_3 wm_971 wm_928 wm_929 1 (by decide +kernel) ⟨Nat.le_of_ble_eq_true rfl, Nat.le_of_ble_eq_true rfl⟩ rfl rfl (va_recv hK hP (ci := 3) (q0 := 0) rfl rfl) (k_pre hN hK hP hD [0] [] 1 rfl (by decide) rfl) rfl hl.1 rfl (Nat.le_of_ble_eq_true rfl) d_Gr_mayAlter_163 ⟨Nat.le_of_ble_eq_true rfl, Nat.le_of_ble_eq_true rfl⟩) hP hD hS hA [0] [] 1 rfl (by decide) rfl rfl (fun r1 u2 H locs hu2 hP hD hS => ?_)
  subst hu2
  have hP : va_P D classes (cat [[(g 0 j, .inr (3, [.int 0, .int 0, .int 1, .ref a0, .ref a1, .ref a2, .ref a3, .ref a4, .ref a5, .ref a6, .ref a7, .ref a8, .ref a9, .ref a10, .ref a11, .ref a12, .null, .int 0, .int 0]))]]) H := hP
  have hD : va_D A (cat [[(g 0 j, .inr (3, [.int 0, .int 0, .int 1, .ref a0, .ref a1, .ref a2, .ref a3, .ref a4, .ref a5, .ref a6, .ref a7, .ref a8, .ref a9, .ref a10, .ref a11, .ref a12, .null, .int 0, .int 0]))]]) := hD
  refine lv_if_eq (pc := 166) (tgt := 184) hx hb d_Gr_mayAlter_166 (by decide) (fun c1 => ?_) (fun c1 => absurd (by decide) c1)
  refine lv_iconst (pc := 184) (v := 0) hx hb d_Gr_mayAlter_184 (by decide) ?_
  refine W.widen (k := 0) (n := 0) (Nat.le_of_ble_eq_true rfl) (Nat.le_of_ble_eq_true rfl) ?_
  exact W.zret (v := 0) hx hb hr rfl (fun t ht hW => ⟨⟨0, (), rfl, rfl, by rw [ht]; exact hP, va_K.moved hW.alike hK, hD⟩, hS.F ht⟩) hS.2.2 d_Gr_mayAlter_185
set_option maxRecDepth 100000 in
set_option maxHeartbeats 4000000 in
/-- DrawingHouse.change(IIII)I -/
theorem c_Ho_change_z10 (l : Launch) (D : va_G) (kA : Nat → ClassId) (a0 : Nat) (j : Nat) (v3 : Int32) (v4 : Int32) (a1 : Nat) (a2 : Nat) (a3 : Nat) (a4 : Nat) (a5 : Nat) (a6 : Nat) (a7 : Nat) (a8 : Nat) (a9 : Nat) (a10 : Nat) (g : Nat → Nat → Nat) (a11 : Nat) (a12 : Nat) (a13 : Nat) (a14 : Nat) (a15 : Nat) (a16 : Nat) (a17 : Nat) (a18 : Nat) (a19 : Nat) (a20 : Nat) (a21 : Nat) (a22 : Nat) (a23 : Nat) (hj : j < 4) : Ci l y_Ho_change z_Ho_change { frames := 2, cells := 0, slots := 0, locals := 44 } D classes (TY kA) [.ref a0, .int (nI j), .int 5, .int v3, .int v4] [[(a0, .inr (12, [.ref a1, .ref a2, .ref a3, .ref a4, .ref a5, .ref a6, .ref a7, .int 0, .int ((-1)), .ref a8, .ref a9, .int 0, .int 0, .ref a10, .int 0, .int 0, .null, .null, .null, .null, .null]))], [(a1, .inl (kA 4, 4, .inr (.inr (.inr (.inr (rr (g 0)))))))], [(g 0 j, .inr (3, [.int 0, .int 0, .int 1, .ref a11, .ref a12, .ref a13, .ref a14, .ref a15, .ref a16, .ref a17, .ref a18, .ref a19, .ref a20, .ref a21, .ref a22, .ref a23, .null, .int 0, .int 0]))]] (fun r (_ : List va_W) => r = (-1)) (fun u => u) 0 0 := by
  intro sz
  refine k_met (cc := b_Ho_change) (maxL := 6) (ret := (some .int)) (by decide) rfl (Nat.le_of_ble_eq_true rfl) (fun p e s m below meth c ls X hl hB => ?_)
  obtain ⟨hsz, hP, hK, hD0, hN⟩ := hB
  subst hsz
  have hD := hD0.self (sz := s.heap.size)
  generalize hAe : va_A (cat [[(a0, .inr (12, [.ref a1, .ref a2, .ref a3, .ref a4, .ref a5, .ref a6, .ref a7, .int 0, .int ((-1)), .ref a8, .ref a9, .int 0, .int 0, .ref a10, .int 0, .int 0, .null, .null, .null, .null, .null]))], [(a1, .inl (kA 4, 4, .inr (.inr (.inr (.inr (rr (g 0)))))))], [(g 0 j, .inr (3, [.int 0, .int 0, .int 1, .ref a11, .ref a12, .ref a13, .ref a14, .ref a15, .ref a16, .ref a17, .ref a18, .ref a19, .ref a20, .ref a21, .ref a22, .ref a23, .null, .int 0, .int 0]))]]) s.heap.size = A at hD ⊢
  have hA : ∀ q : Nat, s.heap.size ≤ q → A q := fun q h => by rw [← hAe]; exact Or.inr h
  have hS : va_S A s.heap s.heap [] := va_S.rf
  obtain ⟨hx, hb, hml, hown, hts, hr, hlk, hnm⟩ := id X
  have hl : lv_has ls 6 [(0, .ref a0), (1, .int (nI j)), (2, .int 5), (3, .int v3), (4, .int v4)] := hl
  have hP : va_P D classes (cat [[(a0, .inr (12, [.ref a1, .ref a2, .ref a3, .ref a4, .ref a5, .ref a6, .ref a7, .int 0, .int ((-1)), .ref a8, .ref a9, .int 0, .int 0, .ref a10, .int 0, .int 0, .null, .null, .null, .null, .null]))], [(a1, .inl (kA 4, 4, .inr (.inr (.inr (.inr (rr (g 0)))))))], [(g 0 j, .inr (3, [.int 0, .int 0, .int 1, .ref a11, .ref a12, .ref a13, .ref a14, .ref a15, .ref a16, .ref a17, .ref a18, .ref a19, .ref a20, .ref a21, .ref a22, .ref a23, .null, .int 0, .int 0]))]]) s.heap := hP
  have hK : va_K D classes (TY kA) s := hK
  refine lv_iload_n (pc := 0) hx hb d_Ho_change_0 rfl (lv_at hl 1 rfl) ?_
  refine k_goI (gr := [[(a0, .inr (12, [.ref a1, .ref a2, .ref a3, .ref a4, .ref a5, .ref a6, .ref a7, .int 0, .int ((-1)), .ref a8, .ref a9, .int 0, .int 0, .ref a10, .int 0, .int 0, .null, .null, .null, .null, .null]))], [(a1, .inl (kA 4, 4, .inr (.inr (.inr (.inr (rr (g 0)))))))], [(g 0 j, .inr (3, [.int 0, .int 0, .int 1, .ref a11, .ref a12, .ref a13, .ref a14, .ref a15, .ref a16, .ref a17, .ref a18, .ref a19, .ref a20, .ref a21, .ref a22, .ref a23, .null, .int 0, .int 0]))]]) (k_rS (pc := 1) (As := [.int (nI j)]) (rest := []) X (c_Ho_isPlace l D kA (nI j) s.heap.size) rfl wm_633 wm_1 wm_631 wm_632 1 (by decide +kernel) ⟨Nat.le_of_ble_eq_true rfl, Nat.le_of_ble_eq_true rfl⟩ rfl rfl (k_pre hN hK hP hD [] [0, 1, 2] 3 rfl (by decide) rfl) rfl hl.1 rfl (Nat.le_of_ble_eq_true rfl) d_Ho_change_1 ⟨Nat.le_of_ble_eq_true rfl, Nat.le_of_ble_eq_true rfl⟩) hP hD hS hA [] [0, 1, 2] 3 rfl (by decide) rfl rfl (fun r1 u2 H locs hu2 hP hD hS => ?_)
  subst hu2
  refine k_cst (v := 1) (place_ok hj) ?_
  have hP : va_P D classes (cat [[(a0, .inr (12, [.ref a1, .ref a2, .ref a3, .ref a4, .ref a5, .ref a6, .ref a7, .int 0, .int ((-1)), .ref a8, .ref a9, .int 0, .int 0, .ref a10, .int 0, .int 0, .null, .null, .null, .null, .null]))], [(a1, .inl (kA 4, 4, .inr (.inr (.inr (.inr (rr (g 0)))))))], [(g 0 j, .inr (3, [.int 0, .int 0, .int 1, .ref a11, .ref a12, .ref a13, .ref a14, .ref a15, .ref a16, .ref a17, .ref a18, .ref a19, .ref a20, .ref a21, .ref a22, .ref a23, .null, .int 0, .int 0]))]]) H := hP
  have hD : va_D A (cat [[(a0, .inr (12, [.ref a1, .ref a2, .ref a3, .ref a4, .ref a5, .ref a6, .ref a7, .int 0, .int ((-1)), .ref a8, .ref a9, .int 0, .int 0, .ref a10, .int 0, .int 0, .null, .null, .null, .null, .null]))], [(a1, .inl (kA 4, 4, .inr (.inr (.inr (.inr (rr (g 0)))))))], [(g 0 j, .inr (3, [.int 0, .int 0, .int 1, .ref a11, .ref a12, .ref a13, .ref a14, .ref a15, .ref a16, .ref a17, .ref a18, .ref a19, .ref a20, .ref a21, .ref a22, .ref a23, .null, .int 0, .int 0]))]]) := hD
  refine lv_if_eq (pc := 4) (tgt := 23) hx hb d_Ho_change_4 (by decide) (fun c1 => absurd c1 (by decide)) (fun c1 => ?_)
  refine lv_aload_n (pc := 7) hx hb d_Ho_change_7 rfl (lv_at hl 0 rfl) ?_
  refine k_get (pc := 8) X hK hP 0 rfl rfl i_Ho 0 (by decide) wm_555 rfl rfl d_Ho_change_8 ?_
  refine lv_iload_n (pc := 11) hx hb d_Ho_change_11 rfl (lv_at hl 1 rfl) ?_
  refine k_ald (pc := 12) hx hb hK hP 1 4 rfl rfl (j) rfl (by omega) (by decide) (rr_at (by omega)) d_Ho_change_12 ?_
  refine lv_iload_n (pc := 13) hx hb d_Ho_change_13 rfl (lv_at hl 2 rfl) ?_
  refine lv_iload_n (pc := 14) hx hb d_Ho_change_14 rfl (lv_at hl 3 rfl) ?_
  refine lv_iload (pc := 15) hx hb d_Ho_change_15 (lv_at hl 4 rfl) ?_
  refine k_goI (gr := [[(a0, .inr (12, [.ref a1, .ref a2, .ref a3, .ref a4, .ref a5, .ref a6, .ref a7, .int 0, .int ((-1)), .ref a8, .ref a9, .int 0, .int 0, .ref a10, .int 0, .int 0, .null, .null, .null, .null, .null]))], [(a1, .inl (kA 4, 4, .inr (.inr (.inr (.inr (rr (g 0)))))))]]) (k_rV (pc := 17) (As := [.int 5, .int v3, .int v4]) (rest := []) X (c_Gr_mayAlter_z9 l D kA g j v3 v4 a11 a12 a13 a14 a15 a16 a17 a18 a19 a20 a21 a22 a23 hj H.size) rfl wm_958 wm_3 wm_955 wm_956 wm_957 3 (by decide +kernel) ⟨Nat.le_of_ble_eq_true rfl, Nat.le_of_ble_eq_true rfl⟩ rfl rfl (va_recv hK hP (ci := 3) (q0 := 2) rfl rfl) (k_pre hN hK hP hD [2] [0, 1] 3 rfl (by decide) rfl) rfl hl.1 rfl (Nat.le_of_ble_eq_true rfl) d_Ho_change_17 ⟨Nat.le_of_ble_eq_true rfl, Nat.le_of_ble_eq_true rfl⟩) hP hD hS hA [2] [0, 1] 3 rfl (by decide) rfl rfl (fun r3 u4 H locs hu4 hP hD hS => ?_)
  subst hu4
  have hP : va_P D classes (cat [[(a0, .inr (12, [.ref a1, .ref a2, .ref a3, .ref a4, .ref a5, .ref a6, .ref a7, .int 0, .int ((-1)), .ref a8, .ref a9, .int 0, .int 0, .ref a10, .int 0, .int 0, .null, .null, .null, .null, .null]))], [(a1, .inl (kA 4, 4, .inr (.inr (.inr (.inr (rr (g 0)))))))], [(g 0 j, .inr (3, [.int 0, .int 0, .int 1, .ref a11, .ref a12, .ref a13, .ref a14, .ref a15, .ref a16, .ref a17, .ref a18, .ref a19, .ref a20, .ref a21, .ref a22, .ref a23, .null, .int 0, .int 0]))]]) H := hP
  have hD : va_D A (cat [[(a0, .inr (12, [.ref a1, .ref a2, .ref a3, .ref a4, .ref a5, .ref a6, .ref a7, .int 0, .int ((-1)), .ref a8, .ref a9, .int 0, .int 0, .ref a10, .int 0, .int 0, .null, .null, .null, .null, .null]))], [(a1, .inl (kA 4, 4, .inr (.inr (.inr (.inr (rr (g 0)))))))], [(g 0 j, .inr (3, [.int 0, .int 0, .int 1, .ref a11, .ref a12, .ref a13, .ref a14, .ref a15, .ref a16, .ref a17, .ref a18, .ref a19, .ref a20, .ref a21, .ref a22, .ref a23, .null, .int 0, .int 0]))]]) := hD
  refine lv_if_ne (pc := 20) (tgt := 25) hx hb d_Ho_change_20 (by decide) (fun c1 => absurd (by decide) c1) (fun c1 => ?_)
  refine lv_iconst (pc := 23) (v := -1) hx hb d_Ho_change_23 (by decide) ?_
  refine W.widen (k := 0) (n := 0) (Nat.le_of_ble_eq_true rfl) (Nat.le_of_ble_eq_true rfl) ?_
  exact W.iret (v := (-1)) hx hb hr (fun t ht hW => ⟨⟨(-1), [[(a0, .inr (12, [.ref a1, .ref a2, .ref a3, .ref a4, .ref a5, .ref a6, .ref a7, .int 0, .int ((-1)), .ref a8, .ref a9, .int 0, .int 0, .ref a10, .int 0, .int 0, .null, .null, .null, .null, .null]))], [(a1, .inl (kA 4, 4, .inr (.inr (.inr (.inr (rr (g 0)))))))], [(g 0 j, .inr (3, [.int 0, .int 0, .int 1, .ref a11, .ref a12, .ref a13, .ref a14, .ref a15, .ref a16, .ref a17, .ref a18, .ref a19, .ref a20, .ref a21, .ref a22, .ref a23, .null, .int 0, .int 0]))]], rfl, rfl, by rw [ht]; exact hP, va_K.moved hW.alike hK, hD⟩, hS.F ht⟩) hS.2.2 d_Ho_change_24
set_option maxRecDepth 100000 in
set_option maxHeartbeats 4000000 in
/-- DrawingHouseModel.becomes(IIZII)I -/
theorem c_Mo_becomes_z2 (l : Launch) (D : va_G) (kA : Nat → ClassId) (a0 : Nat) (j : Nat) (v3 : Int32) (v4 : Int32) (hj : j < 4) : Ci l y_Mo_becomes z_Mo_becomes { frames := 0, cells := 0, slots := 0, locals := 0 } D classes (TY kA) [.ref a0, .int (nI j), .int 363, .int 0, .int v3, .int v4] [] (fun r (_ : Unit) => r = (-1)) (fun u => []) 0 0 := by
  intro sz
  refine k_met (cc := b_Mo_becomes) (maxL := 6) (ret := (some .int)) (by decide) rfl (Nat.le_of_ble_eq_true rfl) (fun p e s m below meth c ls X hl hB => ?_)
  obtain ⟨hsz, hP, hK, hD0, hN⟩ := hB
  subst hsz
  have hD := hD0.self (sz := s.heap.size)
  generalize hAe : va_A (cat []) s.heap.size = A at hD ⊢
  have hA : ∀ q : Nat, s.heap.size ≤ q → A q := fun q h => by rw [← hAe]; exact Or.inr h
  have hS : va_S A s.heap s.heap [] := va_S.rf
  obtain ⟨hx, hb, hml, hown, hts, hr, hlk, hnm⟩ := id X
  have hl : lv_has ls 6 [(0, .ref a0), (1, .int (nI j)), (2, .int 363), (3, .int 0), (4, .int v3), (5, .int v4)] := hl
  have hP : va_P D classes (cat []) s.heap := hP
  have hK : va_K D classes (TY kA) s := hK
  refine lv_iload_n (pc := 0) hx hb d_Mo_becomes_0 rfl (lv_at hl 3 rfl) ?_
  refine lv_if_ne (pc := 1) (tgt := 6) hx hb d_Mo_becomes_1 (by decide) (fun c1 => absurd (by decide) c1) (fun c1 => ?_)
  refine lv_iconst (pc := 4) (v := -1) hx hb d_Mo_becomes_4 (by decide) ?_
  refine W.widen (k := 0) (n := 0) (Nat.le_of_ble_eq_true rfl) (Nat.le_of_ble_eq_true rfl) ?_
  exact W.iret (v := (-1)) hx hb hr (fun t ht hW => ⟨⟨(-1), (), rfl, rfl, by rw [ht]; exact hP, va_K.moved hW.alike hK, hD⟩, hS.F ht⟩) hS.2.2 d_Mo_becomes_5
set_option maxRecDepth 100000 in
set_option maxHeartbeats 4000000 in
/-- DrawingHouseModel.change(IIII)I -/
theorem c_Mo_change_z10 (l : Launch) (D : va_G) (kA : Nat → ClassId) (a0 : Nat) (j : Nat) (v3 : Int32) (v4 : Int32) (qm : Nat → Nat) (hj : j < 4) : Ci l y_Mo_change z_Mo_change { frames := 2, cells := 0, slots := 0, locals := 42 } D classes (TY kA) [.ref a0, .int (nI j), .int 5, .int v3, .int v4] [[(a0, .inr (13, mF qm x0Mo y0Mo))], [(qm 3, .inl (kA 0, 4, .inl (fun _ => 0)))], [(qm 2, .inl (kA 0, 66836, .inl all0))]] (fun r (_ : List va_W) => r = (-1)) (fun u => u) 0 0 := by
  intro sz
  refine k_met (cc := b_Mo_change) (maxL := 5) (ret := (some .int)) (by decide) rfl (Nat.le_of_ble_eq_true rfl) (fun p e s m below meth c ls X hl hB => ?_)
  obtain ⟨hsz, hP, hK, hD0, hN⟩ := hB
  subst hsz
  have hD := hD0.self (sz := s.heap.size)
  generalize hAe : va_A (cat [[(a0, .inr (13, mF qm x0Mo y0Mo))], [(qm 3, .inl (kA 0, 4, .inl (fun _ => 0)))], [(qm 2, .inl (kA 0, 66836, .inl all0))]]) s.heap.size = A at hD ⊢
  have hA : ∀ q : Nat, s.heap.size ≤ q → A q := fun q h => by rw [← hAe]; exact Or.inr h
  have hS : va_S A s.heap s.heap [] := va_S.rf
  obtain ⟨hx, hb, hml, hown, hts, hr, hlk, hnm⟩ := id X
  have hl : lv_has ls 5 [(0, .ref a0), (1, .int (nI j)), (2, .int 5), (3, .int v3), (4, .int v4)] := hl
  have hP : va_P D classes (cat [[(a0, .inr (13, mF qm x0Mo y0Mo))], [(qm 3, .inl (kA 0, 4, .inl (fun _ => 0)))], [(qm 2, .inl (kA 0, 66836, .inl all0))]]) s.heap := hP
  have hK : va_K D classes (TY kA) s := hK
  refine lv_iload_n (pc := 0) hx hb d_Mo_change_0 rfl (lv_at hl 1 rfl) ?_
  refine k_goI (gr := [[(a0, .inr (13, mF qm x0Mo y0Mo))], [(qm 3, .inl (kA 0, 4, .inl (fun _ => 0)))], [(qm 2, .inl (kA 0, 66836, .inl all0))]]) (k_rS (pc := 1) (As := [.int (nI j)]) (rest := []) X (c_Mo_isPlace l D kA (nI j) s.heap.size) rfl wm_2978 wm_9 wm_2976 wm_2977 1 (by decide +kernel) ⟨Nat.le_of_ble_eq_true rfl, Nat.le_of_ble_eq_true rfl⟩ rfl rfl (k_pre hN hK hP hD [] [0, 1, 2] 3 rfl (by decide) rfl) rfl hl.1 rfl (Nat.le_of_ble_eq_true rfl) d_Mo_change_1 ⟨Nat.le_of_ble_eq_true rfl, Nat.le_of_ble_eq_true rfl⟩) hP hD hS hA [] [0, 1, 2] 3 rfl (by decide) rfl rfl (fun r1 u2 H locs hu2 hP hD hS => ?_)
  subst hu2
  refine k_cst (v := 1) (placeM_ok hj) ?_
  have hP : va_P D classes (cat [[(a0, .inr (13, mF qm x0Mo y0Mo))], [(qm 3, .inl (kA 0, 4, .inl (fun _ => 0)))], [(qm 2, .inl (kA 0, 66836, .inl all0))]]) H := hP
  have hD : va_D A (cat [[(a0, .inr (13, mF qm x0Mo y0Mo))], [(qm 3, .inl (kA 0, 4, .inl (fun _ => 0)))], [(qm 2, .inl (kA 0, 66836, .inl all0))]]) := hD
  refine lv_if_ne (pc := 4) (tgt := 9) hx hb d_Mo_change_4 (by decide) (fun c1 => ?_) (fun c1 => absurd c1 (by decide))
  refine lv_aload_n (pc := 9) hx hb d_Mo_change_9 rfl (lv_at hl 0 rfl) ?_
  refine lv_iload_n (pc := 10) hx hb d_Mo_change_10 rfl (lv_at hl 1 rfl) ?_
  refine k_goV (gr := [[(qm 2, .inl (kA 0, 66836, .inl all0))]]) (k_rV (pc := 11) (As := [.int (nI j)]) (rest := []) X (c_Mo_take_z1 l D kA a0 j qm hj H.size) rfl wm_3091 wm_9 wm_3088 wm_3090 wv_14_2 1 (by decide +kernel) ⟨Nat.le_of_ble_eq_true rfl, Nat.le_of_ble_eq_true rfl⟩ rfl rfl (va_recv hK hP (ci := 13) (q0 := 0) rfl rfl) (k_pre hN hK hP hD [0, 1] [2] 3 rfl (by decide) rfl) rfl hl.1 rfl (Nat.le_of_ble_eq_true rfl) d_Mo_change_11 ⟨Nat.le_of_ble_eq_true rfl, Nat.le_of_ble_eq_true rfl⟩) hP hD hS hA [0, 1] [2] 3 rfl (by decide) rfl rfl (fun u3 H locs hu3 hP hD hS => ?_)
  have hP : va_P D classes (cat [[(qm 2, .inl (kA 0, 66836, .inl all0))], [(a0, .inr (13, mF qm (va_up x0Mo 5 (nI (539 * (31 * j + 0)))) y0Mo))], [(qm 3, .inl (kA 0, 4, .inl (fun _ => 0)))]]) H := hP
  have hD : va_D A (cat [[(qm 2, .inl (kA 0, 66836, .inl all0))], [(a0, .inr (13, mF qm (va_up x0Mo 5 (nI (539 * (31 * j + 0)))) y0Mo))], [(qm 3, .inl (kA 0, 4, .inl (fun _ => 0)))]]) := hD
  refine lv_iload_n (pc := 14) hx hb d_Mo_change_14 rfl (lv_at hl 2 rfl) ?_
  refine lv_tableIn (pc := 15) (tgt := 241) hx hb d_Mo_change_15 (by decide) (by decide) rfl (by decide) ?_
  refine lv_aload_n (pc := 241) hx hb d_Mo_change_241 rfl (lv_at hl 0 rfl) ?_
  refine lv_iload_n (pc := 242) hx hb d_Mo_change_242 rfl (lv_at hl 1 rfl) ?_
  refine lv_sipush (pc := 243) (v := 363) hx hb d_Mo_change_243 (by decide) ?_
  refine lv_iload_n (pc := 246) hx hb d_Mo_change_246 rfl (lv_at hl 3 rfl) ?_
  refine lv_iconst (pc := 247) (v := 0) hx hb d_Mo_change_247 (by decide) ?_
  refine lv_aload_n (pc := 248) hx hb d_Mo_change_248 rfl (lv_at hl 0 rfl) ?_
  refine k_goI (gr := [[(qm 3, .inl (kA 0, 4, .inl (fun _ => 0)))]]) (k_rV (pc := 249) (As := []) (rest := [.int 0, .int v3, .int 363, .int (nI j), .ref a0]) X (c_Mo_edges_z1 l D kA a0 qm j hj H.size) rfl wm_3037 wm_9 wm_3034 wm_3036 wv_13_6 0 (by decide +kernel) ⟨Nat.le_of_ble_eq_true rfl, Nat.le_of_ble_eq_true rfl⟩ rfl rfl (va_recv hK hP (ci := 13) (q0 := 1) rfl rfl) (k_pre hN hK hP hD [1, 0] [2] 3 rfl (by decide) rfl) rfl hl.1 rfl (Nat.le_of_ble_eq_true rfl) d_Mo_change_249 ⟨Nat.le_of_ble_eq_true rfl, Nat.le_of_ble_eq_true rfl⟩) hP hD hS hA [1, 0] [2] 3 rfl (by decide) rfl rfl (fun r4 u5 H locs hu5 hP hD hS => ?_)
  subst hu5
  have hP : va_P D classes (cat [[(qm 3, .inl (kA 0, 4, .inl (fun _ => 0)))], [(a0, .inr (13, mF qm (va_up x0Mo 5 (nI (539 * (31 * j + 0)))) y0Mo))], [(qm 2, .inl (kA 0, 66836, .inl all0))]]) H := hP
  have hD : va_D A (cat [[(qm 3, .inl (kA 0, 4, .inl (fun _ => 0)))], [(a0, .inr (13, mF qm (va_up x0Mo 5 (nI (539 * (31 * j + 0)))) y0Mo))], [(qm 2, .inl (kA 0, 66836, .inl all0))]]) := hD
  refine lv_iconst (pc := 252) (v := 1) hx hb d_Mo_change_252 (by decide) ?_
  refine lv_isub (pc := 253) hx hb d_Mo_change_253 ?_
  refine k_cst (v := (-1)) (by decide) ?_
  refine k_goI (gr := [[(qm 3, .inl (kA 0, 4, .inl (fun _ => 0)))], [(a0, .inr (13, mF qm (va_up x0Mo 5 (nI (539 * (31 * j + 0)))) y0Mo))], [(qm 2, .inl (kA 0, 66836, .inl all0))]]) (k_rS (pc := 254) (As := [.int v3, .int 0, .int ((-1))]) (rest := [.int 363, .int (nI j), .ref a0]) X (c_Mo_in_z5 l D kA v3 H.size) rfl wm_2971 wm_9 wm_2969 wm_2970 3 (by decide +kernel) ⟨Nat.le_of_ble_eq_true rfl, Nat.le_of_ble_eq_true rfl⟩ rfl rfl (k_pre hN hK hP hD [] [0, 1, 2] 3 rfl (by decide) rfl) rfl hl.1 rfl (Nat.le_of_ble_eq_true rfl) d_Mo_change_254 ⟨Nat.le_of_ble_eq_true rfl, Nat.le_of_ble_eq_true rfl⟩) hP hD hS hA [] [0, 1, 2] 3 rfl (by decide) rfl rfl (fun r6 u7 H locs hu7 hP hD hS => ?_)
  subst hu7
  have hP : va_P D classes (cat [[(qm 3, .inl (kA 0, 4, .inl (fun _ => 0)))], [(a0, .inr (13, mF qm (va_up x0Mo 5 (nI (539 * (31 * j + 0)))) y0Mo))], [(qm 2, .inl (kA 0, 66836, .inl all0))]]) H := hP
  have hD : va_D A (cat [[(qm 3, .inl (kA 0, 4, .inl (fun _ => 0)))], [(a0, .inr (13, mF qm (va_up x0Mo 5 (nI (539 * (31 * j + 0)))) y0Mo))], [(qm 2, .inl (kA 0, 66836, .inl all0))]]) := hD
  refine lv_if_eq (pc := 257) (tgt := 275) hx hb d_Mo_change_257 (by decide) (fun c1 => ?_) (fun c1 => absurd (by decide) c1)
  refine lv_iconst (pc := 275) (v := 0) hx hb d_Mo_change_275 (by decide) ?_
  refine lv_iload_n (pc := 276) hx hb d_Mo_change_276 rfl (lv_at hl 3 rfl) ?_
  refine lv_iload (pc := 277) hx hb d_Mo_change_277 (lv_at hl 4 rfl) ?_
  refine k_goI (gr := [[(qm 3, .inl (kA 0, 4, .inl (fun _ => 0)))], [(a0, .inr (13, mF qm (va_up x0Mo 5 (nI (539 * (31 * j + 0)))) y0Mo))], [(qm 2, .inl (kA 0, 66836, .inl all0))]]) (k_rV (pc := 279) (As := [.int (nI j), .int 363, .int 0, .int v3, .int v4]) (rest := []) X (c_Mo_becomes_z2 l D kA a0 j v3 v4 hj H.size) rfl wm_3111 wm_9 wm_3108 wm_3110 wv_14_7 5 (by decide +kernel) ⟨Nat.le_of_ble_eq_true rfl, Nat.le_of_ble_eq_true rfl⟩ rfl rfl (va_recv hK hP (ci := 13) (q0 := 1) rfl rfl) (k_pre hN hK hP hD [] [0, 1, 2] 3 rfl (by decide) rfl) rfl hl.1 rfl (Nat.le_of_ble_eq_true rfl) d_Mo_change_279 ⟨Nat.le_of_ble_eq_true rfl, Nat.le_of_ble_eq_true rfl⟩) hP hD hS hA [] [0, 1, 2] 3 rfl (by decide) rfl rfl (fun r8 u9 H locs hu9 hP hD hS => ?_)
  subst hu9
  have hP : va_P D classes (cat [[(qm 3, .inl (kA 0, 4, .inl (fun _ => 0)))], [(a0, .inr (13, mF qm (va_up x0Mo 5 (nI (539 * (31 * j + 0)))) y0Mo))], [(qm 2, .inl (kA 0, 66836, .inl all0))]]) H := hP
  have hD : va_D A (cat [[(qm 3, .inl (kA 0, 4, .inl (fun _ => 0)))], [(a0, .inr (13, mF qm (va_up x0Mo 5 (nI (539 * (31 * j + 0)))) y0Mo))], [(qm 2, .inl (kA 0, 66836, .inl all0))]]) := hD
  refine W.widen (k := 0) (n := 0) (Nat.le_of_ble_eq_true rfl) (Nat.le_of_ble_eq_true rfl) ?_
  exact W.iret (v := (-1)) hx hb hr (fun t ht hW => ⟨⟨(-1), [[(qm 3, .inl (kA 0, 4, .inl (fun _ => 0)))], [(a0, .inr (13, mF qm (va_up x0Mo 5 (nI (539 * (31 * j + 0)))) y0Mo))], [(qm 2, .inl (kA 0, 66836, .inl all0))]], rfl, rfl, by rw [ht]; exact hP, va_K.moved hW.alike hK, hD⟩, hS.F ht⟩) hS.2.2 d_Mo_change_282
set_option maxRecDepth 100000 in
set_option maxHeartbeats 4000000 in
/-- change, a fresh house -/
theorem lf_change_10 {p : Program} {e : Env} {s : State} {m : MethodId} {below : List Frame} {meth : Method} {c : Code} (l : Launch) {b : Nat} {xs : Nat → Int32} (C0 : lw_At p s m meth c b 6 xs) {D : va_G} {kA : Nat → ClassId} (h : Nat) (h2 : Nat) (q : Nat → Nat) (qg : Nat → Nat) (qm : Nat → Nat) (g : Nat → Nat → Nat) (j : Nat) (v3 : Int32) (v4 : Int32) (hj : j < 4) (hv1 : xs 1 = nI j) (hv2 : xs 2 = 5) (hv3 : xs 3 = v3) (hv4 : xs 4 = v4) {H : Heap} {locs : List Loc} {ls : Array Slot} (hK : va_K D classes (TY kA) s) (hN : nst s) (hP : va_P D classes (cat [[(h, .inr (12, [.ref (q 0), .ref (q 1), .ref (q 2), .ref (q 3), .ref (q 4), .ref (q 5), .ref (q 6), .int 0, .int ((-1)), .ref (q 9), .ref (q 10), .int 0, .int 0, .ref (q 13), .int 0, .int 0, .null, .null, .null, .null, .null]))], [(q 0, .inl (kA 4, 4, .inr (.inr (.inr (.inr (rr (g 0)))))))], [(g 0 j, .inr (3, [.int 0, .int 0, .int 1, .ref (qg 3), .ref (qg 4), .ref (qg 5), .ref (qg 6), .ref (qg 7), .ref (qg 8), .ref (qg 9), .ref (qg 10), .ref (qg 11), .ref (qg 12), .ref (qg 13), .ref (qg 14), .ref (qg 15), .null, .int 0, .int 0]))], [(h2, .inr (13, mF qm x0Mo y0Mo))], [(qm 3, .inl (kA 0, 4, .inl (fun _ => 0)))], [(qm 2, .inl (kA 0, 66836, .inl all0))]]) H) (hD : va_D (fun q : Nat => s.heap.size ≤ q) (cat [[(h, .inr (12, [.ref (q 0), .ref (q 1), .ref (q 2), .ref (q 3), .ref (q 4), .ref (q 5), .ref (q 6), .int 0, .int ((-1)), .ref (q 9), .ref (q 10), .int 0, .int 0, .ref (q 13), .int 0, .int 0, .null, .null, .null, .null, .null]))], [(q 0, .inl (kA 4, 4, .inr (.inr (.inr (.inr (rr (g 0)))))))], [(g 0 j, .inr (3, [.int 0, .int 0, .int 1, .ref (qg 3), .ref (qg 4), .ref (qg 5), .ref (qg 6), .ref (qg 7), .ref (qg 8), .ref (qg 9), .ref (qg 10), .ref (qg 11), .ref (qg 12), .ref (qg 13), .ref (qg 14), .ref (qg 15), .null, .int 0, .int 0]))], [(h2, .inr (13, mF qm x0Mo y0Mo))], [(qm 3, .inl (kA 0, 4, .inl (fun _ => 0)))], [(qm 2, .inl (kA 0, 66836, .inl all0))]])) (hS : va_S (fun q : Nat => s.heap.size ≤ q) s.heap H locs) (hl : lv_has ls 4 [(3, .int 0), (2, .ref h2), (1, .ref h), (0, .ref b)]) : W p l e room_1 s m #[Value.ref b] below meth c H locs 368 365796 (lw_Z below #[Value.ref b] s) (F0 m 494 ls []) := by
  obtain ⟨hx, hb, hr, hml, hown, hts0, hX, hbl, hlocks, hgv⟩ := id C0
  have hts : ∀ w ∈ lw_g, w.before #[Value.ref b] s = true := fun w h => hts0 w (lw_gt h)
  have X : cx p s m #[Value.ref b] meth c b_law_law 4 ret "DrawingHouseLaw" meth.name := ⟨hx, hb, hml, hown, hts, hr, hlocks, rfl⟩
  obtain ⟨A, hAe⟩ : ∃ A : Nat → Prop, A = fun q : Nat => s.heap.size ≤ q := ⟨_, rfl⟩
  have hA : ∀ q : Nat, s.heap.size ≤ q → A q := fun q h => by rw [hAe]; exact h
  have hbA : ¬ A b := by rw [hAe]; exact Nat.not_le.mpr hbl
  rw [← hAe] at hD hS
  refine lv_aload_n (pc := 494) hx hb d_law_law_494 rfl (lv_at hl 2 rfl) ?_
  refine lv_aload_n (pc := 495) hx hb d_law_law_495 rfl (lv_at hl 3 rfl) ?_
  refine lv_iload_n (pc := 496) hx hb d_law_law_496 rfl (lv_at hl 0 rfl) ?_
  refine lv_iconst (pc := 497) (v := 1) hx hb d_law_law_497 (by decide) ?_
  refine lv_iadd (pc := 498) hx hb d_law_law_498 ?_
  refine k_cst (v := 1) (by decide) ?_
  refine va_sld (pc := 499) hx hb hX hbl hbA hS (by unfold vp_in; decide) d_law_law_499 ?_
  refine k_cst (v := nI j) hv1 ?_
  refine lv_aload_n (pc := 500) hx hb d_law_law_500 rfl (lv_at hl 3 rfl) ?_
  refine lv_iload_n (pc := 501) hx hb d_law_law_501 rfl (lv_at hl 0 rfl) ?_
  refine lv_iconst (pc := 502) (v := 2) hx hb d_law_law_502 (by decide) ?_
  refine lv_iadd (pc := 503) hx hb d_law_law_503 ?_
  refine k_cst (v := 2) (by decide) ?_
  refine va_sld (pc := 504) hx hb hX hbl hbA hS (by unfold vp_in; decide) d_law_law_504 ?_
  refine k_cst (v := 5) hv2 ?_
  refine lv_aload_n (pc := 505) hx hb d_law_law_505 rfl (lv_at hl 3 rfl) ?_
  refine lv_iload_n (pc := 506) hx hb d_law_law_506 rfl (lv_at hl 0 rfl) ?_
  refine lv_iconst (pc := 507) (v := 3) hx hb d_law_law_507 (by decide) ?_
  refine lv_iadd (pc := 508) hx hb d_law_law_508 ?_
  refine k_cst (v := 3) (by decide) ?_
  refine va_sld (pc := 509) hx hb hX hbl hbA hS (by unfold vp_in; decide) d_law_law_509 ?_
  refine k_cst (v := v3) hv3 ?_
  refine lv_aload_n (pc := 510) hx hb d_law_law_510 rfl (lv_at hl 3 rfl) ?_
  refine lv_iload_n (pc := 511) hx hb d_law_law_511 rfl (lv_at hl 0 rfl) ?_
  refine lv_iconst (pc := 512) (v := 4) hx hb d_law_law_512 (by decide) ?_
  refine lv_iadd (pc := 513) hx hb d_law_law_513 ?_
  refine k_cst (v := 4) (by decide) ?_
  refine va_sld (pc := 514) hx hb hX hbl hbA hS (by unfold vp_in; decide) d_law_law_514 ?_
  refine k_cst (v := v4) hv4 ?_
  refine k_goI (gr := [[(h2, .inr (13, mF qm x0Mo y0Mo))], [(qm 3, .inl (kA 0, 4, .inl (fun _ => 0)))], [(qm 2, .inl (kA 0, 66836, .inl all0))]]) (k_rV (pc := 515) (As := [.int (nI j), .int 5, .int v3, .int v4]) (rest := []) X (c_Ho_change_z10 l D kA h j v3 v4 (q 0) (q 1) (q 2) (q 3) (q 4) (q 5) (q 6) (q 9) (q 10) (q 13) g (qg 3) (qg 4) (qg 5) (qg 6) (qg 7) (qg 8) (qg 9) (qg 10) (qg 11) (qg 12) (qg 13) (qg 14) (qg 15) hj H.size) rfl wm_954 wm_1 wm_951 wm_952 wm_953 4 (by decide +kernel) ⟨Nat.le_of_ble_eq_true rfl, Nat.le_of_ble_eq_true rfl⟩ rfl rfl (va_recv hK hP (ci := 12) (q0 := 0) rfl rfl) (k_pre hN hK hP hD [0, 1, 2] [3, 4, 5] 6 rfl (by decide) rfl) rfl hl.1 rfl (Nat.le_of_ble_eq_true rfl) d_law_law_515 ⟨Nat.le_of_ble_eq_true rfl, Nat.le_of_ble_eq_true rfl⟩) hP hD hS hA [0, 1, 2] [3, 4, 5] 6 rfl (by decide) rfl rfl (fun r1 u2 H locs hu2 hP hD hS => ?_)
  obtain ⟨hP, hD⟩ := k_left hP hD
  subst hu2
  have hP : va_P D classes (cat [[(h2, .inr (13, mF qm x0Mo y0Mo))], [(qm 3, .inl (kA 0, 4, .inl (fun _ => 0)))], [(qm 2, .inl (kA 0, 66836, .inl all0))]]) H := hP
  have hD : va_D A (cat [[(h2, .inr (13, mF qm x0Mo y0Mo))], [(qm 3, .inl (kA 0, 4, .inl (fun _ => 0)))], [(qm 2, .inl (kA 0, 66836, .inl all0))]]) := hD
  refine lv_aload_n (pc := 518) hx hb d_law_law_518 rfl (lv_at hl 1 rfl) ?_
  refine lv_aload_n (pc := 519) hx hb d_law_law_519 rfl (lv_at hl 3 rfl) ?_
  refine lv_iload_n (pc := 520) hx hb d_law_law_520 rfl (lv_at hl 0 rfl) ?_
  refine lv_iconst (pc := 521) (v := 1) hx hb d_law_law_521 (by decide) ?_
  refine lv_iadd (pc := 522) hx hb d_law_law_522 ?_
  refine k_cst (v := 1) (by decide) ?_
  refine va_sld (pc := 523) hx hb hX hbl hbA hS (by unfold vp_in; decide) d_law_law_523 ?_
  refine k_cst (v := nI j) hv1 ?_
  refine lv_aload_n (pc := 524) hx hb d_law_law_524 rfl (lv_at hl 3 rfl) ?_
  refine lv_iload_n (pc := 525) hx hb d_law_law_525 rfl (lv_at hl 0 rfl) ?_
  refine lv_iconst (pc := 526) (v := 2) hx hb d_law_law_526 (by decide) ?_
  refine lv_iadd (pc := 527) hx hb d_law_law_527 ?_
  refine k_cst (v := 2) (by decide) ?_
  refine va_sld (pc := 528) hx hb hX hbl hbA hS (by unfold vp_in; decide) d_law_law_528 ?_
  refine k_cst (v := 5) hv2 ?_
  refine lv_aload_n (pc := 529) hx hb d_law_law_529 rfl (lv_at hl 3 rfl) ?_
  refine lv_iload_n (pc := 530) hx hb d_law_law_530 rfl (lv_at hl 0 rfl) ?_
  refine lv_iconst (pc := 531) (v := 3) hx hb d_law_law_531 (by decide) ?_
  refine lv_iadd (pc := 532) hx hb d_law_law_532 ?_
  refine k_cst (v := 3) (by decide) ?_
  refine va_sld (pc := 533) hx hb hX hbl hbA hS (by unfold vp_in; decide) d_law_law_533 ?_
  refine k_cst (v := v3) hv3 ?_
  refine lv_aload_n (pc := 534) hx hb d_law_law_534 rfl (lv_at hl 3 rfl) ?_
  refine lv_iload_n (pc := 535) hx hb d_law_law_535 rfl (lv_at hl 0 rfl) ?_
  refine lv_iconst (pc := 536) (v := 4) hx hb d_law_law_536 (by decide) ?_
  refine lv_iadd (pc := 537) hx hb d_law_law_537 ?_
  refine k_cst (v := 4) (by decide) ?_
  refine va_sld (pc := 538) hx hb hX hbl hbA hS (by unfold vp_in; decide) d_law_law_538 ?_
  refine k_cst (v := v4) hv4 ?_
  refine k_goI (gr := []) (k_rV (pc := 539) (As := [.int (nI j), .int 5, .int v3, .int v4]) (rest := [.int ((-1))]) X (c_Mo_change_z10 l D kA h2 j v3 v4 qm hj H.size) rfl wm_3087 wm_9 wm_3084 wm_3085 wm_3086 4 (by decide +kernel) ⟨Nat.le_of_ble_eq_true rfl, Nat.le_of_ble_eq_true rfl⟩ rfl rfl (va_recv hK hP (ci := 13) (q0 := 0) rfl rfl) (k_pre hN hK hP hD [0, 1, 2] [] 3 rfl (by decide) rfl) rfl hl.1 rfl (Nat.le_of_ble_eq_true rfl) d_law_law_539 ⟨Nat.le_of_ble_eq_true rfl, Nat.le_of_ble_eq_true rfl⟩) hP hD hS hA [0, 1, 2] [] 3 rfl (by decide) rfl rfl (fun r3 u4 H locs hu4 hP hD hS => ?_)
  obtain ⟨hP, hD⟩ := k_left hP hD
  subst hu4
  have hP : va_P D classes (cat []) H := hP
  have hD : va_D A (cat []) := hD
  refine lv_icmp_eq (pc := 542) (tgt := 1295) hx hb d_law_law_542 (by decide) (fun _ => ?_) (fun c1 => absurd (by decide) c1)
  rw [hAe] at hS
  exact law_exit l C0 (Nat.le_of_ble_eq_true rfl) (Nat.le_of_ble_eq_true rfl) hS hl
set_option maxRecDepth 100000 in
set_option maxHeartbeats 4000000 in
/-- DrawingHouse$Graph.mayAlter(III)Z -/
theorem c_Gr_mayAlter_z10 (l : Launch) (D : va_G) (kA : Nat → ClassId) (g : Nat → Nat → Nat) (j : Nat) (v3 : Int32) (v4 : Int32) (a0 : Nat) (a1 : Nat) (a2 : Nat) (a3 : Nat) (a4 : Nat) (a5 : Nat) (a6 : Nat) (a7 : Nat) (a8 : Nat) (a9 : Nat) (a10 : Nat) (a11 : Nat) (a12 : Nat) (hj : j < 4) : Ci l y_Gr_mayAlter z_Gr_mayAlter { frames := 1, cells := 0, slots := 0, locals := 21 } D classes (TY kA) [.ref (g 0 j), .int 6, .int v3, .int v4] [[(g 0 j, .inr (3, [.int 0, .int 0, .int 1, .ref a0, .ref a1, .ref a2, .ref a3, .ref a4, .ref a5, .ref a6, .ref a7, .ref a8, .ref a9, .ref a10, .ref a11, .ref a12, .null, .int 0, .int 0]))]] (fun r (_ : Unit) => r = 0) (fun u => [[(g 0 j, .inr (3, [.int 0, .int 0, .int 1, .ref a0, .ref a1, .ref a2, .ref a3, .ref a4, .ref a5, .ref a6, .ref a7, .ref a8, .ref a9, .ref a10, .ref a11, .ref a12, .null, .int 0, .int 0]))]]) 0 0 := by
  intro sz
  refine k_met (cc := b_Gr_mayAlter) (maxL := 4) (ret := (some .boolean)) (by decide) rfl (Nat.le_of_ble_eq_true rfl) (fun p e s m below meth c ls X hl hB => ?_)
  obtain ⟨hsz, hP, hK, hD0, hN⟩ := hB
  subst hsz
  have hD := hD0.self (sz := s.heap.size)
  generalize hAe : va_A (cat [[(g 0 j, .inr (3, [.int 0, .int 0, .int 1, .ref a0, .ref a1, .ref a2, .ref a3, .ref a4, .ref a5, .ref a6, .ref a7, .ref a8, .ref a9, .ref a10, .ref a11, .ref a12, .null, .int 0, .int 0]))]]) s.heap.size = A at hD ⊢
  have hA : ∀ q : Nat, s.heap.size ≤ q → A q := fun q h => by rw [← hAe]; exact Or.inr h
  have hS : va_S A s.heap s.heap [] := va_S.rf
  obtain ⟨hx, hb, hml, hown, hts, hr, hlk, hnm⟩ := id X
  have hl : lv_has ls 4 [(0, .ref (g 0 j)), (1, .int 6), (2, .int v3), (3, .int v4)] := hl
  have hP : va_P D classes (cat [[(g 0 j, .inr (3, [.int 0, .int 0, .int 1, .ref a0, .ref a1, .ref a2, .ref a3, .ref a4, .ref a5, .ref a6, .ref a7, .ref a8, .ref a9, .ref a10, .ref a11, .ref a12, .null, .int 0, .int 0]))]]) s.heap := hP
  have hK : va_K D classes (TY kA) s := hK
  refine lv_iload_n (pc := 0) hx hb d_Gr_mayAlter_0 rfl (lv_at hl 1 rfl) ?_
  refine lv_tableIn (pc := 1) (tgt := 186) hx hb d_Gr_mayAlter_1 (by decide) (by decide) rfl (by decide) ?_
  refine lv_aload_n (pc := 186) hx hb d_Gr_mayAlter_186 rfl (lv_at hl 0 rfl) ?_
  refine lv_iload_n (pc := 187) hx hb d_Gr_mayAlter_187 rfl (lv_at hl 2 rfl) ?_
  refine k_goI (gr := []) (k_rV (pc := 188) (As := [.int v3]) (rest := []) X (c_Gr_hasNode_z2 l D kA g j v3 a0 a1 a2 a3 a4 a5 a6 a7 a8 a9 a10 a11 a12 hj s.heap.size) rfl wm_921 wm_3 wm_969 wm_919 wm_920 1 (by decide +kernel) ⟨Nat.le_of_ble_eq_true rfl, Nat.le_of_ble_eq_true rfl⟩ rfl rfl (va_recv hK hP (ci := 3) (q0 := 0) rfl rfl) (k_pre hN hK hP hD [0] [] 1 rfl (by decide) rfl) rfl hl.1 rfl (Nat.le_of_ble_eq_true rfl) d_Gr_mayAlter_188 ⟨Nat.le_of_ble_eq_true rfl, Nat.le_of_ble_eq_true rfl⟩) hP hD hS hA [0] [] 1 rfl (by decide) rfl rfl (fun r1 u2 H locs hu2 hP hD hS => ?_)
  subst hu2
  have hP : va_P D classes (cat [[(g 0 j, .inr (3, [.int 0, .int 0, .int 1, .ref a0, .ref a1, .ref a2, .ref a3, .ref a4, .ref a5, .ref a6, .ref a7, .ref a8, .ref a9, .ref a10, .ref a11, .ref a12, .null, .int 0, .int 0]))]]) H := hP
  have hD : va_D A (cat [[(g 0 j, .inr (3, [.int 0, .int 0, .int 1, .ref a0, .ref a1, .ref a2, .ref a3, .ref a4, .ref a5, .ref a6, .ref a7, .ref a8, .ref a9, .ref a10, .ref a11, .ref a12, .null, .int 0, .int 0]))]]) := hD
  refine lv_if_eq (pc := 191) (tgt := 206) hx hb d_Gr_mayAlter_191 (by decide) (fun c1 => ?_) (fun c1 => absurd (by decide) c1)
  refine lv_iconst (pc := 206) (v := 0) hx hb d_Gr_mayAlter_206 (by decide) ?_
  refine W.widen (k := 0) (n := 0) (Nat.le_of_ble_eq_true rfl) (Nat.le_of_ble_eq_true rfl) ?_
  exact W.zret (v := 0) hx hb hr rfl (fun t ht hW => ⟨⟨0, (), rfl, rfl, by rw [ht]; exact hP, va_K.moved hW.alike hK, hD⟩, hS.F ht⟩) hS.2.2 d_Gr_mayAlter_207
set_option maxRecDepth 100000 in
set_option maxHeartbeats 4000000 in
/-- DrawingHouse.change(IIII)I -/
theorem c_Ho_change_z11 (l : Launch) (D : va_G) (kA : Nat → ClassId) (a0 : Nat) (j : Nat) (v3 : Int32) (v4 : Int32) (a1 : Nat) (a2 : Nat) (a3 : Nat) (a4 : Nat) (a5 : Nat) (a6 : Nat) (a7 : Nat) (a8 : Nat) (a9 : Nat) (a10 : Nat) (g : Nat → Nat → Nat) (a11 : Nat) (a12 : Nat) (a13 : Nat) (a14 : Nat) (a15 : Nat) (a16 : Nat) (a17 : Nat) (a18 : Nat) (a19 : Nat) (a20 : Nat) (a21 : Nat) (a22 : Nat) (a23 : Nat) (hj : j < 4) : Ci l y_Ho_change z_Ho_change { frames := 2, cells := 0, slots := 0, locals := 44 } D classes (TY kA) [.ref a0, .int (nI j), .int 6, .int v3, .int v4] [[(a0, .inr (12, [.ref a1, .ref a2, .ref a3, .ref a4, .ref a5, .ref a6, .ref a7, .int 0, .int ((-1)), .ref a8, .ref a9, .int 0, .int 0, .ref a10, .int 0, .int 0, .null, .null, .null, .null, .null]))], [(a1, .inl (kA 4, 4, .inr (.inr (.inr (.inr (rr (g 0)))))))], [(g 0 j, .inr (3, [.int 0, .int 0, .int 1, .ref a11, .ref a12, .ref a13, .ref a14, .ref a15, .ref a16, .ref a17, .ref a18, .ref a19, .ref a20, .ref a21, .ref a22, .ref a23, .null, .int 0, .int 0]))]] (fun r (_ : List va_W) => r = (-1)) (fun u => u) 0 0 := by
  intro sz
  refine k_met (cc := b_Ho_change) (maxL := 6) (ret := (some .int)) (by decide) rfl (Nat.le_of_ble_eq_true rfl) (fun p e s m below meth c ls X hl hB => ?_)
  obtain ⟨hsz, hP, hK, hD0, hN⟩ := hB
  subst hsz
  have hD := hD0.self (sz := s.heap.size)
  generalize hAe : va_A (cat [[(a0, .inr (12, [.ref a1, .ref a2, .ref a3, .ref a4, .ref a5, .ref a6, .ref a7, .int 0, .int ((-1)), .ref a8, .ref a9, .int 0, .int 0, .ref a10, .int 0, .int 0, .null, .null, .null, .null, .null]))], [(a1, .inl (kA 4, 4, .inr (.inr (.inr (.inr (rr (g 0)))))))], [(g 0 j, .inr (3, [.int 0, .int 0, .int 1, .ref a11, .ref a12, .ref a13, .ref a14, .ref a15, .ref a16, .ref a17, .ref a18, .ref a19, .ref a20, .ref a21, .ref a22, .ref a23, .null, .int 0, .int 0]))]]) s.heap.size = A at hD ⊢
  have hA : ∀ q : Nat, s.heap.size ≤ q → A q := fun q h => by rw [← hAe]; exact Or.inr h
  have hS : va_S A s.heap s.heap [] := va_S.rf
  obtain ⟨hx, hb, hml, hown, hts, hr, hlk, hnm⟩ := id X
  have hl : lv_has ls 6 [(0, .ref a0), (1, .int (nI j)), (2, .int 6), (3, .int v3), (4, .int v4)] := hl
  have hP : va_P D classes (cat [[(a0, .inr (12, [.ref a1, .ref a2, .ref a3, .ref a4, .ref a5, .ref a6, .ref a7, .int 0, .int ((-1)), .ref a8, .ref a9, .int 0, .int 0, .ref a10, .int 0, .int 0, .null, .null, .null, .null, .null]))], [(a1, .inl (kA 4, 4, .inr (.inr (.inr (.inr (rr (g 0)))))))], [(g 0 j, .inr (3, [.int 0, .int 0, .int 1, .ref a11, .ref a12, .ref a13, .ref a14, .ref a15, .ref a16, .ref a17, .ref a18, .ref a19, .ref a20, .ref a21, .ref a22, .ref a23, .null, .int 0, .int 0]))]]) s.heap := hP
  have hK : va_K D classes (TY kA) s := hK
  refine lv_iload_n (pc := 0) hx hb d_Ho_change_0 rfl (lv_at hl 1 rfl) ?_
  refine k_goI (gr := [[(a0, .inr (12, [.ref a1, .ref a2, .ref a3, .ref a4, .ref a5, .ref a6, .ref a7, .int 0, .int ((-1)), .ref a8, .ref a9, .int 0, .int 0, .ref a10, .int 0, .int 0, .null, .null, .null, .null, .null]))], [(a1, .inl (kA 4, 4, .inr (.inr (.inr (.inr (rr (g 0)))))))], [(g 0 j, .inr (3, [.int 0, .int 0, .int 1, .ref a11, .ref a12, .ref a13, .ref a14, .ref a15, .ref a16, .ref a17, .ref a18, .ref a19, .ref a20, .ref a21, .ref a22, .ref a23, .null, .int 0, .int 0]))]]) (k_rS (pc := 1) (As := [.int (nI j)]) (rest := []) X (c_Ho_isPlace l D kA (nI j) s.heap.size) rfl wm_633 wm_1 wm_631 wm_632 1 (by decide +kernel) ⟨Nat.le_of_ble_eq_true rfl, Nat.le_of_ble_eq_true rfl⟩ rfl rfl (k_pre hN hK hP hD [] [0, 1, 2] 3 rfl (by decide) rfl) rfl hl.1 rfl (Nat.le_of_ble_eq_true rfl) d_Ho_change_1 ⟨Nat.le_of_ble_eq_true rfl, Nat.le_of_ble_eq_true rfl⟩) hP hD hS hA [] [0, 1, 2] 3 rfl (by decide) rfl rfl (fun r1 u2 H locs hu2 hP hD hS => ?_)
  subst hu2
  refine k_cst (v := 1) (place_ok hj) ?_
  have hP : va_P D classes (cat [[(a0, .inr (12, [.ref a1, .ref a2, .ref a3, .ref a4, .ref a5, .ref a6, .ref a7, .int 0, .int ((-1)), .ref a8, .ref a9, .int 0, .int 0, .ref a10, .int 0, .int 0, .null, .null, .null, .null, .null]))], [(a1, .inl (kA 4, 4, .inr (.inr (.inr (.inr (rr (g 0)))))))], [(g 0 j, .inr (3, [.int 0, .int 0, .int 1, .ref a11, .ref a12, .ref a13, .ref a14, .ref a15, .ref a16, .ref a17, .ref a18, .ref a19, .ref a20, .ref a21, .ref a22, .ref a23, .null, .int 0, .int 0]))]]) H := hP
  have hD : va_D A (cat [[(a0, .inr (12, [.ref a1, .ref a2, .ref a3, .ref a4, .ref a5, .ref a6, .ref a7, .int 0, .int ((-1)), .ref a8, .ref a9, .int 0, .int 0, .ref a10, .int 0, .int 0, .null, .null, .null, .null, .null]))], [(a1, .inl (kA 4, 4, .inr (.inr (.inr (.inr (rr (g 0)))))))], [(g 0 j, .inr (3, [.int 0, .int 0, .int 1, .ref a11, .ref a12, .ref a13, .ref a14, .ref a15, .ref a16, .ref a17, .ref a18, .ref a19, .ref a20, .ref a21, .ref a22, .ref a23, .null, .int 0, .int 0]))]]) := hD
  refine lv_if_eq (pc := 4) (tgt := 23) hx hb d_Ho_change_4 (by decide) (fun c1 => absurd c1 (by decide)) (fun c1 => ?_)
  refine lv_aload_n (pc := 7) hx hb d_Ho_change_7 rfl (lv_at hl 0 rfl) ?_
  refine k_get (pc := 8) X hK hP 0 rfl rfl i_Ho 0 (by decide) wm_555 rfl rfl d_Ho_change_8 ?_
  refine lv_iload_n (pc := 11) hx hb d_Ho_change_11 rfl (lv_at hl 1 rfl) ?_
  refine k_ald (pc := 12) hx hb hK hP 1 4 rfl rfl (j) rfl (by omega) (by decide) (rr_at (by omega)) d_Ho_change_12 ?_
  refine lv_iload_n (pc := 13) hx hb d_Ho_change_13 rfl (lv_at hl 2 rfl) ?_
  refine lv_iload_n (pc := 14) hx hb d_Ho_change_14 rfl (lv_at hl 3 rfl) ?_
  refine lv_iload (pc := 15) hx hb d_Ho_change_15 (lv_at hl 4 rfl) ?_
  refine k_goI (gr := [[(a0, .inr (12, [.ref a1, .ref a2, .ref a3, .ref a4, .ref a5, .ref a6, .ref a7, .int 0, .int ((-1)), .ref a8, .ref a9, .int 0, .int 0, .ref a10, .int 0, .int 0, .null, .null, .null, .null, .null]))], [(a1, .inl (kA 4, 4, .inr (.inr (.inr (.inr (rr (g 0)))))))]]) (k_rV (pc := 17) (As := [.int 6, .int v3, .int v4]) (rest := []) X (c_Gr_mayAlter_z10 l D kA g j v3 v4 a11 a12 a13 a14 a15 a16 a17 a18 a19 a20 a21 a22 a23 hj H.size) rfl wm_958 wm_3 wm_955 wm_956 wm_957 3 (by decide +kernel) ⟨Nat.le_of_ble_eq_true rfl, Nat.le_of_ble_eq_true rfl⟩ rfl rfl (va_recv hK hP (ci := 3) (q0 := 2) rfl rfl) (k_pre hN hK hP hD [2] [0, 1] 3 rfl (by decide) rfl) rfl hl.1 rfl (Nat.le_of_ble_eq_true rfl) d_Ho_change_17 ⟨Nat.le_of_ble_eq_true rfl, Nat.le_of_ble_eq_true rfl⟩) hP hD hS hA [2] [0, 1] 3 rfl (by decide) rfl rfl (fun r3 u4 H locs hu4 hP hD hS => ?_)
  subst hu4
  have hP : va_P D classes (cat [[(a0, .inr (12, [.ref a1, .ref a2, .ref a3, .ref a4, .ref a5, .ref a6, .ref a7, .int 0, .int ((-1)), .ref a8, .ref a9, .int 0, .int 0, .ref a10, .int 0, .int 0, .null, .null, .null, .null, .null]))], [(a1, .inl (kA 4, 4, .inr (.inr (.inr (.inr (rr (g 0)))))))], [(g 0 j, .inr (3, [.int 0, .int 0, .int 1, .ref a11, .ref a12, .ref a13, .ref a14, .ref a15, .ref a16, .ref a17, .ref a18, .ref a19, .ref a20, .ref a21, .ref a22, .ref a23, .null, .int 0, .int 0]))]]) H := hP
  have hD : va_D A (cat [[(a0, .inr (12, [.ref a1, .ref a2, .ref a3, .ref a4, .ref a5, .ref a6, .ref a7, .int 0, .int ((-1)), .ref a8, .ref a9, .int 0, .int 0, .ref a10, .int 0, .int 0, .null, .null, .null, .null, .null]))], [(a1, .inl (kA 4, 4, .inr (.inr (.inr (.inr (rr (g 0)))))))], [(g 0 j, .inr (3, [.int 0, .int 0, .int 1, .ref a11, .ref a12, .ref a13, .ref a14, .ref a15, .ref a16, .ref a17, .ref a18, .ref a19, .ref a20, .ref a21, .ref a22, .ref a23, .null, .int 0, .int 0]))]]) := hD
  refine lv_if_ne (pc := 20) (tgt := 25) hx hb d_Ho_change_20 (by decide) (fun c1 => absurd (by decide) c1) (fun c1 => ?_)
  refine lv_iconst (pc := 23) (v := -1) hx hb d_Ho_change_23 (by decide) ?_
  refine W.widen (k := 0) (n := 0) (Nat.le_of_ble_eq_true rfl) (Nat.le_of_ble_eq_true rfl) ?_
  exact W.iret (v := (-1)) hx hb hr (fun t ht hW => ⟨⟨(-1), [[(a0, .inr (12, [.ref a1, .ref a2, .ref a3, .ref a4, .ref a5, .ref a6, .ref a7, .int 0, .int ((-1)), .ref a8, .ref a9, .int 0, .int 0, .ref a10, .int 0, .int 0, .null, .null, .null, .null, .null]))], [(a1, .inl (kA 4, 4, .inr (.inr (.inr (.inr (rr (g 0)))))))], [(g 0 j, .inr (3, [.int 0, .int 0, .int 1, .ref a11, .ref a12, .ref a13, .ref a14, .ref a15, .ref a16, .ref a17, .ref a18, .ref a19, .ref a20, .ref a21, .ref a22, .ref a23, .null, .int 0, .int 0]))]], rfl, rfl, by rw [ht]; exact hP, va_K.moved hW.alike hK, hD⟩, hS.F ht⟩) hS.2.2 d_Ho_change_24
set_option maxRecDepth 100000 in
set_option maxHeartbeats 4000000 in
/-- DrawingHouseModel.becomes(IIZII)I -/
theorem c_Mo_becomes_z3 (l : Launch) (D : va_G) (kA : Nat → ClassId) (a0 : Nat) (j : Nat) (v3 : Int32) (v4 : Int32) (hj : j < 4) : Ci l y_Mo_becomes z_Mo_becomes { frames := 0, cells := 0, slots := 0, locals := 0 } D classes (TY kA) [.ref a0, .int (nI j), .int 243, .int 0, .int v3, .int v4] [] (fun r (_ : Unit) => r = (-1)) (fun u => []) 0 0 := by
  intro sz
  refine k_met (cc := b_Mo_becomes) (maxL := 6) (ret := (some .int)) (by decide) rfl (Nat.le_of_ble_eq_true rfl) (fun p e s m below meth c ls X hl hB => ?_)
  obtain ⟨hsz, hP, hK, hD0, hN⟩ := hB
  subst hsz
  have hD := hD0.self (sz := s.heap.size)
  generalize hAe : va_A (cat []) s.heap.size = A at hD ⊢
  have hA : ∀ q : Nat, s.heap.size ≤ q → A q := fun q h => by rw [← hAe]; exact Or.inr h
  have hS : va_S A s.heap s.heap [] := va_S.rf
  obtain ⟨hx, hb, hml, hown, hts, hr, hlk, hnm⟩ := id X
  have hl : lv_has ls 6 [(0, .ref a0), (1, .int (nI j)), (2, .int 243), (3, .int 0), (4, .int v3), (5, .int v4)] := hl
  have hP : va_P D classes (cat []) s.heap := hP
  have hK : va_K D classes (TY kA) s := hK
  refine lv_iload_n (pc := 0) hx hb d_Mo_becomes_0 rfl (lv_at hl 3 rfl) ?_
  refine lv_if_ne (pc := 1) (tgt := 6) hx hb d_Mo_becomes_1 (by decide) (fun c1 => absurd (by decide) c1) (fun c1 => ?_)
  refine lv_iconst (pc := 4) (v := -1) hx hb d_Mo_becomes_4 (by decide) ?_
  refine W.widen (k := 0) (n := 0) (Nat.le_of_ble_eq_true rfl) (Nat.le_of_ble_eq_true rfl) ?_
  exact W.iret (v := (-1)) hx hb hr (fun t ht hW => ⟨⟨(-1), (), rfl, rfl, by rw [ht]; exact hP, va_K.moved hW.alike hK, hD⟩, hS.F ht⟩) hS.2.2 d_Mo_becomes_5
set_option maxRecDepth 100000 in
set_option maxHeartbeats 4000000 in
/-- DrawingHouseModel.change(IIII)I -/
theorem c_Mo_change_z11 (l : Launch) (D : va_G) (kA : Nat → ClassId) (a0 : Nat) (j : Nat) (v3 : Int32) (v4 : Int32) (qm : Nat → Nat) (hj : j < 4) : Ci l y_Mo_change z_Mo_change { frames := 2, cells := 0, slots := 0, locals := 42 } D classes (TY kA) [.ref a0, .int (nI j), .int 6, .int v3, .int v4] [[(a0, .inr (13, mF qm x0Mo y0Mo))], [(qm 3, .inl (kA 0, 4, .inl (fun _ => 0)))], [(qm 2, .inl (kA 0, 66836, .inl all0))]] (fun r (_ : List va_W) => r = (-1)) (fun u => u) 0 0 := by
  intro sz
  refine k_met (cc := b_Mo_change) (maxL := 5) (ret := (some .int)) (by decide) rfl (Nat.le_of_ble_eq_true rfl) (fun p e s m below meth c ls X hl hB => ?_)
  obtain ⟨hsz, hP, hK, hD0, hN⟩ := hB
  subst hsz
  have hD := hD0.self (sz := s.heap.size)
  generalize hAe : va_A (cat [[(a0, .inr (13, mF qm x0Mo y0Mo))], [(qm 3, .inl (kA 0, 4, .inl (fun _ => 0)))], [(qm 2, .inl (kA 0, 66836, .inl all0))]]) s.heap.size = A at hD ⊢
  have hA : ∀ q : Nat, s.heap.size ≤ q → A q := fun q h => by rw [← hAe]; exact Or.inr h
  have hS : va_S A s.heap s.heap [] := va_S.rf
  obtain ⟨hx, hb, hml, hown, hts, hr, hlk, hnm⟩ := id X
  have hl : lv_has ls 5 [(0, .ref a0), (1, .int (nI j)), (2, .int 6), (3, .int v3), (4, .int v4)] := hl
  have hP : va_P D classes (cat [[(a0, .inr (13, mF qm x0Mo y0Mo))], [(qm 3, .inl (kA 0, 4, .inl (fun _ => 0)))], [(qm 2, .inl (kA 0, 66836, .inl all0))]]) s.heap := hP
  have hK : va_K D classes (TY kA) s := hK
  refine lv_iload_n (pc := 0) hx hb d_Mo_change_0 rfl (lv_at hl 1 rfl) ?_
  refine k_goI (gr := [[(a0, .inr (13, mF qm x0Mo y0Mo))], [(qm 3, .inl (kA 0, 4, .inl (fun _ => 0)))], [(qm 2, .inl (kA 0, 66836, .inl all0))]]) (k_rS (pc := 1) (As := [.int (nI j)]) (rest := []) X (c_Mo_isPlace l D kA (nI j) s.heap.size) rfl wm_2978 wm_9 wm_2976 wm_2977 1 (by decide +kernel) ⟨Nat.le_of_ble_eq_true rfl, Nat.le_of_ble_eq_true rfl⟩ rfl rfl (k_pre hN hK hP hD [] [0, 1, 2] 3 rfl (by decide) rfl) rfl hl.1 rfl (Nat.le_of_ble_eq_true rfl) d_Mo_change_1 ⟨Nat.le_of_ble_eq_true rfl, Nat.le_of_ble_eq_true rfl⟩) hP hD hS hA [] [0, 1, 2] 3 rfl (by decide) rfl rfl (fun r1 u2 H locs hu2 hP hD hS => ?_)
  subst hu2
  refine k_cst (v := 1) (placeM_ok hj) ?_
  have hP : va_P D classes (cat [[(a0, .inr (13, mF qm x0Mo y0Mo))], [(qm 3, .inl (kA 0, 4, .inl (fun _ => 0)))], [(qm 2, .inl (kA 0, 66836, .inl all0))]]) H := hP
  have hD : va_D A (cat [[(a0, .inr (13, mF qm x0Mo y0Mo))], [(qm 3, .inl (kA 0, 4, .inl (fun _ => 0)))], [(qm 2, .inl (kA 0, 66836, .inl all0))]]) := hD
  refine lv_if_ne (pc := 4) (tgt := 9) hx hb d_Mo_change_4 (by decide) (fun c1 => ?_) (fun c1 => absurd c1 (by decide))
  refine lv_aload_n (pc := 9) hx hb d_Mo_change_9 rfl (lv_at hl 0 rfl) ?_
  refine lv_iload_n (pc := 10) hx hb d_Mo_change_10 rfl (lv_at hl 1 rfl) ?_
  refine k_goV (gr := [[(qm 2, .inl (kA 0, 66836, .inl all0))]]) (k_rV (pc := 11) (As := [.int (nI j)]) (rest := []) X (c_Mo_take_z1 l D kA a0 j qm hj H.size) rfl wm_3091 wm_9 wm_3088 wm_3090 wv_14_2 1 (by decide +kernel) ⟨Nat.le_of_ble_eq_true rfl, Nat.le_of_ble_eq_true rfl⟩ rfl rfl (va_recv hK hP (ci := 13) (q0 := 0) rfl rfl) (k_pre hN hK hP hD [0, 1] [2] 3 rfl (by decide) rfl) rfl hl.1 rfl (Nat.le_of_ble_eq_true rfl) d_Mo_change_11 ⟨Nat.le_of_ble_eq_true rfl, Nat.le_of_ble_eq_true rfl⟩) hP hD hS hA [0, 1] [2] 3 rfl (by decide) rfl rfl (fun u3 H locs hu3 hP hD hS => ?_)
  have hP : va_P D classes (cat [[(qm 2, .inl (kA 0, 66836, .inl all0))], [(a0, .inr (13, mF qm (va_up x0Mo 5 (nI (539 * (31 * j + 0)))) y0Mo))], [(qm 3, .inl (kA 0, 4, .inl (fun _ => 0)))]]) H := hP
  have hD : va_D A (cat [[(qm 2, .inl (kA 0, 66836, .inl all0))], [(a0, .inr (13, mF qm (va_up x0Mo 5 (nI (539 * (31 * j + 0)))) y0Mo))], [(qm 3, .inl (kA 0, 4, .inl (fun _ => 0)))]]) := hD
  refine lv_iload_n (pc := 14) hx hb d_Mo_change_14 rfl (lv_at hl 2 rfl) ?_
  refine lv_tableIn (pc := 15) (tgt := 283) hx hb d_Mo_change_15 (by decide) (by decide) rfl (by decide) ?_
  refine lv_aload_n (pc := 283) hx hb d_Mo_change_283 rfl (lv_at hl 0 rfl) ?_
  refine lv_iload_n (pc := 284) hx hb d_Mo_change_284 rfl (lv_at hl 1 rfl) ?_
  refine lv_sipush (pc := 285) (v := 243) hx hb d_Mo_change_285 (by decide) ?_
  refine lv_iload_n (pc := 288) hx hb d_Mo_change_288 rfl (lv_at hl 3 rfl) ?_
  refine lv_iconst (pc := 289) (v := 0) hx hb d_Mo_change_289 (by decide) ?_
  refine lv_aload_n (pc := 290) hx hb d_Mo_change_290 rfl (lv_at hl 0 rfl) ?_
  refine k_goI (gr := [[(qm 3, .inl (kA 0, 4, .inl (fun _ => 0)))]]) (k_rV (pc := 291) (As := []) (rest := [.int 0, .int v3, .int 243, .int (nI j), .ref a0]) X (c_Mo_nodes_z1 l D kA a0 qm j hj H.size) rfl wm_3025 wm_9 wm_3022 wm_3024 wv_13_3 0 (by decide +kernel) ⟨Nat.le_of_ble_eq_true rfl, Nat.le_of_ble_eq_true rfl⟩ rfl rfl (va_recv hK hP (ci := 13) (q0 := 1) rfl rfl) (k_pre hN hK hP hD [1, 0] [2] 3 rfl (by decide) rfl) rfl hl.1 rfl (Nat.le_of_ble_eq_true rfl) d_Mo_change_291 ⟨Nat.le_of_ble_eq_true rfl, Nat.le_of_ble_eq_true rfl⟩) hP hD hS hA [1, 0] [2] 3 rfl (by decide) rfl rfl (fun r4 u5 H locs hu5 hP hD hS => ?_)
  subst hu5
  have hP : va_P D classes (cat [[(qm 3, .inl (kA 0, 4, .inl (fun _ => 0)))], [(a0, .inr (13, mF qm (va_up x0Mo 5 (nI (539 * (31 * j + 0)))) y0Mo))], [(qm 2, .inl (kA 0, 66836, .inl all0))]]) H := hP
  have hD : va_D A (cat [[(qm 3, .inl (kA 0, 4, .inl (fun _ => 0)))], [(a0, .inr (13, mF qm (va_up x0Mo 5 (nI (539 * (31 * j + 0)))) y0Mo))], [(qm 2, .inl (kA 0, 66836, .inl all0))]]) := hD
  refine lv_iconst (pc := 294) (v := 1) hx hb d_Mo_change_294 (by decide) ?_
  refine lv_isub (pc := 295) hx hb d_Mo_change_295 ?_
  refine k_cst (v := (-1)) (by decide) ?_
  refine k_goI (gr := [[(qm 3, .inl (kA 0, 4, .inl (fun _ => 0)))], [(a0, .inr (13, mF qm (va_up x0Mo 5 (nI (539 * (31 * j + 0)))) y0Mo))], [(qm 2, .inl (kA 0, 66836, .inl all0))]]) (k_rS (pc := 296) (As := [.int v3, .int 0, .int ((-1))]) (rest := [.int 243, .int (nI j), .ref a0]) X (c_Mo_in_z5 l D kA v3 H.size) rfl wm_2971 wm_9 wm_2969 wm_2970 3 (by decide +kernel) ⟨Nat.le_of_ble_eq_true rfl, Nat.le_of_ble_eq_true rfl⟩ rfl rfl (k_pre hN hK hP hD [] [0, 1, 2] 3 rfl (by decide) rfl) rfl hl.1 rfl (Nat.le_of_ble_eq_true rfl) d_Mo_change_296 ⟨Nat.le_of_ble_eq_true rfl, Nat.le_of_ble_eq_true rfl⟩) hP hD hS hA [] [0, 1, 2] 3 rfl (by decide) rfl rfl (fun r6 u7 H locs hu7 hP hD hS => ?_)
  subst hu7
  have hP : va_P D classes (cat [[(qm 3, .inl (kA 0, 4, .inl (fun _ => 0)))], [(a0, .inr (13, mF qm (va_up x0Mo 5 (nI (539 * (31 * j + 0)))) y0Mo))], [(qm 2, .inl (kA 0, 66836, .inl all0))]]) H := hP
  have hD : va_D A (cat [[(qm 3, .inl (kA 0, 4, .inl (fun _ => 0)))], [(a0, .inr (13, mF qm (va_up x0Mo 5 (nI (539 * (31 * j + 0)))) y0Mo))], [(qm 2, .inl (kA 0, 66836, .inl all0))]]) := hD
  refine lv_if_eq (pc := 299) (tgt := 321) hx hb d_Mo_change_299 (by decide) (fun c1 => ?_) (fun c1 => absurd (by decide) c1)
  refine lv_iconst (pc := 321) (v := 0) hx hb d_Mo_change_321 (by decide) ?_
  refine lv_iload_n (pc := 322) hx hb d_Mo_change_322 rfl (lv_at hl 3 rfl) ?_
  refine lv_iload (pc := 323) hx hb d_Mo_change_323 (lv_at hl 4 rfl) ?_
  refine k_goI (gr := [[(qm 3, .inl (kA 0, 4, .inl (fun _ => 0)))], [(a0, .inr (13, mF qm (va_up x0Mo 5 (nI (539 * (31 * j + 0)))) y0Mo))], [(qm 2, .inl (kA 0, 66836, .inl all0))]]) (k_rV (pc := 325) (As := [.int (nI j), .int 243, .int 0, .int v3, .int v4]) (rest := []) X (c_Mo_becomes_z3 l D kA a0 j v3 v4 hj H.size) rfl wm_3111 wm_9 wm_3108 wm_3110 wv_14_7 5 (by decide +kernel) ⟨Nat.le_of_ble_eq_true rfl, Nat.le_of_ble_eq_true rfl⟩ rfl rfl (va_recv hK hP (ci := 13) (q0 := 1) rfl rfl) (k_pre hN hK hP hD [] [0, 1, 2] 3 rfl (by decide) rfl) rfl hl.1 rfl (Nat.le_of_ble_eq_true rfl) d_Mo_change_325 ⟨Nat.le_of_ble_eq_true rfl, Nat.le_of_ble_eq_true rfl⟩) hP hD hS hA [] [0, 1, 2] 3 rfl (by decide) rfl rfl (fun r8 u9 H locs hu9 hP hD hS => ?_)
  subst hu9
  have hP : va_P D classes (cat [[(qm 3, .inl (kA 0, 4, .inl (fun _ => 0)))], [(a0, .inr (13, mF qm (va_up x0Mo 5 (nI (539 * (31 * j + 0)))) y0Mo))], [(qm 2, .inl (kA 0, 66836, .inl all0))]]) H := hP
  have hD : va_D A (cat [[(qm 3, .inl (kA 0, 4, .inl (fun _ => 0)))], [(a0, .inr (13, mF qm (va_up x0Mo 5 (nI (539 * (31 * j + 0)))) y0Mo))], [(qm 2, .inl (kA 0, 66836, .inl all0))]]) := hD
  refine W.widen (k := 0) (n := 0) (Nat.le_of_ble_eq_true rfl) (Nat.le_of_ble_eq_true rfl) ?_
  exact W.iret (v := (-1)) hx hb hr (fun t ht hW => ⟨⟨(-1), [[(qm 3, .inl (kA 0, 4, .inl (fun _ => 0)))], [(a0, .inr (13, mF qm (va_up x0Mo 5 (nI (539 * (31 * j + 0)))) y0Mo))], [(qm 2, .inl (kA 0, 66836, .inl all0))]], rfl, rfl, by rw [ht]; exact hP, va_K.moved hW.alike hK, hD⟩, hS.F ht⟩) hS.2.2 d_Mo_change_328
set_option maxRecDepth 100000 in
set_option maxHeartbeats 4000000 in
/-- change, a fresh house -/
theorem lf_change_11 {p : Program} {e : Env} {s : State} {m : MethodId} {below : List Frame} {meth : Method} {c : Code} (l : Launch) {b : Nat} {xs : Nat → Int32} (C0 : lw_At p s m meth c b 6 xs) {D : va_G} {kA : Nat → ClassId} (h : Nat) (h2 : Nat) (q : Nat → Nat) (qg : Nat → Nat) (qm : Nat → Nat) (g : Nat → Nat → Nat) (j : Nat) (v3 : Int32) (v4 : Int32) (hj : j < 4) (hv1 : xs 1 = nI j) (hv2 : xs 2 = 6) (hv3 : xs 3 = v3) (hv4 : xs 4 = v4) {H : Heap} {locs : List Loc} {ls : Array Slot} (hK : va_K D classes (TY kA) s) (hN : nst s) (hP : va_P D classes (cat [[(h, .inr (12, [.ref (q 0), .ref (q 1), .ref (q 2), .ref (q 3), .ref (q 4), .ref (q 5), .ref (q 6), .int 0, .int ((-1)), .ref (q 9), .ref (q 10), .int 0, .int 0, .ref (q 13), .int 0, .int 0, .null, .null, .null, .null, .null]))], [(q 0, .inl (kA 4, 4, .inr (.inr (.inr (.inr (rr (g 0)))))))], [(g 0 j, .inr (3, [.int 0, .int 0, .int 1, .ref (qg 3), .ref (qg 4), .ref (qg 5), .ref (qg 6), .ref (qg 7), .ref (qg 8), .ref (qg 9), .ref (qg 10), .ref (qg 11), .ref (qg 12), .ref (qg 13), .ref (qg 14), .ref (qg 15), .null, .int 0, .int 0]))], [(h2, .inr (13, mF qm x0Mo y0Mo))], [(qm 3, .inl (kA 0, 4, .inl (fun _ => 0)))], [(qm 2, .inl (kA 0, 66836, .inl all0))]]) H) (hD : va_D (fun q : Nat => s.heap.size ≤ q) (cat [[(h, .inr (12, [.ref (q 0), .ref (q 1), .ref (q 2), .ref (q 3), .ref (q 4), .ref (q 5), .ref (q 6), .int 0, .int ((-1)), .ref (q 9), .ref (q 10), .int 0, .int 0, .ref (q 13), .int 0, .int 0, .null, .null, .null, .null, .null]))], [(q 0, .inl (kA 4, 4, .inr (.inr (.inr (.inr (rr (g 0)))))))], [(g 0 j, .inr (3, [.int 0, .int 0, .int 1, .ref (qg 3), .ref (qg 4), .ref (qg 5), .ref (qg 6), .ref (qg 7), .ref (qg 8), .ref (qg 9), .ref (qg 10), .ref (qg 11), .ref (qg 12), .ref (qg 13), .ref (qg 14), .ref (qg 15), .null, .int 0, .int 0]))], [(h2, .inr (13, mF qm x0Mo y0Mo))], [(qm 3, .inl (kA 0, 4, .inl (fun _ => 0)))], [(qm 2, .inl (kA 0, 66836, .inl all0))]])) (hS : va_S (fun q : Nat => s.heap.size ≤ q) s.heap H locs) (hl : lv_has ls 4 [(3, .int 0), (2, .ref h2), (1, .ref h), (0, .ref b)]) : W p l e room_1 s m #[Value.ref b] below meth c H locs 368 365796 (lw_Z below #[Value.ref b] s) (F0 m 494 ls []) := by
  obtain ⟨hx, hb, hr, hml, hown, hts0, hX, hbl, hlocks, hgv⟩ := id C0
  have hts : ∀ w ∈ lw_g, w.before #[Value.ref b] s = true := fun w h => hts0 w (lw_gt h)
  have X : cx p s m #[Value.ref b] meth c b_law_law 4 ret "DrawingHouseLaw" meth.name := ⟨hx, hb, hml, hown, hts, hr, hlocks, rfl⟩
  obtain ⟨A, hAe⟩ : ∃ A : Nat → Prop, A = fun q : Nat => s.heap.size ≤ q := ⟨_, rfl⟩
  have hA : ∀ q : Nat, s.heap.size ≤ q → A q := fun q h => by rw [hAe]; exact h
  have hbA : ¬ A b := by rw [hAe]; exact Nat.not_le.mpr hbl
  rw [← hAe] at hD hS
  refine lv_aload_n (pc := 494) hx hb d_law_law_494 rfl (lv_at hl 2 rfl) ?_
  refine lv_aload_n (pc := 495) hx hb d_law_law_495 rfl (lv_at hl 3 rfl) ?_
  refine lv_iload_n (pc := 496) hx hb d_law_law_496 rfl (lv_at hl 0 rfl) ?_
  refine lv_iconst (pc := 497) (v := 1) hx hb d_law_law_497 (by decide) ?_
  refine lv_iadd (pc := 498) hx hb d_law_law_498 ?_
  refine k_cst (v := 1) (by decide) ?_
  refine va_sld (pc := 499) hx hb hX hbl hbA hS (by unfold vp_in; decide) d_law_law_499 ?_
  refine k_cst (v := nI j) hv1 ?_
  refine lv_aload_n (pc := 500) hx hb d_law_law_500 rfl (lv_at hl 3 rfl) ?_
  refine lv_iload_n (pc := 501) hx hb d_law_law_501 rfl (lv_at hl 0 rfl) ?_
  refine lv_iconst (pc := 502) (v := 2) hx hb d_law_law_502 (by decide) ?_
  refine lv_iadd (pc := 503) hx hb d_law_law_503 ?_
  refine k_cst (v := 2) (by decide) ?_
  refine va_sld (pc := 504) hx hb hX hbl hbA hS (by unfold vp_in; decide) d_law_law_504 ?_
  refine k_cst (v := 6) hv2 ?_
  refine lv_aload_n (pc := 505) hx hb d_law_law_505 rfl (lv_at hl 3 rfl) ?_
  refine lv_iload_n (pc := 506) hx hb d_law_law_506 rfl (lv_at hl 0 rfl) ?_
  refine lv_iconst (pc := 507) (v := 3) hx hb d_law_law_507 (by decide) ?_
  refine lv_iadd (pc := 508) hx hb d_law_law_508 ?_
  refine k_cst (v := 3) (by decide) ?_
  refine va_sld (pc := 509) hx hb hX hbl hbA hS (by unfold vp_in; decide) d_law_law_509 ?_
  refine k_cst (v := v3) hv3 ?_
  refine lv_aload_n (pc := 510) hx hb d_law_law_510 rfl (lv_at hl 3 rfl) ?_
  refine lv_iload_n (pc := 511) hx hb d_law_law_511 rfl (lv_at hl 0 rfl) ?_
  refine lv_iconst (pc := 512) (v := 4) hx hb d_law_law_512 (by decide) ?_
  refine lv_iadd (pc := 513) hx hb d_law_law_513 ?_
  refine k_cst (v := 4) (by decide) ?_
  refine va_sld (pc := 514) hx hb hX hbl hbA hS (by unfold vp_in; decide) d_law_law_514 ?_
  refine k_cst (v := v4) hv4 ?_
  refine k_goI (gr := [[(h2, .inr (13, mF qm x0Mo y0Mo))], [(qm 3, .inl (kA 0, 4, .inl (fun _ => 0)))], [(qm 2, .inl (kA 0, 66836, .inl all0))]]) (k_rV (pc := 515) (As := [.int (nI j), .int 6, .int v3, .int v4]) (rest := []) X (c_Ho_change_z11 l D kA h j v3 v4 (q 0) (q 1) (q 2) (q 3) (q 4) (q 5) (q 6) (q 9) (q 10) (q 13) g (qg 3) (qg 4) (qg 5) (qg 6) (qg 7) (qg 8) (qg 9) (qg 10) (qg 11) (qg 12) (qg 13) (qg 14) (qg 15) hj H.size) rfl wm_954 wm_1 wm_951 wm_952 wm_953 4 (by decide +kernel) ⟨Nat.le_of_ble_eq_true rfl, Nat.le_of_ble_eq_true rfl⟩ rfl rfl (va_recv hK hP (ci := 12) (q0 := 0) rfl rfl) (k_pre hN hK hP hD [0, 1, 2] [3, 4, 5] 6 rfl (by decide) rfl) rfl hl.1 rfl (Nat.le_of_ble_eq_true rfl) d_law_law_515 ⟨Nat.le_of_ble_eq_true rfl, Nat.le_of_ble_eq_true rfl⟩) hP hD hS hA [0, 1, 2] [3, 4, 5] 6 rfl (by decide) rfl rfl (fun r1 u2 H locs hu2 hP hD hS => ?_)
  obtain ⟨hP, hD⟩ := k_left hP hD
  subst hu2
  have hP : va_P D classes (cat [[(h2, .inr (13, mF qm x0Mo y0Mo))], [(qm 3, .inl (kA 0, 4, .inl (fun _ => 0)))], [(qm 2, .inl (kA 0, 66836, .inl all0))]]) H := hP
  have hD : va_D A (cat [[(h2, .inr (13, mF qm x0Mo y0Mo))], [(qm 3, .inl (kA 0, 4, .inl (fun _ => 0)))], [(qm 2, .inl (kA 0, 66836, .inl all0))]]) := hD
  refine lv_aload_n (pc := 518) hx hb d_law_law_518 rfl (lv_at hl 1 rfl) ?_
  refine lv_aload_n (pc := 519) hx hb d_law_law_519 rfl (lv_at hl 3 rfl) ?_
  refine lv_iload_n (pc := 520) hx hb d_law_law_520 rfl (lv_at hl 0 rfl) ?_
  refine lv_iconst (pc := 521) (v := 1) hx hb d_law_law_521 (by decide) ?_
  refine lv_iadd (pc := 522) hx hb d_law_law_522 ?_
  refine k_cst (v := 1) (by decide) ?_
  refine va_sld (pc := 523) hx hb hX hbl hbA hS (by unfold vp_in; decide) d_law_law_523 ?_
  refine k_cst (v := nI j) hv1 ?_
  refine lv_aload_n (pc := 524) hx hb d_law_law_524 rfl (lv_at hl 3 rfl) ?_
  refine lv_iload_n (pc := 525) hx hb d_law_law_525 rfl (lv_at hl 0 rfl) ?_
  refine lv_iconst (pc := 526) (v := 2) hx hb d_law_law_526 (by decide) ?_
  refine lv_iadd (pc := 527) hx hb d_law_law_527 ?_
  refine k_cst (v := 2) (by decide) ?_
  refine va_sld (pc := 528) hx hb hX hbl hbA hS (by unfold vp_in; decide) d_law_law_528 ?_
  refine k_cst (v := 6) hv2 ?_
  refine lv_aload_n (pc := 529) hx hb d_law_law_529 rfl (lv_at hl 3 rfl) ?_
  refine lv_iload_n (pc := 530) hx hb d_law_law_530 rfl (lv_at hl 0 rfl) ?_
  refine lv_iconst (pc := 531) (v := 3) hx hb d_law_law_531 (by decide) ?_
  refine lv_iadd (pc := 532) hx hb d_law_law_532 ?_
  refine k_cst (v := 3) (by decide) ?_
  refine va_sld (pc := 533) hx hb hX hbl hbA hS (by unfold vp_in; decide) d_law_law_533 ?_
  refine k_cst (v := v3) hv3 ?_
  refine lv_aload_n (pc := 534) hx hb d_law_law_534 rfl (lv_at hl 3 rfl) ?_
  refine lv_iload_n (pc := 535) hx hb d_law_law_535 rfl (lv_at hl 0 rfl) ?_
  refine lv_iconst (pc := 536) (v := 4) hx hb d_law_law_536 (by decide) ?_
  refine lv_iadd (pc := 537) hx hb d_law_law_537 ?_
  refine k_cst (v := 4) (by decide) ?_
  refine va_sld (pc := 538) hx hb hX hbl hbA hS (by unfold vp_in; decide) d_law_law_538 ?_
  refine k_cst (v := v4) hv4 ?_
  refine k_goI (gr := []) (k_rV (pc := 539) (As := [.int (nI j), .int 6, .int v3, .int v4]) (rest := [.int ((-1))]) X (c_Mo_change_z11 l D kA h2 j v3 v4 qm hj H.size) rfl wm_3087 wm_9 wm_3084 wm_3085 wm_3086 4 (by decide +kernel) ⟨Nat.le_of_ble_eq_true rfl, Nat.le_of_ble_eq_true rfl⟩ rfl rfl (va_recv hK hP (ci := 13) (q0 := 0) rfl rfl) (k_pre hN hK hP hD [0, 1, 2] [] 3 rfl (by decide) rfl) rfl hl.1 rfl (Nat.le_of_ble_eq_true rfl) d_law_law_539 ⟨Nat.le_of_ble_eq_true rfl, Nat.le_of_ble_eq_true rfl⟩) hP hD hS hA [0, 1, 2] [] 3 rfl (by decide) rfl rfl (fun r3 u4 H locs hu4 hP hD hS => ?_)
  obtain ⟨hP, hD⟩ := k_left hP hD
  subst hu4
  have hP : va_P D classes (cat []) H := hP
  have hD : va_D A (cat []) := hD
  refine lv_icmp_eq (pc := 542) (tgt := 1295) hx hb d_law_law_542 (by decide) (fun _ => ?_) (fun c1 => absurd (by decide) c1)
  rw [hAe] at hS
  exact law_exit l C0 (Nat.le_of_ble_eq_true rfl) (Nat.le_of_ble_eq_true rfl) hS hl
set_option maxRecDepth 100000 in
set_option maxHeartbeats 4000000 in
/-- DrawingHouse$Graph.mayAlter(III)Z -/
theorem c_Gr_mayAlter_z11 (l : Launch) (D : va_G) (kA : Nat → ClassId) (g : Nat → Nat → Nat) (j : Nat) (v3 : Int32) (v4 : Int32) (a0 : Nat) (a1 : Nat) (a2 : Nat) (a3 : Nat) (a4 : Nat) (a5 : Nat) (a6 : Nat) (a7 : Nat) (a8 : Nat) (a9 : Nat) (a10 : Nat) (a11 : Nat) (a12 : Nat) (hj : j < 4) : Ci l y_Gr_mayAlter z_Gr_mayAlter { frames := 1, cells := 0, slots := 0, locals := 21 } D classes (TY kA) [.ref (g 0 j), .int 7, .int v3, .int v4] [[(g 0 j, .inr (3, [.int 0, .int 0, .int 1, .ref a0, .ref a1, .ref a2, .ref a3, .ref a4, .ref a5, .ref a6, .ref a7, .ref a8, .ref a9, .ref a10, .ref a11, .ref a12, .null, .int 0, .int 0]))]] (fun r (_ : Unit) => r = 0) (fun u => [[(g 0 j, .inr (3, [.int 0, .int 0, .int 1, .ref a0, .ref a1, .ref a2, .ref a3, .ref a4, .ref a5, .ref a6, .ref a7, .ref a8, .ref a9, .ref a10, .ref a11, .ref a12, .null, .int 0, .int 0]))]]) 0 0 := by
  intro sz
  refine k_met (cc := b_Gr_mayAlter) (maxL := 4) (ret := (some .boolean)) (by decide) rfl (Nat.le_of_ble_eq_true rfl) (fun p e s m below meth c ls X hl hB => ?_)
  obtain ⟨hsz, hP, hK, hD0, hN⟩ := hB
  subst hsz
  have hD := hD0.self (sz := s.heap.size)
  generalize hAe : va_A (cat [[(g 0 j, .inr (3, [.int 0, .int 0, .int 1, .ref a0, .ref a1, .ref a2, .ref a3, .ref a4, .ref a5, .ref a6, .ref a7, .ref a8, .ref a9, .ref a10, .ref a11, .ref a12, .null, .int 0, .int 0]))]]) s.heap.size = A at hD ⊢
  have hA : ∀ q : Nat, s.heap.size ≤ q → A q := fun q h => by rw [← hAe]; exact Or.inr h
  have hS : va_S A s.heap s.heap [] := va_S.rf
  obtain ⟨hx, hb, hml, hown, hts, hr, hlk, hnm⟩ := id X
  have hl : lv_has ls 4 [(0, .ref (g 0 j)), (1, .int 7), (2, .int v3), (3, .int v4)] := hl
  have hP : va_P D classes (cat [[(g 0 j, .inr (3, [.int 0, .int 0, .int 1, .ref a0, .ref a1, .ref a2, .ref a3, .ref a4, .ref a5, .ref a6, .ref a7, .ref a8, .ref a9, .ref a10, .ref a11, .ref a12, .null, .int 0, .int 0]))]]) s.heap := hP
  have hK : va_K D classes (TY kA) s := hK
  refine lv_iload_n (pc := 0) hx hb d_Gr_mayAlter_0 rfl (lv_at hl 1 rfl) ?_
  refine lv_tableIn (pc := 1) (tgt := 208) hx hb d_Gr_mayAlter_1 (by decide) (by decide) rfl (by decide) ?_
  refine lv_aload_n (pc := 208) hx hb d_Gr_mayAlter_208 rfl (lv_at hl 0 rfl) ?_
  refine lv_iload_n (pc := 209) hx hb d_Gr_mayAlter_209 rfl (lv_at hl 2 rfl) ?_
  refine k_goI (gr := []) (k_rV (pc := 210) (As := [.int v3]) (rest := []) X (c_Gr_hasEdge_z2 l D kA g j v3 a0 a1 a2 a3 a4 a5 a6 a7 a8 a9 a10 a11 a12 hj s.heap.size) rfl wm_930 wm_3 wm_971 wm_928 wm_929 1 (by decide +kernel) ⟨Nat.le_of_ble_eq_true rfl, Nat.le_of_ble_eq_true rfl⟩ rfl rfl (va_recv hK hP (ci := 3) (q0 := 0) rfl rfl) (k_pre hN hK hP hD [0] [] 1 rfl (by decide) rfl) rfl hl.1 rfl (Nat.le_of_ble_eq_true rfl) d_Gr_mayAlter_210 ⟨Nat.le_of_ble_eq_true rfl, Nat.le_of_ble_eq_true rfl⟩) hP hD hS hA [0] [] 1 rfl (by decide) rfl rfl (fun r1 u2 H locs hu2 hP hD hS => ?_)
  subst hu2
  have hP : va_P D classes (cat [[(g 0 j, .inr (3, [.int 0, .int 0, .int 1, .ref a0, .ref a1, .ref a2, .ref a3, .ref a4, .ref a5, .ref a6, .ref a7, .ref a8, .ref a9, .ref a10, .ref a11, .ref a12, .null, .int 0, .int 0]))]]) H := hP
  have hD : va_D A (cat [[(g 0 j, .inr (3, [.int 0, .int 0, .int 1, .ref a0, .ref a1, .ref a2, .ref a3, .ref a4, .ref a5, .ref a6, .ref a7, .ref a8, .ref a9, .ref a10, .ref a11, .ref a12, .null, .int 0, .int 0]))]]) := hD
  refine lv_if_eq (pc := 213) (tgt := 229) hx hb d_Gr_mayAlter_213 (by decide) (fun c1 => ?_) (fun c1 => absurd (by decide) c1)
  refine lv_iconst (pc := 229) (v := 0) hx hb d_Gr_mayAlter_229 (by decide) ?_
  refine W.widen (k := 0) (n := 0) (Nat.le_of_ble_eq_true rfl) (Nat.le_of_ble_eq_true rfl) ?_
  exact W.zret (v := 0) hx hb hr rfl (fun t ht hW => ⟨⟨0, (), rfl, rfl, by rw [ht]; exact hP, va_K.moved hW.alike hK, hD⟩, hS.F ht⟩) hS.2.2 d_Gr_mayAlter_230
set_option maxRecDepth 100000 in
set_option maxHeartbeats 4000000 in
/-- DrawingHouse.change(IIII)I -/
theorem c_Ho_change_z12 (l : Launch) (D : va_G) (kA : Nat → ClassId) (a0 : Nat) (j : Nat) (v3 : Int32) (v4 : Int32) (a1 : Nat) (a2 : Nat) (a3 : Nat) (a4 : Nat) (a5 : Nat) (a6 : Nat) (a7 : Nat) (a8 : Nat) (a9 : Nat) (a10 : Nat) (g : Nat → Nat → Nat) (a11 : Nat) (a12 : Nat) (a13 : Nat) (a14 : Nat) (a15 : Nat) (a16 : Nat) (a17 : Nat) (a18 : Nat) (a19 : Nat) (a20 : Nat) (a21 : Nat) (a22 : Nat) (a23 : Nat) (hj : j < 4) : Ci l y_Ho_change z_Ho_change { frames := 2, cells := 0, slots := 0, locals := 44 } D classes (TY kA) [.ref a0, .int (nI j), .int 7, .int v3, .int v4] [[(a0, .inr (12, [.ref a1, .ref a2, .ref a3, .ref a4, .ref a5, .ref a6, .ref a7, .int 0, .int ((-1)), .ref a8, .ref a9, .int 0, .int 0, .ref a10, .int 0, .int 0, .null, .null, .null, .null, .null]))], [(a1, .inl (kA 4, 4, .inr (.inr (.inr (.inr (rr (g 0)))))))], [(g 0 j, .inr (3, [.int 0, .int 0, .int 1, .ref a11, .ref a12, .ref a13, .ref a14, .ref a15, .ref a16, .ref a17, .ref a18, .ref a19, .ref a20, .ref a21, .ref a22, .ref a23, .null, .int 0, .int 0]))]] (fun r (_ : List va_W) => r = (-1)) (fun u => u) 0 0 := by
  intro sz
  refine k_met (cc := b_Ho_change) (maxL := 6) (ret := (some .int)) (by decide) rfl (Nat.le_of_ble_eq_true rfl) (fun p e s m below meth c ls X hl hB => ?_)
  obtain ⟨hsz, hP, hK, hD0, hN⟩ := hB
  subst hsz
  have hD := hD0.self (sz := s.heap.size)
  generalize hAe : va_A (cat [[(a0, .inr (12, [.ref a1, .ref a2, .ref a3, .ref a4, .ref a5, .ref a6, .ref a7, .int 0, .int ((-1)), .ref a8, .ref a9, .int 0, .int 0, .ref a10, .int 0, .int 0, .null, .null, .null, .null, .null]))], [(a1, .inl (kA 4, 4, .inr (.inr (.inr (.inr (rr (g 0)))))))], [(g 0 j, .inr (3, [.int 0, .int 0, .int 1, .ref a11, .ref a12, .ref a13, .ref a14, .ref a15, .ref a16, .ref a17, .ref a18, .ref a19, .ref a20, .ref a21, .ref a22, .ref a23, .null, .int 0, .int 0]))]]) s.heap.size = A at hD ⊢
  have hA : ∀ q : Nat, s.heap.size ≤ q → A q := fun q h => by rw [← hAe]; exact Or.inr h
  have hS : va_S A s.heap s.heap [] := va_S.rf
  obtain ⟨hx, hb, hml, hown, hts, hr, hlk, hnm⟩ := id X
  have hl : lv_has ls 6 [(0, .ref a0), (1, .int (nI j)), (2, .int 7), (3, .int v3), (4, .int v4)] := hl
  have hP : va_P D classes (cat [[(a0, .inr (12, [.ref a1, .ref a2, .ref a3, .ref a4, .ref a5, .ref a6, .ref a7, .int 0, .int ((-1)), .ref a8, .ref a9, .int 0, .int 0, .ref a10, .int 0, .int 0, .null, .null, .null, .null, .null]))], [(a1, .inl (kA 4, 4, .inr (.inr (.inr (.inr (rr (g 0)))))))], [(g 0 j, .inr (3, [.int 0, .int 0, .int 1, .ref a11, .ref a12, .ref a13, .ref a14, .ref a15, .ref a16, .ref a17, .ref a18, .ref a19, .ref a20, .ref a21, .ref a22, .ref a23, .null, .int 0, .int 0]))]]) s.heap := hP
  have hK : va_K D classes (TY kA) s := hK
  refine lv_iload_n (pc := 0) hx hb d_Ho_change_0 rfl (lv_at hl 1 rfl) ?_
  refine k_goI (gr := [[(a0, .inr (12, [.ref a1, .ref a2, .ref a3, .ref a4, .ref a5, .ref a6, .ref a7, .int 0, .int ((-1)), .ref a8, .ref a9, .int 0, .int 0, .ref a10, .int 0, .int 0, .null, .null, .null, .null, .null]))], [(a1, .inl (kA 4, 4, .inr (.inr (.inr (.inr (rr (g 0)))))))], [(g 0 j, .inr (3, [.int 0, .int 0, .int 1, .ref a11, .ref a12, .ref a13, .ref a14, .ref a15, .ref a16, .ref a17, .ref a18, .ref a19, .ref a20, .ref a21, .ref a22, .ref a23, .null, .int 0, .int 0]))]]) (k_rS (pc := 1) (As := [.int (nI j)]) (rest := []) X (c_Ho_isPlace l D kA (nI j) s.heap.size) rfl wm_633 wm_1 wm_631 wm_632 1 (by decide +kernel) ⟨Nat.le_of_ble_eq_true rfl, Nat.le_of_ble_eq_true rfl⟩ rfl rfl (k_pre hN hK hP hD [] [0, 1, 2] 3 rfl (by decide) rfl) rfl hl.1 rfl (Nat.le_of_ble_eq_true rfl) d_Ho_change_1 ⟨Nat.le_of_ble_eq_true rfl, Nat.le_of_ble_eq_true rfl⟩) hP hD hS hA [] [0, 1, 2] 3 rfl (by decide) rfl rfl (fun r1 u2 H locs hu2 hP hD hS => ?_)
  subst hu2
  refine k_cst (v := 1) (place_ok hj) ?_
  have hP : va_P D classes (cat [[(a0, .inr (12, [.ref a1, .ref a2, .ref a3, .ref a4, .ref a5, .ref a6, .ref a7, .int 0, .int ((-1)), .ref a8, .ref a9, .int 0, .int 0, .ref a10, .int 0, .int 0, .null, .null, .null, .null, .null]))], [(a1, .inl (kA 4, 4, .inr (.inr (.inr (.inr (rr (g 0)))))))], [(g 0 j, .inr (3, [.int 0, .int 0, .int 1, .ref a11, .ref a12, .ref a13, .ref a14, .ref a15, .ref a16, .ref a17, .ref a18, .ref a19, .ref a20, .ref a21, .ref a22, .ref a23, .null, .int 0, .int 0]))]]) H := hP
  have hD : va_D A (cat [[(a0, .inr (12, [.ref a1, .ref a2, .ref a3, .ref a4, .ref a5, .ref a6, .ref a7, .int 0, .int ((-1)), .ref a8, .ref a9, .int 0, .int 0, .ref a10, .int 0, .int 0, .null, .null, .null, .null, .null]))], [(a1, .inl (kA 4, 4, .inr (.inr (.inr (.inr (rr (g 0)))))))], [(g 0 j, .inr (3, [.int 0, .int 0, .int 1, .ref a11, .ref a12, .ref a13, .ref a14, .ref a15, .ref a16, .ref a17, .ref a18, .ref a19, .ref a20, .ref a21, .ref a22, .ref a23, .null, .int 0, .int 0]))]]) := hD
  refine lv_if_eq (pc := 4) (tgt := 23) hx hb d_Ho_change_4 (by decide) (fun c1 => absurd c1 (by decide)) (fun c1 => ?_)
  refine lv_aload_n (pc := 7) hx hb d_Ho_change_7 rfl (lv_at hl 0 rfl) ?_
  refine k_get (pc := 8) X hK hP 0 rfl rfl i_Ho 0 (by decide) wm_555 rfl rfl d_Ho_change_8 ?_
  refine lv_iload_n (pc := 11) hx hb d_Ho_change_11 rfl (lv_at hl 1 rfl) ?_
  refine k_ald (pc := 12) hx hb hK hP 1 4 rfl rfl (j) rfl (by omega) (by decide) (rr_at (by omega)) d_Ho_change_12 ?_
  refine lv_iload_n (pc := 13) hx hb d_Ho_change_13 rfl (lv_at hl 2 rfl) ?_
  refine lv_iload_n (pc := 14) hx hb d_Ho_change_14 rfl (lv_at hl 3 rfl) ?_
  refine lv_iload (pc := 15) hx hb d_Ho_change_15 (lv_at hl 4 rfl) ?_
  refine k_goI (gr := [[(a0, .inr (12, [.ref a1, .ref a2, .ref a3, .ref a4, .ref a5, .ref a6, .ref a7, .int 0, .int ((-1)), .ref a8, .ref a9, .int 0, .int 0, .ref a10, .int 0, .int 0, .null, .null, .null, .null, .null]))], [(a1, .inl (kA 4, 4, .inr (.inr (.inr (.inr (rr (g 0)))))))]]) (k_rV (pc := 17) (As := [.int 7, .int v3, .int v4]) (rest := []) X (c_Gr_mayAlter_z11 l D kA g j v3 v4 a11 a12 a13 a14 a15 a16 a17 a18 a19 a20 a21 a22 a23 hj H.size) rfl wm_958 wm_3 wm_955 wm_956 wm_957 3 (by decide +kernel) ⟨Nat.le_of_ble_eq_true rfl, Nat.le_of_ble_eq_true rfl⟩ rfl rfl (va_recv hK hP (ci := 3) (q0 := 2) rfl rfl) (k_pre hN hK hP hD [2] [0, 1] 3 rfl (by decide) rfl) rfl hl.1 rfl (Nat.le_of_ble_eq_true rfl) d_Ho_change_17 ⟨Nat.le_of_ble_eq_true rfl, Nat.le_of_ble_eq_true rfl⟩) hP hD hS hA [2] [0, 1] 3 rfl (by decide) rfl rfl (fun r3 u4 H locs hu4 hP hD hS => ?_)
  subst hu4
  have hP : va_P D classes (cat [[(a0, .inr (12, [.ref a1, .ref a2, .ref a3, .ref a4, .ref a5, .ref a6, .ref a7, .int 0, .int ((-1)), .ref a8, .ref a9, .int 0, .int 0, .ref a10, .int 0, .int 0, .null, .null, .null, .null, .null]))], [(a1, .inl (kA 4, 4, .inr (.inr (.inr (.inr (rr (g 0)))))))], [(g 0 j, .inr (3, [.int 0, .int 0, .int 1, .ref a11, .ref a12, .ref a13, .ref a14, .ref a15, .ref a16, .ref a17, .ref a18, .ref a19, .ref a20, .ref a21, .ref a22, .ref a23, .null, .int 0, .int 0]))]]) H := hP
  have hD : va_D A (cat [[(a0, .inr (12, [.ref a1, .ref a2, .ref a3, .ref a4, .ref a5, .ref a6, .ref a7, .int 0, .int ((-1)), .ref a8, .ref a9, .int 0, .int 0, .ref a10, .int 0, .int 0, .null, .null, .null, .null, .null]))], [(a1, .inl (kA 4, 4, .inr (.inr (.inr (.inr (rr (g 0)))))))], [(g 0 j, .inr (3, [.int 0, .int 0, .int 1, .ref a11, .ref a12, .ref a13, .ref a14, .ref a15, .ref a16, .ref a17, .ref a18, .ref a19, .ref a20, .ref a21, .ref a22, .ref a23, .null, .int 0, .int 0]))]]) := hD
  refine lv_if_ne (pc := 20) (tgt := 25) hx hb d_Ho_change_20 (by decide) (fun c1 => absurd (by decide) c1) (fun c1 => ?_)
  refine lv_iconst (pc := 23) (v := -1) hx hb d_Ho_change_23 (by decide) ?_
  refine W.widen (k := 0) (n := 0) (Nat.le_of_ble_eq_true rfl) (Nat.le_of_ble_eq_true rfl) ?_
  exact W.iret (v := (-1)) hx hb hr (fun t ht hW => ⟨⟨(-1), [[(a0, .inr (12, [.ref a1, .ref a2, .ref a3, .ref a4, .ref a5, .ref a6, .ref a7, .int 0, .int ((-1)), .ref a8, .ref a9, .int 0, .int 0, .ref a10, .int 0, .int 0, .null, .null, .null, .null, .null]))], [(a1, .inl (kA 4, 4, .inr (.inr (.inr (.inr (rr (g 0)))))))], [(g 0 j, .inr (3, [.int 0, .int 0, .int 1, .ref a11, .ref a12, .ref a13, .ref a14, .ref a15, .ref a16, .ref a17, .ref a18, .ref a19, .ref a20, .ref a21, .ref a22, .ref a23, .null, .int 0, .int 0]))]], rfl, rfl, by rw [ht]; exact hP, va_K.moved hW.alike hK, hD⟩, hS.F ht⟩) hS.2.2 d_Ho_change_24
set_option maxRecDepth 100000 in
set_option maxHeartbeats 4000000 in
/-- DrawingHouseModel.becomes(IIZII)I -/
theorem c_Mo_becomes_z4 (l : Launch) (D : va_G) (kA : Nat → ClassId) (a0 : Nat) (j : Nat) (v3 : Int32) (v4 : Int32) (hj : j < 4) : Ci l y_Mo_becomes z_Mo_becomes { frames := 0, cells := 0, slots := 0, locals := 0 } D classes (TY kA) [.ref a0, .int (nI j), .int 411, .int 0, .int v3, .int v4] [] (fun r (_ : Unit) => r = (-1)) (fun u => []) 0 0 := by
  intro sz
  refine k_met (cc := b_Mo_becomes) (maxL := 6) (ret := (some .int)) (by decide) rfl (Nat.le_of_ble_eq_true rfl) (fun p e s m below meth c ls X hl hB => ?_)
  obtain ⟨hsz, hP, hK, hD0, hN⟩ := hB
  subst hsz
  have hD := hD0.self (sz := s.heap.size)
  generalize hAe : va_A (cat []) s.heap.size = A at hD ⊢
  have hA : ∀ q : Nat, s.heap.size ≤ q → A q := fun q h => by rw [← hAe]; exact Or.inr h
  have hS : va_S A s.heap s.heap [] := va_S.rf
  obtain ⟨hx, hb, hml, hown, hts, hr, hlk, hnm⟩ := id X
  have hl : lv_has ls 6 [(0, .ref a0), (1, .int (nI j)), (2, .int 411), (3, .int 0), (4, .int v3), (5, .int v4)] := hl
  have hP : va_P D classes (cat []) s.heap := hP
  have hK : va_K D classes (TY kA) s := hK
  refine lv_iload_n (pc := 0) hx hb d_Mo_becomes_0 rfl (lv_at hl 3 rfl) ?_
  refine lv_if_ne (pc := 1) (tgt := 6) hx hb d_Mo_becomes_1 (by decide) (fun c1 => absurd (by decide) c1) (fun c1 => ?_)
  refine lv_iconst (pc := 4) (v := -1) hx hb d_Mo_becomes_4 (by decide) ?_
  refine W.widen (k := 0) (n := 0) (Nat.le_of_ble_eq_true rfl) (Nat.le_of_ble_eq_true rfl) ?_
  exact W.iret (v := (-1)) hx hb hr (fun t ht hW => ⟨⟨(-1), (), rfl, rfl, by rw [ht]; exact hP, va_K.moved hW.alike hK, hD⟩, hS.F ht⟩) hS.2.2 d_Mo_becomes_5
set_option maxRecDepth 100000 in
set_option maxHeartbeats 4000000 in
/-- DrawingHouseModel.change(IIII)I -/
theorem c_Mo_change_z12 (l : Launch) (D : va_G) (kA : Nat → ClassId) (a0 : Nat) (j : Nat) (v3 : Int32) (v4 : Int32) (qm : Nat → Nat) (hj : j < 4) : Ci l y_Mo_change z_Mo_change { frames := 2, cells := 0, slots := 0, locals := 42 } D classes (TY kA) [.ref a0, .int (nI j), .int 7, .int v3, .int v4] [[(a0, .inr (13, mF qm x0Mo y0Mo))], [(qm 3, .inl (kA 0, 4, .inl (fun _ => 0)))], [(qm 2, .inl (kA 0, 66836, .inl all0))]] (fun r (_ : List va_W) => r = (-1)) (fun u => u) 0 0 := by
  intro sz
  refine k_met (cc := b_Mo_change) (maxL := 5) (ret := (some .int)) (by decide) rfl (Nat.le_of_ble_eq_true rfl) (fun p e s m below meth c ls X hl hB => ?_)
  obtain ⟨hsz, hP, hK, hD0, hN⟩ := hB
  subst hsz
  have hD := hD0.self (sz := s.heap.size)
  generalize hAe : va_A (cat [[(a0, .inr (13, mF qm x0Mo y0Mo))], [(qm 3, .inl (kA 0, 4, .inl (fun _ => 0)))], [(qm 2, .inl (kA 0, 66836, .inl all0))]]) s.heap.size = A at hD ⊢
  have hA : ∀ q : Nat, s.heap.size ≤ q → A q := fun q h => by rw [← hAe]; exact Or.inr h
  have hS : va_S A s.heap s.heap [] := va_S.rf
  obtain ⟨hx, hb, hml, hown, hts, hr, hlk, hnm⟩ := id X
  have hl : lv_has ls 5 [(0, .ref a0), (1, .int (nI j)), (2, .int 7), (3, .int v3), (4, .int v4)] := hl
  have hP : va_P D classes (cat [[(a0, .inr (13, mF qm x0Mo y0Mo))], [(qm 3, .inl (kA 0, 4, .inl (fun _ => 0)))], [(qm 2, .inl (kA 0, 66836, .inl all0))]]) s.heap := hP
  have hK : va_K D classes (TY kA) s := hK
  refine lv_iload_n (pc := 0) hx hb d_Mo_change_0 rfl (lv_at hl 1 rfl) ?_
  refine k_goI (gr := [[(a0, .inr (13, mF qm x0Mo y0Mo))], [(qm 3, .inl (kA 0, 4, .inl (fun _ => 0)))], [(qm 2, .inl (kA 0, 66836, .inl all0))]]) (k_rS (pc := 1) (As := [.int (nI j)]) (rest := []) X (c_Mo_isPlace l D kA (nI j) s.heap.size) rfl wm_2978 wm_9 wm_2976 wm_2977 1 (by decide +kernel) ⟨Nat.le_of_ble_eq_true rfl, Nat.le_of_ble_eq_true rfl⟩ rfl rfl (k_pre hN hK hP hD [] [0, 1, 2] 3 rfl (by decide) rfl) rfl hl.1 rfl (Nat.le_of_ble_eq_true rfl) d_Mo_change_1 ⟨Nat.le_of_ble_eq_true rfl, Nat.le_of_ble_eq_true rfl⟩) hP hD hS hA [] [0, 1, 2] 3 rfl (by decide) rfl rfl (fun r1 u2 H locs hu2 hP hD hS => ?_)
  subst hu2
  refine k_cst (v := 1) (placeM_ok hj) ?_
  have hP : va_P D classes (cat [[(a0, .inr (13, mF qm x0Mo y0Mo))], [(qm 3, .inl (kA 0, 4, .inl (fun _ => 0)))], [(qm 2, .inl (kA 0, 66836, .inl all0))]]) H := hP
  have hD : va_D A (cat [[(a0, .inr (13, mF qm x0Mo y0Mo))], [(qm 3, .inl (kA 0, 4, .inl (fun _ => 0)))], [(qm 2, .inl (kA 0, 66836, .inl all0))]]) := hD
  refine lv_if_ne (pc := 4) (tgt := 9) hx hb d_Mo_change_4 (by decide) (fun c1 => ?_) (fun c1 => absurd c1 (by decide))
  refine lv_aload_n (pc := 9) hx hb d_Mo_change_9 rfl (lv_at hl 0 rfl) ?_
  refine lv_iload_n (pc := 10) hx hb d_Mo_change_10 rfl (lv_at hl 1 rfl) ?_
  refine k_goV (gr := [[(qm 2, .inl (kA 0, 66836, .inl all0))]]) (k_rV (pc := 11) (As := [.int (nI j)]) (rest := []) X (c_Mo_take_z1 l D kA a0 j qm hj H.size) rfl wm_3091 wm_9 wm_3088 wm_3090 wv_14_2 1 (by decide +kernel) ⟨Nat.le_of_ble_eq_true rfl, Nat.le_of_ble_eq_true rfl⟩ rfl rfl (va_recv hK hP (ci := 13) (q0 := 0) rfl rfl) (k_pre hN hK hP hD [0, 1] [2] 3 rfl (by decide) rfl) rfl hl.1 rfl (Nat.le_of_ble_eq_true rfl) d_Mo_change_11 ⟨Nat.le_of_ble_eq_true rfl, Nat.le_of_ble_eq_true rfl⟩) hP hD hS hA [0, 1] [2] 3 rfl (by decide) rfl rfl (fun u3 H locs hu3 hP hD hS => ?_)
  have hP : va_P D classes (cat [[(qm 2, .inl (kA 0, 66836, .inl all0))], [(a0, .inr (13, mF qm (va_up x0Mo 5 (nI (539 * (31 * j + 0)))) y0Mo))], [(qm 3, .inl (kA 0, 4, .inl (fun _ => 0)))]]) H := hP
  have hD : va_D A (cat [[(qm 2, .inl (kA 0, 66836, .inl all0))], [(a0, .inr (13, mF qm (va_up x0Mo 5 (nI (539 * (31 * j + 0)))) y0Mo))], [(qm 3, .inl (kA 0, 4, .inl (fun _ => 0)))]]) := hD
  refine lv_iload_n (pc := 14) hx hb d_Mo_change_14 rfl (lv_at hl 2 rfl) ?_
  refine lv_tableIn (pc := 15) (tgt := 329) hx hb d_Mo_change_15 (by decide) (by decide) rfl (by decide) ?_
  refine lv_aload_n (pc := 329) hx hb d_Mo_change_329 rfl (lv_at hl 0 rfl) ?_
  refine lv_iload_n (pc := 330) hx hb d_Mo_change_330 rfl (lv_at hl 1 rfl) ?_
  refine lv_sipush (pc := 331) (v := 411) hx hb d_Mo_change_331 (by decide) ?_
  refine lv_iload_n (pc := 334) hx hb d_Mo_change_334 rfl (lv_at hl 3 rfl) ?_
  refine lv_iconst (pc := 335) (v := 0) hx hb d_Mo_change_335 (by decide) ?_
  refine lv_aload_n (pc := 336) hx hb d_Mo_change_336 rfl (lv_at hl 0 rfl) ?_
  refine k_goI (gr := [[(qm 3, .inl (kA 0, 4, .inl (fun _ => 0)))]]) (k_rV (pc := 337) (As := []) (rest := [.int 0, .int v3, .int 411, .int (nI j), .ref a0]) X (c_Mo_edges_z1 l D kA a0 qm j hj H.size) rfl wm_3037 wm_9 wm_3034 wm_3036 wv_13_6 0 (by decide +kernel) ⟨Nat.le_of_ble_eq_true rfl, Nat.le_of_ble_eq_true rfl⟩ rfl rfl (va_recv hK hP (ci := 13) (q0 := 1) rfl rfl) (k_pre hN hK hP hD [1, 0] [2] 3 rfl (by decide) rfl) rfl hl.1 rfl (Nat.le_of_ble_eq_true rfl) d_Mo_change_337 ⟨Nat.le_of_ble_eq_true rfl, Nat.le_of_ble_eq_true rfl⟩) hP hD hS hA [1, 0] [2] 3 rfl (by decide) rfl rfl (fun r4 u5 H locs hu5 hP hD hS => ?_)
  subst hu5
  have hP : va_P D classes (cat [[(qm 3, .inl (kA 0, 4, .inl (fun _ => 0)))], [(a0, .inr (13, mF qm (va_up x0Mo 5 (nI (539 * (31 * j + 0)))) y0Mo))], [(qm 2, .inl (kA 0, 66836, .inl all0))]]) H := hP
  have hD : va_D A (cat [[(qm 3, .inl (kA 0, 4, .inl (fun _ => 0)))], [(a0, .inr (13, mF qm (va_up x0Mo 5 (nI (539 * (31 * j + 0)))) y0Mo))], [(qm 2, .inl (kA 0, 66836, .inl all0))]]) := hD
  refine lv_iconst (pc := 340) (v := 1) hx hb d_Mo_change_340 (by decide) ?_
  refine lv_isub (pc := 341) hx hb d_Mo_change_341 ?_
  refine k_cst (v := (-1)) (by decide) ?_
  refine k_goI (gr := [[(qm 3, .inl (kA 0, 4, .inl (fun _ => 0)))], [(a0, .inr (13, mF qm (va_up x0Mo 5 (nI (539 * (31 * j + 0)))) y0Mo))], [(qm 2, .inl (kA 0, 66836, .inl all0))]]) (k_rS (pc := 342) (As := [.int v3, .int 0, .int ((-1))]) (rest := [.int 411, .int (nI j), .ref a0]) X (c_Mo_in_z5 l D kA v3 H.size) rfl wm_2971 wm_9 wm_2969 wm_2970 3 (by decide +kernel) ⟨Nat.le_of_ble_eq_true rfl, Nat.le_of_ble_eq_true rfl⟩ rfl rfl (k_pre hN hK hP hD [] [0, 1, 2] 3 rfl (by decide) rfl) rfl hl.1 rfl (Nat.le_of_ble_eq_true rfl) d_Mo_change_342 ⟨Nat.le_of_ble_eq_true rfl, Nat.le_of_ble_eq_true rfl⟩) hP hD hS hA [] [0, 1, 2] 3 rfl (by decide) rfl rfl (fun r6 u7 H locs hu7 hP hD hS => ?_)
  subst hu7
  have hP : va_P D classes (cat [[(qm 3, .inl (kA 0, 4, .inl (fun _ => 0)))], [(a0, .inr (13, mF qm (va_up x0Mo 5 (nI (539 * (31 * j + 0)))) y0Mo))], [(qm 2, .inl (kA 0, 66836, .inl all0))]]) H := hP
  have hD : va_D A (cat [[(qm 3, .inl (kA 0, 4, .inl (fun _ => 0)))], [(a0, .inr (13, mF qm (va_up x0Mo 5 (nI (539 * (31 * j + 0)))) y0Mo))], [(qm 2, .inl (kA 0, 66836, .inl all0))]]) := hD
  refine lv_if_eq (pc := 345) (tgt := 362) hx hb d_Mo_change_345 (by decide) (fun c1 => ?_) (fun c1 => absurd (by decide) c1)
  refine lv_iconst (pc := 362) (v := 0) hx hb d_Mo_change_362 (by decide) ?_
  refine lv_iload_n (pc := 363) hx hb d_Mo_change_363 rfl (lv_at hl 3 rfl) ?_
  refine lv_iload (pc := 364) hx hb d_Mo_change_364 (lv_at hl 4 rfl) ?_
  refine k_goI (gr := [[(qm 3, .inl (kA 0, 4, .inl (fun _ => 0)))], [(a0, .inr (13, mF qm (va_up x0Mo 5 (nI (539 * (31 * j + 0)))) y0Mo))], [(qm 2, .inl (kA 0, 66836, .inl all0))]]) (k_rV (pc := 366) (As := [.int (nI j), .int 411, .int 0, .int v3, .int v4]) (rest := []) X (c_Mo_becomes_z4 l D kA a0 j v3 v4 hj H.size) rfl wm_3111 wm_9 wm_3108 wm_3110 wv_14_7 5 (by decide +kernel) ⟨Nat.le_of_ble_eq_true rfl, Nat.le_of_ble_eq_true rfl⟩ rfl rfl (va_recv hK hP (ci := 13) (q0 := 1) rfl rfl) (k_pre hN hK hP hD [] [0, 1, 2] 3 rfl (by decide) rfl) rfl hl.1 rfl (Nat.le_of_ble_eq_true rfl) d_Mo_change_366 ⟨Nat.le_of_ble_eq_true rfl, Nat.le_of_ble_eq_true rfl⟩) hP hD hS hA [] [0, 1, 2] 3 rfl (by decide) rfl rfl (fun r8 u9 H locs hu9 hP hD hS => ?_)
  subst hu9
  have hP : va_P D classes (cat [[(qm 3, .inl (kA 0, 4, .inl (fun _ => 0)))], [(a0, .inr (13, mF qm (va_up x0Mo 5 (nI (539 * (31 * j + 0)))) y0Mo))], [(qm 2, .inl (kA 0, 66836, .inl all0))]]) H := hP
  have hD : va_D A (cat [[(qm 3, .inl (kA 0, 4, .inl (fun _ => 0)))], [(a0, .inr (13, mF qm (va_up x0Mo 5 (nI (539 * (31 * j + 0)))) y0Mo))], [(qm 2, .inl (kA 0, 66836, .inl all0))]]) := hD
  refine W.widen (k := 0) (n := 0) (Nat.le_of_ble_eq_true rfl) (Nat.le_of_ble_eq_true rfl) ?_
  exact W.iret (v := (-1)) hx hb hr (fun t ht hW => ⟨⟨(-1), [[(qm 3, .inl (kA 0, 4, .inl (fun _ => 0)))], [(a0, .inr (13, mF qm (va_up x0Mo 5 (nI (539 * (31 * j + 0)))) y0Mo))], [(qm 2, .inl (kA 0, 66836, .inl all0))]], rfl, rfl, by rw [ht]; exact hP, va_K.moved hW.alike hK, hD⟩, hS.F ht⟩) hS.2.2 d_Mo_change_369
set_option maxRecDepth 100000 in
set_option maxHeartbeats 4000000 in
/-- change, a fresh house -/
theorem lf_change_12 {p : Program} {e : Env} {s : State} {m : MethodId} {below : List Frame} {meth : Method} {c : Code} (l : Launch) {b : Nat} {xs : Nat → Int32} (C0 : lw_At p s m meth c b 6 xs) {D : va_G} {kA : Nat → ClassId} (h : Nat) (h2 : Nat) (q : Nat → Nat) (qg : Nat → Nat) (qm : Nat → Nat) (g : Nat → Nat → Nat) (j : Nat) (v3 : Int32) (v4 : Int32) (hj : j < 4) (hv1 : xs 1 = nI j) (hv2 : xs 2 = 7) (hv3 : xs 3 = v3) (hv4 : xs 4 = v4) {H : Heap} {locs : List Loc} {ls : Array Slot} (hK : va_K D classes (TY kA) s) (hN : nst s) (hP : va_P D classes (cat [[(h, .inr (12, [.ref (q 0), .ref (q 1), .ref (q 2), .ref (q 3), .ref (q 4), .ref (q 5), .ref (q 6), .int 0, .int ((-1)), .ref (q 9), .ref (q 10), .int 0, .int 0, .ref (q 13), .int 0, .int 0, .null, .null, .null, .null, .null]))], [(q 0, .inl (kA 4, 4, .inr (.inr (.inr (.inr (rr (g 0)))))))], [(g 0 j, .inr (3, [.int 0, .int 0, .int 1, .ref (qg 3), .ref (qg 4), .ref (qg 5), .ref (qg 6), .ref (qg 7), .ref (qg 8), .ref (qg 9), .ref (qg 10), .ref (qg 11), .ref (qg 12), .ref (qg 13), .ref (qg 14), .ref (qg 15), .null, .int 0, .int 0]))], [(h2, .inr (13, mF qm x0Mo y0Mo))], [(qm 3, .inl (kA 0, 4, .inl (fun _ => 0)))], [(qm 2, .inl (kA 0, 66836, .inl all0))]]) H) (hD : va_D (fun q : Nat => s.heap.size ≤ q) (cat [[(h, .inr (12, [.ref (q 0), .ref (q 1), .ref (q 2), .ref (q 3), .ref (q 4), .ref (q 5), .ref (q 6), .int 0, .int ((-1)), .ref (q 9), .ref (q 10), .int 0, .int 0, .ref (q 13), .int 0, .int 0, .null, .null, .null, .null, .null]))], [(q 0, .inl (kA 4, 4, .inr (.inr (.inr (.inr (rr (g 0)))))))], [(g 0 j, .inr (3, [.int 0, .int 0, .int 1, .ref (qg 3), .ref (qg 4), .ref (qg 5), .ref (qg 6), .ref (qg 7), .ref (qg 8), .ref (qg 9), .ref (qg 10), .ref (qg 11), .ref (qg 12), .ref (qg 13), .ref (qg 14), .ref (qg 15), .null, .int 0, .int 0]))], [(h2, .inr (13, mF qm x0Mo y0Mo))], [(qm 3, .inl (kA 0, 4, .inl (fun _ => 0)))], [(qm 2, .inl (kA 0, 66836, .inl all0))]])) (hS : va_S (fun q : Nat => s.heap.size ≤ q) s.heap H locs) (hl : lv_has ls 4 [(3, .int 0), (2, .ref h2), (1, .ref h), (0, .ref b)]) : W p l e room_1 s m #[Value.ref b] below meth c H locs 368 365796 (lw_Z below #[Value.ref b] s) (F0 m 494 ls []) := by
  obtain ⟨hx, hb, hr, hml, hown, hts0, hX, hbl, hlocks, hgv⟩ := id C0
  have hts : ∀ w ∈ lw_g, w.before #[Value.ref b] s = true := fun w h => hts0 w (lw_gt h)
  have X : cx p s m #[Value.ref b] meth c b_law_law 4 ret "DrawingHouseLaw" meth.name := ⟨hx, hb, hml, hown, hts, hr, hlocks, rfl⟩
  obtain ⟨A, hAe⟩ : ∃ A : Nat → Prop, A = fun q : Nat => s.heap.size ≤ q := ⟨_, rfl⟩
  have hA : ∀ q : Nat, s.heap.size ≤ q → A q := fun q h => by rw [hAe]; exact h
  have hbA : ¬ A b := by rw [hAe]; exact Nat.not_le.mpr hbl
  rw [← hAe] at hD hS
  refine lv_aload_n (pc := 494) hx hb d_law_law_494 rfl (lv_at hl 2 rfl) ?_
  refine lv_aload_n (pc := 495) hx hb d_law_law_495 rfl (lv_at hl 3 rfl) ?_
  refine lv_iload_n (pc := 496) hx hb d_law_law_496 rfl (lv_at hl 0 rfl) ?_
  refine lv_iconst (pc := 497) (v := 1) hx hb d_law_law_497 (by decide) ?_
  refine lv_iadd (pc := 498) hx hb d_law_law_498 ?_
  refine k_cst (v := 1) (by decide) ?_
  refine va_sld (pc := 499) hx hb hX hbl hbA hS (by unfold vp_in; decide) d_law_law_499 ?_
  refine k_cst (v := nI j) hv1 ?_
  refine lv_aload_n (pc := 500) hx hb d_law_law_500 rfl (lv_at hl 3 rfl) ?_
  refine lv_iload_n (pc := 501) hx hb d_law_law_501 rfl (lv_at hl 0 rfl) ?_
  refine lv_iconst (pc := 502) (v := 2) hx hb d_law_law_502 (by decide) ?_
  refine lv_iadd (pc := 503) hx hb d_law_law_503 ?_
  refine k_cst (v := 2) (by decide) ?_
  refine va_sld (pc := 504) hx hb hX hbl hbA hS (by unfold vp_in; decide) d_law_law_504 ?_
  refine k_cst (v := 7) hv2 ?_
  refine lv_aload_n (pc := 505) hx hb d_law_law_505 rfl (lv_at hl 3 rfl) ?_
  refine lv_iload_n (pc := 506) hx hb d_law_law_506 rfl (lv_at hl 0 rfl) ?_
  refine lv_iconst (pc := 507) (v := 3) hx hb d_law_law_507 (by decide) ?_
  refine lv_iadd (pc := 508) hx hb d_law_law_508 ?_
  refine k_cst (v := 3) (by decide) ?_
  refine va_sld (pc := 509) hx hb hX hbl hbA hS (by unfold vp_in; decide) d_law_law_509 ?_
  refine k_cst (v := v3) hv3 ?_
  refine lv_aload_n (pc := 510) hx hb d_law_law_510 rfl (lv_at hl 3 rfl) ?_
  refine lv_iload_n (pc := 511) hx hb d_law_law_511 rfl (lv_at hl 0 rfl) ?_
  refine lv_iconst (pc := 512) (v := 4) hx hb d_law_law_512 (by decide) ?_
  refine lv_iadd (pc := 513) hx hb d_law_law_513 ?_
  refine k_cst (v := 4) (by decide) ?_
  refine va_sld (pc := 514) hx hb hX hbl hbA hS (by unfold vp_in; decide) d_law_law_514 ?_
  refine k_cst (v := v4) hv4 ?_
  refine k_goI (gr := [[(h2, .inr (13, mF qm x0Mo y0Mo))], [(qm 3, .inl (kA 0, 4, .inl (fun _ => 0)))], [(qm 2, .inl (kA 0, 66836, .inl all0))]]) (k_rV (pc := 515) (As := [.int (nI j), .int 7, .int v3, .int v4]) (rest := []) X (c_Ho_change_z12 l D kA h j v3 v4 (q 0) (q 1) (q 2) (q 3) (q 4) (q 5) (q 6) (q 9) (q 10) (q 13) g (qg 3) (qg 4) (qg 5) (qg 6) (qg 7) (qg 8) (qg 9) (qg 10) (qg 11) (qg 12) (qg 13) (qg 14) (qg 15) hj H.size) rfl wm_954 wm_1 wm_951 wm_952 wm_953 4 (by decide +kernel) ⟨Nat.le_of_ble_eq_true rfl, Nat.le_of_ble_eq_true rfl⟩ rfl rfl (va_recv hK hP (ci := 12) (q0 := 0) rfl rfl) (k_pre hN hK hP hD [0, 1, 2] [3, 4, 5] 6 rfl (by decide) rfl) rfl hl.1 rfl (Nat.le_of_ble_eq_true rfl) d_law_law_515 ⟨Nat.le_of_ble_eq_true rfl, Nat.le_of_ble_eq_true rfl⟩) hP hD hS hA [0, 1, 2] [3, 4, 5] 6 rfl (by decide) rfl rfl (fun r1 u2 H locs hu2 hP hD hS => ?_)
  obtain ⟨hP, hD⟩ := k_left hP hD
  subst hu2
  have hP : va_P D classes (cat [[(h2, .inr (13, mF qm x0Mo y0Mo))], [(qm 3, .inl (kA 0, 4, .inl (fun _ => 0)))], [(qm 2, .inl (kA 0, 66836, .inl all0))]]) H := hP
  have hD : va_D A (cat [[(h2, .inr (13, mF qm x0Mo y0Mo))], [(qm 3, .inl (kA 0, 4, .inl (fun _ => 0)))], [(qm 2, .inl (kA 0, 66836, .inl all0))]]) := hD
  refine lv_aload_n (pc := 518) hx hb d_law_law_518 rfl (lv_at hl 1 rfl) ?_
  refine lv_aload_n (pc := 519) hx hb d_law_law_519 rfl (lv_at hl 3 rfl) ?_
  refine lv_iload_n (pc := 520) hx hb d_law_law_520 rfl (lv_at hl 0 rfl) ?_
  refine lv_iconst (pc := 521) (v := 1) hx hb d_law_law_521 (by decide) ?_
  refine lv_iadd (pc := 522) hx hb d_law_law_522 ?_
  refine k_cst (v := 1) (by decide) ?_
  refine va_sld (pc := 523) hx hb hX hbl hbA hS (by unfold vp_in; decide) d_law_law_523 ?_
  refine k_cst (v := nI j) hv1 ?_
  refine lv_aload_n (pc := 524) hx hb d_law_law_524 rfl (lv_at hl 3 rfl) ?_
  refine lv_iload_n (pc := 525) hx hb d_law_law_525 rfl (lv_at hl 0 rfl) ?_
  refine lv_iconst (pc := 526) (v := 2) hx hb d_law_law_526 (by decide) ?_
  refine lv_iadd (pc := 527) hx hb d_law_law_527 ?_
  refine k_cst (v := 2) (by decide) ?_
  refine va_sld (pc := 528) hx hb hX hbl hbA hS (by unfold vp_in; decide) d_law_law_528 ?_
  refine k_cst (v := 7) hv2 ?_
  refine lv_aload_n (pc := 529) hx hb d_law_law_529 rfl (lv_at hl 3 rfl) ?_
  refine lv_iload_n (pc := 530) hx hb d_law_law_530 rfl (lv_at hl 0 rfl) ?_
  refine lv_iconst (pc := 531) (v := 3) hx hb d_law_law_531 (by decide) ?_
  refine lv_iadd (pc := 532) hx hb d_law_law_532 ?_
  refine k_cst (v := 3) (by decide) ?_
  refine va_sld (pc := 533) hx hb hX hbl hbA hS (by unfold vp_in; decide) d_law_law_533 ?_
  refine k_cst (v := v3) hv3 ?_
  refine lv_aload_n (pc := 534) hx hb d_law_law_534 rfl (lv_at hl 3 rfl) ?_
  refine lv_iload_n (pc := 535) hx hb d_law_law_535 rfl (lv_at hl 0 rfl) ?_
  refine lv_iconst (pc := 536) (v := 4) hx hb d_law_law_536 (by decide) ?_
  refine lv_iadd (pc := 537) hx hb d_law_law_537 ?_
  refine k_cst (v := 4) (by decide) ?_
  refine va_sld (pc := 538) hx hb hX hbl hbA hS (by unfold vp_in; decide) d_law_law_538 ?_
  refine k_cst (v := v4) hv4 ?_
  refine k_goI (gr := []) (k_rV (pc := 539) (As := [.int (nI j), .int 7, .int v3, .int v4]) (rest := [.int ((-1))]) X (c_Mo_change_z12 l D kA h2 j v3 v4 qm hj H.size) rfl wm_3087 wm_9 wm_3084 wm_3085 wm_3086 4 (by decide +kernel) ⟨Nat.le_of_ble_eq_true rfl, Nat.le_of_ble_eq_true rfl⟩ rfl rfl (va_recv hK hP (ci := 13) (q0 := 0) rfl rfl) (k_pre hN hK hP hD [0, 1, 2] [] 3 rfl (by decide) rfl) rfl hl.1 rfl (Nat.le_of_ble_eq_true rfl) d_law_law_539 ⟨Nat.le_of_ble_eq_true rfl, Nat.le_of_ble_eq_true rfl⟩) hP hD hS hA [0, 1, 2] [] 3 rfl (by decide) rfl rfl (fun r3 u4 H locs hu4 hP hD hS => ?_)
  obtain ⟨hP, hD⟩ := k_left hP hD
  subst hu4
  have hP : va_P D classes (cat []) H := hP
  have hD : va_D A (cat []) := hD
  refine lv_icmp_eq (pc := 542) (tgt := 1295) hx hb d_law_law_542 (by decide) (fun _ => ?_) (fun c1 => absurd (by decide) c1)
  rw [hAe] at hS
  exact law_exit l C0 (Nat.le_of_ble_eq_true rfl) (Nat.le_of_ble_eq_true rfl) hS hl
set_option maxRecDepth 100000 in
set_option maxHeartbeats 8000000 in
/-- change: the case of the law -/
theorem op_change {p : Program} {e : Env} {s : State} {m : MethodId} {below : List Frame} {meth : Method} {c : Code} (l : Launch) {b : Nat} {xs : Nat → Int32} (C0 : lw_At p s m meth c b 6 xs) {D : va_G} {kA : Nat → ClassId} (h h2 : Nat) (u1 : Nat → Nat → Nat) (qm : Nat → Nat) (v1 : Int32) (v2 : Int32) (v3 : Int32) (v4 : Int32) (hv1 : xs 1 = v1) (hv2 : xs 2 = v2) (hv3 : xs 3 = v3) (hv4 : xs 4 = v4) {H : Heap} {locs : List Loc} {ls : Array Slot} (hK : va_K D classes (TY kA) s) (hN : nst s) (hpost : u1 50 1 = u1 0 4 ∧ u1 50 3 = u1 0 5 ∧ u1 50 2 = u1 1 4 ∧ u1 50 4 = u1 3 1 ∧ u1 8 0 = u1 50 5 ∧ u1 12 0 = u1 50 9 ∧ u1 16 0 = u1 50 13 ∧ u1 20 0 = u1 50 17) (hP : va_P D classes (cat [cat (sHo kA h u1), cat (sMo kA h2 qm)]) H) (hD : va_D (fun q : Nat => s.heap.size ≤ q) (cat [cat (sHo kA h u1), cat (sMo kA h2 qm)])) (hS : va_S (fun q : Nat => s.heap.size ≤ q) s.heap H locs) (hl : lv_has ls 4 [(3, .int 0), (2, .ref h2), (1, .ref h), (0, .ref b)]) : W p l e room_1 s m #[Value.ref b] below meth c H locs 368 365796 (lw_Z below #[Value.ref b] s) (F0 m 494 ls []) := by
  rcases place_no v1 with hg | ⟨j, hj, ej⟩
  · have hgM : sp_Mo_isPlace v1 = 0 := by rw [← place_iff]; exact hg
    obtain ⟨q, qg, qf, qn, qd, qr, qs, qe, qp, g, hP, hD⟩ := big (j := 0) (by decide) hpost hP hD
    obtain ⟨hP, hD⟩ := k_drop (sg := bH kA h q qg qf qn qd qr qs qe qp g 0 ++ bM kA h2 qm) (gc := [[(h, .inr (12, [.ref (q 0), .ref (q 1), .ref (q 2), .ref (q 3), .ref (q 4), .ref (q 5), .ref (q 6), .int 0, .int ((-1)), .ref (q 9), .ref (q 10), .int 0, .int 0, .ref (q 13), .int 0, .int 0, .null, .null, .null, .null, .null]))], [(h2, .inr (13, mF qm x0Mo y0Mo))]]) hP hD [1, 2, 3, 4, 5, 6, 7, 8, 9, 10, 11, 12, 13, 14, 15, 16, 17, 18, 19, 20, 21, 22, 23, 24, 25, 26, 27, 28, 29, 30, 31, 32, 33, 34, 35, 36, 37, 38, 39, 40, 41, 42, 43, 44, 45, 46, 47, 48, 49, 50, 51, 52, 53, 54, 55, 56, 57, 58, 59, 60, 61, 62, 63, 64, 65, 66, 67, 68, 69, 70, 71, 72, 73, 74, 75, 76, 77, 78, 79, 80, 81, 82, 83, 84, 85, 86, 87, 88, 89, 90, 91, 92, 93, 94, 95, 96, 97, 98, 100, 101, 102, 103, 104, 105, 106, 107, 108, 109, 110, 111, 112, 113, 114, 115, 116, 117, 118, 119, 120, 121, 122, 123, 124, 125, 126, 127, 128, 129, 130, 131, 132, 133, 134, 135, 136, 137, 138, 139, 140, 141, 142, 143, 144, 145, 146, 147, 148, 149, 150, 151, 152, 153, 154, 155, 156, 157, 158, 159, 160, 161, 162, 163, 164, 165, 166, 167, 168, 169, 170, 171, 172, 173, 174, 175, 176, 177, 178, 179, 180, 181, 182, 183, 184, 185, 186, 187, 188, 189, 190, 191, 192, 193, 194, 195, 196, 197, 198, 199, 200, 201, 202, 203, 204, 205, 206, 207, 208, 209, 210, 211, 212, 213, 214, 215, 216, 217] [0, 99] 218 rfl (by decide +kernel) rfl
    exact lf_change_1 l C0 h h2 q qm v1 v2 v3 v4 hg hgM hv1 hv2 hv3 hv4 hK hN hP hD hS hl
  · subst ej
    rcases k_tsw v2 8 (by decide) with hs2 | ⟨jw, hjw, ew⟩
    · obtain ⟨q, qg, qf, qn, qd, qr, qs, qe, qp, g, hP, hD⟩ := big (j := j) hj hpost hP hD
      obtain ⟨hP, hD⟩ := k_drop (sg := bH kA h q qg qf qn qd qr qs qe qp g j ++ bM kA h2 qm) (gc := [[(h, .inr (12, [.ref (q 0), .ref (q 1), .ref (q 2), .ref (q 3), .ref (q 4), .ref (q 5), .ref (q 6), .int 0, .int ((-1)), .ref (q 9), .ref (q 10), .int 0, .int 0, .ref (q 13), .int 0, .int 0, .null, .null, .null, .null, .null]))], [(q 0, .inl (kA 4, 4, .inr (.inr (.inr (.inr (rr (g 0)))))))], [(g 0 j, .inr (3, [.int 0, .int 0, .int 1, .ref (qg 3), .ref (qg 4), .ref (qg 5), .ref (qg 6), .ref (qg 7), .ref (qg 8), .ref (qg 9), .ref (qg 10), .ref (qg 11), .ref (qg 12), .ref (qg 13), .ref (qg 14), .ref (qg 15), .null, .int 0, .int 0]))], [(h2, .inr (13, mF qm x0Mo y0Mo))], [(qm 3, .inl (kA 0, 4, .inl (fun _ => 0)))]]) hP hD [2, 3, 4, 5, 6, 7, 8, 10, 11, 12, 13, 14, 15, 16, 17, 18, 19, 20, 21, 22, 23, 24, 25, 26, 27, 28, 29, 30, 31, 32, 33, 34, 35, 36, 37, 38, 39, 40, 41, 42, 43, 44, 45, 46, 47, 48, 49, 50, 51, 52, 53, 54, 55, 56, 57, 58, 59, 60, 61, 62, 63, 64, 65, 66, 67, 68, 69, 70, 71, 72, 73, 74, 75, 76, 77, 78, 79, 80, 81, 82, 83, 84, 85, 86, 87, 88, 89, 90, 91, 92, 93, 94, 95, 96, 97, 98, 100, 101, 102, 103, 104, 105, 107, 108, 109, 110, 111, 112, 113, 114, 115, 116, 117, 118, 119, 120, 121, 122, 123, 124, 125, 126, 127, 128, 129, 130, 131, 132, 133, 134, 135, 136, 137, 138, 139, 140, 141, 142, 143, 144, 145, 146, 147, 148, 149, 150, 151, 152, 153, 154, 155, 156, 157, 158, 159, 160, 161, 162, 163, 164, 165, 166, 167, 168, 169, 170, 171, 172, 173, 174, 175, 176, 177, 178, 179, 180, 181, 182, 183, 184, 185, 186, 187, 188, 189, 190, 191, 192, 193, 194, 195, 196, 197, 198, 199, 200, 201, 202, 203, 204, 205, 206, 207, 208, 209, 210, 211, 212, 213, 214, 215, 216, 217] [0, 1, 9, 99, 106] 218 rfl (by decide +kernel) rfl
      exact lf_change_2 l C0 h h2 q qg qm g j v2 v3 v4 hj hs2 hv1 hv2 hv3 hv4 hK hN hP hD hS hl
    · match jw, hjw, ew with
      | 0, _, ew =>
        subst ew
        rcases tri1 v3 with hn3 | ⟨hp3, hb3, hc3⟩ | ee3
        · obtain ⟨q, qg, qf, qn, qd, qr, qs, qe, qp, g, hP, hD⟩ := big (j := j) hj hpost hP hD
          obtain ⟨hP, hD⟩ := k_drop (sg := bH kA h q qg qf qn qd qr qs qe qp g j ++ bM kA h2 qm) (gc := [[(h, .inr (12, [.ref (q 0), .ref (q 1), .ref (q 2), .ref (q 3), .ref (q 4), .ref (q 5), .ref (q 6), .int 0, .int ((-1)), .ref (q 9), .ref (q 10), .int 0, .int 0, .ref (q 13), .int 0, .int 0, .null, .null, .null, .null, .null]))], [(q 0, .inl (kA 4, 4, .inr (.inr (.inr (.inr (rr (g 0)))))))], [(g 0 j, .inr (3, [.int 0, .int 0, .int 1, .ref (qg 3), .ref (qg 4), .ref (qg 5), .ref (qg 6), .ref (qg 7), .ref (qg 8), .ref (qg 9), .ref (qg 10), .ref (qg 11), .ref (qg 12), .ref (qg 13), .ref (qg 14), .ref (qg 15), .null, .int 0, .int 0]))], [(h2, .inr (13, mF qm x0Mo y0Mo))], [(qm 3, .inl (kA 0, 4, .inl (fun _ => 0)))], [(qm 2, .inl (kA 0, 66836, .inl all0))]]) hP hD [2, 3, 4, 5, 6, 7, 8, 10, 11, 12, 13, 14, 15, 16, 17, 18, 19, 20, 21, 22, 23, 24, 25, 26, 27, 28, 29, 30, 31, 32, 33, 34, 35, 36, 37, 38, 39, 40, 41, 42, 43, 44, 45, 46, 47, 48, 49, 50, 51, 52, 53, 54, 55, 56, 57, 58, 59, 60, 61, 62, 63, 64, 65, 66, 67, 68, 69, 70, 71, 72, 73, 74, 75, 76, 77, 78, 79, 80, 81, 82, 83, 84, 85, 86, 87, 88, 89, 90, 91, 92, 93, 94, 95, 96, 97, 98, 101, 102, 103, 104, 105, 107, 108, 109, 110, 111, 112, 113, 114, 115, 116, 117, 118, 119, 120, 121, 122, 123, 124, 125, 126, 127, 128, 129, 130, 131, 132, 133, 134, 135, 136, 137, 138, 139, 140, 141, 142, 143, 144, 145, 146, 147, 148, 149, 150, 151, 152, 153, 154, 155, 156, 157, 158, 159, 160, 161, 162, 163, 164, 165, 166, 167, 168, 169, 170, 171, 172, 173, 174, 175, 176, 177, 178, 179, 180, 181, 182, 183, 184, 185, 186, 187, 188, 189, 190, 191, 192, 193, 194, 195, 196, 197, 198, 199, 200, 201, 202, 203, 204, 205, 206, 207, 208, 209, 210, 211, 212, 213, 214, 215, 216, 217] [0, 1, 9, 99, 106, 100] 218 rfl (by decide +kernel) rfl
          exact lf_change_3 l C0 h h2 q qg qm g j v3 v4 hj hn3 hv1 hv2 hv3 hv4 hK hN hP hD hS hl
        · obtain ⟨q, qg, qf, qn, qd, qr, qs, qe, qp, g, hP, hD⟩ := big (j := j) hj hpost hP hD
          obtain ⟨hP, hD⟩ := k_drop (sg := bH kA h q qg qf qn qd qr qs qe qp g j ++ bM kA h2 qm) (gc := [[(h, .inr (12, [.ref (q 0), .ref (q 1), .ref (q 2), .ref (q 3), .ref (q 4), .ref (q 5), .ref (q 6), .int 0, .int ((-1)), .ref (q 9), .ref (q 10), .int 0, .int 0, .ref (q 13), .int 0, .int 0, .null, .null, .null, .null, .null]))], [(q 0, .inl (kA 4, 4, .inr (.inr (.inr (.inr (rr (g 0)))))))], [(g 0 j, .inr (3, [.int 0, .int 0, .int 1, .ref (qg 3), .ref (qg 4), .ref (qg 5), .ref (qg 6), .ref (qg 7), .ref (qg 8), .ref (qg 9), .ref (qg 10), .ref (qg 11), .ref (qg 12), .ref (qg 13), .ref (qg 14), .ref (qg 15), .null, .int 0, .int 0]))], [(h2, .inr (13, mF qm x0Mo y0Mo))], [(qm 3, .inl (kA 0, 4, .inl (fun _ => 0)))], [(qm 2, .inl (kA 0, 66836, .inl all0))]]) hP hD [2, 3, 4, 5, 6, 7, 8, 10, 11, 12, 13, 14, 15, 16, 17, 18, 19, 20, 21, 22, 23, 24, 25, 26, 27, 28, 29, 30, 31, 32, 33, 34, 35, 36, 37, 38, 39, 40, 41, 42, 43, 44, 45, 46, 47, 48, 49, 50, 51, 52, 53, 54, 55, 56, 57, 58, 59, 60, 61, 62, 63, 64, 65, 66, 67, 68, 69, 70, 71, 72, 73, 74, 75, 76, 77, 78, 79, 80, 81, 82, 83, 84, 85, 86, 87, 88, 89, 90, 91, 92, 93, 94, 95, 96, 97, 98, 101, 102, 103, 104, 105, 107, 108, 109, 110, 111, 112, 113, 114, 115, 116, 117, 118, 119, 120, 121, 122, 123, 124, 125, 126, 127, 128, 129, 130, 131, 132, 133, 134, 135, 136, 137, 138, 139, 140, 141, 142, 143, 144, 145, 146, 147, 148, 149, 150, 151, 152, 153, 154, 155, 156, 157, 158, 159, 160, 161, 162, 163, 164, 165, 166, 167, 168, 169, 170, 171, 172, 173, 174, 175, 176, 177, 178, 179, 180, 181, 182, 183, 184, 185, 186, 187, 188, 189, 190, 191, 192, 193, 194, 195, 196, 197, 198, 199, 200, 201, 202, 203, 204, 205, 206, 207, 208, 209, 210, 211, 212, 213, 214, 215, 216, 217] [0, 1, 9, 99, 106, 100] 218 rfl (by decide +kernel) rfl
          exact lf_change_4 l C0 h h2 q qg qm g j v3 v4 hj hp3 hb3 hc3 hv1 hv2 hv3 hv4 hK hN hP hD hS hl
        · subst ee3
          obtain ⟨q, qg, qf, qn, qd, qr, qs, qe, qp, g, hP, hD⟩ := big (j := j) hj hpost hP hD
          obtain ⟨hP, hD⟩ := k_drop (sg := bH kA h q qg qf qn qd qr qs qe qp g j ++ bM kA h2 qm) (gc := [[(h, .inr (12, [.ref (q 0), .ref (q 1), .ref (q 2), .ref (q 3), .ref (q 4), .ref (q 5), .ref (q 6), .int 0, .int ((-1)), .ref (q 9), .ref (q 10), .int 0, .int 0, .ref (q 13), .int 0, .int 0, .null, .null, .null, .null, .null]))], [(q 0, .inl (kA 4, 4, .inr (.inr (.inr (.inr (rr (g 0)))))))], [(g 0 j, .inr (3, [.int 0, .int 0, .int 1, .ref (qg 3), .ref (qg 4), .ref (qg 5), .ref (qg 6), .ref (qg 7), .ref (qg 8), .ref (qg 9), .ref (qg 10), .ref (qg 11), .ref (qg 12), .ref (qg 13), .ref (qg 14), .ref (qg 15), .null, .int 0, .int 0]))], [(qg 3, .inl (kA 1, 192, .inl (fun _ => 0)))], [(qg 4, .inl (kA 0, 24, .inl (fun _ => 0)))], [(qg 5, .inl (kA 0, 24, .inl (fun _ => 0)))], [(qg 6, .inl (kA 0, 24, .inl (fun _ => 0)))], [(qg 14, .inl (kA 0, 24, .inl (fun _ => 0)))], [(q 1, .inl (kA 5, 4, .inr (.inr (.inr (.inr (rr (g 1)))))))], [(g 1 j, .inr (2, [.int 0, .int 0, .int 0, .int 0, .ref (qf 4), .ref (qf 5), .ref (qf 6), .ref (qf 7), .ref (qf 8), .ref (qf 9), .ref (qf 10), .ref (qf 11), .ref (qf 12), .ref (qf 13), .ref (qf 14)]))], [(q 2, .inl (kA 6, 4, .inr (.inr (.inr (.inr (rr (g 2)))))))], [(g 2 j, .inr (5, [.int ((-1)), .int ((-1)), .int ((-1)), .int 0, .ref (qn 4), .int 0, .int 0, .ref (qn 7), .ref (qn 8), .ref (qn 9), .ref (qn 10), .ref (qn 11), .ref (qn 12), .int 0, .ref (qn 14), .ref (qn 15), .ref (qn 16)]))], [(q 3, .inl (kA 7, 4, .inr (.inr (.inr (.inr (rr (g 3)))))))], [(g 3 j, .inr (0, [.ref (qd 0), .int ((-1)), .ref (qd 2), .ref (qd 3), .ref (qd 4), .ref (qd 5), .ref (qd 6), .int 0, .int 0, .int 0, .ref (qd 10), .ref (qd 11), .ref (qd 12), .ref (qd 13), .ref (qd 14), .ref (qd 15), .ref (qd 16), .int 0, .int 0, .int 0, .int 0]))], [(qd 14, .inl (kA 0, 216, .inl (fun _ => 0)))], [(h2, .inr (13, mF qm x0Mo y0Mo))], [(qm 3, .inl (kA 0, 4, .inl (fun _ => 0)))], [(qm 2, .inl (kA 0, 66836, .inl all0))], [(qm 4, .inl (kA 0, 4, .inl (fun _ => 0)))], [(qm 61, .inl (kA 0, 4, .inl (upd (upd (upd (upd (fun _ => 0) 0 (-1)) 1 (-1)) 2 (-1)) 3 (-1))))], [(qm 73, .inl (kA 0, 864, .inl (fun _ => 0)))]]) hP hD [5, 6, 7, 8, 14, 15, 16, 17, 18, 19, 20, 22, 24, 25, 26, 27, 28, 29, 30, 31, 32, 33, 34, 36, 37, 38, 39, 40, 41, 42, 43, 44, 45, 47, 48, 49, 50, 51, 52, 53, 54, 55, 57, 58, 59, 60, 61, 62, 63, 64, 65, 66, 67, 68, 69, 70, 71, 72, 73, 74, 75, 76, 77, 78, 79, 80, 81, 82, 83, 84, 85, 86, 87, 88, 89, 90, 91, 92, 93, 94, 95, 96, 97, 98, 101, 102, 103, 104, 105, 108, 109, 110, 111, 112, 113, 114, 115, 116, 117, 118, 119, 120, 121, 122, 123, 124, 125, 126, 127, 128, 129, 130, 131, 132, 133, 134, 135, 136, 137, 138, 140, 141, 142, 143, 144, 145, 146, 147, 148, 149, 150, 152, 153, 154, 155, 156, 157, 158, 159, 160, 161, 162, 163, 164, 165, 166, 167, 168, 169, 170, 171, 172, 173, 174, 175, 176, 177, 178, 179, 180, 181, 182, 183, 184, 185, 186, 187, 188, 189, 190, 191, 192, 193, 194, 195, 196, 197, 198, 199, 200, 201, 202, 203, 204, 205, 206, 207, 208, 209, 210, 211, 212, 213, 214, 215, 216, 217] [0, 1, 9, 10, 11, 12, 13, 21, 2, 23, 3, 35, 4, 46, 56, 99, 106, 100, 107, 139, 151] 218 rfl (by decide +kernel) rfl
          exact lf_change_5 l C0 h h2 q qg qf qn qd qm g j v4 hj hv1 hv2 hv3 hv4 hK hN hP hD hS hl
      | 1, _, ew =>
        subst ew
        obtain ⟨q, qg, qf, qn, qd, qr, qs, qe, qp, g, hP, hD⟩ := big (j := j) hj hpost hP hD
        obtain ⟨hP, hD⟩ := k_drop (sg := bH kA h q qg qf qn qd qr qs qe qp g j ++ bM kA h2 qm) (gc := [[(h, .inr (12, [.ref (q 0), .ref (q 1), .ref (q 2), .ref (q 3), .ref (q 4), .ref (q 5), .ref (q 6), .int 0, .int ((-1)), .ref (q 9), .ref (q 10), .int 0, .int 0, .ref (q 13), .int 0, .int 0, .null, .null, .null, .null, .null]))], [(q 0, .inl (kA 4, 4, .inr (.inr (.inr (.inr (rr (g 0)))))))], [(g 0 j, .inr (3, [.int 0, .int 0, .int 1, .ref (qg 3), .ref (qg 4), .ref (qg 5), .ref (qg 6), .ref (qg 7), .ref (qg 8), .ref (qg 9), .ref (qg 10), .ref (qg 11), .ref (qg 12), .ref (qg 13), .ref (qg 14), .ref (qg 15), .null, .int 0, .int 0]))], [(h2, .inr (13, mF qm x0Mo y0Mo))], [(qm 3, .inl (kA 0, 4, .inl (fun _ => 0)))], [(qm 2, .inl (kA 0, 66836, .inl all0))]]) hP hD [2, 3, 4, 5, 6, 7, 8, 10, 11, 12, 13, 14, 15, 16, 17, 18, 19, 20, 21, 22, 23, 24, 25, 26, 27, 28, 29, 30, 31, 32, 33, 34, 35, 36, 37, 38, 39, 40, 41, 42, 43, 44, 45, 46, 47, 48, 49, 50, 51, 52, 53, 54, 55, 56, 57, 58, 59, 60, 61, 62, 63, 64, 65, 66, 67, 68, 69, 70, 71, 72, 73, 74, 75, 76, 77, 78, 79, 80, 81, 82, 83, 84, 85, 86, 87, 88, 89, 90, 91, 92, 93, 94, 95, 96, 97, 98, 101, 102, 103, 104, 105, 107, 108, 109, 110, 111, 112, 113, 114, 115, 116, 117, 118, 119, 120, 121, 122, 123, 124, 125, 126, 127, 128, 129, 130, 131, 132, 133, 134, 135, 136, 137, 138, 139, 140, 141, 142, 143, 144, 145, 146, 147, 148, 149, 150, 151, 152, 153, 154, 155, 156, 157, 158, 159, 160, 161, 162, 163, 164, 165, 166, 167, 168, 169, 170, 171, 172, 173, 174, 175, 176, 177, 178, 179, 180, 181, 182, 183, 184, 185, 186, 187, 188, 189, 190, 191, 192, 193, 194, 195, 196, 197, 198, 199, 200, 201, 202, 203, 204, 205, 206, 207, 208, 209, 210, 211, 212, 213, 214, 215, 216, 217] [0, 1, 9, 99, 106, 100] 218 rfl (by decide +kernel) rfl
        exact lf_change_6 l C0 h h2 q qg qm g j v3 v4 hj hv1 hv2 hv3 hv4 hK hN hP hD hS hl
      | 2, _, ew =>
        subst ew
        obtain ⟨q, qg, qf, qn, qd, qr, qs, qe, qp, g, hP, hD⟩ := big (j := j) hj hpost hP hD
        obtain ⟨hP, hD⟩ := k_drop (sg := bH kA h q qg qf qn qd qr qs qe qp g j ++ bM kA h2 qm) (gc := [[(h, .inr (12, [.ref (q 0), .ref (q 1), .ref (q 2), .ref (q 3), .ref (q 4), .ref (q 5), .ref (q 6), .int 0, .int ((-1)), .ref (q 9), .ref (q 10), .int 0, .int 0, .ref (q 13), .int 0, .int 0, .null, .null, .null, .null, .null]))], [(q 0, .inl (kA 4, 4, .inr (.inr (.inr (.inr (rr (g 0)))))))], [(g 0 j, .inr (3, [.int 0, .int 0, .int 1, .ref (qg 3), .ref (qg 4), .ref (qg 5), .ref (qg 6), .ref (qg 7), .ref (qg 8), .ref (qg 9), .ref (qg 10), .ref (qg 11), .ref (qg 12), .ref (qg 13), .ref (qg 14), .ref (qg 15), .null, .int 0, .int 0]))], [(h2, .inr (13, mF qm x0Mo y0Mo))], [(qm 3, .inl (kA 0, 4, .inl (fun _ => 0)))], [(qm 2, .inl (kA 0, 66836, .inl all0))]]) hP hD [2, 3, 4, 5, 6, 7, 8, 10, 11, 12, 13, 14, 15, 16, 17, 18, 19, 20, 21, 22, 23, 24, 25, 26, 27, 28, 29, 30, 31, 32, 33, 34, 35, 36, 37, 38, 39, 40, 41, 42, 43, 44, 45, 46, 47, 48, 49, 50, 51, 52, 53, 54, 55, 56, 57, 58, 59, 60, 61, 62, 63, 64, 65, 66, 67, 68, 69, 70, 71, 72, 73, 74, 75, 76, 77, 78, 79, 80, 81, 82, 83, 84, 85, 86, 87, 88, 89, 90, 91, 92, 93, 94, 95, 96, 97, 98, 101, 102, 103, 104, 105, 107, 108, 109, 110, 111, 112, 113, 114, 115, 116, 117, 118, 119, 120, 121, 122, 123, 124, 125, 126, 127, 128, 129, 130, 131, 132, 133, 134, 135, 136, 137, 138, 139, 140, 141, 142, 143, 144, 145, 146, 147, 148, 149, 150, 151, 152, 153, 154, 155, 156, 157, 158, 159, 160, 161, 162, 163, 164, 165, 166, 167, 168, 169, 170, 171, 172, 173, 174, 175, 176, 177, 178, 179, 180, 181, 182, 183, 184, 185, 186, 187, 188, 189, 190, 191, 192, 193, 194, 195, 196, 197, 198, 199, 200, 201, 202, 203, 204, 205, 206, 207, 208, 209, 210, 211, 212, 213, 214, 215, 216, 217] [0, 1, 9, 99, 106, 100] 218 rfl (by decide +kernel) rfl
        exact lf_change_7 l C0 h h2 q qg qm g j v3 v4 hj hv1 hv2 hv3 hv4 hK hN hP hD hS hl
      | 3, _, ew =>
        subst ew
        obtain ⟨q, qg, qf, qn, qd, qr, qs, qe, qp, g, hP, hD⟩ := big (j := j) hj hpost hP hD
        obtain ⟨hP, hD⟩ := k_drop (sg := bH kA h q qg qf qn qd qr qs qe qp g j ++ bM kA h2 qm) (gc := [[(h, .inr (12, [.ref (q 0), .ref (q 1), .ref (q 2), .ref (q 3), .ref (q 4), .ref (q 5), .ref (q 6), .int 0, .int ((-1)), .ref (q 9), .ref (q 10), .int 0, .int 0, .ref (q 13), .int 0, .int 0, .null, .null, .null, .null, .null]))], [(q 0, .inl (kA 4, 4, .inr (.inr (.inr (.inr (rr (g 0)))))))], [(g 0 j, .inr (3, [.int 0, .int 0, .int 1, .ref (qg 3), .ref (qg 4), .ref (qg 5), .ref (qg 6), .ref (qg 7), .ref (qg 8), .ref (qg 9), .ref (qg 10), .ref (qg 11), .ref (qg 12), .ref (qg 13), .ref (qg 14), .ref (qg 15), .null, .int 0, .int 0]))], [(h2, .inr (13, mF qm x0Mo y0Mo))], [(qm 3, .inl (kA 0, 4, .inl (fun _ => 0)))], [(qm 2, .inl (kA 0, 66836, .inl all0))]]) hP hD [2, 3, 4, 5, 6, 7, 8, 10, 11, 12, 13, 14, 15, 16, 17, 18, 19, 20, 21, 22, 23, 24, 25, 26, 27, 28, 29, 30, 31, 32, 33, 34, 35, 36, 37, 38, 39, 40, 41, 42, 43, 44, 45, 46, 47, 48, 49, 50, 51, 52, 53, 54, 55, 56, 57, 58, 59, 60, 61, 62, 63, 64, 65, 66, 67, 68, 69, 70, 71, 72, 73, 74, 75, 76, 77, 78, 79, 80, 81, 82, 83, 84, 85, 86, 87, 88, 89, 90, 91, 92, 93, 94, 95, 96, 97, 98, 101, 102, 103, 104, 105, 107, 108, 109, 110, 111, 112, 113, 114, 115, 116, 117, 118, 119, 120, 121, 122, 123, 124, 125, 126, 127, 128, 129, 130, 131, 132, 133, 134, 135, 136, 137, 138, 139, 140, 141, 142, 143, 144, 145, 146, 147, 148, 149, 150, 151, 152, 153, 154, 155, 156, 157, 158, 159, 160, 161, 162, 163, 164, 165, 166, 167, 168, 169, 170, 171, 172, 173, 174, 175, 176, 177, 178, 179, 180, 181, 182, 183, 184, 185, 186, 187, 188, 189, 190, 191, 192, 193, 194, 195, 196, 197, 198, 199, 200, 201, 202, 203, 204, 205, 206, 207, 208, 209, 210, 211, 212, 213, 214, 215, 216, 217] [0, 1, 9, 99, 106, 100] 218 rfl (by decide +kernel) rfl
        exact lf_change_8 l C0 h h2 q qg qm g j v3 v4 hj hv1 hv2 hv3 hv4 hK hN hP hD hS hl
      | 4, _, ew =>
        subst ew
        obtain ⟨q, qg, qf, qn, qd, qr, qs, qe, qp, g, hP, hD⟩ := big (j := j) hj hpost hP hD
        obtain ⟨hP, hD⟩ := k_drop (sg := bH kA h q qg qf qn qd qr qs qe qp g j ++ bM kA h2 qm) (gc := [[(h, .inr (12, [.ref (q 0), .ref (q 1), .ref (q 2), .ref (q 3), .ref (q 4), .ref (q 5), .ref (q 6), .int 0, .int ((-1)), .ref (q 9), .ref (q 10), .int 0, .int 0, .ref (q 13), .int 0, .int 0, .null, .null, .null, .null, .null]))], [(q 0, .inl (kA 4, 4, .inr (.inr (.inr (.inr (rr (g 0)))))))], [(g 0 j, .inr (3, [.int 0, .int 0, .int 1, .ref (qg 3), .ref (qg 4), .ref (qg 5), .ref (qg 6), .ref (qg 7), .ref (qg 8), .ref (qg 9), .ref (qg 10), .ref (qg 11), .ref (qg 12), .ref (qg 13), .ref (qg 14), .ref (qg 15), .null, .int 0, .int 0]))], [(h2, .inr (13, mF qm x0Mo y0Mo))], [(qm 3, .inl (kA 0, 4, .inl (fun _ => 0)))], [(qm 2, .inl (kA 0, 66836, .inl all0))]]) hP hD [2, 3, 4, 5, 6, 7, 8, 10, 11, 12, 13, 14, 15, 16, 17, 18, 19, 20, 21, 22, 23, 24, 25, 26, 27, 28, 29, 30, 31, 32, 33, 34, 35, 36, 37, 38, 39, 40, 41, 42, 43, 44, 45, 46, 47, 48, 49, 50, 51, 52, 53, 54, 55, 56, 57, 58, 59, 60, 61, 62, 63, 64, 65, 66, 67, 68, 69, 70, 71, 72, 73, 74, 75, 76, 77, 78, 79, 80, 81, 82, 83, 84, 85, 86, 87, 88, 89, 90, 91, 92, 93, 94, 95, 96, 97, 98, 101, 102, 103, 104, 105, 107, 108, 109, 110, 111, 112, 113, 114, 115, 116, 117, 118, 119, 120, 121, 122, 123, 124, 125, 126, 127, 128, 129, 130, 131, 132, 133, 134, 135, 136, 137, 138, 139, 140, 141, 142, 143, 144, 145, 146, 147, 148, 149, 150, 151, 152, 153, 154, 155, 156, 157, 158, 159, 160, 161, 162, 163, 164, 165, 166, 167, 168, 169, 170, 171, 172, 173, 174, 175, 176, 177, 178, 179, 180, 181, 182, 183, 184, 185, 186, 187, 188, 189, 190, 191, 192, 193, 194, 195, 196, 197, 198, 199, 200, 201, 202, 203, 204, 205, 206, 207, 208, 209, 210, 211, 212, 213, 214, 215, 216, 217] [0, 1, 9, 99, 106, 100] 218 rfl (by decide +kernel) rfl
        exact lf_change_9 l C0 h h2 q qg qm g j v3 v4 hj hv1 hv2 hv3 hv4 hK hN hP hD hS hl
      | 5, _, ew =>
        subst ew
        obtain ⟨q, qg, qf, qn, qd, qr, qs, qe, qp, g, hP, hD⟩ := big (j := j) hj hpost hP hD
        obtain ⟨hP, hD⟩ := k_drop (sg := bH kA h q qg qf qn qd qr qs qe qp g j ++ bM kA h2 qm) (gc := [[(h, .inr (12, [.ref (q 0), .ref (q 1), .ref (q 2), .ref (q 3), .ref (q 4), .ref (q 5), .ref (q 6), .int 0, .int ((-1)), .ref (q 9), .ref (q 10), .int 0, .int 0, .ref (q 13), .int 0, .int 0, .null, .null, .null, .null, .null]))], [(q 0, .inl (kA 4, 4, .inr (.inr (.inr (.inr (rr (g 0)))))))], [(g 0 j, .inr (3, [.int 0, .int 0, .int 1, .ref (qg 3), .ref (qg 4), .ref (qg 5), .ref (qg 6), .ref (qg 7), .ref (qg 8), .ref (qg 9), .ref (qg 10), .ref (qg 11), .ref (qg 12), .ref (qg 13), .ref (qg 14), .ref (qg 15), .null, .int 0, .int 0]))], [(h2, .inr (13, mF qm x0Mo y0Mo))], [(qm 3, .inl (kA 0, 4, .inl (fun _ => 0)))], [(qm 2, .inl (kA 0, 66836, .inl all0))]]) hP hD [2, 3, 4, 5, 6, 7, 8, 10, 11, 12, 13, 14, 15, 16, 17, 18, 19, 20, 21, 22, 23, 24, 25, 26, 27, 28, 29, 30, 31, 32, 33, 34, 35, 36, 37, 38, 39, 40, 41, 42, 43, 44, 45, 46, 47, 48, 49, 50, 51, 52, 53, 54, 55, 56, 57, 58, 59, 60, 61, 62, 63, 64, 65, 66, 67, 68, 69, 70, 71, 72, 73, 74, 75, 76, 77, 78, 79, 80, 81, 82, 83, 84, 85, 86, 87, 88, 89, 90, 91, 92, 93, 94, 95, 96, 97, 98, 101, 102, 103, 104, 105, 107, 108, 109, 110, 111, 112, 113, 114, 115, 116, 117, 118, 119, 120, 121, 122, 123, 124, 125, 126, 127, 128, 129, 130, 131, 132, 133, 134, 135, 136, 137, 138, 139, 140, 141, 142, 143, 144, 145, 146, 147, 148, 149, 150, 151, 152, 153, 154, 155, 156, 157, 158, 159, 160, 161, 162, 163, 164, 165, 166, 167, 168, 169, 170, 171, 172, 173, 174, 175, 176, 177, 178, 179, 180, 181, 182, 183, 184, 185, 186, 187, 188, 189, 190, 191, 192, 193, 194, 195, 196, 197, 198, 199, 200, 201, 202, 203, 204, 205, 206, 207, 208, 209, 210, 211, 212, 213, 214, 215, 216, 217] [0, 1, 9, 99, 106, 100] 218 rfl (by decide +kernel) rfl
        exact lf_change_10 l C0 h h2 q qg qm g j v3 v4 hj hv1 hv2 hv3 hv4 hK hN hP hD hS hl
      | 6, _, ew =>
        subst ew
        obtain ⟨q, qg, qf, qn, qd, qr, qs, qe, qp, g, hP, hD⟩ := big (j := j) hj hpost hP hD
        obtain ⟨hP, hD⟩ := k_drop (sg := bH kA h q qg qf qn qd qr qs qe qp g j ++ bM kA h2 qm) (gc := [[(h, .inr (12, [.ref (q 0), .ref (q 1), .ref (q 2), .ref (q 3), .ref (q 4), .ref (q 5), .ref (q 6), .int 0, .int ((-1)), .ref (q 9), .ref (q 10), .int 0, .int 0, .ref (q 13), .int 0, .int 0, .null, .null, .null, .null, .null]))], [(q 0, .inl (kA 4, 4, .inr (.inr (.inr (.inr (rr (g 0)))))))], [(g 0 j, .inr (3, [.int 0, .int 0, .int 1, .ref (qg 3), .ref (qg 4), .ref (qg 5), .ref (qg 6), .ref (qg 7), .ref (qg 8), .ref (qg 9), .ref (qg 10), .ref (qg 11), .ref (qg 12), .ref (qg 13), .ref (qg 14), .ref (qg 15), .null, .int 0, .int 0]))], [(h2, .inr (13, mF qm x0Mo y0Mo))], [(qm 3, .inl (kA 0, 4, .inl (fun _ => 0)))], [(qm 2, .inl (kA 0, 66836, .inl all0))]]) hP hD [2, 3, 4, 5, 6, 7, 8, 10, 11, 12, 13, 14, 15, 16, 17, 18, 19, 20, 21, 22, 23, 24, 25, 26, 27, 28, 29, 30, 31, 32, 33, 34, 35, 36, 37, 38, 39, 40, 41, 42, 43, 44, 45, 46, 47, 48, 49, 50, 51, 52, 53, 54, 55, 56, 57, 58, 59, 60, 61, 62, 63, 64, 65, 66, 67, 68, 69, 70, 71, 72, 73, 74, 75, 76, 77, 78, 79, 80, 81, 82, 83, 84, 85, 86, 87, 88, 89, 90, 91, 92, 93, 94, 95, 96, 97, 98, 101, 102, 103, 104, 105, 107, 108, 109, 110, 111, 112, 113, 114, 115, 116, 117, 118, 119, 120, 121, 122, 123, 124, 125, 126, 127, 128, 129, 130, 131, 132, 133, 134, 135, 136, 137, 138, 139, 140, 141, 142, 143, 144, 145, 146, 147, 148, 149, 150, 151, 152, 153, 154, 155, 156, 157, 158, 159, 160, 161, 162, 163, 164, 165, 166, 167, 168, 169, 170, 171, 172, 173, 174, 175, 176, 177, 178, 179, 180, 181, 182, 183, 184, 185, 186, 187, 188, 189, 190, 191, 192, 193, 194, 195, 196, 197, 198, 199, 200, 201, 202, 203, 204, 205, 206, 207, 208, 209, 210, 211, 212, 213, 214, 215, 216, 217] [0, 1, 9, 99, 106, 100] 218 rfl (by decide +kernel) rfl
        exact lf_change_11 l C0 h h2 q qg qm g j v3 v4 hj hv1 hv2 hv3 hv4 hK hN hP hD hS hl
      | 7, _, ew =>
        subst ew
        obtain ⟨q, qg, qf, qn, qd, qr, qs, qe, qp, g, hP, hD⟩ := big (j := j) hj hpost hP hD
        obtain ⟨hP, hD⟩ := k_drop (sg := bH kA h q qg qf qn qd qr qs qe qp g j ++ bM kA h2 qm) (gc := [[(h, .inr (12, [.ref (q 0), .ref (q 1), .ref (q 2), .ref (q 3), .ref (q 4), .ref (q 5), .ref (q 6), .int 0, .int ((-1)), .ref (q 9), .ref (q 10), .int 0, .int 0, .ref (q 13), .int 0, .int 0, .null, .null, .null, .null, .null]))], [(q 0, .inl (kA 4, 4, .inr (.inr (.inr (.inr (rr (g 0)))))))], [(g 0 j, .inr (3, [.int 0, .int 0, .int 1, .ref (qg 3), .ref (qg 4), .ref (qg 5), .ref (qg 6), .ref (qg 7), .ref (qg 8), .ref (qg 9), .ref (qg 10), .ref (qg 11), .ref (qg 12), .ref (qg 13), .ref (qg 14), .ref (qg 15), .null, .int 0, .int 0]))], [(h2, .inr (13, mF qm x0Mo y0Mo))], [(qm 3, .inl (kA 0, 4, .inl (fun _ => 0)))], [(qm 2, .inl (kA 0, 66836, .inl all0))]]) hP hD [2, 3, 4, 5, 6, 7, 8, 10, 11, 12, 13, 14, 15, 16, 17, 18, 19, 20, 21, 22, 23, 24, 25, 26, 27, 28, 29, 30, 31, 32, 33, 34, 35, 36, 37, 38, 39, 40, 41, 42, 43, 44, 45, 46, 47, 48, 49, 50, 51, 52, 53, 54, 55, 56, 57, 58, 59, 60, 61, 62, 63, 64, 65, 66, 67, 68, 69, 70, 71, 72, 73, 74, 75, 76, 77, 78, 79, 80, 81, 82, 83, 84, 85, 86, 87, 88, 89, 90, 91, 92, 93, 94, 95, 96, 97, 98, 101, 102, 103, 104, 105, 107, 108, 109, 110, 111, 112, 113, 114, 115, 116, 117, 118, 119, 120, 121, 122, 123, 124, 125, 126, 127, 128, 129, 130, 131, 132, 133, 134, 135, 136, 137, 138, 139, 140, 141, 142, 143, 144, 145, 146, 147, 148, 149, 150, 151, 152, 153, 154, 155, 156, 157, 158, 159, 160, 161, 162, 163, 164, 165, 166, 167, 168, 169, 170, 171, 172, 173, 174, 175, 176, 177, 178, 179, 180, 181, 182, 183, 184, 185, 186, 187, 188, 189, 190, 191, 192, 193, 194, 195, 196, 197, 198, 199, 200, 201, 202, 203, 204, 205, 206, 207, 208, 209, 210, 211, 212, 213, 214, 215, 216, 217] [0, 1, 9, 99, 106, 100] 218 rfl (by decide +kernel) rfl
        exact lf_change_12 l C0 h h2 q qg qm g j v3 v4 hj hv1 hv2 hv3 hv4 hK hN hP hD hS hl
      | jw + 8, hjw, _ => exact absurd hjw (by omega)
