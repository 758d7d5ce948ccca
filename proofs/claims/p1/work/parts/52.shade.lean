theorem wm_2323 : (Cond.methodLink "DrawingHouseLaw" (113 : Nat) ({ cls := "DrawingHouse", name := "shade", desc := "(IIII)I" } : MethodName) : Cond) ∈ lw_g := lw_gi (lw_c10 (List.mem_of_getElem? (i := 163) rfl)) rfl
theorem wm_2324 : (Cond.instanceMethod ({ cls := "DrawingHouse", name := "shade", desc := "(IIII)I" } : MethodName) : Cond) ∈ lw_g := lw_gi (lw_c10 (List.mem_of_getElem? (i := 164) rfl)) rfl
theorem wm_2325 : (Cond.selects "DrawingHouse" ({ cls := "DrawingHouse", name := "shade", desc := "(IIII)I" } : MethodName) ({ cls := "DrawingHouse", name := "shade", desc := "(IIII)I" } : MethodName) : Cond) ∈ lw_g := lw_gi (lw_c10 (List.mem_of_getElem? (i := 165) rfl)) rfl
theorem wm_2327 : (Cond.methodLink "DrawingHouseLaw" (117 : Nat) ({ cls := "DrawingHouse", name := "text", desc := "(II)I" } : MethodName) : Cond) ∈ lw_g := lw_gi (lw_c10 (List.mem_of_getElem? (i := 167) rfl)) rfl
theorem wm_2328 : (Cond.instanceMethod ({ cls := "DrawingHouse", name := "text", desc := "(II)I" } : MethodName) : Cond) ∈ lw_g := lw_gi (lw_c10 (List.mem_of_getElem? (i := 168) rfl)) rfl
theorem wm_2329 : (Cond.selects "DrawingHouse" ({ cls := "DrawingHouse", name := "text", desc := "(II)I" } : MethodName) ({ cls := "DrawingHouse", name := "text", desc := "(II)I" } : MethodName) : Cond) ∈ lw_g := lw_gi (lw_c10 (List.mem_of_getElem? (i := 169) rfl)) rfl
theorem wm_2330 : (Cond.code ({ cls := "DrawingHouse", name := "text", desc := "(II)I" } : MethodName) prog_1_method_26_code (4 : Nat) (Option.some ClassFile.FieldType.int) : Cond) ∈ lw_g := lw_gi (lw_c10 (List.mem_of_getElem? (i := 170) rfl)) rfl
theorem wm_2331 : (Cond.methodLink "DrawingHouse" (364 : Nat) ({ cls := "DrawingHouse", name := "writeGroup", desc := "(LDrawingHouse$Graph;II)V" } : MethodName) : Cond) ∈ lw_g := lw_gi (lw_c10 (List.mem_of_getElem? (i := 171) rfl)) rfl
theorem wm_2333 : (Cond.instanceMethod ({ cls := "DrawingHouse", name := "writeGroup", desc := "(LDrawingHouse$Graph;II)V" } : MethodName) : Cond) ∈ lw_g := lw_gi (lw_c10 (List.mem_of_getElem? (i := 173) rfl)) rfl
theorem wm_2334 : (Cond.code ({ cls := "DrawingHouse", name := "writeGroup", desc := "(LDrawingHouse$Graph;II)V" } : MethodName) prog_1_method_41_code (5 : Nat) (Option.none : Option ClassFile.FieldType) : Cond) ∈ lw_g := lw_gi (lw_c10 (List.mem_of_getElem? (i := 174) rfl)) rfl
theorem wm_2362 : (Cond.methodLink "DrawingHouse" (368 : Nat) ({ cls := "DrawingHouse", name := "writeEdges", desc := "(LDrawingHouse$Graph;)V" } : MethodName) : Cond) ∈ lw_g := lw_gi (lw_c10 (List.mem_of_getElem? (i := 202) rfl)) rfl
theorem wm_2364 : (Cond.instanceMethod ({ cls := "DrawingHouse", name := "writeEdges", desc := "(LDrawingHouse$Graph;)V" } : MethodName) : Cond) ∈ lw_g := lw_gi (lw_c10 (List.mem_of_getElem? (i := 204) rfl)) rfl
theorem wm_2365 : (Cond.code ({ cls := "DrawingHouse", name := "writeEdges", desc := "(LDrawingHouse$Graph;)V" } : MethodName) prog_1_method_42_code (3 : Nat) (Option.none : Option ClassFile.FieldType) : Cond) ∈ lw_g := lw_gi (lw_c10 (List.mem_of_getElem? (i := 205) rfl)) rfl
theorem wm_2379 : (Cond.methodLink "DrawingHouseLaw" (121 : Nat) ({ cls := "DrawingHouse", name := "octet", desc := "(I)I" } : MethodName) : Cond) ∈ lw_g := lw_gi (lw_c10 (List.mem_of_getElem? (i := 219) rfl)) rfl
theorem wm_2380 : (Cond.instanceMethod ({ cls := "DrawingHouse", name := "octet", desc := "(I)I" } : MethodName) : Cond) ∈ lw_g := lw_gi (lw_c10 (List.mem_of_getElem? (i := 220) rfl)) rfl
theorem wm_2381 : (Cond.selects "DrawingHouse" ({ cls := "DrawingHouse", name := "octet", desc := "(I)I" } : MethodName) ({ cls := "DrawingHouse", name := "octet", desc := "(I)I" } : MethodName) : Cond) ∈ lw_g := lw_gi (lw_c10 (List.mem_of_getElem? (i := 221) rfl)) rfl
theorem wm_2383 : (Cond.methodLink "DrawingHouseLaw" (125 : Nat) ({ cls := "DrawingHouse", name := "dots", desc := "(III)I" } : MethodName) : Cond) ∈ lw_g := lw_gi (lw_c10 (List.mem_of_getElem? (i := 223) rfl)) rfl
theorem wm_2384 : (Cond.instanceMethod ({ cls := "DrawingHouse", name := "dots", desc := "(III)I" } : MethodName) : Cond) ∈ lw_g := lw_gi (lw_c10 (List.mem_of_getElem? (i := 224) rfl)) rfl
theorem wm_2385 : (Cond.selects "DrawingHouse" ({ cls := "DrawingHouse", name := "dots", desc := "(III)I" } : MethodName) ({ cls := "DrawingHouse", name := "dots", desc := "(III)I" } : MethodName) : Cond) ∈ lw_g := lw_gi (lw_c10 (List.mem_of_getElem? (i := 225) rfl)) rfl
theorem wm_2405 : (Cond.methodLink "DrawingHouseLaw" (129 : Nat) ({ cls := "DrawingHouse", name := "dot", desc := "(II)I" } : MethodName) : Cond) ∈ lw_g := lw_gi (lw_c11 (List.mem_of_getElem? (i := 5) rfl)) rfl
theorem wm_2406 : (Cond.instanceMethod ({ cls := "DrawingHouse", name := "dot", desc := "(II)I" } : MethodName) : Cond) ∈ lw_g := lw_gi (lw_c11 (List.mem_of_getElem? (i := 6) rfl)) rfl
theorem wm_2407 : (Cond.selects "DrawingHouse" ({ cls := "DrawingHouse", name := "dot", desc := "(II)I" } : MethodName) ({ cls := "DrawingHouse", name := "dot", desc := "(II)I" } : MethodName) : Cond) ∈ lw_g := lw_gi (lw_c11 (List.mem_of_getElem? (i := 7) rfl)) rfl
theorem wm_2602 : (Cond.fieldLink "DrawingHouseModel" (1277 : Nat) "DrawingHouseModel" "texts" "I" : Cond) ∈ lw_g := lw_gi (lw_c11 (List.mem_of_getElem? (i := 202) rfl)) rfl
theorem wm_3894 : (Cond.methodLink "DrawingHouseLaw" (116 : Nat) ({ cls := "DrawingHouseModel", name := "shade", desc := "(IIII)I" } : MethodName) : Cond) ∈ lw_g := lw_gi (lw_c17 (List.mem_of_getElem? (i := 54) rfl)) rfl
theorem wm_3895 : (Cond.instanceMethod ({ cls := "DrawingHouseModel", name := "shade", desc := "(IIII)I" } : MethodName) : Cond) ∈ lw_g := lw_gi (lw_c17 (List.mem_of_getElem? (i := 55) rfl)) rfl
theorem wm_3896 : (Cond.selects "DrawingHouseModel" ({ cls := "DrawingHouseModel", name := "shade", desc := "(IIII)I" } : MethodName) ({ cls := "DrawingHouseModel", name := "shade", desc := "(IIII)I" } : MethodName) : Cond) ∈ lw_g := lw_gi (lw_c17 (List.mem_of_getElem? (i := 56) rfl)) rfl
theorem wm_3898 : (Cond.methodLink "DrawingHouseLaw" (120 : Nat) ({ cls := "DrawingHouseModel", name := "text", desc := "(II)I" } : MethodName) : Cond) ∈ lw_g := lw_gi (lw_c17 (List.mem_of_getElem? (i := 58) rfl)) rfl
theorem wm_3899 : (Cond.instanceMethod ({ cls := "DrawingHouseModel", name := "text", desc := "(II)I" } : MethodName) : Cond) ∈ lw_g := lw_gi (lw_c17 (List.mem_of_getElem? (i := 59) rfl)) rfl
theorem wm_3900 : (Cond.selects "DrawingHouseModel" ({ cls := "DrawingHouseModel", name := "text", desc := "(II)I" } : MethodName) ({ cls := "DrawingHouseModel", name := "text", desc := "(II)I" } : MethodName) : Cond) ∈ lw_g := lw_gi (lw_c17 (List.mem_of_getElem? (i := 60) rfl)) rfl
theorem wm_3901 : (Cond.code ({ cls := "DrawingHouseModel", name := "text", desc := "(II)I" } : MethodName) prog_15_method_240_code (4 : Nat) (Option.some ClassFile.FieldType.int) : Cond) ∈ lw_g := lw_gi (lw_c17 (List.mem_of_getElem? (i := 61) rfl)) rfl
theorem wm_3902 : (Cond.methodLink "DrawingHouseModel" (1309 : Nat) ({ cls := "DrawingHouseModel", name := "writeGroup", desc := "(I)V" } : MethodName) : Cond) ∈ lw_g := lw_gi (lw_c17 (List.mem_of_getElem? (i := 62) rfl)) rfl
theorem wm_3904 : (Cond.instanceMethod ({ cls := "DrawingHouseModel", name := "writeGroup", desc := "(I)V" } : MethodName) : Cond) ∈ lw_g := lw_gi (lw_c17 (List.mem_of_getElem? (i := 64) rfl)) rfl
theorem wm_3905 : (Cond.code ({ cls := "DrawingHouseModel", name := "writeGroup", desc := "(I)V" } : MethodName) prog_15_method_237_code (3 : Nat) (Option.none : Option ClassFile.FieldType) : Cond) ∈ lw_g := lw_gi (lw_c17 (List.mem_of_getElem? (i := 65) rfl)) rfl
theorem wm_3934 : (Cond.methodLink "DrawingHouseModel" (1320 : Nat) ({ cls := "DrawingHouseModel", name := "writeEdges", desc := "()V" } : MethodName) : Cond) ∈ lw_g := lw_gi (lw_c17 (List.mem_of_getElem? (i := 94) rfl)) rfl
theorem wm_3936 : (Cond.instanceMethod ({ cls := "DrawingHouseModel", name := "writeEdges", desc := "()V" } : MethodName) : Cond) ∈ lw_g := lw_gi (lw_c17 (List.mem_of_getElem? (i := 96) rfl)) rfl
theorem wm_3937 : (Cond.code ({ cls := "DrawingHouseModel", name := "writeEdges", desc := "()V" } : MethodName) prog_15_method_238_code (2 : Nat) (Option.none : Option ClassFile.FieldType) : Cond) ∈ lw_g := lw_gi (lw_c17 (List.mem_of_getElem? (i := 97) rfl)) rfl
theorem wm_3945 : (Cond.methodLink "DrawingHouseLaw" (124 : Nat) ({ cls := "DrawingHouseModel", name := "octet", desc := "(I)I" } : MethodName) : Cond) ∈ lw_g := lw_gi (lw_c17 (List.mem_of_getElem? (i := 105) rfl)) rfl
theorem wm_3946 : (Cond.instanceMethod ({ cls := "DrawingHouseModel", name := "octet", desc := "(I)I" } : MethodName) : Cond) ∈ lw_g := lw_gi (lw_c17 (List.mem_of_getElem? (i := 106) rfl)) rfl
theorem wm_3947 : (Cond.selects "DrawingHouseModel" ({ cls := "DrawingHouseModel", name := "octet", desc := "(I)I" } : MethodName) ({ cls := "DrawingHouseModel", name := "octet", desc := "(I)I" } : MethodName) : Cond) ∈ lw_g := lw_gi (lw_c17 (List.mem_of_getElem? (i := 107) rfl)) rfl
theorem wm_3949 : (Cond.methodLink "DrawingHouseLaw" (128 : Nat) ({ cls := "DrawingHouseModel", name := "dots", desc := "(III)I" } : MethodName) : Cond) ∈ lw_g := lw_gi (lw_c17 (List.mem_of_getElem? (i := 109) rfl)) rfl
theorem wm_3950 : (Cond.instanceMethod ({ cls := "DrawingHouseModel", name := "dots", desc := "(III)I" } : MethodName) : Cond) ∈ lw_g := lw_gi (lw_c17 (List.mem_of_getElem? (i := 110) rfl)) rfl
theorem wm_3951 : (Cond.selects "DrawingHouseModel" ({ cls := "DrawingHouseModel", name := "dots", desc := "(III)I" } : MethodName) ({ cls := "DrawingHouseModel", name := "dots", desc := "(III)I" } : MethodName) : Cond) ∈ lw_g := lw_gi (lw_c17 (List.mem_of_getElem? (i := 111) rfl)) rfl
theorem wm_3965 : (Cond.methodLink "DrawingHouseLaw" (132 : Nat) ({ cls := "DrawingHouseModel", name := "dot", desc := "(II)I" } : MethodName) : Cond) ∈ lw_g := lw_gi (lw_c17 (List.mem_of_getElem? (i := 125) rfl)) rfl
theorem wm_3966 : (Cond.instanceMethod ({ cls := "DrawingHouseModel", name := "dot", desc := "(II)I" } : MethodName) : Cond) ∈ lw_g := lw_gi (lw_c17 (List.mem_of_getElem? (i := 126) rfl)) rfl
theorem wm_3967 : (Cond.selects "DrawingHouseModel" ({ cls := "DrawingHouseModel", name := "dot", desc := "(II)I" } : MethodName) ({ cls := "DrawingHouseModel", name := "dot", desc := "(II)I" } : MethodName) : Cond) ∈ lw_g := lw_gi (lw_c17 (List.mem_of_getElem? (i := 127) rfl)) rfl
theorem wv_11_14 : (Cond.selects "DrawingHouse" ⟨"DrawingHouse", "writeGroup", "(LDrawingHouse$Graph;II)V"⟩ ⟨"DrawingHouse", "writeGroup", "(LDrawingHouse$Graph;II)V"⟩ : Cond) ∈ lw_g := lw_gi (List.mem_append_left _ (List.mem_map.mpr ⟨_, lw_v2 (List.mem_of_getElem? (i := 4) rfl), rfl⟩)) rfl
theorem wv_12_3 : (Cond.selects "DrawingHouse" ⟨"DrawingHouse", "writeEdges", "(LDrawingHouse$Graph;)V"⟩ ⟨"DrawingHouse", "writeEdges", "(LDrawingHouse$Graph;)V"⟩ : Cond) ∈ lw_g := lw_gi (List.mem_append_left _ (List.mem_map.mpr ⟨_, lw_v2 (List.mem_of_getElem? (i := 5) rfl), rfl⟩)) rfl
theorem wv_24_6 : (Cond.selects "DrawingHouseModel" ⟨"DrawingHouseModel", "writeGroup", "(I)V"⟩ ⟨"DrawingHouseModel", "writeGroup", "(I)V"⟩ : Cond) ∈ lw_g := lw_gi (List.mem_append_left _ (List.mem_map.mpr ⟨_, lw_v4 (List.mem_of_getElem? (i := 1) rfl), rfl⟩)) rfl
theorem wv_24_12 : (Cond.selects "DrawingHouseModel" ⟨"DrawingHouseModel", "writeEdges", "()V"⟩ ⟨"DrawingHouseModel", "writeEdges", "()V"⟩ : Cond) ∈ lw_g := lw_gi (List.mem_append_left _ (List.mem_map.mpr ⟨_, lw_v4 (List.mem_of_getElem? (i := 2) rfl), rfl⟩)) rfl
abbrev b_Ho_shade : ByteArray := prog_1_method_25_code
def y_Ho_shade : MethodName := ⟨"DrawingHouse", "shade", "(IIII)I"⟩
abbrev z_Ho_shade : List Cond := Cond.code y_Ho_shade b_Ho_shade 5 (some .int) :: lw_g
theorem d_Ho_shade_0 : decode b_Ho_shade 0 = .ok (.iload_n 1, 1) := by decide +kernel
theorem d_Ho_shade_1 : decode b_Ho_shade 1 = .ok (.invokestatic 115, 3) := by decide +kernel
theorem d_Ho_shade_4 : decode b_Ho_shade 4 = .ok (.ifCond .eq 14, 3) := by decide +kernel
theorem d_Ho_shade_7 : decode b_Ho_shade 7 = .ok (.iload 4, 2) := by decide +kernel
theorem d_Ho_shade_9 : decode b_Ho_shade 9 = .ok (.ifCond .lt 9, 3) := by decide +kernel
theorem d_Ho_shade_12 : decode b_Ho_shade 12 = .ok (.iload 4, 2) := by decide +kernel
theorem d_Ho_shade_14 : decode b_Ho_shade 14 = .ok (.iconst 2, 1) := by decide +kernel
theorem d_Ho_shade_15 : decode b_Ho_shade 15 = .ok (.if_icmp .le 5, 3) := by decide +kernel
theorem d_Ho_shade_18 : decode b_Ho_shade 18 = .ok (.iconst (-1), 1) := by decide +kernel
theorem d_Ho_shade_19 : decode b_Ho_shade 19 = .ok (.ireturn, 1) := by decide +kernel
theorem d_Ho_shade_20 : decode b_Ho_shade 20 = .ok (.iload_n 2, 1) := by decide +kernel
theorem d_Ho_shade_21 : decode b_Ho_shade 21 = .ok (.ifCond .ne 33, 3) := by decide +kernel
theorem d_Ho_shade_24 : decode b_Ho_shade 24 = .ok (.aload_n 0, 1) := by decide +kernel
theorem d_Ho_shade_25 : decode b_Ho_shade 25 = .ok (.getfield 13, 3) := by decide +kernel
theorem d_Ho_shade_28 : decode b_Ho_shade 28 = .ok (.iload_n 1, 1) := by decide +kernel
theorem d_Ho_shade_29 : decode b_Ho_shade 29 = .ok (.aaload, 1) := by decide +kernel
theorem d_Ho_shade_30 : decode b_Ho_shade 30 = .ok (.iload_n 3, 1) := by decide +kernel
theorem d_Ho_shade_31 : decode b_Ho_shade 31 = .ok (.invokevirtual 166, 3) := by decide +kernel
theorem d_Ho_shade_34 : decode b_Ho_shade 34 = .ok (.ifCond .eq 20, 3) := by decide +kernel
theorem d_Ho_shade_54 : decode b_Ho_shade 54 = .ok (.iload_n 2, 1) := by decide +kernel
theorem d_Ho_shade_55 : decode b_Ho_shade 55 = .ok (.iconst 1, 1) := by decide +kernel
theorem d_Ho_shade_56 : decode b_Ho_shade 56 = .ok (.if_icmp .ne 36, 3) := by decide +kernel
theorem d_Ho_shade_59 : decode b_Ho_shade 59 = .ok (.aload_n 0, 1) := by decide +kernel
theorem d_Ho_shade_60 : decode b_Ho_shade 60 = .ok (.getfield 13, 3) := by decide +kernel
theorem d_Ho_shade_63 : decode b_Ho_shade 63 = .ok (.iload_n 1, 1) := by decide +kernel
theorem d_Ho_shade_64 : decode b_Ho_shade 64 = .ok (.aaload, 1) := by decide +kernel
theorem d_Ho_shade_65 : decode b_Ho_shade 65 = .ok (.iload_n 3, 1) := by decide +kernel
theorem d_Ho_shade_66 : decode b_Ho_shade 66 = .ok (.invokevirtual 197, 3) := by decide +kernel
theorem d_Ho_shade_69 : decode b_Ho_shade 69 = .ok (.ifCond .eq 23, 3) := by decide +kernel
theorem d_Ho_shade_92 : decode b_Ho_shade 92 = .ok (.iconst (-1), 1) := by decide +kernel
theorem d_Ho_shade_93 : decode b_Ho_shade 93 = .ok (.ireturn, 1) := by decide +kernel
abbrev b_Mo_shade : ByteArray := prog_15_method_231_code
def y_Mo_shade : MethodName := ⟨"DrawingHouseModel", "shade", "(IIII)I"⟩
abbrev z_Mo_shade : List Cond := Cond.code y_Mo_shade b_Mo_shade 5 (some .int) :: lw_g
theorem d_Mo_shade_0 : decode b_Mo_shade 0 = .ok (.iload_n 1, 1) := by decide +kernel
theorem d_Mo_shade_1 : decode b_Mo_shade 1 = .ok (.invokestatic 521, 3) := by decide +kernel
theorem d_Mo_shade_4 : decode b_Mo_shade 4 = .ok (.ifCond .eq 22, 3) := by decide +kernel
theorem d_Mo_shade_7 : decode b_Mo_shade 7 = .ok (.iload_n 2, 1) := by decide +kernel
theorem d_Mo_shade_8 : decode b_Mo_shade 8 = .ok (.iconst 0, 1) := by decide +kernel
theorem d_Mo_shade_9 : decode b_Mo_shade 9 = .ok (.iconst 1, 1) := by decide +kernel
theorem d_Mo_shade_10 : decode b_Mo_shade 10 = .ok (.invokestatic 387, 3) := by decide +kernel
theorem d_Mo_shade_13 : decode b_Mo_shade 13 = .ok (.ifCond .eq 13, 3) := by decide +kernel
theorem d_Mo_shade_16 : decode b_Mo_shade 16 = .ok (.iload 4, 2) := by decide +kernel
theorem d_Mo_shade_18 : decode b_Mo_shade 18 = .ok (.iconst 0, 1) := by decide +kernel
theorem d_Mo_shade_19 : decode b_Mo_shade 19 = .ok (.iconst 2, 1) := by decide +kernel
theorem d_Mo_shade_20 : decode b_Mo_shade 20 = .ok (.invokestatic 387, 3) := by decide +kernel
theorem d_Mo_shade_23 : decode b_Mo_shade 23 = .ok (.ifCond .ne 5, 3) := by decide +kernel
theorem d_Mo_shade_26 : decode b_Mo_shade 26 = .ok (.iconst (-1), 1) := by decide +kernel
theorem d_Mo_shade_27 : decode b_Mo_shade 27 = .ok (.ireturn, 1) := by decide +kernel
theorem d_Mo_shade_28 : decode b_Mo_shade 28 = .ok (.aload_n 0, 1) := by decide +kernel
theorem d_Mo_shade_29 : decode b_Mo_shade 29 = .ok (.iload_n 1, 1) := by decide +kernel
theorem d_Mo_shade_30 : decode b_Mo_shade 30 = .ok (.invokevirtual 527, 3) := by decide +kernel
theorem d_Mo_shade_33 : decode b_Mo_shade 33 = .ok (.iload_n 3, 1) := by decide +kernel
theorem d_Mo_shade_34 : decode b_Mo_shade 34 = .ok (.iconst 0, 1) := by decide +kernel
theorem d_Mo_shade_35 : decode b_Mo_shade 35 = .ok (.iload_n 2, 1) := by decide +kernel
theorem d_Mo_shade_36 : decode b_Mo_shade 36 = .ok (.ifCond .ne 10, 3) := by decide +kernel
theorem d_Mo_shade_39 : decode b_Mo_shade 39 = .ok (.aload_n 0, 1) := by decide +kernel
theorem d_Mo_shade_40 : decode b_Mo_shade 40 = .ok (.invokevirtual 475, 3) := by decide +kernel
theorem d_Mo_shade_43 : decode b_Mo_shade 43 = .ok (.goto 7, 3) := by decide +kernel
theorem d_Mo_shade_46 : decode b_Mo_shade 46 = .ok (.aload_n 0, 1) := by decide +kernel
theorem d_Mo_shade_47 : decode b_Mo_shade 47 = .ok (.invokevirtual 401, 3) := by decide +kernel
theorem d_Mo_shade_50 : decode b_Mo_shade 50 = .ok (.iconst 1, 1) := by decide +kernel
theorem d_Mo_shade_51 : decode b_Mo_shade 51 = .ok (.isub, 1) := by decide +kernel
theorem d_Mo_shade_52 : decode b_Mo_shade 52 = .ok (.invokestatic 387, 3) := by decide +kernel
theorem d_Mo_shade_55 : decode b_Mo_shade 55 = .ok (.ifCond .eq 28, 3) := by decide +kernel
theorem d_Mo_shade_83 : decode b_Mo_shade 83 = .ok (.iconst (-1), 1) := by decide +kernel
theorem d_Mo_shade_84 : decode b_Mo_shade 84 = .ok (.ireturn, 1) := by decide +kernel
abbrev b_Ho_text : ByteArray := prog_1_method_26_code
def y_Ho_text : MethodName := ⟨"DrawingHouse", "text", "(II)I"⟩
abbrev z_Ho_text : List Cond := Cond.code y_Ho_text b_Ho_text 4 (some .int) :: lw_g
theorem d_Ho_text_0 : decode b_Ho_text 0 = .ok (.iload_n 1, 1) := by decide +kernel
theorem d_Ho_text_1 : decode b_Ho_text 1 = .ok (.invokestatic 115, 3) := by decide +kernel
theorem d_Ho_text_4 : decode b_Ho_text 4 = .ok (.ifCond .eq 25, 3) := by decide +kernel
theorem d_Ho_text_7 : decode b_Ho_text 7 = .ok (.iload_n 2, 1) := by decide +kernel
theorem d_Ho_text_8 : decode b_Ho_text 8 = .ok (.ifCond .lt 21, 3) := by decide +kernel
theorem d_Ho_text_11 : decode b_Ho_text 11 = .ok (.iload_n 2, 1) := by decide +kernel
theorem d_Ho_text_12 : decode b_Ho_text 12 = .ok (.iconst 1, 1) := by decide +kernel
theorem d_Ho_text_13 : decode b_Ho_text 13 = .ok (.if_icmp .gt 16, 3) := by decide +kernel
theorem d_Ho_text_16 : decode b_Ho_text 16 = .ok (.iload_n 2, 1) := by decide +kernel
theorem d_Ho_text_17 : decode b_Ho_text 17 = .ok (.iconst 1, 1) := by decide +kernel
theorem d_Ho_text_18 : decode b_Ho_text 18 = .ok (.if_icmp .ne 13, 3) := by decide +kernel
theorem d_Ho_text_21 : decode b_Ho_text 21 = .ok (.aload_n 0, 1) := by decide +kernel
theorem d_Ho_text_22 : decode b_Ho_text 22 = .ok (.iload_n 1, 1) := by decide +kernel
theorem d_Ho_text_23 : decode b_Ho_text 23 = .ok (.invokevirtual 323, 3) := by decide +kernel
theorem d_Ho_text_26 : decode b_Ho_text 26 = .ok (.ifCond .ne 5, 3) := by decide +kernel
theorem d_Ho_text_29 : decode b_Ho_text 29 = .ok (.iconst (-1), 1) := by decide +kernel
theorem d_Ho_text_30 : decode b_Ho_text 30 = .ok (.ireturn, 1) := by decide +kernel
theorem d_Ho_text_31 : decode b_Ho_text 31 = .ok (.aload_n 0, 1) := by decide +kernel
theorem d_Ho_text_32 : decode b_Ho_text 32 = .ok (.iconst 0, 1) := by decide +kernel
theorem d_Ho_text_33 : decode b_Ho_text 33 = .ok (.putfield 70, 3) := by decide +kernel
theorem d_Ho_text_36 : decode b_Ho_text 36 = .ok (.iload_n 2, 1) := by decide +kernel
theorem d_Ho_text_37 : decode b_Ho_text 37 = .ok (.ifCond .ne 28, 3) := by decide +kernel
theorem d_Ho_text_40 : decode b_Ho_text 40 = .ok (.aload_n 0, 1) := by decide +kernel
theorem d_Ho_text_41 : decode b_Ho_text 41 = .ok (.aload_n 0, 1) := by decide +kernel
theorem d_Ho_text_42 : decode b_Ho_text 42 = .ok (.getfield 13, 3) := by decide +kernel
theorem d_Ho_text_45 : decode b_Ho_text 45 = .ok (.iload_n 1, 1) := by decide +kernel
theorem d_Ho_text_46 : decode b_Ho_text 46 = .ok (.aaload, 1) := by decide +kernel
theorem d_Ho_text_47 : decode b_Ho_text 47 = .ok (.iconst 0, 1) := by decide +kernel
theorem d_Ho_text_48 : decode b_Ho_text 48 = .ok (.iconst 0, 1) := by decide +kernel
theorem d_Ho_text_49 : decode b_Ho_text 49 = .ok (.invokevirtual 364, 3) := by decide +kernel
theorem d_Ho_text_52 : decode b_Ho_text 52 = .ok (.aload_n 0, 1) := by decide +kernel
theorem d_Ho_text_53 : decode b_Ho_text 53 = .ok (.aload_n 0, 1) := by decide +kernel
theorem d_Ho_text_54 : decode b_Ho_text 54 = .ok (.getfield 13, 3) := by decide +kernel
theorem d_Ho_text_57 : decode b_Ho_text 57 = .ok (.iload_n 1, 1) := by decide +kernel
theorem d_Ho_text_58 : decode b_Ho_text 58 = .ok (.aaload, 1) := by decide +kernel
theorem d_Ho_text_59 : decode b_Ho_text 59 = .ok (.invokevirtual 368, 3) := by decide +kernel
theorem d_Ho_text_62 : decode b_Ho_text 62 = .ok (.goto 19, 3) := by decide +kernel
theorem d_Ho_text_81 : decode b_Ho_text 81 = .ok (.aload_n 0, 1) := by decide +kernel
theorem d_Ho_text_82 : decode b_Ho_text 82 = .ok (.getfield 70, 3) := by decide +kernel
theorem d_Ho_text_85 : decode b_Ho_text 85 = .ok (.sipush 4000, 3) := by decide +kernel
theorem d_Ho_text_88 : decode b_Ho_text 88 = .ok (.if_icmp .le 5, 3) := by decide +kernel
theorem d_Ho_text_93 : decode b_Ho_text 93 = .ok (.aload_n 0, 1) := by decide +kernel
theorem d_Ho_text_94 : decode b_Ho_text 94 = .ok (.getfield 60, 3) := by decide +kernel
theorem d_Ho_text_97 : decode b_Ho_text 97 = .ok (.astore_n 3, 1) := by decide +kernel
theorem d_Ho_text_98 : decode b_Ho_text 98 = .ok (.aload_n 0, 1) := by decide +kernel
theorem d_Ho_text_99 : decode b_Ho_text 99 = .ok (.aload_n 0, 1) := by decide +kernel
theorem d_Ho_text_100 : decode b_Ho_text 100 = .ok (.getfield 64, 3) := by decide +kernel
theorem d_Ho_text_103 : decode b_Ho_text 103 = .ok (.putfield 60, 3) := by decide +kernel
theorem d_Ho_text_106 : decode b_Ho_text 106 = .ok (.aload_n 0, 1) := by decide +kernel
theorem d_Ho_text_107 : decode b_Ho_text 107 = .ok (.aload_n 3, 1) := by decide +kernel
theorem d_Ho_text_108 : decode b_Ho_text 108 = .ok (.putfield 64, 3) := by decide +kernel
theorem d_Ho_text_111 : decode b_Ho_text 111 = .ok (.aload_n 0, 1) := by decide +kernel
theorem d_Ho_text_112 : decode b_Ho_text 112 = .ok (.aload_n 0, 1) := by decide +kernel
theorem d_Ho_text_113 : decode b_Ho_text 113 = .ok (.getfield 70, 3) := by decide +kernel
theorem d_Ho_text_116 : decode b_Ho_text 116 = .ok (.putfield 67, 3) := by decide +kernel
theorem d_Ho_text_119 : decode b_Ho_text 119 = .ok (.aload_n 0, 1) := by decide +kernel
theorem d_Ho_text_120 : decode b_Ho_text 120 = .ok (.getfield 67, 3) := by decide +kernel
theorem d_Ho_text_123 : decode b_Ho_text 123 = .ok (.ireturn, 1) := by decide +kernel
abbrev b_Mo_text : ByteArray := prog_15_method_240_code
def y_Mo_text : MethodName := ⟨"DrawingHouseModel", "text", "(II)I"⟩
abbrev z_Mo_text : List Cond := Cond.code y_Mo_text b_Mo_text 4 (some .int) :: lw_g
theorem d_Mo_text_0 : decode b_Mo_text 0 = .ok (.iload_n 1, 1) := by decide +kernel
theorem d_Mo_text_1 : decode b_Mo_text 1 = .ok (.invokestatic 521, 3) := by decide +kernel
theorem d_Mo_text_4 : decode b_Mo_text 4 = .ok (.ifCond .eq 25, 3) := by decide +kernel
theorem d_Mo_text_7 : decode b_Mo_text 7 = .ok (.iload_n 2, 1) := by decide +kernel
theorem d_Mo_text_8 : decode b_Mo_text 8 = .ok (.iconst 0, 1) := by decide +kernel
theorem d_Mo_text_9 : decode b_Mo_text 9 = .ok (.iconst 1, 1) := by decide +kernel
theorem d_Mo_text_10 : decode b_Mo_text 10 = .ok (.invokestatic 387, 3) := by decide +kernel
theorem d_Mo_text_13 : decode b_Mo_text 13 = .ok (.ifCond .eq 16, 3) := by decide +kernel
theorem d_Mo_text_16 : decode b_Mo_text 16 = .ok (.iload_n 2, 1) := by decide +kernel
theorem d_Mo_text_17 : decode b_Mo_text 17 = .ok (.iconst 1, 1) := by decide +kernel
theorem d_Mo_text_18 : decode b_Mo_text 18 = .ok (.if_icmp .ne 13, 3) := by decide +kernel
theorem d_Mo_text_21 : decode b_Mo_text 21 = .ok (.aload_n 0, 1) := by decide +kernel
theorem d_Mo_text_22 : decode b_Mo_text 22 = .ok (.iload_n 1, 1) := by decide +kernel
theorem d_Mo_text_23 : decode b_Mo_text 23 = .ok (.invokevirtual 1032, 3) := by decide +kernel
theorem d_Mo_text_26 : decode b_Mo_text 26 = .ok (.ifCond .ne 5, 3) := by decide +kernel
theorem d_Mo_text_29 : decode b_Mo_text 29 = .ok (.iconst (-1), 1) := by decide +kernel
theorem d_Mo_text_30 : decode b_Mo_text 30 = .ok (.ireturn, 1) := by decide +kernel
theorem d_Mo_text_31 : decode b_Mo_text 31 = .ok (.aload_n 0, 1) := by decide +kernel
theorem d_Mo_text_32 : decode b_Mo_text 32 = .ok (.iload_n 1, 1) := by decide +kernel
theorem d_Mo_text_33 : decode b_Mo_text 33 = .ok (.invokevirtual 527, 3) := by decide +kernel
theorem d_Mo_text_36 : decode b_Mo_text 36 = .ok (.aload_n 0, 1) := by decide +kernel
theorem d_Mo_text_37 : decode b_Mo_text 37 = .ok (.iconst 0, 1) := by decide +kernel
theorem d_Mo_text_38 : decode b_Mo_text 38 = .ok (.putfield 1277, 3) := by decide +kernel
theorem d_Mo_text_41 : decode b_Mo_text 41 = .ok (.iload_n 2, 1) := by decide +kernel
theorem d_Mo_text_42 : decode b_Mo_text 42 = .ok (.ifCond .ne 15, 3) := by decide +kernel
theorem d_Mo_text_45 : decode b_Mo_text 45 = .ok (.aload_n 0, 1) := by decide +kernel
theorem d_Mo_text_46 : decode b_Mo_text 46 = .ok (.iconst 0, 1) := by decide +kernel
theorem d_Mo_text_47 : decode b_Mo_text 47 = .ok (.invokevirtual 1309, 3) := by decide +kernel
theorem d_Mo_text_50 : decode b_Mo_text 50 = .ok (.aload_n 0, 1) := by decide +kernel
theorem d_Mo_text_51 : decode b_Mo_text 51 = .ok (.invokevirtual 1320, 3) := by decide +kernel
theorem d_Mo_text_54 : decode b_Mo_text 54 = .ok (.goto 7, 3) := by decide +kernel
theorem d_Mo_text_61 : decode b_Mo_text 61 = .ok (.aload_n 0, 1) := by decide +kernel
theorem d_Mo_text_62 : decode b_Mo_text 62 = .ok (.getfield 1277, 3) := by decide +kernel
theorem d_Mo_text_65 : decode b_Mo_text 65 = .ok (.sipush 4000, 3) := by decide +kernel
theorem d_Mo_text_68 : decode b_Mo_text 68 = .ok (.if_icmp .le 5, 3) := by decide +kernel
theorem d_Mo_text_73 : decode b_Mo_text 73 = .ok (.aload_n 0, 1) := by decide +kernel
theorem d_Mo_text_74 : decode b_Mo_text 74 = .ok (.aload_n 0, 1) := by decide +kernel
theorem d_Mo_text_75 : decode b_Mo_text 75 = .ok (.getfield 1277, 3) := by decide +kernel
theorem d_Mo_text_78 : decode b_Mo_text 78 = .ok (.putfield 1326, 3) := by decide +kernel
theorem d_Mo_text_81 : decode b_Mo_text 81 = .ok (.iconst 0, 1) := by decide +kernel
theorem d_Mo_text_82 : decode b_Mo_text 82 = .ok (.istore_n 3, 1) := by decide +kernel
theorem d_Mo_text_83 : decode b_Mo_text 83 = .ok (.iload_n 3, 1) := by decide +kernel
theorem d_Mo_text_84 : decode b_Mo_text 84 = .ok (.aload_n 0, 1) := by decide +kernel
theorem d_Mo_text_85 : decode b_Mo_text 85 = .ok (.getfield 1277, 3) := by decide +kernel
theorem d_Mo_text_88 : decode b_Mo_text 88 = .ok (.if_icmp .ge 21, 3) := by decide +kernel
theorem d_Mo_text_109 : decode b_Mo_text 109 = .ok (.aload_n 0, 1) := by decide +kernel
theorem d_Mo_text_110 : decode b_Mo_text 110 = .ok (.getfield 1277, 3) := by decide +kernel
theorem d_Mo_text_113 : decode b_Mo_text 113 = .ok (.ireturn, 1) := by decide +kernel
abbrev b_Ho_writeGroup : ByteArray := prog_1_method_41_code
def y_Ho_writeGroup : MethodName := ⟨"DrawingHouse", "writeGroup", "(LDrawingHouse$Graph;II)V"⟩
abbrev z_Ho_writeGroup : List Cond := Cond.code y_Ho_writeGroup b_Ho_writeGroup 5 none :: lw_g
theorem d_Ho_writeGroup_0 : decode b_Ho_writeGroup 0 = .ok (.iconst 0, 1) := by decide +kernel
theorem d_Ho_writeGroup_1 : decode b_Ho_writeGroup 1 = .ok (.istore 4, 2) := by decide +kernel
theorem d_Ho_writeGroup_3 : decode b_Ho_writeGroup 3 = .ok (.iload 4, 2) := by decide +kernel
theorem d_Ho_writeGroup_5 : decode b_Ho_writeGroup 5 = .ok (.aload_n 1, 1) := by decide +kernel
theorem d_Ho_writeGroup_6 : decode b_Ho_writeGroup 6 = .ok (.getfield 132, 3) := by decide +kernel
theorem d_Ho_writeGroup_9 : decode b_Ho_writeGroup 9 = .ok (.if_icmp .ge 86, 3) := by decide +kernel
theorem d_Ho_writeGroup_95 : decode b_Ho_writeGroup 95 = .ok (.iload_n 2, 1) := by decide +kernel
theorem d_Ho_writeGroup_96 : decode b_Ho_writeGroup 96 = .ok (.iconst 1, 1) := by decide +kernel
theorem d_Ho_writeGroup_97 : decode b_Ho_writeGroup 97 = .ok (.iadd, 1) := by decide +kernel
theorem d_Ho_writeGroup_98 : decode b_Ho_writeGroup 98 = .ok (.istore 4, 2) := by decide +kernel
theorem d_Ho_writeGroup_100 : decode b_Ho_writeGroup 100 = .ok (.iload 4, 2) := by decide +kernel
theorem d_Ho_writeGroup_102 : decode b_Ho_writeGroup 102 = .ok (.aload_n 1, 1) := by decide +kernel
theorem d_Ho_writeGroup_103 : decode b_Ho_writeGroup 103 = .ok (.getfield 144, 3) := by decide +kernel
theorem d_Ho_writeGroup_106 : decode b_Ho_writeGroup 106 = .ok (.if_icmp .ge 73, 3) := by decide +kernel
theorem d_Ho_writeGroup_179 : decode b_Ho_writeGroup 179 = .ok (.return_, 1) := by decide +kernel
abbrev b_Ho_writeEdges : ByteArray := prog_1_method_42_code
def y_Ho_writeEdges : MethodName := ⟨"DrawingHouse", "writeEdges", "(LDrawingHouse$Graph;)V"⟩
abbrev z_Ho_writeEdges : List Cond := Cond.code y_Ho_writeEdges b_Ho_writeEdges 3 none :: lw_g
theorem d_Ho_writeEdges_0 : decode b_Ho_writeEdges 0 = .ok (.iconst 0, 1) := by decide +kernel
theorem d_Ho_writeEdges_1 : decode b_Ho_writeEdges 1 = .ok (.istore_n 2, 1) := by decide +kernel
theorem d_Ho_writeEdges_2 : decode b_Ho_writeEdges 2 = .ok (.iload_n 2, 1) := by decide +kernel
theorem d_Ho_writeEdges_3 : decode b_Ho_writeEdges 3 = .ok (.aload_n 1, 1) := by decide +kernel
theorem d_Ho_writeEdges_4 : decode b_Ho_writeEdges 4 = .ok (.getfield 141, 3) := by decide +kernel
theorem d_Ho_writeEdges_7 : decode b_Ho_writeEdges 7 = .ok (.if_icmp .ge 122, 3) := by decide +kernel
theorem d_Ho_writeEdges_129 : decode b_Ho_writeEdges 129 = .ok (.return_, 1) := by decide +kernel
abbrev b_Mo_groups : ByteArray := prog_15_method_13_code
def y_Mo_groups : MethodName := ⟨"DrawingHouseModel", "groups", "()I"⟩
abbrev z_Mo_groups : List Cond := Cond.code y_Mo_groups b_Mo_groups 1 (some .int) :: lw_g
theorem d_Mo_groups_0 : decode b_Mo_groups 0 = .ok (.aload_n 0, 1) := by decide +kernel
theorem d_Mo_groups_1 : decode b_Mo_groups 1 = .ok (.getfield 16, 3) := by decide +kernel
theorem d_Mo_groups_4 : decode b_Mo_groups 4 = .ok (.aload_n 0, 1) := by decide +kernel
theorem d_Mo_groups_5 : decode b_Mo_groups 5 = .ok (.getfield 391, 3) := by decide +kernel
theorem d_Mo_groups_8 : decode b_Mo_groups 8 = .ok (.iconst 2, 1) := by decide +kernel
theorem d_Mo_groups_9 : decode b_Mo_groups 9 = .ok (.iadd, 1) := by decide +kernel
theorem d_Mo_groups_10 : decode b_Mo_groups 10 = .ok (.iaload, 1) := by decide +kernel
theorem d_Mo_groups_11 : decode b_Mo_groups 11 = .ok (.ireturn, 1) := by decide +kernel
abbrev b_Mo_writeGroup : ByteArray := prog_15_method_237_code
def y_Mo_writeGroup : MethodName := ⟨"DrawingHouseModel", "writeGroup", "(I)V"⟩
abbrev z_Mo_writeGroup : List Cond := Cond.code y_Mo_writeGroup b_Mo_writeGroup 3 none :: lw_g
theorem d_Mo_writeGroup_0 : decode b_Mo_writeGroup 0 = .ok (.iconst 0, 1) := by decide +kernel
theorem d_Mo_writeGroup_1 : decode b_Mo_writeGroup 1 = .ok (.istore_n 2, 1) := by decide +kernel
theorem d_Mo_writeGroup_2 : decode b_Mo_writeGroup 2 = .ok (.iload_n 2, 1) := by decide +kernel
theorem d_Mo_writeGroup_3 : decode b_Mo_writeGroup 3 = .ok (.aload_n 0, 1) := by decide +kernel
theorem d_Mo_writeGroup_4 : decode b_Mo_writeGroup 4 = .ok (.invokevirtual 475, 3) := by decide +kernel
theorem d_Mo_writeGroup_7 : decode b_Mo_writeGroup 7 = .ok (.if_icmp .ge 72, 3) := by decide +kernel
theorem d_Mo_writeGroup_79 : decode b_Mo_writeGroup 79 = .ok (.iload_n 1, 1) := by decide +kernel
theorem d_Mo_writeGroup_80 : decode b_Mo_writeGroup 80 = .ok (.iconst 1, 1) := by decide +kernel
theorem d_Mo_writeGroup_81 : decode b_Mo_writeGroup 81 = .ok (.iadd, 1) := by decide +kernel
theorem d_Mo_writeGroup_82 : decode b_Mo_writeGroup 82 = .ok (.istore_n 2, 1) := by decide +kernel
theorem d_Mo_writeGroup_83 : decode b_Mo_writeGroup 83 = .ok (.iload_n 2, 1) := by decide +kernel
theorem d_Mo_writeGroup_84 : decode b_Mo_writeGroup 84 = .ok (.aload_n 0, 1) := by decide +kernel
theorem d_Mo_writeGroup_85 : decode b_Mo_writeGroup 85 = .ok (.invokevirtual 509, 3) := by decide +kernel
theorem d_Mo_writeGroup_88 : decode b_Mo_writeGroup 88 = .ok (.if_icmp .ge 89, 3) := by decide +kernel
theorem d_Mo_writeGroup_177 : decode b_Mo_writeGroup 177 = .ok (.return_, 1) := by decide +kernel
abbrev b_Mo_writeEdges : ByteArray := prog_15_method_238_code
def y_Mo_writeEdges : MethodName := ⟨"DrawingHouseModel", "writeEdges", "()V"⟩
abbrev z_Mo_writeEdges : List Cond := Cond.code y_Mo_writeEdges b_Mo_writeEdges 2 none :: lw_g
theorem d_Mo_writeEdges_0 : decode b_Mo_writeEdges 0 = .ok (.iconst 0, 1) := by decide +kernel
theorem d_Mo_writeEdges_1 : decode b_Mo_writeEdges 1 = .ok (.istore_n 1, 1) := by decide +kernel
theorem d_Mo_writeEdges_2 : decode b_Mo_writeEdges 2 = .ok (.iload_n 1, 1) := by decide +kernel
theorem d_Mo_writeEdges_3 : decode b_Mo_writeEdges 3 = .ok (.aload_n 0, 1) := by decide +kernel
theorem d_Mo_writeEdges_4 : decode b_Mo_writeEdges 4 = .ok (.invokevirtual 401, 3) := by decide +kernel
theorem d_Mo_writeEdges_7 : decode b_Mo_writeEdges 7 = .ok (.if_icmp .ge 88, 3) := by decide +kernel
theorem d_Mo_writeEdges_95 : decode b_Mo_writeEdges 95 = .ok (.return_, 1) := by decide +kernel
abbrev b_Ho_octet : ByteArray := prog_1_method_27_code
def y_Ho_octet : MethodName := ⟨"DrawingHouse", "octet", "(I)I"⟩
abbrev z_Ho_octet : List Cond := Cond.code y_Ho_octet b_Ho_octet 2 (some .int) :: lw_g
theorem d_Ho_octet_0 : decode b_Ho_octet 0 = .ok (.iload_n 1, 1) := by decide +kernel
theorem d_Ho_octet_1 : decode b_Ho_octet 1 = .ok (.ifCond .lt 20, 3) := by decide +kernel
theorem d_Ho_octet_4 : decode b_Ho_octet 4 = .ok (.iload_n 1, 1) := by decide +kernel
theorem d_Ho_octet_5 : decode b_Ho_octet 5 = .ok (.aload_n 0, 1) := by decide +kernel
theorem d_Ho_octet_6 : decode b_Ho_octet 6 = .ok (.getfield 67, 3) := by decide +kernel
theorem d_Ho_octet_9 : decode b_Ho_octet 9 = .ok (.if_icmp .ge 12, 3) := by decide +kernel
theorem d_Ho_octet_21 : decode b_Ho_octet 21 = .ok (.iconst (-1), 1) := by decide +kernel
theorem d_Ho_octet_22 : decode b_Ho_octet 22 = .ok (.ireturn, 1) := by decide +kernel
abbrev b_Mo_octet : ByteArray := prog_15_method_241_code
def y_Mo_octet : MethodName := ⟨"DrawingHouseModel", "octet", "(I)I"⟩
abbrev z_Mo_octet : List Cond := Cond.code y_Mo_octet b_Mo_octet 2 (some .int) :: lw_g
theorem d_Mo_octet_0 : decode b_Mo_octet 0 = .ok (.iload_n 1, 1) := by decide +kernel
theorem d_Mo_octet_1 : decode b_Mo_octet 1 = .ok (.iconst 0, 1) := by decide +kernel
theorem d_Mo_octet_2 : decode b_Mo_octet 2 = .ok (.aload_n 0, 1) := by decide +kernel
theorem d_Mo_octet_3 : decode b_Mo_octet 3 = .ok (.getfield 1326, 3) := by decide +kernel
theorem d_Mo_octet_6 : decode b_Mo_octet 6 = .ok (.iconst 1, 1) := by decide +kernel
theorem d_Mo_octet_7 : decode b_Mo_octet 7 = .ok (.isub, 1) := by decide +kernel
theorem d_Mo_octet_8 : decode b_Mo_octet 8 = .ok (.invokestatic 387, 3) := by decide +kernel
theorem d_Mo_octet_11 : decode b_Mo_octet 11 = .ok (.ifCond .eq 12, 3) := by decide +kernel
theorem d_Mo_octet_23 : decode b_Mo_octet 23 = .ok (.iconst (-1), 1) := by decide +kernel
theorem d_Mo_octet_24 : decode b_Mo_octet 24 = .ok (.ireturn, 1) := by decide +kernel
abbrev b_Ho_dots : ByteArray := prog_1_method_28_code
def y_Ho_dots : MethodName := ⟨"DrawingHouse", "dots", "(III)I"⟩
abbrev z_Ho_dots : List Cond := Cond.code y_Ho_dots b_Ho_dots 8 (some .int) :: lw_g
theorem d_Ho_dots_0 : decode b_Ho_dots 0 = .ok (.aload_n 0, 1) := by decide +kernel
theorem d_Ho_dots_1 : decode b_Ho_dots 1 = .ok (.iload_n 1, 1) := by decide +kernel
theorem d_Ho_dots_2 : decode b_Ho_dots 2 = .ok (.invokevirtual 323, 3) := by decide +kernel
theorem d_Ho_dots_5 : decode b_Ho_dots 5 = .ok (.ifCond .eq 25, 3) := by decide +kernel
theorem d_Ho_dots_30 : decode b_Ho_dots 30 = .ok (.iconst (-1), 1) := by decide +kernel
theorem d_Ho_dots_31 : decode b_Ho_dots 31 = .ok (.ireturn, 1) := by decide +kernel
abbrev b_Mo_dots : ByteArray := prog_15_method_242_code
def y_Mo_dots : MethodName := ⟨"DrawingHouseModel", "dots", "(III)I"⟩
abbrev z_Mo_dots : List Cond := Cond.code y_Mo_dots b_Mo_dots 6 (some .int) :: lw_g
theorem d_Mo_dots_0 : decode b_Mo_dots 0 = .ok (.aload_n 0, 1) := by decide +kernel
theorem d_Mo_dots_1 : decode b_Mo_dots 1 = .ok (.iload_n 1, 1) := by decide +kernel
theorem d_Mo_dots_2 : decode b_Mo_dots 2 = .ok (.invokevirtual 1032, 3) := by decide +kernel
theorem d_Mo_dots_5 : decode b_Mo_dots 5 = .ok (.ifCond .eq 23, 3) := by decide +kernel
theorem d_Mo_dots_28 : decode b_Mo_dots 28 = .ok (.iconst (-1), 1) := by decide +kernel
theorem d_Mo_dots_29 : decode b_Mo_dots 29 = .ok (.ireturn, 1) := by decide +kernel
abbrev b_Ho_dot : ByteArray := prog_1_method_29_code
def y_Ho_dot : MethodName := ⟨"DrawingHouse", "dot", "(II)I"⟩
abbrev z_Ho_dot : List Cond := Cond.code y_Ho_dot b_Ho_dot 3 (some .int) :: lw_g
theorem d_Ho_dot_0 : decode b_Ho_dot 0 = .ok (.iload_n 1, 1) := by decide +kernel
theorem d_Ho_dot_1 : decode b_Ho_dot 1 = .ok (.ifCond .lt 23, 3) := by decide +kernel
theorem d_Ho_dot_4 : decode b_Ho_dot 4 = .ok (.iload_n 1, 1) := by decide +kernel
theorem d_Ho_dot_5 : decode b_Ho_dot 5 = .ok (.aload_n 0, 1) := by decide +kernel
theorem d_Ho_dot_6 : decode b_Ho_dot 6 = .ok (.getfield 76, 3) := by decide +kernel
theorem d_Ho_dot_9 : decode b_Ho_dot 9 = .ok (.if_icmp .ge 15, 3) := by decide +kernel
theorem d_Ho_dot_24 : decode b_Ho_dot 24 = .ok (.iconst (-1), 1) := by decide +kernel
theorem d_Ho_dot_25 : decode b_Ho_dot 25 = .ok (.ireturn, 1) := by decide +kernel
abbrev b_Mo_dot : ByteArray := prog_15_method_246_code
def y_Mo_dot : MethodName := ⟨"DrawingHouseModel", "dot", "(II)I"⟩
abbrev z_Mo_dot : List Cond := Cond.code y_Mo_dot b_Mo_dot 3 (some .int) :: lw_g
theorem d_Mo_dot_0 : decode b_Mo_dot 0 = .ok (.iload_n 1, 1) := by decide +kernel
theorem d_Mo_dot_1 : decode b_Mo_dot 1 = .ok (.iconst 0, 1) := by decide +kernel
theorem d_Mo_dot_2 : decode b_Mo_dot 2 = .ok (.aload_n 0, 1) := by decide +kernel
theorem d_Mo_dot_3 : decode b_Mo_dot 3 = .ok (.getfield 1329, 3) := by decide +kernel
theorem d_Mo_dot_6 : decode b_Mo_dot 6 = .ok (.iconst 1, 1) := by decide +kernel
theorem d_Mo_dot_7 : decode b_Mo_dot 7 = .ok (.isub, 1) := by decide +kernel
theorem d_Mo_dot_8 : decode b_Mo_dot 8 = .ok (.invokestatic 387, 3) := by decide +kernel
theorem d_Mo_dot_11 : decode b_Mo_dot 11 = .ok (.ifCond .eq 31, 3) := by decide +kernel
theorem d_Mo_dot_42 : decode b_Mo_dot 42 = .ok (.iconst (-1), 1) := by decide +kernel
theorem d_Mo_dot_43 : decode b_Mo_dot 43 = .ok (.ireturn, 1) := by decide +kernel
theorem d_law_law_1110 : decode b_law_law 1110 = .ok (.aload_n 1, 1) := by decide +kernel
theorem d_law_law_1111 : decode b_law_law 1111 = .ok (.aload_n 0, 1) := by decide +kernel
theorem d_law_law_1112 : decode b_law_law 1112 = .ok (.iload_n 3, 1) := by decide +kernel
theorem d_law_law_1113 : decode b_law_law 1113 = .ok (.iconst 1, 1) := by decide +kernel
theorem d_law_law_1114 : decode b_law_law 1114 = .ok (.iadd, 1) := by decide +kernel
theorem d_law_law_1115 : decode b_law_law 1115 = .ok (.iaload, 1) := by decide +kernel
theorem d_law_law_1116 : decode b_law_law 1116 = .ok (.aload_n 0, 1) := by decide +kernel
theorem d_law_law_1117 : decode b_law_law 1117 = .ok (.iload_n 3, 1) := by decide +kernel
theorem d_law_law_1118 : decode b_law_law 1118 = .ok (.iconst 2, 1) := by decide +kernel
theorem d_law_law_1119 : decode b_law_law 1119 = .ok (.iadd, 1) := by decide +kernel
theorem d_law_law_1120 : decode b_law_law 1120 = .ok (.iaload, 1) := by decide +kernel
theorem d_law_law_1121 : decode b_law_law 1121 = .ok (.aload_n 0, 1) := by decide +kernel
theorem d_law_law_1122 : decode b_law_law 1122 = .ok (.iload_n 3, 1) := by decide +kernel
theorem d_law_law_1123 : decode b_law_law 1123 = .ok (.iconst 3, 1) := by decide +kernel
theorem d_law_law_1124 : decode b_law_law 1124 = .ok (.iadd, 1) := by decide +kernel
theorem d_law_law_1125 : decode b_law_law 1125 = .ok (.iaload, 1) := by decide +kernel
theorem d_law_law_1126 : decode b_law_law 1126 = .ok (.aload_n 0, 1) := by decide +kernel
theorem d_law_law_1127 : decode b_law_law 1127 = .ok (.iload_n 3, 1) := by decide +kernel
theorem d_law_law_1128 : decode b_law_law 1128 = .ok (.iconst 4, 1) := by decide +kernel
theorem d_law_law_1129 : decode b_law_law 1129 = .ok (.iadd, 1) := by decide +kernel
theorem d_law_law_1130 : decode b_law_law 1130 = .ok (.iaload, 1) := by decide +kernel
theorem d_law_law_1131 : decode b_law_law 1131 = .ok (.invokevirtual 113, 3) := by decide +kernel
theorem d_law_law_1134 : decode b_law_law 1134 = .ok (.aload_n 2, 1) := by decide +kernel
theorem d_law_law_1135 : decode b_law_law 1135 = .ok (.aload_n 0, 1) := by decide +kernel
theorem d_law_law_1136 : decode b_law_law 1136 = .ok (.iload_n 3, 1) := by decide +kernel
theorem d_law_law_1137 : decode b_law_law 1137 = .ok (.iconst 1, 1) := by decide +kernel
theorem d_law_law_1138 : decode b_law_law 1138 = .ok (.iadd, 1) := by decide +kernel
theorem d_law_law_1139 : decode b_law_law 1139 = .ok (.iaload, 1) := by decide +kernel
theorem d_law_law_1140 : decode b_law_law 1140 = .ok (.aload_n 0, 1) := by decide +kernel
theorem d_law_law_1141 : decode b_law_law 1141 = .ok (.iload_n 3, 1) := by decide +kernel
theorem d_law_law_1142 : decode b_law_law 1142 = .ok (.iconst 2, 1) := by decide +kernel
theorem d_law_law_1143 : decode b_law_law 1143 = .ok (.iadd, 1) := by decide +kernel
theorem d_law_law_1144 : decode b_law_law 1144 = .ok (.iaload, 1) := by decide +kernel
theorem d_law_law_1145 : decode b_law_law 1145 = .ok (.aload_n 0, 1) := by decide +kernel
theorem d_law_law_1146 : decode b_law_law 1146 = .ok (.iload_n 3, 1) := by decide +kernel
theorem d_law_law_1147 : decode b_law_law 1147 = .ok (.iconst 3, 1) := by decide +kernel
theorem d_law_law_1148 : decode b_law_law 1148 = .ok (.iadd, 1) := by decide +kernel
theorem d_law_law_1149 : decode b_law_law 1149 = .ok (.iaload, 1) := by decide +kernel
theorem d_law_law_1150 : decode b_law_law 1150 = .ok (.aload_n 0, 1) := by decide +kernel
theorem d_law_law_1151 : decode b_law_law 1151 = .ok (.iload_n 3, 1) := by decide +kernel
theorem d_law_law_1152 : decode b_law_law 1152 = .ok (.iconst 4, 1) := by decide +kernel
theorem d_law_law_1153 : decode b_law_law 1153 = .ok (.iadd, 1) := by decide +kernel
theorem d_law_law_1154 : decode b_law_law 1154 = .ok (.iaload, 1) := by decide +kernel
theorem d_law_law_1155 : decode b_law_law 1155 = .ok (.invokevirtual 116, 3) := by decide +kernel
theorem d_law_law_1158 : decode b_law_law 1158 = .ok (.if_icmp .eq 137, 3) := by decide +kernel
theorem d_law_law_1163 : decode b_law_law 1163 = .ok (.aload_n 1, 1) := by decide +kernel
theorem d_law_law_1164 : decode b_law_law 1164 = .ok (.aload_n 0, 1) := by decide +kernel
theorem d_law_law_1165 : decode b_law_law 1165 = .ok (.iload_n 3, 1) := by decide +kernel
theorem d_law_law_1166 : decode b_law_law 1166 = .ok (.iconst 1, 1) := by decide +kernel
theorem d_law_law_1167 : decode b_law_law 1167 = .ok (.iadd, 1) := by decide +kernel
theorem d_law_law_1168 : decode b_law_law 1168 = .ok (.iaload, 1) := by decide +kernel
theorem d_law_law_1169 : decode b_law_law 1169 = .ok (.aload_n 0, 1) := by decide +kernel
theorem d_law_law_1170 : decode b_law_law 1170 = .ok (.iload_n 3, 1) := by decide +kernel
theorem d_law_law_1171 : decode b_law_law 1171 = .ok (.iconst 2, 1) := by decide +kernel
theorem d_law_law_1172 : decode b_law_law 1172 = .ok (.iadd, 1) := by decide +kernel
theorem d_law_law_1173 : decode b_law_law 1173 = .ok (.iaload, 1) := by decide +kernel
theorem d_law_law_1174 : decode b_law_law 1174 = .ok (.invokevirtual 117, 3) := by decide +kernel
theorem d_law_law_1177 : decode b_law_law 1177 = .ok (.aload_n 2, 1) := by decide +kernel
theorem d_law_law_1178 : decode b_law_law 1178 = .ok (.aload_n 0, 1) := by decide +kernel
theorem d_law_law_1179 : decode b_law_law 1179 = .ok (.iload_n 3, 1) := by decide +kernel
theorem d_law_law_1180 : decode b_law_law 1180 = .ok (.iconst 1, 1) := by decide +kernel
theorem d_law_law_1181 : decode b_law_law 1181 = .ok (.iadd, 1) := by decide +kernel
theorem d_law_law_1182 : decode b_law_law 1182 = .ok (.iaload, 1) := by decide +kernel
theorem d_law_law_1183 : decode b_law_law 1183 = .ok (.aload_n 0, 1) := by decide +kernel
theorem d_law_law_1184 : decode b_law_law 1184 = .ok (.iload_n 3, 1) := by decide +kernel
theorem d_law_law_1185 : decode b_law_law 1185 = .ok (.iconst 2, 1) := by decide +kernel
theorem d_law_law_1186 : decode b_law_law 1186 = .ok (.iadd, 1) := by decide +kernel
theorem d_law_law_1187 : decode b_law_law 1187 = .ok (.iaload, 1) := by decide +kernel
theorem d_law_law_1188 : decode b_law_law 1188 = .ok (.invokevirtual 120, 3) := by decide +kernel
theorem d_law_law_1191 : decode b_law_law 1191 = .ok (.if_icmp .eq 104, 3) := by decide +kernel
theorem d_law_law_1196 : decode b_law_law 1196 = .ok (.aload_n 1, 1) := by decide +kernel
theorem d_law_law_1197 : decode b_law_law 1197 = .ok (.aload_n 0, 1) := by decide +kernel
theorem d_law_law_1198 : decode b_law_law 1198 = .ok (.iload_n 3, 1) := by decide +kernel
theorem d_law_law_1199 : decode b_law_law 1199 = .ok (.iconst 1, 1) := by decide +kernel
theorem d_law_law_1200 : decode b_law_law 1200 = .ok (.iadd, 1) := by decide +kernel
theorem d_law_law_1201 : decode b_law_law 1201 = .ok (.iaload, 1) := by decide +kernel
theorem d_law_law_1202 : decode b_law_law 1202 = .ok (.invokevirtual 121, 3) := by decide +kernel
theorem d_law_law_1205 : decode b_law_law 1205 = .ok (.aload_n 2, 1) := by decide +kernel
theorem d_law_law_1206 : decode b_law_law 1206 = .ok (.aload_n 0, 1) := by decide +kernel
theorem d_law_law_1207 : decode b_law_law 1207 = .ok (.iload_n 3, 1) := by decide +kernel
theorem d_law_law_1208 : decode b_law_law 1208 = .ok (.iconst 1, 1) := by decide +kernel
theorem d_law_law_1209 : decode b_law_law 1209 = .ok (.iadd, 1) := by decide +kernel
theorem d_law_law_1210 : decode b_law_law 1210 = .ok (.iaload, 1) := by decide +kernel
theorem d_law_law_1211 : decode b_law_law 1211 = .ok (.invokevirtual 124, 3) := by decide +kernel
theorem d_law_law_1214 : decode b_law_law 1214 = .ok (.if_icmp .eq 81, 3) := by decide +kernel
theorem d_law_law_1219 : decode b_law_law 1219 = .ok (.aload_n 1, 1) := by decide +kernel
theorem d_law_law_1220 : decode b_law_law 1220 = .ok (.aload_n 0, 1) := by decide +kernel
theorem d_law_law_1221 : decode b_law_law 1221 = .ok (.iload_n 3, 1) := by decide +kernel
theorem d_law_law_1222 : decode b_law_law 1222 = .ok (.iconst 1, 1) := by decide +kernel
theorem d_law_law_1223 : decode b_law_law 1223 = .ok (.iadd, 1) := by decide +kernel
theorem d_law_law_1224 : decode b_law_law 1224 = .ok (.iaload, 1) := by decide +kernel
theorem d_law_law_1225 : decode b_law_law 1225 = .ok (.aload_n 0, 1) := by decide +kernel
theorem d_law_law_1226 : decode b_law_law 1226 = .ok (.iload_n 3, 1) := by decide +kernel
theorem d_law_law_1227 : decode b_law_law 1227 = .ok (.iconst 2, 1) := by decide +kernel
theorem d_law_law_1228 : decode b_law_law 1228 = .ok (.iadd, 1) := by decide +kernel
theorem d_law_law_1229 : decode b_law_law 1229 = .ok (.iaload, 1) := by decide +kernel
theorem d_law_law_1230 : decode b_law_law 1230 = .ok (.aload_n 0, 1) := by decide +kernel
theorem d_law_law_1231 : decode b_law_law 1231 = .ok (.iload_n 3, 1) := by decide +kernel
theorem d_law_law_1232 : decode b_law_law 1232 = .ok (.iconst 3, 1) := by decide +kernel
theorem d_law_law_1233 : decode b_law_law 1233 = .ok (.iadd, 1) := by decide +kernel
theorem d_law_law_1234 : decode b_law_law 1234 = .ok (.iaload, 1) := by decide +kernel
theorem d_law_law_1235 : decode b_law_law 1235 = .ok (.invokevirtual 125, 3) := by decide +kernel
theorem d_law_law_1238 : decode b_law_law 1238 = .ok (.aload_n 2, 1) := by decide +kernel
theorem d_law_law_1239 : decode b_law_law 1239 = .ok (.aload_n 0, 1) := by decide +kernel
theorem d_law_law_1240 : decode b_law_law 1240 = .ok (.iload_n 3, 1) := by decide +kernel
theorem d_law_law_1241 : decode b_law_law 1241 = .ok (.iconst 1, 1) := by decide +kernel
theorem d_law_law_1242 : decode b_law_law 1242 = .ok (.iadd, 1) := by decide +kernel
theorem d_law_law_1243 : decode b_law_law 1243 = .ok (.iaload, 1) := by decide +kernel
theorem d_law_law_1244 : decode b_law_law 1244 = .ok (.aload_n 0, 1) := by decide +kernel
theorem d_law_law_1245 : decode b_law_law 1245 = .ok (.iload_n 3, 1) := by decide +kernel
theorem d_law_law_1246 : decode b_law_law 1246 = .ok (.iconst 2, 1) := by decide +kernel
theorem d_law_law_1247 : decode b_law_law 1247 = .ok (.iadd, 1) := by decide +kernel
theorem d_law_law_1248 : decode b_law_law 1248 = .ok (.iaload, 1) := by decide +kernel
theorem d_law_law_1249 : decode b_law_law 1249 = .ok (.aload_n 0, 1) := by decide +kernel
theorem d_law_law_1250 : decode b_law_law 1250 = .ok (.iload_n 3, 1) := by decide +kernel
theorem d_law_law_1251 : decode b_law_law 1251 = .ok (.iconst 3, 1) := by decide +kernel
theorem d_law_law_1252 : decode b_law_law 1252 = .ok (.iadd, 1) := by decide +kernel
theorem d_law_law_1253 : decode b_law_law 1253 = .ok (.iaload, 1) := by decide +kernel
theorem d_law_law_1254 : decode b_law_law 1254 = .ok (.invokevirtual 128, 3) := by decide +kernel
theorem d_law_law_1257 : decode b_law_law 1257 = .ok (.if_icmp .eq 38, 3) := by decide +kernel
theorem d_law_law_1262 : decode b_law_law 1262 = .ok (.aload_n 1, 1) := by decide +kernel
theorem d_law_law_1263 : decode b_law_law 1263 = .ok (.aload_n 0, 1) := by decide +kernel
theorem d_law_law_1264 : decode b_law_law 1264 = .ok (.iload_n 3, 1) := by decide +kernel
theorem d_law_law_1265 : decode b_law_law 1265 = .ok (.iconst 1, 1) := by decide +kernel
theorem d_law_law_1266 : decode b_law_law 1266 = .ok (.iadd, 1) := by decide +kernel
theorem d_law_law_1267 : decode b_law_law 1267 = .ok (.iaload, 1) := by decide +kernel
theorem d_law_law_1268 : decode b_law_law 1268 = .ok (.aload_n 0, 1) := by decide +kernel
theorem d_law_law_1269 : decode b_law_law 1269 = .ok (.iload_n 3, 1) := by decide +kernel
theorem d_law_law_1270 : decode b_law_law 1270 = .ok (.iconst 2, 1) := by decide +kernel
theorem d_law_law_1271 : decode b_law_law 1271 = .ok (.iadd, 1) := by decide +kernel
theorem d_law_law_1272 : decode b_law_law 1272 = .ok (.iaload, 1) := by decide +kernel
theorem d_law_law_1273 : decode b_law_law 1273 = .ok (.invokevirtual 129, 3) := by decide +kernel
theorem d_law_law_1276 : decode b_law_law 1276 = .ok (.aload_n 2, 1) := by decide +kernel
theorem d_law_law_1277 : decode b_law_law 1277 = .ok (.aload_n 0, 1) := by decide +kernel
theorem d_law_law_1278 : decode b_law_law 1278 = .ok (.iload_n 3, 1) := by decide +kernel
theorem d_law_law_1279 : decode b_law_law 1279 = .ok (.iconst 1, 1) := by decide +kernel
theorem d_law_law_1280 : decode b_law_law 1280 = .ok (.iadd, 1) := by decide +kernel
theorem d_law_law_1281 : decode b_law_law 1281 = .ok (.iaload, 1) := by decide +kernel
theorem d_law_law_1282 : decode b_law_law 1282 = .ok (.aload_n 0, 1) := by decide +kernel
theorem d_law_law_1283 : decode b_law_law 1283 = .ok (.iload_n 3, 1) := by decide +kernel
theorem d_law_law_1284 : decode b_law_law 1284 = .ok (.iconst 2, 1) := by decide +kernel
theorem d_law_law_1285 : decode b_law_law 1285 = .ok (.iadd, 1) := by decide +kernel
theorem d_law_law_1286 : decode b_law_law 1286 = .ok (.iaload, 1) := by decide +kernel
theorem d_law_law_1287 : decode b_law_law 1287 = .ok (.invokevirtual 132, 3) := by decide +kernel
theorem d_law_law_1290 : decode b_law_law 1290 = .ok (.if_icmp .eq 5, 3) := by decide +kernel
set_option maxRecDepth 100000 in
set_option maxHeartbeats 4000000 in
/-- DrawingHouse.shade(IIII)I -/
theorem c_Ho_shade_z1 (l : Launch) (D : va_G) (kA : Nat → ClassId) (a0 : Nat) (v1 : Int32) (v2 : Int32) (v3 : Int32) (v4 : Int32) (hg : sp_Ho_isPlace v1 = 0) (hgM : sp_Mo_isPlace v1 = 0) : Ci l y_Ho_shade z_Ho_shade { frames := 1, cells := 0, slots := 0, locals := 20 } D classes (TY kA) [.ref a0, .int v1, .int v2, .int v3, .int v4] [] (fun r (_ : List va_W) => r = (-1)) (fun u => u) 0 0 := by
  intro sz
  refine k_met (cc := b_Ho_shade) (maxL := 5) (ret := (some .int)) (by decide) rfl (Nat.le_of_ble_eq_true rfl) (fun p e s m below meth c ls X hl hB => ?_)
  obtain ⟨hsz, hP, hK, hD0, hN⟩ := hB
  subst hsz
  have hD := hD0.self (sz := s.heap.size)
  generalize hAe : va_A (cat []) s.heap.size = A at hD ⊢
  have hA : ∀ q : Nat, s.heap.size ≤ q → A q := fun q h => by rw [← hAe]; exact Or.inr h
  have hS : va_S A s.heap s.heap [] := va_S.rf
  obtain ⟨hx, hb, hml, hown, hts, hr, hlk, hnm⟩ := id X
  have hl : lv_has ls 5 [(0, .ref a0), (1, .int v1), (2, .int v2), (3, .int v3), (4, .int v4)] := hl
  have hP : va_P D classes (cat []) s.heap := hP
  have hK : va_K D classes (TY kA) s := hK
  refine lv_iload_n (pc := 0) hx hb d_Ho_shade_0 rfl (lv_at hl 1 rfl) ?_
  refine k_goI (gr := []) (k_rS (pc := 1) (As := [.int v1]) (rest := []) X (c_Ho_isPlace l D kA v1 s.heap.size) rfl wm_633 wm_1 wm_631 wm_632 1 (by decide +kernel) ⟨Nat.le_of_ble_eq_true rfl, Nat.le_of_ble_eq_true rfl⟩ rfl rfl (k_pre hN hK hP hD [] [] 0 rfl (by decide) rfl) rfl hl.1 rfl (Nat.le_of_ble_eq_true rfl) d_Ho_shade_1 ⟨Nat.le_of_ble_eq_true rfl, Nat.le_of_ble_eq_true rfl⟩) hP hD hS hA [] [] 0 rfl (by decide) rfl rfl (fun r1 u2 H locs hu2 hP hD hS => ?_)
  subst hu2
  have hP : va_P D classes (cat []) H := hP
  have hD : va_D A (cat []) := hD
  refine lv_if_eq (pc := 4) (tgt := 18) hx hb d_Ho_shade_4 (by decide) (fun c1 => ?_) (fun c1 => absurd (hg) c1)
  refine lv_iconst (pc := 18) (v := -1) hx hb d_Ho_shade_18 (by decide) ?_
  refine W.widen (k := 0) (n := 0) (Nat.le_of_ble_eq_true rfl) (Nat.le_of_ble_eq_true rfl) ?_
  exact W.iret (v := (-1)) hx hb hr (fun t ht hW => ⟨⟨(-1), [], rfl, rfl, by rw [ht]; exact hP, va_K.moved hW.alike hK, hD⟩, hS.F ht⟩) hS.2.2 d_Ho_shade_19
set_option maxRecDepth 100000 in
set_option maxHeartbeats 4000000 in
/-- DrawingHouseModel.shade(IIII)I -/
theorem c_Mo_shade_z1 (l : Launch) (D : va_G) (kA : Nat → ClassId) (a0 : Nat) (v1 : Int32) (v2 : Int32) (v3 : Int32) (v4 : Int32) (hg : sp_Ho_isPlace v1 = 0) (hgM : sp_Mo_isPlace v1 = 0) : Ci l y_Mo_shade z_Mo_shade { frames := 2, cells := 0, slots := 0, locals := 42 } D classes (TY kA) [.ref a0, .int v1, .int v2, .int v3, .int v4] [] (fun r (_ : List va_W) => r = (-1)) (fun u => u) 0 0 := by
  intro sz
  refine k_met (cc := b_Mo_shade) (maxL := 5) (ret := (some .int)) (by decide) rfl (Nat.le_of_ble_eq_true rfl) (fun p e s m below meth c ls X hl hB => ?_)
  obtain ⟨hsz, hP, hK, hD0, hN⟩ := hB
  subst hsz
  have hD := hD0.self (sz := s.heap.size)
  generalize hAe : va_A (cat []) s.heap.size = A at hD ⊢
  have hA : ∀ q : Nat, s.heap.size ≤ q → A q := fun q h => by rw [← hAe]; exact Or.inr h
  have hS : va_S A s.heap s.heap [] := va_S.rf
  obtain ⟨hx, hb, hml, hown, hts, hr, hlk, hnm⟩ := id X
  have hl : lv_has ls 5 [(0, .ref a0), (1, .int v1), (2, .int v2), (3, .int v3), (4, .int v4)] := hl
  have hP : va_P D classes (cat []) s.heap := hP
  have hK : va_K D classes (TY kA) s := hK
  refine lv_iload_n (pc := 0) hx hb d_Mo_shade_0 rfl (lv_at hl 1 rfl) ?_
  refine k_goI (gr := []) (k_rS (pc := 1) (As := [.int v1]) (rest := []) X (c_Mo_isPlace l D kA v1 s.heap.size) rfl wm_2978 wm_9 wm_2976 wm_2977 1 (by decide +kernel) ⟨Nat.le_of_ble_eq_true rfl, Nat.le_of_ble_eq_true rfl⟩ rfl rfl (k_pre hN hK hP hD [] [] 0 rfl (by decide) rfl) rfl hl.1 rfl (Nat.le_of_ble_eq_true rfl) d_Mo_shade_1 ⟨Nat.le_of_ble_eq_true rfl, Nat.le_of_ble_eq_true rfl⟩) hP hD hS hA [] [] 0 rfl (by decide) rfl rfl (fun r1 u2 H locs hu2 hP hD hS => ?_)
  subst hu2
  have hP : va_P D classes (cat []) H := hP
  have hD : va_D A (cat []) := hD
  refine lv_if_eq (pc := 4) (tgt := 26) hx hb d_Mo_shade_4 (by decide) (fun c1 => ?_) (fun c1 => absurd (hgM) c1)
  refine lv_iconst (pc := 26) (v := -1) hx hb d_Mo_shade_26 (by decide) ?_
  refine W.widen (k := 0) (n := 0) (Nat.le_of_ble_eq_true rfl) (Nat.le_of_ble_eq_true rfl) ?_
  exact W.iret (v := (-1)) hx hb hr (fun t ht hW => ⟨⟨(-1), [], rfl, rfl, by rw [ht]; exact hP, va_K.moved hW.alike hK, hD⟩, hS.F ht⟩) hS.2.2 d_Mo_shade_27
set_option maxRecDepth 100000 in
set_option maxHeartbeats 4000000 in
/-- shade, a fresh house -/
theorem lf_shade_1 {p : Program} {e : Env} {s : State} {m : MethodId} {below : List Frame} {meth : Method} {c : Code} (l : Launch) {b : Nat} {xs : Nat → Int32} (C0 : lw_At p s m meth c b 6 xs) {D : va_G} {kA : Nat → ClassId} (h : Nat) (h2 : Nat) (q : Nat → Nat) (qm : Nat → Nat) (v1 : Int32) (v2 : Int32) (v3 : Int32) (v4 : Int32) (hg : sp_Ho_isPlace v1 = 0) (hgM : sp_Mo_isPlace v1 = 0) (hv1 : xs 1 = v1) (hv2 : xs 2 = v2) (hv3 : xs 3 = v3) (hv4 : xs 4 = v4) {H : Heap} {locs : List Loc} {ls : Array Slot} (hK : va_K D classes (TY kA) s) (hN : nst s) (hP : va_P D classes (cat [[(h, .inr (12, [.ref (q 0), .ref (q 1), .ref (q 2), .ref (q 3), .ref (q 4), .ref (q 5), .ref (q 6), .int 0, .int ((-1)), .ref (q 9), .ref (q 10), .int 0, .int 0, .ref (q 13), .int 0, .int 0, .null, .null, .null, .null, .null]))], [(h2, .inr (13, mF qm x0Mo y0Mo))]]) H) (hD : va_D (fun q : Nat => s.heap.size ≤ q) (cat [[(h, .inr (12, [.ref (q 0), .ref (q 1), .ref (q 2), .ref (q 3), .ref (q 4), .ref (q 5), .ref (q 6), .int 0, .int ((-1)), .ref (q 9), .ref (q 10), .int 0, .int 0, .ref (q 13), .int 0, .int 0, .null, .null, .null, .null, .null]))], [(h2, .inr (13, mF qm x0Mo y0Mo))]])) (hS : va_S (fun q : Nat => s.heap.size ≤ q) s.heap H locs) (hl : lv_has ls 4 [(3, .int 0), (2, .ref h2), (1, .ref h), (0, .ref b)]) : W p l e room_1 s m #[Value.ref b] below meth c H locs 368 365796 (lw_Z below #[Value.ref b] s) (F0 m 1110 ls []) := by
  obtain ⟨hx, hb, hr, hml, hown, hts0, hX, hbl, hlocks, hgv⟩ := id C0
  have hts : ∀ w ∈ lw_g, w.before #[Value.ref b] s = true := fun w h => hts0 w (lw_gt h)
  have X : cx p s m #[Value.ref b] meth c b_law_law 4 ret "DrawingHouseLaw" meth.name := ⟨hx, hb, hml, hown, hts, hr, hlocks, rfl⟩
  obtain ⟨A, hAe⟩ : ∃ A : Nat → Prop, A = fun q : Nat => s.heap.size ≤ q := ⟨_, rfl⟩
  have hA : ∀ q : Nat, s.heap.size ≤ q → A q := fun q h => by rw [hAe]; exact h
  have hbA : ¬ A b := by rw [hAe]; exact Nat.not_le.mpr hbl
  rw [← hAe] at hD hS
  refine lv_aload_n (pc := 1110) hx hb d_law_law_1110 rfl (lv_at hl 2 rfl) ?_
  refine lv_aload_n (pc := 1111) hx hb d_law_law_1111 rfl (lv_at hl 3 rfl) ?_
  refine lv_iload_n (pc := 1112) hx hb d_law_law_1112 rfl (lv_at hl 0 rfl) ?_
  refine lv_iconst (pc := 1113) (v := 1) hx hb d_law_law_1113 (by decide) ?_
  refine lv_iadd (pc := 1114) hx hb d_law_law_1114 ?_
  refine k_cst (v := 1) (by decide) ?_
  refine va_sld (pc := 1115) hx hb hX hbl hbA hS (by unfold vp_in; decide) d_law_law_1115 ?_
  refine k_cst (v := v1) hv1 ?_
  refine lv_aload_n (pc := 1116) hx hb d_law_law_1116 rfl (lv_at hl 3 rfl) ?_
  refine lv_iload_n (pc := 1117) hx hb d_law_law_1117 rfl (lv_at hl 0 rfl) ?_
  refine lv_iconst (pc := 1118) (v := 2) hx hb d_law_law_1118 (by decide) ?_
  refine lv_iadd (pc := 1119) hx hb d_law_law_1119 ?_
  refine k_cst (v := 2) (by decide) ?_
  refine va_sld (pc := 1120) hx hb hX hbl hbA hS (by unfold vp_in; decide) d_law_law_1120 ?_
  refine k_cst (v := v2) hv2 ?_
  refine lv_aload_n (pc := 1121) hx hb d_law_law_1121 rfl (lv_at hl 3 rfl) ?_
  refine lv_iload_n (pc := 1122) hx hb d_law_law_1122 rfl (lv_at hl 0 rfl) ?_
  refine lv_iconst (pc := 1123) (v := 3) hx hb d_law_law_1123 (by decide) ?_
  refine lv_iadd (pc := 1124) hx hb d_law_law_1124 ?_
  refine k_cst (v := 3) (by decide) ?_
  refine va_sld (pc := 1125) hx hb hX hbl hbA hS (by unfold vp_in; decide) d_law_law_1125 ?_
  refine k_cst (v := v3) hv3 ?_
  refine lv_aload_n (pc := 1126) hx hb d_law_law_1126 rfl (lv_at hl 3 rfl) ?_
  refine lv_iload_n (pc := 1127) hx hb d_law_law_1127 rfl (lv_at hl 0 rfl) ?_
  refine lv_iconst (pc := 1128) (v := 4) hx hb d_law_law_1128 (by decide) ?_
  refine lv_iadd (pc := 1129) hx hb d_law_law_1129 ?_
  refine k_cst (v := 4) (by decide) ?_
  refine va_sld (pc := 1130) hx hb hX hbl hbA hS (by unfold vp_in; decide) d_law_law_1130 ?_
  refine k_cst (v := v4) hv4 ?_
  refine k_goI (gr := [[(h, .inr (12, [.ref (q 0), .ref (q 1), .ref (q 2), .ref (q 3), .ref (q 4), .ref (q 5), .ref (q 6), .int 0, .int ((-1)), .ref (q 9), .ref (q 10), .int 0, .int 0, .ref (q 13), .int 0, .int 0, .null, .null, .null, .null, .null]))], [(h2, .inr (13, mF qm x0Mo y0Mo))]]) (k_rV (pc := 1131) (As := [.int v1, .int v2, .int v3, .int v4]) (rest := []) X (c_Ho_shade_z1 l D kA h v1 v2 v3 v4 hg hgM H.size) rfl wm_2326 wm_1 wm_2323 wm_2324 wm_2325 4 (by decide +kernel) ⟨Nat.le_of_ble_eq_true rfl, Nat.le_of_ble_eq_true rfl⟩ rfl rfl (va_recv hK hP (ci := 12) (q0 := 0) rfl rfl) (k_pre hN hK hP hD [] [0, 1] 2 rfl (by decide) rfl) rfl hl.1 rfl (Nat.le_of_ble_eq_true rfl) d_law_law_1131 ⟨Nat.le_of_ble_eq_true rfl, Nat.le_of_ble_eq_true rfl⟩) hP hD hS hA [] [0, 1] 2 rfl (by decide) rfl rfl (fun r1 u2 H locs hu2 hP hD hS => ?_)
  obtain ⟨hP, hD⟩ := k_left hP hD
  subst hu2
  have hP : va_P D classes (cat [[(h, .inr (12, [.ref (q 0), .ref (q 1), .ref (q 2), .ref (q 3), .ref (q 4), .ref (q 5), .ref (q 6), .int 0, .int ((-1)), .ref (q 9), .ref (q 10), .int 0, .int 0, .ref (q 13), .int 0, .int 0, .null, .null, .null, .null, .null]))], [(h2, .inr (13, mF qm x0Mo y0Mo))]]) H := hP
  have hD : va_D A (cat [[(h, .inr (12, [.ref (q 0), .ref (q 1), .ref (q 2), .ref (q 3), .ref (q 4), .ref (q 5), .ref (q 6), .int 0, .int ((-1)), .ref (q 9), .ref (q 10), .int 0, .int 0, .ref (q 13), .int 0, .int 0, .null, .null, .null, .null, .null]))], [(h2, .inr (13, mF qm x0Mo y0Mo))]]) := hD
  refine lv_aload_n (pc := 1134) hx hb d_law_law_1134 rfl (lv_at hl 1 rfl) ?_
  refine lv_aload_n (pc := 1135) hx hb d_law_law_1135 rfl (lv_at hl 3 rfl) ?_
  refine lv_iload_n (pc := 1136) hx hb d_law_law_1136 rfl (lv_at hl 0 rfl) ?_
  refine lv_iconst (pc := 1137) (v := 1) hx hb d_law_law_1137 (by decide) ?_
  refine lv_iadd (pc := 1138) hx hb d_law_law_1138 ?_
  refine k_cst (v := 1) (by decide) ?_
  refine va_sld (pc := 1139) hx hb hX hbl hbA hS (by unfold vp_in; decide) d_law_law_1139 ?_
  refine k_cst (v := v1) hv1 ?_
  refine lv_aload_n (pc := 1140) hx hb d_law_law_1140 rfl (lv_at hl 3 rfl) ?_
  refine lv_iload_n (pc := 1141) hx hb d_law_law_1141 rfl (lv_at hl 0 rfl) ?_
  refine lv_iconst (pc := 1142) (v := 2) hx hb d_law_law_1142 (by decide) ?_
  refine lv_iadd (pc := 1143) hx hb d_law_law_1143 ?_
  refine k_cst (v := 2) (by decide) ?_
  refine va_sld (pc := 1144) hx hb hX hbl hbA hS (by unfold vp_in; decide) d_law_law_1144 ?_
  refine k_cst (v := v2) hv2 ?_
  refine lv_aload_n (pc := 1145) hx hb d_law_law_1145 rfl (lv_at hl 3 rfl) ?_
  refine lv_iload_n (pc := 1146) hx hb d_law_law_1146 rfl (lv_at hl 0 rfl) ?_
  refine lv_iconst (pc := 1147) (v := 3) hx hb d_law_law_1147 (by decide) ?_
  refine lv_iadd (pc := 1148) hx hb d_law_law_1148 ?_
  refine k_cst (v := 3) (by decide) ?_
  refine va_sld (pc := 1149) hx hb hX hbl hbA hS (by unfold vp_in; decide) d_law_law_1149 ?_
  refine k_cst (v := v3) hv3 ?_
  refine lv_aload_n (pc := 1150) hx hb d_law_law_1150 rfl (lv_at hl 3 rfl) ?_
  refine lv_iload_n (pc := 1151) hx hb d_law_law_1151 rfl (lv_at hl 0 rfl) ?_
  refine lv_iconst (pc := 1152) (v := 4) hx hb d_law_law_1152 (by decide) ?_
  refine lv_iadd (pc := 1153) hx hb d_law_law_1153 ?_
  refine k_cst (v := 4) (by decide) ?_
  refine va_sld (pc := 1154) hx hb hX hbl hbA hS (by unfold vp_in; decide) d_law_law_1154 ?_
  refine k_cst (v := v4) hv4 ?_
  refine k_goI (gr := [[(h, .inr (12, [.ref (q 0), .ref (q 1), .ref (q 2), .ref (q 3), .ref (q 4), .ref (q 5), .ref (q 6), .int 0, .int ((-1)), .ref (q 9), .ref (q 10), .int 0, .int 0, .ref (q 13), .int 0, .int 0, .null, .null, .null, .null, .null]))], [(h2, .inr (13, mF qm x0Mo y0Mo))]]) (k_rV (pc := 1155) (As := [.int v1, .int v2, .int v3, .int v4]) (rest := [.int ((-1))]) X (c_Mo_shade_z1 l D kA h2 v1 v2 v3 v4 hg hgM H.size) rfl wm_3897 wm_9 wm_3894 wm_3895 wm_3896 4 (by decide +kernel) ⟨Nat.le_of_ble_eq_true rfl, Nat.le_of_ble_eq_true rfl⟩ rfl rfl (va_recv hK hP (ci := 13) (q0 := 1) rfl rfl) (k_pre hN hK hP hD [] [0, 1] 2 rfl (by decide) rfl) rfl hl.1 rfl (Nat.le_of_ble_eq_true rfl) d_law_law_1155 ⟨Nat.le_of_ble_eq_true rfl, Nat.le_of_ble_eq_true rfl⟩) hP hD hS hA [] [0, 1] 2 rfl (by decide) rfl rfl (fun r3 u4 H locs hu4 hP hD hS => ?_)
  obtain ⟨hP, hD⟩ := k_left hP hD
  subst hu4
  have hP : va_P D classes (cat [[(h, .inr (12, [.ref (q 0), .ref (q 1), .ref (q 2), .ref (q 3), .ref (q 4), .ref (q 5), .ref (q 6), .int 0, .int ((-1)), .ref (q 9), .ref (q 10), .int 0, .int 0, .ref (q 13), .int 0, .int 0, .null, .null, .null, .null, .null]))], [(h2, .inr (13, mF qm x0Mo y0Mo))]]) H := hP
  have hD : va_D A (cat [[(h, .inr (12, [.ref (q 0), .ref (q 1), .ref (q 2), .ref (q 3), .ref (q 4), .ref (q 5), .ref (q 6), .int 0, .int ((-1)), .ref (q 9), .ref (q 10), .int 0, .int 0, .ref (q 13), .int 0, .int 0, .null, .null, .null, .null, .null]))], [(h2, .inr (13, mF qm x0Mo y0Mo))]]) := hD
  refine lv_icmp_eq (pc := 1158) (tgt := 1295) hx hb d_law_law_1158 (by decide) (fun _ => ?_) (fun c1 => absurd (by decide) c1)
  rw [hAe] at hS
  exact law_exit l C0 (Nat.le_of_ble_eq_true rfl) (Nat.le_of_ble_eq_true rfl) hS hl
set_option maxRecDepth 100000 in
set_option maxHeartbeats 4000000 in
/-- DrawingHouse$Graph.hasEdge(I)Z -/
theorem c_Gr_hasEdge_z2 (l : Launch) (D : va_G) (kA : Nat → ClassId) (g : Nat → Nat → Nat) (j : Nat) (v3 : Int32) (a0 : Nat) (a1 : Nat) (a2 : Nat) (a3 : Nat) (a4 : Nat) (a5 : Nat) (a6 : Nat) (a7 : Nat) (a8 : Nat) (a9 : Nat) (a10 : Nat) (a11 : Nat) (a12 : Nat) (hj : j < 4) : Ci l y_Gr_hasEdge z_Gr_hasEdge { frames := 0, cells := 0, slots := 0, locals := 0 } D classes (TY kA) [.ref (g 0 j), .int v3] [[(g 0 j, .inr (3, [.int 0, .int 0, .int 1, .ref a0, .ref a1, .ref a2, .ref a3, .ref a4, .ref a5, .ref a6, .ref a7, .ref a8, .ref a9, .ref a10, .ref a11, .ref a12, .null, .int 0, .int 0]))]] (fun r (_ : Unit) => r = 0) (fun u => [[(g 0 j, .inr (3, [.int 0, .int 0, .int 1, .ref a0, .ref a1, .ref a2, .ref a3, .ref a4, .ref a5, .ref a6, .ref a7, .ref a8, .ref a9, .ref a10, .ref a11, .ref a12, .null, .int 0, .int 0]))]]) 0 0 := by
  intro sz
  refine k_met (cc := b_Gr_hasEdge) (maxL := 2) (ret := (some .boolean)) (by decide) rfl (Nat.le_of_ble_eq_true rfl) (fun p e s m below meth c ls X hl hB => ?_)
  obtain ⟨hsz, hP, hK, hD0, hN⟩ := hB
  subst hsz
  have hD := hD0.self (sz := s.heap.size)
  generalize hAe : va_A (cat [[(g 0 j, .inr (3, [.int 0, .int 0, .int 1, .ref a0, .ref a1, .ref a2, .ref a3, .ref a4, .ref a5, .ref a6, .ref a7, .ref a8, .ref a9, .ref a10, .ref a11, .ref a12, .null, .int 0, .int 0]))]]) s.heap.size = A at hD ⊢
  have hA : ∀ q : Nat, s.heap.size ≤ q → A q := fun q h => by rw [← hAe]; exact Or.inr h
  have hS : va_S A s.heap s.heap [] := va_S.rf
  obtain ⟨hx, hb, hml, hown, hts, hr, hlk, hnm⟩ := id X
  have hl : lv_has ls 2 [(0, .ref (g 0 j)), (1, .int v3)] := hl
  have hP : va_P D classes (cat [[(g 0 j, .inr (3, [.int 0, .int 0, .int 1, .ref a0, .ref a1, .ref a2, .ref a3, .ref a4, .ref a5, .ref a6, .ref a7, .ref a8, .ref a9, .ref a10, .ref a11, .ref a12, .null, .int 0, .int 0]))]]) s.heap := hP
  have hK : va_K D classes (TY kA) s := hK
  refine lv_iload_n (pc := 0) hx hb d_Gr_hasEdge_0 rfl (lv_at hl 1 rfl) ?_
  refine lv_if_lt (pc := 1) (tgt := 16) hx hb d_Gr_hasEdge_1 (by decide) (fun ck1 => ?_) (fun ck1 => ?_)
  · refine lv_iconst (pc := 16) (v := 0) hx hb d_Gr_hasEdge_16 (by decide) ?_
    refine W.widen (k := 0) (n := 0) (Nat.le_of_ble_eq_true rfl) (Nat.le_of_ble_eq_true rfl) ?_
    exact W.zret (v := 0) hx hb hr rfl (fun t ht hW => ⟨⟨0, (), rfl, rfl, by rw [ht]; exact hP, va_K.moved hW.alike hK, hD⟩, hS.F ht⟩) hS.2.2 d_Gr_hasEdge_17
  · refine lv_iload_n (pc := 4) hx hb d_Gr_hasEdge_4 rfl (lv_at hl 1 rfl) ?_
    refine lv_aload_n (pc := 5) hx hb d_Gr_hasEdge_5 rfl (lv_at hl 0 rfl) ?_
    refine k_get (pc := 6) X hK hP 0 rfl rfl i_Gr 1 (by decide) wm_68 rfl rfl d_Gr_hasEdge_6 ?_
    refine lv_icmp_ge (pc := 9) (tgt := 16) hx hb d_Gr_hasEdge_9 (by decide) (fun c1 => ?_) (fun c1 => absurd (Int32.not_lt.mp ck1) c1)
    refine lv_iconst (pc := 16) (v := 0) hx hb d_Gr_hasEdge_16 (by decide) ?_
    refine W.widen (k := 0) (n := 0) (Nat.le_of_ble_eq_true rfl) (Nat.le_of_ble_eq_true rfl) ?_
    exact W.zret (v := 0) hx hb hr rfl (fun t ht hW => ⟨⟨0, (), rfl, rfl, by rw [ht]; exact hP, va_K.moved hW.alike hK, hD⟩, hS.F ht⟩) hS.2.2 d_Gr_hasEdge_17
set_option maxRecDepth 100000 in
set_option maxHeartbeats 4000000 in
/-- DrawingHouse$Graph.hasNode(I)Z -/
theorem c_Gr_hasNode_z2 (l : Launch) (D : va_G) (kA : Nat → ClassId) (g : Nat → Nat → Nat) (j : Nat) (v3 : Int32) (a0 : Nat) (a1 : Nat) (a2 : Nat) (a3 : Nat) (a4 : Nat) (a5 : Nat) (a6 : Nat) (a7 : Nat) (a8 : Nat) (a9 : Nat) (a10 : Nat) (a11 : Nat) (a12 : Nat) (hj : j < 4) : Ci l y_Gr_hasNode z_Gr_hasNode { frames := 0, cells := 0, slots := 0, locals := 0 } D classes (TY kA) [.ref (g 0 j), .int v3] [[(g 0 j, .inr (3, [.int 0, .int 0, .int 1, .ref a0, .ref a1, .ref a2, .ref a3, .ref a4, .ref a5, .ref a6, .ref a7, .ref a8, .ref a9, .ref a10, .ref a11, .ref a12, .null, .int 0, .int 0]))]] (fun r (_ : Unit) => r = 0) (fun u => [[(g 0 j, .inr (3, [.int 0, .int 0, .int 1, .ref a0, .ref a1, .ref a2, .ref a3, .ref a4, .ref a5, .ref a6, .ref a7, .ref a8, .ref a9, .ref a10, .ref a11, .ref a12, .null, .int 0, .int 0]))]]) 0 0 := by
  intro sz
  refine k_met (cc := b_Gr_hasNode) (maxL := 2) (ret := (some .boolean)) (by decide) rfl (Nat.le_of_ble_eq_true rfl) (fun p e s m below meth c ls X hl hB => ?_)
  obtain ⟨hsz, hP, hK, hD0, hN⟩ := hB
  subst hsz
  have hD := hD0.self (sz := s.heap.size)
  generalize hAe : va_A (cat [[(g 0 j, .inr (3, [.int 0, .int 0, .int 1, .ref a0, .ref a1, .ref a2, .ref a3, .ref a4, .ref a5, .ref a6, .ref a7, .ref a8, .ref a9, .ref a10, .ref a11, .ref a12, .null, .int 0, .int 0]))]]) s.heap.size = A at hD ⊢
  have hA : ∀ q : Nat, s.heap.size ≤ q → A q := fun q h => by rw [← hAe]; exact Or.inr h
  have hS : va_S A s.heap s.heap [] := va_S.rf
  obtain ⟨hx, hb, hml, hown, hts, hr, hlk, hnm⟩ := id X
  have hl : lv_has ls 2 [(0, .ref (g 0 j)), (1, .int v3)] := hl
  have hP : va_P D classes (cat [[(g 0 j, .inr (3, [.int 0, .int 0, .int 1, .ref a0, .ref a1, .ref a2, .ref a3, .ref a4, .ref a5, .ref a6, .ref a7, .ref a8, .ref a9, .ref a10, .ref a11, .ref a12, .null, .int 0, .int 0]))]]) s.heap := hP
  have hK : va_K D classes (TY kA) s := hK
  refine lv_iload_n (pc := 0) hx hb d_Gr_hasNode_0 rfl (lv_at hl 1 rfl) ?_
  refine lv_if_lt (pc := 1) (tgt := 16) hx hb d_Gr_hasNode_1 (by decide) (fun ck1 => ?_) (fun ck1 => ?_)
  · refine lv_iconst (pc := 16) (v := 0) hx hb d_Gr_hasNode_16 (by decide) ?_
    refine W.widen (k := 0) (n := 0) (Nat.le_of_ble_eq_true rfl) (Nat.le_of_ble_eq_true rfl) ?_
    exact W.zret (v := 0) hx hb hr rfl (fun t ht hW => ⟨⟨0, (), rfl, rfl, by rw [ht]; exact hP, va_K.moved hW.alike hK, hD⟩, hS.F ht⟩) hS.2.2 d_Gr_hasNode_17
  · refine lv_iload_n (pc := 4) hx hb d_Gr_hasNode_4 rfl (lv_at hl 1 rfl) ?_
    refine lv_aload_n (pc := 5) hx hb d_Gr_hasNode_5 rfl (lv_at hl 0 rfl) ?_
    refine k_get (pc := 6) X hK hP 0 rfl rfl i_Gr 0 (by decide) wm_56 rfl rfl d_Gr_hasNode_6 ?_
    refine lv_icmp_ge (pc := 9) (tgt := 16) hx hb d_Gr_hasNode_9 (by decide) (fun c1 => ?_) (fun c1 => absurd (Int32.not_lt.mp ck1) c1)
    refine lv_iconst (pc := 16) (v := 0) hx hb d_Gr_hasNode_16 (by decide) ?_
    refine W.widen (k := 0) (n := 0) (Nat.le_of_ble_eq_true rfl) (Nat.le_of_ble_eq_true rfl) ?_
    exact W.zret (v := 0) hx hb hr rfl (fun t ht hW => ⟨⟨0, (), rfl, rfl, by rw [ht]; exact hP, va_K.moved hW.alike hK, hD⟩, hS.F ht⟩) hS.2.2 d_Gr_hasNode_17
set_option maxRecDepth 100000 in
set_option maxHeartbeats 4000000 in
/-- DrawingHouse.shade(IIII)I -/
theorem c_Ho_shade_z2 (l : Launch) (D : va_G) (kA : Nat → ClassId) (a0 : Nat) (j : Nat) (v2 : Int32) (v3 : Int32) (v4 : Int32) (a1 : Nat) (a2 : Nat) (a3 : Nat) (a4 : Nat) (a5 : Nat) (a6 : Nat) (a7 : Nat) (a8 : Nat) (a9 : Nat) (a10 : Nat) (g : Nat → Nat → Nat) (a11 : Nat) (a12 : Nat) (a13 : Nat) (a14 : Nat) (a15 : Nat) (a16 : Nat) (a17 : Nat) (a18 : Nat) (a19 : Nat) (a20 : Nat) (a21 : Nat) (a22 : Nat) (a23 : Nat) (hj : j < 4) : Ci l y_Ho_shade z_Ho_shade { frames := 1, cells := 0, slots := 0, locals := 21 } D classes (TY kA) [.ref a0, .int (nI j), .int v2, .int v3, .int v4] [[(a0, .inr (12, [.ref a1, .ref a2, .ref a3, .ref a4, .ref a5, .ref a6, .ref a7, .int 0, .int ((-1)), .ref a8, .ref a9, .int 0, .int 0, .ref a10, .int 0, .int 0, .null, .null, .null, .null, .null]))], [(a1, .inl (kA 4, 4, .inr (.inr (.inr (.inr (rr (g 0)))))))], [(g 0 j, .inr (3, [.int 0, .int 0, .int 1, .ref a11, .ref a12, .ref a13, .ref a14, .ref a15, .ref a16, .ref a17, .ref a18, .ref a19, .ref a20, .ref a21, .ref a22, .ref a23, .null, .int 0, .int 0]))]] (fun r (_ : List va_W) => r = (-1)) (fun u => u) 0 0 := by
  intro sz
  refine k_met (cc := b_Ho_shade) (maxL := 5) (ret := (some .int)) (by decide) rfl (Nat.le_of_ble_eq_true rfl) (fun p e s m below meth c ls X hl hB => ?_)
  obtain ⟨hsz, hP, hK, hD0, hN⟩ := hB
  subst hsz
  have hD := hD0.self (sz := s.heap.size)
  generalize hAe : va_A (cat [[(a0, .inr (12, [.ref a1, .ref a2, .ref a3, .ref a4, .ref a5, .ref a6, .ref a7, .int 0, .int ((-1)), .ref a8, .ref a9, .int 0, .int 0, .ref a10, .int 0, .int 0, .null, .null, .null, .null, .null]))], [(a1, .inl (kA 4, 4, .inr (.inr (.inr (.inr (rr (g 0)))))))], [(g 0 j, .inr (3, [.int 0, .int 0, .int 1, .ref a11, .ref a12, .ref a13, .ref a14, .ref a15, .ref a16, .ref a17, .ref a18, .ref a19, .ref a20, .ref a21, .ref a22, .ref a23, .null, .int 0, .int 0]))]]) s.heap.size = A at hD ⊢
  have hA : ∀ q : Nat, s.heap.size ≤ q → A q := fun q h => by rw [← hAe]; exact Or.inr h
  have hS : va_S A s.heap s.heap [] := va_S.rf
  obtain ⟨hx, hb, hml, hown, hts, hr, hlk, hnm⟩ := id X
  have hl : lv_has ls 5 [(0, .ref a0), (1, .int (nI j)), (2, .int v2), (3, .int v3), (4, .int v4)] := hl
  have hP : va_P D classes (cat [[(a0, .inr (12, [.ref a1, .ref a2, .ref a3, .ref a4, .ref a5, .ref a6, .ref a7, .int 0, .int ((-1)), .ref a8, .ref a9, .int 0, .int 0, .ref a10, .int 0, .int 0, .null, .null, .null, .null, .null]))], [(a1, .inl (kA 4, 4, .inr (.inr (.inr (.inr (rr (g 0)))))))], [(g 0 j, .inr (3, [.int 0, .int 0, .int 1, .ref a11, .ref a12, .ref a13, .ref a14, .ref a15, .ref a16, .ref a17, .ref a18, .ref a19, .ref a20, .ref a21, .ref a22, .ref a23, .null, .int 0, .int 0]))]]) s.heap := hP
  have hK : va_K D classes (TY kA) s := hK
  refine lv_iload_n (pc := 0) hx hb d_Ho_shade_0 rfl (lv_at hl 1 rfl) ?_
  refine k_goI (gr := [[(a0, .inr (12, [.ref a1, .ref a2, .ref a3, .ref a4, .ref a5, .ref a6, .ref a7, .int 0, .int ((-1)), .ref a8, .ref a9, .int 0, .int 0, .ref a10, .int 0, .int 0, .null, .null, .null, .null, .null]))], [(a1, .inl (kA 4, 4, .inr (.inr (.inr (.inr (rr (g 0)))))))], [(g 0 j, .inr (3, [.int 0, .int 0, .int 1, .ref a11, .ref a12, .ref a13, .ref a14, .ref a15, .ref a16, .ref a17, .ref a18, .ref a19, .ref a20, .ref a21, .ref a22, .ref a23, .null, .int 0, .int 0]))]]) (k_rS (pc := 1) (As := [.int (nI j)]) (rest := []) X (c_Ho_isPlace l D kA (nI j) s.heap.size) rfl wm_633 wm_1 wm_631 wm_632 1 (by decide +kernel) ⟨Nat.le_of_ble_eq_true rfl, Nat.le_of_ble_eq_true rfl⟩ rfl rfl (k_pre hN hK hP hD [] [0, 1, 2] 3 rfl (by decide) rfl) rfl hl.1 rfl (Nat.le_of_ble_eq_true rfl) d_Ho_shade_1 ⟨Nat.le_of_ble_eq_true rfl, Nat.le_of_ble_eq_true rfl⟩) hP hD hS hA [] [0, 1, 2] 3 rfl (by decide) rfl rfl (fun r1 u2 H locs hu2 hP hD hS => ?_)
  subst hu2
  refine k_cst (v := 1) (place_ok hj) ?_
  have hP : va_P D classes (cat [[(a0, .inr (12, [.ref a1, .ref a2, .ref a3, .ref a4, .ref a5, .ref a6, .ref a7, .int 0, .int ((-1)), .ref a8, .ref a9, .int 0, .int 0, .ref a10, .int 0, .int 0, .null, .null, .null, .null, .null]))], [(a1, .inl (kA 4, 4, .inr (.inr (.inr (.inr (rr (g 0)))))))], [(g 0 j, .inr (3, [.int 0, .int 0, .int 1, .ref a11, .ref a12, .ref a13, .ref a14, .ref a15, .ref a16, .ref a17, .ref a18, .ref a19, .ref a20, .ref a21, .ref a22, .ref a23, .null, .int 0, .int 0]))]]) H := hP
  have hD : va_D A (cat [[(a0, .inr (12, [.ref a1, .ref a2, .ref a3, .ref a4, .ref a5, .ref a6, .ref a7, .int 0, .int ((-1)), .ref a8, .ref a9, .int 0, .int 0, .ref a10, .int 0, .int 0, .null, .null, .null, .null, .null]))], [(a1, .inl (kA 4, 4, .inr (.inr (.inr (.inr (rr (g 0)))))))], [(g 0 j, .inr (3, [.int 0, .int 0, .int 1, .ref a11, .ref a12, .ref a13, .ref a14, .ref a15, .ref a16, .ref a17, .ref a18, .ref a19, .ref a20, .ref a21, .ref a22, .ref a23, .null, .int 0, .int 0]))]]) := hD
  refine lv_if_eq (pc := 4) (tgt := 18) hx hb d_Ho_shade_4 (by decide) (fun c1 => absurd c1 (by decide)) (fun c1 => ?_)
  refine lv_iload (pc := 7) hx hb d_Ho_shade_7 (lv_at hl 4 rfl) ?_
  refine lv_if_lt (pc := 9) (tgt := 18) hx hb d_Ho_shade_9 (by decide) (fun ck1 => ?_) (fun ck1 => ?_)
  · refine lv_iconst (pc := 18) (v := -1) hx hb d_Ho_shade_18 (by decide) ?_
    refine W.widen (k := 0) (n := 0) (Nat.le_of_ble_eq_true rfl) (Nat.le_of_ble_eq_true rfl) ?_
    exact W.iret (v := (-1)) hx hb hr (fun t ht hW => ⟨⟨(-1), [[(a0, .inr (12, [.ref a1, .ref a2, .ref a3, .ref a4, .ref a5, .ref a6, .ref a7, .int 0, .int ((-1)), .ref a8, .ref a9, .int 0, .int 0, .ref a10, .int 0, .int 0, .null, .null, .null, .null, .null]))], [(a1, .inl (kA 4, 4, .inr (.inr (.inr (.inr (rr (g 0)))))))], [(g 0 j, .inr (3, [.int 0, .int 0, .int 1, .ref a11, .ref a12, .ref a13, .ref a14, .ref a15, .ref a16, .ref a17, .ref a18, .ref a19, .ref a20, .ref a21, .ref a22, .ref a23, .null, .int 0, .int 0]))]], rfl, rfl, by rw [ht]; exact hP, va_K.moved hW.alike hK, hD⟩, hS.F ht⟩) hS.2.2 d_Ho_shade_19
  · refine lv_iload (pc := 12) hx hb d_Ho_shade_12 (lv_at hl 4 rfl) ?_
    refine lv_iconst (pc := 14) (v := 2) hx hb d_Ho_shade_14 (by decide) ?_
    refine lv_icmp_le (pc := 15) (tgt := 20) hx hb d_Ho_shade_15 (by decide) (fun ck2 => ?_) (fun ck2 => ?_)
    · refine lv_iload_n (pc := 20) hx hb d_Ho_shade_20 rfl (lv_at hl 2 rfl) ?_
      refine lv_if_ne (pc := 21) (tgt := 54) hx hb d_Ho_shade_21 (by decide) (fun ck3 => ?_) (fun ck3 => ?_)
      · refine lv_iload_n (pc := 54) hx hb d_Ho_shade_54 rfl (lv_at hl 2 rfl) ?_
        refine lv_iconst (pc := 55) (v := 1) hx hb d_Ho_shade_55 (by decide) ?_
        refine lv_icmp_ne (pc := 56) (tgt := 92) hx hb d_Ho_shade_56 (by decide) (fun ck4 => ?_) (fun ck4 => ?_)
        · refine lv_iconst (pc := 92) (v := -1) hx hb d_Ho_shade_92 (by decide) ?_
          refine W.widen (k := 0) (n := 0) (Nat.le_of_ble_eq_true rfl) (Nat.le_of_ble_eq_true rfl) ?_
          exact W.iret (v := (-1)) hx hb hr (fun t ht hW => ⟨⟨(-1), [[(a0, .inr (12, [.ref a1, .ref a2, .ref a3, .ref a4, .ref a5, .ref a6, .ref a7, .int 0, .int ((-1)), .ref a8, .ref a9, .int 0, .int 0, .ref a10, .int 0, .int 0, .null, .null, .null, .null, .null]))], [(a1, .inl (kA 4, 4, .inr (.inr (.inr (.inr (rr (g 0)))))))], [(g 0 j, .inr (3, [.int 0, .int 0, .int 1, .ref a11, .ref a12, .ref a13, .ref a14, .ref a15, .ref a16, .ref a17, .ref a18, .ref a19, .ref a20, .ref a21, .ref a22, .ref a23, .null, .int 0, .int 0]))]], rfl, rfl, by rw [ht]; exact hP, va_K.moved hW.alike hK, hD⟩, hS.F ht⟩) hS.2.2 d_Ho_shade_93
        · refine lv_aload_n (pc := 59) hx hb d_Ho_shade_59 rfl (lv_at hl 0 rfl) ?_
          refine k_get (pc := 60) X hK hP 0 rfl rfl i_Ho 0 (by decide) wm_555 rfl rfl d_Ho_shade_60 ?_
          refine lv_iload_n (pc := 63) hx hb d_Ho_shade_63 rfl (lv_at hl 1 rfl) ?_
          refine k_ald (pc := 64) hx hb hK hP 1 4 rfl rfl (j) rfl (by omega) (by decide) (rr_at (by omega)) d_Ho_shade_64 ?_
          refine lv_iload_n (pc := 65) hx hb d_Ho_shade_65 rfl (lv_at hl 3 rfl) ?_
          refine k_goI (gr := [[(a0, .inr (12, [.ref a1, .ref a2, .ref a3, .ref a4, .ref a5, .ref a6, .ref a7, .int 0, .int ((-1)), .ref a8, .ref a9, .int 0, .int 0, .ref a10, .int 0, .int 0, .null, .null, .null, .null, .null]))], [(a1, .inl (kA 4, 4, .inr (.inr (.inr (.inr (rr (g 0)))))))]]) (k_rV (pc := 66) (As := [.int v3]) (rest := []) X (c_Gr_hasEdge_z2 l D kA g j v3 a11 a12 a13 a14 a15 a16 a17 a18 a19 a20 a21 a22 a23 hj H.size) rfl wm_930 wm_3 wm_927 wm_928 wm_929 1 (by decide +kernel) ⟨Nat.le_of_ble_eq_true rfl, Nat.le_of_ble_eq_true rfl⟩ rfl rfl (va_recv hK hP (ci := 3) (q0 := 2) rfl rfl) (k_pre hN hK hP hD [2] [0, 1] 3 rfl (by decide) rfl) rfl hl.1 rfl (Nat.le_of_ble_eq_true rfl) d_Ho_shade_66 ⟨Nat.le_of_ble_eq_true rfl, Nat.le_of_ble_eq_true rfl⟩) hP hD hS hA [2] [0, 1] 3 rfl (by decide) rfl rfl (fun r3 u4 H locs hu4 hP hD hS => ?_)
          subst hu4
          have hP : va_P D classes (cat [[(a0, .inr (12, [.ref a1, .ref a2, .ref a3, .ref a4, .ref a5, .ref a6, .ref a7, .int 0, .int ((-1)), .ref a8, .ref a9, .int 0, .int 0, .ref a10, .int 0, .int 0, .null, .null, .null, .null, .null]))], [(a1, .inl (kA 4, 4, .inr (.inr (.inr (.inr (rr (g 0)))))))], [(g 0 j, .inr (3, [.int 0, .int 0, .int 1, .ref a11, .ref a12, .ref a13, .ref a14, .ref a15, .ref a16, .ref a17, .ref a18, .ref a19, .ref a20, .ref a21, .ref a22, .ref a23, .null, .int 0, .int 0]))]]) H := hP
          have hD : va_D A (cat [[(a0, .inr (12, [.ref a1, .ref a2, .ref a3, .ref a4, .ref a5, .ref a6, .ref a7, .int 0, .int ((-1)), .ref a8, .ref a9, .int 0, .int 0, .ref a10, .int 0, .int 0, .null, .null, .null, .null, .null]))], [(a1, .inl (kA 4, 4, .inr (.inr (.inr (.inr (rr (g 0)))))))], [(g 0 j, .inr (3, [.int 0, .int 0, .int 1, .ref a11, .ref a12, .ref a13, .ref a14, .ref a15, .ref a16, .ref a17, .ref a18, .ref a19, .ref a20, .ref a21, .ref a22, .ref a23, .null, .int 0, .int 0]))]]) := hD
          refine lv_if_eq (pc := 69) (tgt := 92) hx hb d_Ho_shade_69 (by decide) (fun c1 => ?_) (fun c1 => absurd (by decide) c1)
          refine lv_iconst (pc := 92) (v := -1) hx hb d_Ho_shade_92 (by decide) ?_
          refine W.widen (k := 0) (n := 0) (Nat.le_of_ble_eq_true rfl) (Nat.le_of_ble_eq_true rfl) ?_
          exact W.iret (v := (-1)) hx hb hr (fun t ht hW => ⟨⟨(-1), [[(a0, .inr (12, [.ref a1, .ref a2, .ref a3, .ref a4, .ref a5, .ref a6, .ref a7, .int 0, .int ((-1)), .ref a8, .ref a9, .int 0, .int 0, .ref a10, .int 0, .int 0, .null, .null, .null, .null, .null]))], [(a1, .inl (kA 4, 4, .inr (.inr (.inr (.inr (rr (g 0)))))))], [(g 0 j, .inr (3, [.int 0, .int 0, .int 1, .ref a11, .ref a12, .ref a13, .ref a14, .ref a15, .ref a16, .ref a17, .ref a18, .ref a19, .ref a20, .ref a21, .ref a22, .ref a23, .null, .int 0, .int 0]))]], rfl, rfl, by rw [ht]; exact hP, va_K.moved hW.alike hK, hD⟩, hS.F ht⟩) hS.2.2 d_Ho_shade_93
      · refine lv_aload_n (pc := 24) hx hb d_Ho_shade_24 rfl (lv_at hl 0 rfl) ?_
        refine k_get (pc := 25) X hK hP 0 rfl rfl i_Ho 0 (by decide) wm_555 rfl rfl d_Ho_shade_25 ?_
        refine lv_iload_n (pc := 28) hx hb d_Ho_shade_28 rfl (lv_at hl 1 rfl) ?_
        refine k_ald (pc := 29) hx hb hK hP 1 4 rfl rfl (j) rfl (by omega) (by decide) (rr_at (by omega)) d_Ho_shade_29 ?_
        refine lv_iload_n (pc := 30) hx hb d_Ho_shade_30 rfl (lv_at hl 3 rfl) ?_
        refine k_goI (gr := [[(a0, .inr (12, [.ref a1, .ref a2, .ref a3, .ref a4, .ref a5, .ref a6, .ref a7, .int 0, .int ((-1)), .ref a8, .ref a9, .int 0, .int 0, .ref a10, .int 0, .int 0, .null, .null, .null, .null, .null]))], [(a1, .inl (kA 4, 4, .inr (.inr (.inr (.inr (rr (g 0)))))))]]) (k_rV (pc := 31) (As := [.int v3]) (rest := []) X (c_Gr_hasNode_z2 l D kA g j v3 a11 a12 a13 a14 a15 a16 a17 a18 a19 a20 a21 a22 a23 hj H.size) rfl wm_921 wm_3 wm_918 wm_919 wm_920 1 (by decide +kernel) ⟨Nat.le_of_ble_eq_true rfl, Nat.le_of_ble_eq_true rfl⟩ rfl rfl (va_recv hK hP (ci := 3) (q0 := 2) rfl rfl) (k_pre hN hK hP hD [2] [0, 1] 3 rfl (by decide) rfl) rfl hl.1 rfl (Nat.le_of_ble_eq_true rfl) d_Ho_shade_31 ⟨Nat.le_of_ble_eq_true rfl, Nat.le_of_ble_eq_true rfl⟩) hP hD hS hA [2] [0, 1] 3 rfl (by decide) rfl rfl (fun r3 u4 H locs hu4 hP hD hS => ?_)
        subst hu4
        have hP : va_P D classes (cat [[(a0, .inr (12, [.ref a1, .ref a2, .ref a3, .ref a4, .ref a5, .ref a6, .ref a7, .int 0, .int ((-1)), .ref a8, .ref a9, .int 0, .int 0, .ref a10, .int 0, .int 0, .null, .null, .null, .null, .null]))], [(a1, .inl (kA 4, 4, .inr (.inr (.inr (.inr (rr (g 0)))))))], [(g 0 j, .inr (3, [.int 0, .int 0, .int 1, .ref a11, .ref a12, .ref a13, .ref a14, .ref a15, .ref a16, .ref a17, .ref a18, .ref a19, .ref a20, .ref a21, .ref a22, .ref a23, .null, .int 0, .int 0]))]]) H := hP
        have hD : va_D A (cat [[(a0, .inr (12, [.ref a1, .ref a2, .ref a3, .ref a4, .ref a5, .ref a6, .ref a7, .int 0, .int ((-1)), .ref a8, .ref a9, .int 0, .int 0, .ref a10, .int 0, .int 0, .null, .null, .null, .null, .null]))], [(a1, .inl (kA 4, 4, .inr (.inr (.inr (.inr (rr (g 0)))))))], [(g 0 j, .inr (3, [.int 0, .int 0, .int 1, .ref a11, .ref a12, .ref a13, .ref a14, .ref a15, .ref a16, .ref a17, .ref a18, .ref a19, .ref a20, .ref a21, .ref a22, .ref a23, .null, .int 0, .int 0]))]]) := hD
        refine lv_if_eq (pc := 34) (tgt := 54) hx hb d_Ho_shade_34 (by decide) (fun c1 => ?_) (fun c1 => absurd (by decide) c1)
        refine lv_iload_n (pc := 54) hx hb d_Ho_shade_54 rfl (lv_at hl 2 rfl) ?_
        refine lv_iconst (pc := 55) (v := 1) hx hb d_Ho_shade_55 (by decide) ?_
        refine lv_icmp_ne (pc := 56) (tgt := 92) hx hb d_Ho_shade_56 (by decide) (fun ck4 => ?_) (fun ck4 => ?_)
        · refine lv_iconst (pc := 92) (v := -1) hx hb d_Ho_shade_92 (by decide) ?_
          refine W.widen (k := 0) (n := 0) (Nat.le_of_ble_eq_true rfl) (Nat.le_of_ble_eq_true rfl) ?_
          exact W.iret (v := (-1)) hx hb hr (fun t ht hW => ⟨⟨(-1), [[(a0, .inr (12, [.ref a1, .ref a2, .ref a3, .ref a4, .ref a5, .ref a6, .ref a7, .int 0, .int ((-1)), .ref a8, .ref a9, .int 0, .int 0, .ref a10, .int 0, .int 0, .null, .null, .null, .null, .null]))], [(a1, .inl (kA 4, 4, .inr (.inr (.inr (.inr (rr (g 0)))))))], [(g 0 j, .inr (3, [.int 0, .int 0, .int 1, .ref a11, .ref a12, .ref a13, .ref a14, .ref a15, .ref a16, .ref a17, .ref a18, .ref a19, .ref a20, .ref a21, .ref a22, .ref a23, .null, .int 0, .int 0]))]], rfl, rfl, by rw [ht]; exact hP, va_K.moved hW.alike hK, hD⟩, hS.F ht⟩) hS.2.2 d_Ho_shade_93
        · refine lv_aload_n (pc := 59) hx hb d_Ho_shade_59 rfl (lv_at hl 0 rfl) ?_
          refine k_get (pc := 60) X hK hP 0 rfl rfl i_Ho 0 (by decide) wm_555 rfl rfl d_Ho_shade_60 ?_
          refine lv_iload_n (pc := 63) hx hb d_Ho_shade_63 rfl (lv_at hl 1 rfl) ?_
          refine k_ald (pc := 64) hx hb hK hP 1 4 rfl rfl (j) rfl (by omega) (by decide) (rr_at (by omega)) d_Ho_shade_64 ?_
          refine lv_iload_n (pc := 65) hx hb d_Ho_shade_65 rfl (lv_at hl 3 rfl) ?_
          refine k_goI (gr := [[(a0, .inr (12, [.ref a1, .ref a2, .ref a3, .ref a4, .ref a5, .ref a6, .ref a7, .int 0, .int ((-1)), .ref a8, .ref a9, .int 0, .int 0, .ref a10, .int 0, .int 0, .null, .null, .null, .null, .null]))], [(a1, .inl (kA 4, 4, .inr (.inr (.inr (.inr (rr (g 0)))))))]]) (k_rV (pc := 66) (As := [.int v3]) (rest := []) X (c_Gr_hasEdge_z2 l D kA g j v3 a11 a12 a13 a14 a15 a16 a17 a18 a19 a20 a21 a22 a23 hj H.size) rfl wm_930 wm_3 wm_927 wm_928 wm_929 1 (by decide +kernel) ⟨Nat.le_of_ble_eq_true rfl, Nat.le_of_ble_eq_true rfl⟩ rfl rfl (va_recv hK hP (ci := 3) (q0 := 2) rfl rfl) (k_pre hN hK hP hD [2] [0, 1] 3 rfl (by decide) rfl) rfl hl.1 rfl (Nat.le_of_ble_eq_true rfl) d_Ho_shade_66 ⟨Nat.le_of_ble_eq_true rfl, Nat.le_of_ble_eq_true rfl⟩) hP hD hS hA [2] [0, 1] 3 rfl (by decide) rfl rfl (fun r5 u6 H locs hu6 hP hD hS => ?_)
          subst hu6
          have hP : va_P D classes (cat [[(a0, .inr (12, [.ref a1, .ref a2, .ref a3, .ref a4, .ref a5, .ref a6, .ref a7, .int 0, .int ((-1)), .ref a8, .ref a9, .int 0, .int 0, .ref a10, .int 0, .int 0, .null, .null, .null, .null, .null]))], [(a1, .inl (kA 4, 4, .inr (.inr (.inr (.inr (rr (g 0)))))))], [(g 0 j, .inr (3, [.int 0, .int 0, .int 1, .ref a11, .ref a12, .ref a13, .ref a14, .ref a15, .ref a16, .ref a17, .ref a18, .ref a19, .ref a20, .ref a21, .ref a22, .ref a23, .null, .int 0, .int 0]))]]) H := hP
          have hD : va_D A (cat [[(a0, .inr (12, [.ref a1, .ref a2, .ref a3, .ref a4, .ref a5, .ref a6, .ref a7, .int 0, .int ((-1)), .ref a8, .ref a9, .int 0, .int 0, .ref a10, .int 0, .int 0, .null, .null, .null, .null, .null]))], [(a1, .inl (kA 4, 4, .inr (.inr (.inr (.inr (rr (g 0)))))))], [(g 0 j, .inr (3, [.int 0, .int 0, .int 1, .ref a11, .ref a12, .ref a13, .ref a14, .ref a15, .ref a16, .ref a17, .ref a18, .ref a19, .ref a20, .ref a21, .ref a22, .ref a23, .null, .int 0, .int 0]))]]) := hD
          refine lv_if_eq (pc := 69) (tgt := 92) hx hb d_Ho_shade_69 (by decide) (fun c1 => ?_) (fun c1 => absurd (by decide) c1)
          refine lv_iconst (pc := 92) (v := -1) hx hb d_Ho_shade_92 (by decide) ?_
          refine W.widen (k := 0) (n := 0) (Nat.le_of_ble_eq_true rfl) (Nat.le_of_ble_eq_true rfl) ?_
          exact W.iret (v := (-1)) hx hb hr (fun t ht hW => ⟨⟨(-1), [[(a0, .inr (12, [.ref a1, .ref a2, .ref a3, .ref a4, .ref a5, .ref a6, .ref a7, .int 0, .int ((-1)), .ref a8, .ref a9, .int 0, .int 0, .ref a10, .int 0, .int 0, .null, .null, .null, .null, .null]))], [(a1, .inl (kA 4, 4, .inr (.inr (.inr (.inr (rr (g 0)))))))], [(g 0 j, .inr (3, [.int 0, .int 0, .int 1, .ref a11, .ref a12, .ref a13, .ref a14, .ref a15, .ref a16, .ref a17, .ref a18, .ref a19, .ref a20, .ref a21, .ref a22, .ref a23, .null, .int 0, .int 0]))]], rfl, rfl, by rw [ht]; exact hP, va_K.moved hW.alike hK, hD⟩, hS.F ht⟩) hS.2.2 d_Ho_shade_93
    · refine lv_iconst (pc := 18) (v := -1) hx hb d_Ho_shade_18 (by decide) ?_
      refine W.widen (k := 0) (n := 0) (Nat.le_of_ble_eq_true rfl) (Nat.le_of_ble_eq_true rfl) ?_
      exact W.iret (v := (-1)) hx hb hr (fun t ht hW => ⟨⟨(-1), [[(a0, .inr (12, [.ref a1, .ref a2, .ref a3, .ref a4, .ref a5, .ref a6, .ref a7, .int 0, .int ((-1)), .ref a8, .ref a9, .int 0, .int 0, .ref a10, .int 0, .int 0, .null, .null, .null, .null, .null]))], [(a1, .inl (kA 4, 4, .inr (.inr (.inr (.inr (rr (g 0)))))))], [(g 0 j, .inr (3, [.int 0, .int 0, .int 1, .ref a11, .ref a12, .ref a13, .ref a14, .ref a15, .ref a16, .ref a17, .ref a18, .ref a19, .ref a20, .ref a21, .ref a22, .ref a23, .null, .int 0, .int 0]))]], rfl, rfl, by rw [ht]; exact hP, va_K.moved hW.alike hK, hD⟩, hS.F ht⟩) hS.2.2 d_Ho_shade_19
set_option maxRecDepth 100000 in
set_option maxHeartbeats 4000000 in
/-- DrawingHouseModel.in(III)Z -/
theorem c_Mo_in_z4 (l : Launch) (D : va_G) (kA : Nat → ClassId) (v4 : Int32) : Ci l y_Mo_in z_Mo_in { frames := 0, cells := 0, slots := 0, locals := 0 } D classes (TY kA) [.int v4, .int 0, .int 2] [] (fun r (_ : Unit) => r = if v4 < 0 then 0 else if 2 < v4 then 0 else 1) (fun u => []) 0 0 := by
  intro sz
  refine k_met (cc := b_Mo_in) (maxL := 3) (ret := (some .boolean)) (by decide) rfl (Nat.le_of_ble_eq_true rfl) (fun p e s m below meth c ls X hl hB => ?_)
  obtain ⟨hsz, hP, hK, hD0, hN⟩ := hB
  subst hsz
  have hD := hD0.self (sz := s.heap.size)
  generalize hAe : va_A (cat []) s.heap.size = A at hD ⊢
  have hA : ∀ q : Nat, s.heap.size ≤ q → A q := fun q h => by rw [← hAe]; exact Or.inr h
  have hS : va_S A s.heap s.heap [] := va_S.rf
  obtain ⟨hx, hb, hml, hown, hts, hr, hlk, hnm⟩ := id X
  have hl : lv_has ls 3 [(0, .int v4), (1, .int 0), (2, .int 2)] := hl
  have hP : va_P D classes (cat []) s.heap := hP
  have hK : va_K D classes (TY kA) s := hK
  refine lv_iload_n (pc := 0) hx hb d_Mo_in_0 rfl (lv_at hl 0 rfl) ?_
  refine lv_iload_n (pc := 1) hx hb d_Mo_in_1 rfl (lv_at hl 1 rfl) ?_
  refine lv_icmp_lt (pc := 2) (tgt := 14) hx hb d_Mo_in_2 (by decide) (fun ck1 => ?_) (fun ck1 => ?_)
  · refine lv_iconst (pc := 14) (v := 0) hx hb d_Mo_in_14 (by decide) ?_
    refine W.widen (k := 0) (n := 0) (Nat.le_of_ble_eq_true rfl) (Nat.le_of_ble_eq_true rfl) ?_
    exact W.zret (v := 0) hx hb hr rfl (fun t ht hW => ⟨⟨0, (), rfl, (by rw [if_pos ck1]), by rw [ht]; exact hP, va_K.moved hW.alike hK, hD⟩, hS.F ht⟩) hS.2.2 d_Mo_in_15
  · refine lv_iload_n (pc := 5) hx hb d_Mo_in_5 rfl (lv_at hl 0 rfl) ?_
    refine lv_iload_n (pc := 6) hx hb d_Mo_in_6 rfl (lv_at hl 2 rfl) ?_
    refine lv_icmp_gt (pc := 7) (tgt := 14) hx hb d_Mo_in_7 (by decide) (fun ck2 => ?_) (fun ck2 => ?_)
    · refine lv_iconst (pc := 14) (v := 0) hx hb d_Mo_in_14 (by decide) ?_
      refine W.widen (k := 0) (n := 0) (Nat.le_of_ble_eq_true rfl) (Nat.le_of_ble_eq_true rfl) ?_
      exact W.zret (v := 0) hx hb hr rfl (fun t ht hW => ⟨⟨0, (), rfl, (by rw [if_neg ck1, if_pos ck2]), by rw [ht]; exact hP, va_K.moved hW.alike hK, hD⟩, hS.F ht⟩) hS.2.2 d_Mo_in_15
    · refine lv_iconst (pc := 10) (v := 1) hx hb d_Mo_in_10 (by decide) ?_
      refine lv_goto (pc := 11) (tgt := 15) hx hb d_Mo_in_11 (by decide) ?_
      refine W.widen (k := 0) (n := 0) (Nat.le_of_ble_eq_true rfl) (Nat.le_of_ble_eq_true rfl) ?_
      exact W.zret (v := 1) hx hb hr rfl (fun t ht hW => ⟨⟨1, (), rfl, (by rw [if_neg ck1, if_neg ck2]), by rw [ht]; exact hP, va_K.moved hW.alike hK, hD⟩, hS.F ht⟩) hS.2.2 d_Mo_in_15
set_option maxRecDepth 100000 in
set_option maxHeartbeats 4000000 in
/-- DrawingHouseModel.in(III)Z -/
theorem c_Mo_in_z5 (l : Launch) (D : va_G) (kA : Nat → ClassId) (v3 : Int32) : Ci l y_Mo_in z_Mo_in { frames := 0, cells := 0, slots := 0, locals := 0 } D classes (TY kA) [.int v3, .int 0, .int ((-1))] [] (fun r (_ : Unit) => r = 0) (fun u => []) 0 0 := by
  intro sz
  refine k_met (cc := b_Mo_in) (maxL := 3) (ret := (some .boolean)) (by decide) rfl (Nat.le_of_ble_eq_true rfl) (fun p e s m below meth c ls X hl hB => ?_)
  obtain ⟨hsz, hP, hK, hD0, hN⟩ := hB
  subst hsz
  have hD := hD0.self (sz := s.heap.size)
  generalize hAe : va_A (cat []) s.heap.size = A at hD ⊢
  have hA : ∀ q : Nat, s.heap.size ≤ q → A q := fun q h => by rw [← hAe]; exact Or.inr h
  have hS : va_S A s.heap s.heap [] := va_S.rf
  obtain ⟨hx, hb, hml, hown, hts, hr, hlk, hnm⟩ := id X
  have hl : lv_has ls 3 [(0, .int v3), (1, .int 0), (2, .int ((-1)))] := hl
  have hP : va_P D classes (cat []) s.heap := hP
  have hK : va_K D classes (TY kA) s := hK
  refine lv_iload_n (pc := 0) hx hb d_Mo_in_0 rfl (lv_at hl 0 rfl) ?_
  refine lv_iload_n (pc := 1) hx hb d_Mo_in_1 rfl (lv_at hl 1 rfl) ?_
  refine lv_icmp_lt (pc := 2) (tgt := 14) hx hb d_Mo_in_2 (by decide) (fun ck1 => ?_) (fun ck1 => ?_)
  · refine lv_iconst (pc := 14) (v := 0) hx hb d_Mo_in_14 (by decide) ?_
    refine W.widen (k := 0) (n := 0) (Nat.le_of_ble_eq_true rfl) (Nat.le_of_ble_eq_true rfl) ?_
    exact W.zret (v := 0) hx hb hr rfl (fun t ht hW => ⟨⟨0, (), rfl, rfl, by rw [ht]; exact hP, va_K.moved hW.alike hK, hD⟩, hS.F ht⟩) hS.2.2 d_Mo_in_15
  · refine lv_iload_n (pc := 5) hx hb d_Mo_in_5 rfl (lv_at hl 0 rfl) ?_
    refine lv_iload_n (pc := 6) hx hb d_Mo_in_6 rfl (lv_at hl 2 rfl) ?_
    refine lv_icmp_gt (pc := 7) (tgt := 14) hx hb d_Mo_in_7 (by decide) (fun c1 => ?_) (fun c1 => absurd (m1_lt ck1) c1)
    refine lv_iconst (pc := 14) (v := 0) hx hb d_Mo_in_14 (by decide) ?_
    refine W.widen (k := 0) (n := 0) (Nat.le_of_ble_eq_true rfl) (Nat.le_of_ble_eq_true rfl) ?_
    exact W.zret (v := 0) hx hb hr rfl (fun t ht hW => ⟨⟨0, (), rfl, rfl, by rw [ht]; exact hP, va_K.moved hW.alike hK, hD⟩, hS.F ht⟩) hS.2.2 d_Mo_in_15
set_option maxRecDepth 100000 in
set_option maxHeartbeats 4000000 in
/-- DrawingHouseModel.shade(IIII)I -/
theorem c_Mo_shade_z2 (l : Launch) (D : va_G) (kA : Nat → ClassId) (a0 : Nat) (j : Nat) (v2 : Int32) (v3 : Int32) (v4 : Int32) (qm : Nat → Nat) (hj : j < 4) : Ci l y_Mo_shade z_Mo_shade { frames := 2, cells := 0, slots := 0, locals := 42 } D classes (TY kA) [.ref a0, .int (nI j), .int v2, .int v3, .int v4] [[(a0, .inr (13, mF qm x0Mo y0Mo))], [(qm 3, .inl (kA 0, 4, .inl (fun _ => 0)))], [(qm 2, .inl (kA 0, 66836, .inl all0))]] (fun r (_ : List va_W) => r = (-1)) (fun u => u) 0 0 := by
  intro sz
  refine k_met (cc := b_Mo_shade) (maxL := 5) (ret := (some .int)) (by decide) rfl (Nat.le_of_ble_eq_true rfl) (fun p e s m below meth c ls X hl hB => ?_)
  obtain ⟨hsz, hP, hK, hD0, hN⟩ := hB
  subst hsz
  have hD := hD0.self (sz := s.heap.size)
  generalize hAe : va_A (cat [[(a0, .inr (13, mF qm x0Mo y0Mo))], [(qm 3, .inl (kA 0, 4, .inl (fun _ => 0)))], [(qm 2, .inl (kA 0, 66836, .inl all0))]]) s.heap.size = A at hD ⊢
  have hA : ∀ q : Nat, s.heap.size ≤ q → A q := fun q h => by rw [← hAe]; exact Or.inr h
  have hS : va_S A s.heap s.heap [] := va_S.rf
  obtain ⟨hx, hb, hml, hown, hts, hr, hlk, hnm⟩ := id X
  have hl : lv_has ls 5 [(0, .ref a0), (1, .int (nI j)), (2, .int v2), (3, .int v3), (4, .int v4)] := hl
  have hP : va_P D classes (cat [[(a0, .inr (13, mF qm x0Mo y0Mo))], [(qm 3, .inl (kA 0, 4, .inl (fun _ => 0)))], [(qm 2, .inl (kA 0, 66836, .inl all0))]]) s.heap := hP
  have hK : va_K D classes (TY kA) s := hK
  refine lv_iload_n (pc := 0) hx hb d_Mo_shade_0 rfl (lv_at hl 1 rfl) ?_
  refine k_goI (gr := [[(a0, .inr (13, mF qm x0Mo y0Mo))], [(qm 3, .inl (kA 0, 4, .inl (fun _ => 0)))], [(qm 2, .inl (kA 0, 66836, .inl all0))]]) (k_rS (pc := 1) (As := [.int (nI j)]) (rest := []) X (c_Mo_isPlace l D kA (nI j) s.heap.size) rfl wm_2978 wm_9 wm_2976 wm_2977 1 (by decide +kernel) ⟨Nat.le_of_ble_eq_true rfl, Nat.le_of_ble_eq_true rfl⟩ rfl rfl (k_pre hN hK hP hD [] [0, 1, 2] 3 rfl (by decide) rfl) rfl hl.1 rfl (Nat.le_of_ble_eq_true rfl) d_Mo_shade_1 ⟨Nat.le_of_ble_eq_true rfl, Nat.le_of_ble_eq_true rfl⟩) hP hD hS hA [] [0, 1, 2] 3 rfl (by decide) rfl rfl (fun r1 u2 H locs hu2 hP hD hS => ?_)
  subst hu2
  refine k_cst (v := 1) (placeM_ok hj) ?_
  have hP : va_P D classes (cat [[(a0, .inr (13, mF qm x0Mo y0Mo))], [(qm 3, .inl (kA 0, 4, .inl (fun _ => 0)))], [(qm 2, .inl (kA 0, 66836, .inl all0))]]) H := hP
  have hD : va_D A (cat [[(a0, .inr (13, mF qm x0Mo y0Mo))], [(qm 3, .inl (kA 0, 4, .inl (fun _ => 0)))], [(qm 2, .inl (kA 0, 66836, .inl all0))]]) := hD
  refine lv_if_eq (pc := 4) (tgt := 26) hx hb d_Mo_shade_4 (by decide) (fun c1 => absurd c1 (by decide)) (fun c1 => ?_)
  refine lv_iload_n (pc := 7) hx hb d_Mo_shade_7 rfl (lv_at hl 2 rfl) ?_
  refine lv_iconst (pc := 8) (v := 0) hx hb d_Mo_shade_8 (by decide) ?_
  refine lv_iconst (pc := 9) (v := 1) hx hb d_Mo_shade_9 (by decide) ?_
  refine k_goI (gr := [[(a0, .inr (13, mF qm x0Mo y0Mo))], [(qm 3, .inl (kA 0, 4, .inl (fun _ => 0)))], [(qm 2, .inl (kA 0, 66836, .inl all0))]]) (k_rS (pc := 10) (As := [.int v2, .int 0, .int 1]) (rest := []) X (c_Mo_in_z2 l D kA v2 H.size) rfl wm_2971 wm_9 wm_2969 wm_2970 3 (by decide +kernel) ⟨Nat.le_of_ble_eq_true rfl, Nat.le_of_ble_eq_true rfl⟩ rfl rfl (k_pre hN hK hP hD [] [0, 1, 2] 3 rfl (by decide) rfl) rfl hl.1 rfl (Nat.le_of_ble_eq_true rfl) d_Mo_shade_10 ⟨Nat.le_of_ble_eq_true rfl, Nat.le_of_ble_eq_true rfl⟩) hP hD hS hA [] [0, 1, 2] 3 rfl (by decide) rfl rfl (fun r3 u4 H locs hu4 hP hD hS => ?_)
  subst hu4
  have hP : va_P D classes (cat [[(a0, .inr (13, mF qm x0Mo y0Mo))], [(qm 3, .inl (kA 0, 4, .inl (fun _ => 0)))], [(qm 2, .inl (kA 0, 66836, .inl all0))]]) H := hP
  have hD : va_D A (cat [[(a0, .inr (13, mF qm x0Mo y0Mo))], [(qm 3, .inl (kA 0, 4, .inl (fun _ => 0)))], [(qm 2, .inl (kA 0, 66836, .inl all0))]]) := hD
  refine lv_if_eq (pc := 13) (tgt := 26) hx hb d_Mo_shade_13 (by decide) (fun ck1 => ?_) (fun ck1 => ?_)
  · refine lv_iconst (pc := 26) (v := -1) hx hb d_Mo_shade_26 (by decide) ?_
    refine W.widen (k := 0) (n := 0) (Nat.le_of_ble_eq_true rfl) (Nat.le_of_ble_eq_true rfl) ?_
    exact W.iret (v := (-1)) hx hb hr (fun t ht hW => ⟨⟨(-1), [[(a0, .inr (13, mF qm x0Mo y0Mo))], [(qm 3, .inl (kA 0, 4, .inl (fun _ => 0)))], [(qm 2, .inl (kA 0, 66836, .inl all0))]], rfl, rfl, by rw [ht]; exact hP, va_K.moved hW.alike hK, hD⟩, hS.F ht⟩) hS.2.2 d_Mo_shade_27
  · refine lv_iload (pc := 16) hx hb d_Mo_shade_16 (lv_at hl 4 rfl) ?_
    refine lv_iconst (pc := 18) (v := 0) hx hb d_Mo_shade_18 (by decide) ?_
    refine lv_iconst (pc := 19) (v := 2) hx hb d_Mo_shade_19 (by decide) ?_
    refine k_goI (gr := [[(a0, .inr (13, mF qm x0Mo y0Mo))], [(qm 3, .inl (kA 0, 4, .inl (fun _ => 0)))], [(qm 2, .inl (kA 0, 66836, .inl all0))]]) (k_rS (pc := 20) (As := [.int v4, .int 0, .int 2]) (rest := []) X (c_Mo_in_z4 l D kA v4 H.size) rfl wm_2971 wm_9 wm_2969 wm_2970 3 (by decide +kernel) ⟨Nat.le_of_ble_eq_true rfl, Nat.le_of_ble_eq_true rfl⟩ rfl rfl (k_pre hN hK hP hD [] [0, 1, 2] 3 rfl (by decide) rfl) rfl hl.1 rfl (Nat.le_of_ble_eq_true rfl) d_Mo_shade_20 ⟨Nat.le_of_ble_eq_true rfl, Nat.le_of_ble_eq_true rfl⟩) hP hD hS hA [] [0, 1, 2] 3 rfl (by decide) rfl rfl (fun r5 u6 H locs hu6 hP hD hS => ?_)
    subst hu6
    have hP : va_P D classes (cat [[(a0, .inr (13, mF qm x0Mo y0Mo))], [(qm 3, .inl (kA 0, 4, .inl (fun _ => 0)))], [(qm 2, .inl (kA 0, 66836, .inl all0))]]) H := hP
    have hD : va_D A (cat [[(a0, .inr (13, mF qm x0Mo y0Mo))], [(qm 3, .inl (kA 0, 4, .inl (fun _ => 0)))], [(qm 2, .inl (kA 0, 66836, .inl all0))]]) := hD
    refine lv_if_ne (pc := 23) (tgt := 28) hx hb d_Mo_shade_23 (by decide) (fun ck2 => ?_) (fun ck2 => ?_)
    · refine lv_aload_n (pc := 28) hx hb d_Mo_shade_28 rfl (lv_at hl 0 rfl) ?_
      refine lv_iload_n (pc := 29) hx hb d_Mo_shade_29 rfl (lv_at hl 1 rfl) ?_
      refine k_goV (gr := [[(qm 2, .inl (kA 0, 66836, .inl all0))]]) (k_rV (pc := 30) (As := [.int (nI j)]) (rest := []) X (c_Mo_take_z1 l D kA a0 j qm hj H.size) rfl wm_3091 wm_9 wm_3088 wm_3090 wv_14_2 1 (by decide +kernel) ⟨Nat.le_of_ble_eq_true rfl, Nat.le_of_ble_eq_true rfl⟩ rfl rfl (va_recv hK hP (ci := 13) (q0 := 0) rfl rfl) (k_pre hN hK hP hD [0, 1] [2] 3 rfl (by decide) rfl) rfl hl.1 rfl (Nat.le_of_ble_eq_true rfl) d_Mo_shade_30 ⟨Nat.le_of_ble_eq_true rfl, Nat.le_of_ble_eq_true rfl⟩) hP hD hS hA [0, 1] [2] 3 rfl (by decide) rfl rfl (fun u7 H locs hu7 hP hD hS => ?_)
      have hP : va_P D classes (cat [[(qm 2, .inl (kA 0, 66836, .inl all0))], [(a0, .inr (13, mF qm (va_up x0Mo 5 (nI (539 * (31 * j + 0)))) y0Mo))], [(qm 3, .inl (kA 0, 4, .inl (fun _ => 0)))]]) H := hP
      have hD : va_D A (cat [[(qm 2, .inl (kA 0, 66836, .inl all0))], [(a0, .inr (13, mF qm (va_up x0Mo 5 (nI (539 * (31 * j + 0)))) y0Mo))], [(qm 3, .inl (kA 0, 4, .inl (fun _ => 0)))]]) := hD
      refine lv_iload_n (pc := 33) hx hb d_Mo_shade_33 rfl (lv_at hl 3 rfl) ?_
      refine lv_iconst (pc := 34) (v := 0) hx hb d_Mo_shade_34 (by decide) ?_
      refine lv_iload_n (pc := 35) hx hb d_Mo_shade_35 rfl (lv_at hl 2 rfl) ?_
      refine lv_if_ne (pc := 36) (tgt := 46) hx hb d_Mo_shade_36 (by decide) (fun ck3 => ?_) (fun ck3 => ?_)
      · refine lv_aload_n (pc := 46) hx hb d_Mo_shade_46 rfl (lv_at hl 0 rfl) ?_
        refine k_goI (gr := [[(qm 3, .inl (kA 0, 4, .inl (fun _ => 0)))]]) (k_rV (pc := 47) (As := []) (rest := [.int 0, .int v3]) X (c_Mo_edges_z1 l D kA a0 qm j hj H.size) rfl wm_3037 wm_9 wm_3034 wm_3036 wv_13_6 0 (by decide +kernel) ⟨Nat.le_of_ble_eq_true rfl, Nat.le_of_ble_eq_true rfl⟩ rfl rfl (va_recv hK hP (ci := 13) (q0 := 1) rfl rfl) (k_pre hN hK hP hD [1, 0] [2] 3 rfl (by decide) rfl) rfl hl.1 rfl (Nat.le_of_ble_eq_true rfl) d_Mo_shade_47 ⟨Nat.le_of_ble_eq_true rfl, Nat.le_of_ble_eq_true rfl⟩) hP hD hS hA [1, 0] [2] 3 rfl (by decide) rfl rfl (fun r8 u9 H locs hu9 hP hD hS => ?_)
        subst hu9
        have hP : va_P D classes (cat [[(qm 3, .inl (kA 0, 4, .inl (fun _ => 0)))], [(a0, .inr (13, mF qm (va_up x0Mo 5 (nI (539 * (31 * j + 0)))) y0Mo))], [(qm 2, .inl (kA 0, 66836, .inl all0))]]) H := hP
        have hD : va_D A (cat [[(qm 3, .inl (kA 0, 4, .inl (fun _ => 0)))], [(a0, .inr (13, mF qm (va_up x0Mo 5 (nI (539 * (31 * j + 0)))) y0Mo))], [(qm 2, .inl (kA 0, 66836, .inl all0))]]) := hD
        refine lv_iconst (pc := 50) (v := 1) hx hb d_Mo_shade_50 (by decide) ?_
        refine lv_isub (pc := 51) hx hb d_Mo_shade_51 ?_
        refine k_cst (v := (-1)) (by decide) ?_
        refine k_goI (gr := [[(qm 3, .inl (kA 0, 4, .inl (fun _ => 0)))], [(a0, .inr (13, mF qm (va_up x0Mo 5 (nI (539 * (31 * j + 0)))) y0Mo))], [(qm 2, .inl (kA 0, 66836, .inl all0))]]) (k_rS (pc := 52) (As := [.int v3, .int 0, .int ((-1))]) (rest := []) X (c_Mo_in_z5 l D kA v3 H.size) rfl wm_2971 wm_9 wm_2969 wm_2970 3 (by decide +kernel) ⟨Nat.le_of_ble_eq_true rfl, Nat.le_of_ble_eq_true rfl⟩ rfl rfl (k_pre hN hK hP hD [] [0, 1, 2] 3 rfl (by decide) rfl) rfl hl.1 rfl (Nat.le_of_ble_eq_true rfl) d_Mo_shade_52 ⟨Nat.le_of_ble_eq_true rfl, Nat.le_of_ble_eq_true rfl⟩) hP hD hS hA [] [0, 1, 2] 3 rfl (by decide) rfl rfl (fun r10 u11 H locs hu11 hP hD hS => ?_)
        subst hu11
        have hP : va_P D classes (cat [[(qm 3, .inl (kA 0, 4, .inl (fun _ => 0)))], [(a0, .inr (13, mF qm (va_up x0Mo 5 (nI (539 * (31 * j + 0)))) y0Mo))], [(qm 2, .inl (kA 0, 66836, .inl all0))]]) H := hP
        have hD : va_D A (cat [[(qm 3, .inl (kA 0, 4, .inl (fun _ => 0)))], [(a0, .inr (13, mF qm (va_up x0Mo 5 (nI (539 * (31 * j + 0)))) y0Mo))], [(qm 2, .inl (kA 0, 66836, .inl all0))]]) := hD
        refine lv_if_eq (pc := 55) (tgt := 83) hx hb d_Mo_shade_55 (by decide) (fun c1 => ?_) (fun c1 => absurd (by decide) c1)
        refine lv_iconst (pc := 83) (v := -1) hx hb d_Mo_shade_83 (by decide) ?_
        refine W.widen (k := 0) (n := 0) (Nat.le_of_ble_eq_true rfl) (Nat.le_of_ble_eq_true rfl) ?_
        exact W.iret (v := (-1)) hx hb hr (fun t ht hW => ⟨⟨(-1), [[(qm 3, .inl (kA 0, 4, .inl (fun _ => 0)))], [(a0, .inr (13, mF qm (va_up x0Mo 5 (nI (539 * (31 * j + 0)))) y0Mo))], [(qm 2, .inl (kA 0, 66836, .inl all0))]], rfl, rfl, by rw [ht]; exact hP, va_K.moved hW.alike hK, hD⟩, hS.F ht⟩) hS.2.2 d_Mo_shade_84
      · refine lv_aload_n (pc := 39) hx hb d_Mo_shade_39 rfl (lv_at hl 0 rfl) ?_
        refine k_goI (gr := [[(qm 3, .inl (kA 0, 4, .inl (fun _ => 0)))]]) (k_rV (pc := 40) (As := []) (rest := [.int 0, .int v3]) X (c_Mo_nodes_z1 l D kA a0 qm j hj H.size) rfl wm_3025 wm_9 wm_3022 wm_3024 wv_13_3 0 (by decide +kernel) ⟨Nat.le_of_ble_eq_true rfl, Nat.le_of_ble_eq_true rfl⟩ rfl rfl (va_recv hK hP (ci := 13) (q0 := 1) rfl rfl) (k_pre hN hK hP hD [1, 0] [2] 3 rfl (by decide) rfl) rfl hl.1 rfl (Nat.le_of_ble_eq_true rfl) d_Mo_shade_40 ⟨Nat.le_of_ble_eq_true rfl, Nat.le_of_ble_eq_true rfl⟩) hP hD hS hA [1, 0] [2] 3 rfl (by decide) rfl rfl (fun r8 u9 H locs hu9 hP hD hS => ?_)
        subst hu9
        have hP : va_P D classes (cat [[(qm 3, .inl (kA 0, 4, .inl (fun _ => 0)))], [(a0, .inr (13, mF qm (va_up x0Mo 5 (nI (539 * (31 * j + 0)))) y0Mo))], [(qm 2, .inl (kA 0, 66836, .inl all0))]]) H := hP
        have hD : va_D A (cat [[(qm 3, .inl (kA 0, 4, .inl (fun _ => 0)))], [(a0, .inr (13, mF qm (va_up x0Mo 5 (nI (539 * (31 * j + 0)))) y0Mo))], [(qm 2, .inl (kA 0, 66836, .inl all0))]]) := hD
        refine lv_goto (pc := 43) (tgt := 50) hx hb d_Mo_shade_43 (by decide) ?_
        refine lv_iconst (pc := 50) (v := 1) hx hb d_Mo_shade_50 (by decide) ?_
        refine lv_isub (pc := 51) hx hb d_Mo_shade_51 ?_
        refine k_cst (v := (-1)) (by decide) ?_
        refine k_goI (gr := [[(qm 3, .inl (kA 0, 4, .inl (fun _ => 0)))], [(a0, .inr (13, mF qm (va_up x0Mo 5 (nI (539 * (31 * j + 0)))) y0Mo))], [(qm 2, .inl (kA 0, 66836, .inl all0))]]) (k_rS (pc := 52) (As := [.int v3, .int 0, .int ((-1))]) (rest := []) X (c_Mo_in_z5 l D kA v3 H.size) rfl wm_2971 wm_9 wm_2969 wm_2970 3 (by decide +kernel) ⟨Nat.le_of_ble_eq_true rfl, Nat.le_of_ble_eq_true rfl⟩ rfl rfl (k_pre hN hK hP hD [] [0, 1, 2] 3 rfl (by decide) rfl) rfl hl.1 rfl (Nat.le_of_ble_eq_true rfl) d_Mo_shade_52 ⟨Nat.le_of_ble_eq_true rfl, Nat.le_of_ble_eq_true rfl⟩) hP hD hS hA [] [0, 1, 2] 3 rfl (by decide) rfl rfl (fun r10 u11 H locs hu11 hP hD hS => ?_)
        subst hu11
        have hP : va_P D classes (cat [[(qm 3, .inl (kA 0, 4, .inl (fun _ => 0)))], [(a0, .inr (13, mF qm (va_up x0Mo 5 (nI (539 * (31 * j + 0)))) y0Mo))], [(qm 2, .inl (kA 0, 66836, .inl all0))]]) H := hP
        have hD : va_D A (cat [[(qm 3, .inl (kA 0, 4, .inl (fun _ => 0)))], [(a0, .inr (13, mF qm (va_up x0Mo 5 (nI (539 * (31 * j + 0)))) y0Mo))], [(qm 2, .inl (kA 0, 66836, .inl all0))]]) := hD
        refine lv_if_eq (pc := 55) (tgt := 83) hx hb d_Mo_shade_55 (by decide) (fun c1 => ?_) (fun c1 => absurd (by decide) c1)
        refine lv_iconst (pc := 83) (v := -1) hx hb d_Mo_shade_83 (by decide) ?_
        refine W.widen (k := 0) (n := 0) (Nat.le_of_ble_eq_true rfl) (Nat.le_of_ble_eq_true rfl) ?_
        exact W.iret (v := (-1)) hx hb hr (fun t ht hW => ⟨⟨(-1), [[(qm 3, .inl (kA 0, 4, .inl (fun _ => 0)))], [(a0, .inr (13, mF qm (va_up x0Mo 5 (nI (539 * (31 * j + 0)))) y0Mo))], [(qm 2, .inl (kA 0, 66836, .inl all0))]], rfl, rfl, by rw [ht]; exact hP, va_K.moved hW.alike hK, hD⟩, hS.F ht⟩) hS.2.2 d_Mo_shade_84
    · refine lv_iconst (pc := 26) (v := -1) hx hb d_Mo_shade_26 (by decide) ?_
      refine W.widen (k := 0) (n := 0) (Nat.le_of_ble_eq_true rfl) (Nat.le_of_ble_eq_true rfl) ?_
      exact W.iret (v := (-1)) hx hb hr (fun t ht hW => ⟨⟨(-1), [[(a0, .inr (13, mF qm x0Mo y0Mo))], [(qm 3, .inl (kA 0, 4, .inl (fun _ => 0)))], [(qm 2, .inl (kA 0, 66836, .inl all0))]], rfl, rfl, by rw [ht]; exact hP, va_K.moved hW.alike hK, hD⟩, hS.F ht⟩) hS.2.2 d_Mo_shade_27
set_option maxRecDepth 100000 in
set_option maxHeartbeats 4000000 in
/-- shade, a fresh house -/
theorem lf_shade_2 {p : Program} {e : Env} {s : State} {m : MethodId} {below : List Frame} {meth : Method} {c : Code} (l : Launch) {b : Nat} {xs : Nat → Int32} (C0 : lw_At p s m meth c b 6 xs) {D : va_G} {kA : Nat → ClassId} (h : Nat) (h2 : Nat) (q : Nat → Nat) (qg : Nat → Nat) (qm : Nat → Nat) (g : Nat → Nat → Nat) (j : Nat) (v2 : Int32) (v3 : Int32) (v4 : Int32) (hj : j < 4) (hv1 : xs 1 = nI j) (hv2 : xs 2 = v2) (hv3 : xs 3 = v3) (hv4 : xs 4 = v4) {H : Heap} {locs : List Loc} {ls : Array Slot} (hK : va_K D classes (TY kA) s) (hN : nst s) (hP : va_P D classes (cat [[(h, .inr (12, [.ref (q 0), .ref (q 1), .ref (q 2), .ref (q 3), .ref (q 4), .ref (q 5), .ref (q 6), .int 0, .int ((-1)), .ref (q 9), .ref (q 10), .int 0, .int 0, .ref (q 13), .int 0, .int 0, .null, .null, .null, .null, .null]))], [(q 0, .inl (kA 4, 4, .inr (.inr (.inr (.inr (rr (g 0)))))))], [(g 0 j, .inr (3, [.int 0, .int 0, .int 1, .ref (qg 3), .ref (qg 4), .ref (qg 5), .ref (qg 6), .ref (qg 7), .ref (qg 8), .ref (qg 9), .ref (qg 10), .ref (qg 11), .ref (qg 12), .ref (qg 13), .ref (qg 14), .ref (qg 15), .null, .int 0, .int 0]))], [(h2, .inr (13, mF qm x0Mo y0Mo))], [(qm 3, .inl (kA 0, 4, .inl (fun _ => 0)))], [(qm 2, .inl (kA 0, 66836, .inl all0))]]) H) (hD : va_D (fun q : Nat => s.heap.size ≤ q) (cat [[(h, .inr (12, [.ref (q 0), .ref (q 1), .ref (q 2), .ref (q 3), .ref (q 4), .ref (q 5), .ref (q 6), .int 0, .int ((-1)), .ref (q 9), .ref (q 10), .int 0, .int 0, .ref (q 13), .int 0, .int 0, .null, .null, .null, .null, .null]))], [(q 0, .inl (kA 4, 4, .inr (.inr (.inr (.inr (rr (g 0)))))))], [(g 0 j, .inr (3, [.int 0, .int 0, .int 1, .ref (qg 3), .ref (qg 4), .ref (qg 5), .ref (qg 6), .ref (qg 7), .ref (qg 8), .ref (qg 9), .ref (qg 10), .ref (qg 11), .ref (qg 12), .ref (qg 13), .ref (qg 14), .ref (qg 15), .null, .int 0, .int 0]))], [(h2, .inr (13, mF qm x0Mo y0Mo))], [(qm 3, .inl (kA 0, 4, .inl (fun _ => 0)))], [(qm 2, .inl (kA 0, 66836, .inl all0))]])) (hS : va_S (fun q : Nat => s.heap.size ≤ q) s.heap H locs) (hl : lv_has ls 4 [(3, .int 0), (2, .ref h2), (1, .ref h), (0, .ref b)]) : W p l e room_1 s m #[Value.ref b] below meth c H locs 368 365796 (lw_Z below #[Value.ref b] s) (F0 m 1110 ls []) := by
  obtain ⟨hx, hb, hr, hml, hown, hts0, hX, hbl, hlocks, hgv⟩ := id C0
  have hts : ∀ w ∈ lw_g, w.before #[Value.ref b] s = true := fun w h => hts0 w (lw_gt h)
  have X : cx p s m #[Value.ref b] meth c b_law_law 4 ret "DrawingHouseLaw" meth.name := ⟨hx, hb, hml, hown, hts, hr, hlocks, rfl⟩
  obtain ⟨A, hAe⟩ : ∃ A : Nat → Prop, A = fun q : Nat => s.heap.size ≤ q := ⟨_, rfl⟩
  have hA : ∀ q : Nat, s.heap.size ≤ q → A q := fun q h => by rw [hAe]; exact h
  have hbA : ¬ A b := by rw [hAe]; exact Nat.not_le.mpr hbl
  rw [← hAe] at hD hS
  refine lv_aload_n (pc := 1110) hx hb d_law_law_1110 rfl (lv_at hl 2 rfl) ?_
  refine lv_aload_n (pc := 1111) hx hb d_law_law_1111 rfl (lv_at hl 3 rfl) ?_
  refine lv_iload_n (pc := 1112) hx hb d_law_law_1112 rfl (lv_at hl 0 rfl) ?_
  refine lv_iconst (pc := 1113) (v := 1) hx hb d_law_law_1113 (by decide) ?_
  refine lv_iadd (pc := 1114) hx hb d_law_law_1114 ?_
  refine k_cst (v := 1) (by decide) ?_
  refine va_sld (pc := 1115) hx hb hX hbl hbA hS (by unfold vp_in; decide) d_law_law_1115 ?_
  refine k_cst (v := nI j) hv1 ?_
  refine lv_aload_n (pc := 1116) hx hb d_law_law_1116 rfl (lv_at hl 3 rfl) ?_
  refine lv_iload_n (pc := 1117) hx hb d_law_law_1117 rfl (lv_at hl 0 rfl) ?_
  refine lv_iconst (pc := 1118) (v := 2) hx hb d_law_law_1118 (by decide) ?_
  refine lv_iadd (pc := 1119) hx hb d_law_law_1119 ?_
  refine k_cst (v := 2) (by decide) ?_
  refine va_sld (pc := 1120) hx hb hX hbl hbA hS (by unfold vp_in; decide) d_law_law_1120 ?_
  refine k_cst (v := v2) hv2 ?_
  refine lv_aload_n (pc := 1121) hx hb d_law_law_1121 rfl (lv_at hl 3 rfl) ?_
  refine lv_iload_n (pc := 1122) hx hb d_law_law_1122 rfl (lv_at hl 0 rfl) ?_
  refine lv_iconst (pc := 1123) (v := 3) hx hb d_law_law_1123 (by decide) ?_
  refine lv_iadd (pc := 1124) hx hb d_law_law_1124 ?_
  refine k_cst (v := 3) (by decide) ?_
  refine va_sld (pc := 1125) hx hb hX hbl hbA hS (by unfold vp_in; decide) d_law_law_1125 ?_
  refine k_cst (v := v3) hv3 ?_
  refine lv_aload_n (pc := 1126) hx hb d_law_law_1126 rfl (lv_at hl 3 rfl) ?_
  refine lv_iload_n (pc := 1127) hx hb d_law_law_1127 rfl (lv_at hl 0 rfl) ?_
  refine lv_iconst (pc := 1128) (v := 4) hx hb d_law_law_1128 (by decide) ?_
  refine lv_iadd (pc := 1129) hx hb d_law_law_1129 ?_
  refine k_cst (v := 4) (by decide) ?_
  refine va_sld (pc := 1130) hx hb hX hbl hbA hS (by unfold vp_in; decide) d_law_law_1130 ?_
  refine k_cst (v := v4) hv4 ?_
  refine k_goI (gr := [[(h2, .inr (13, mF qm x0Mo y0Mo))], [(qm 3, .inl (kA 0, 4, .inl (fun _ => 0)))], [(qm 2, .inl (kA 0, 66836, .inl all0))]]) (k_rV (pc := 1131) (As := [.int (nI j), .int v2, .int v3, .int v4]) (rest := []) X (c_Ho_shade_z2 l D kA h j v2 v3 v4 (q 0) (q 1) (q 2) (q 3) (q 4) (q 5) (q 6) (q 9) (q 10) (q 13) g (qg 3) (qg 4) (qg 5) (qg 6) (qg 7) (qg 8) (qg 9) (qg 10) (qg 11) (qg 12) (qg 13) (qg 14) (qg 15) hj H.size) rfl wm_2326 wm_1 wm_2323 wm_2324 wm_2325 4 (by decide +kernel) ⟨Nat.le_of_ble_eq_true rfl, Nat.le_of_ble_eq_true rfl⟩ rfl rfl (va_recv hK hP (ci := 12) (q0 := 0) rfl rfl) (k_pre hN hK hP hD [0, 1, 2] [3, 4, 5] 6 rfl (by decide) rfl) rfl hl.1 rfl (Nat.le_of_ble_eq_true rfl) d_law_law_1131 ⟨Nat.le_of_ble_eq_true rfl, Nat.le_of_ble_eq_true rfl⟩) hP hD hS hA [0, 1, 2] [3, 4, 5] 6 rfl (by decide) rfl rfl (fun r1 u2 H locs hu2 hP hD hS => ?_)
  obtain ⟨hP, hD⟩ := k_left hP hD
  subst hu2
  have hP : va_P D classes (cat [[(h2, .inr (13, mF qm x0Mo y0Mo))], [(qm 3, .inl (kA 0, 4, .inl (fun _ => 0)))], [(qm 2, .inl (kA 0, 66836, .inl all0))]]) H := hP
  have hD : va_D A (cat [[(h2, .inr (13, mF qm x0Mo y0Mo))], [(qm 3, .inl (kA 0, 4, .inl (fun _ => 0)))], [(qm 2, .inl (kA 0, 66836, .inl all0))]]) := hD
  refine lv_aload_n (pc := 1134) hx hb d_law_law_1134 rfl (lv_at hl 1 rfl) ?_
  refine lv_aload_n (pc := 1135) hx hb d_law_law_1135 rfl (lv_at hl 3 rfl) ?_
  refine lv_iload_n (pc := 1136) hx hb d_law_law_1136 rfl (lv_at hl 0 rfl) ?_
  refine lv_iconst (pc := 1137) (v := 1) hx hb d_law_law_1137 (by decide) ?_
  refine lv_iadd (pc := 1138) hx hb d_law_law_1138 ?_
  refine k_cst (v := 1) (by decide) ?_
  refine va_sld (pc := 1139) hx hb hX hbl hbA hS (by unfold vp_in; decide) d_law_law_1139 ?_
  refine k_cst (v := nI j) hv1 ?_
  refine lv_aload_n (pc := 1140) hx hb d_law_law_1140 rfl (lv_at hl 3 rfl) ?_
  refine lv_iload_n (pc := 1141) hx hb d_law_law_1141 rfl (lv_at hl 0 rfl) ?_
  refine lv_iconst (pc := 1142) (v := 2) hx hb d_law_law_1142 (by decide) ?_
  refine lv_iadd (pc := 1143) hx hb d_law_law_1143 ?_
  refine k_cst (v := 2) (by decide) ?_
  refine va_sld (pc := 1144) hx hb hX hbl hbA hS (by unfold vp_in; decide) d_law_law_1144 ?_
  refine k_cst (v := v2) hv2 ?_
  refine lv_aload_n (pc := 1145) hx hb d_law_law_1145 rfl (lv_at hl 3 rfl) ?_
  refine lv_iload_n (pc := 1146) hx hb d_law_law_1146 rfl (lv_at hl 0 rfl) ?_
  refine lv_iconst (pc := 1147) (v := 3) hx hb d_law_law_1147 (by decide) ?_
  refine lv_iadd (pc := 1148) hx hb d_law_law_1148 ?_
  refine k_cst (v := 3) (by decide) ?_
  refine va_sld (pc := 1149) hx hb hX hbl hbA hS (by unfold vp_in; decide) d_law_law_1149 ?_
  refine k_cst (v := v3) hv3 ?_
  refine lv_aload_n (pc := 1150) hx hb d_law_law_1150 rfl (lv_at hl 3 rfl) ?_
  refine lv_iload_n (pc := 1151) hx hb d_law_law_1151 rfl (lv_at hl 0 rfl) ?_
  refine lv_iconst (pc := 1152) (v := 4) hx hb d_law_law_1152 (by decide) ?_
  refine lv_iadd (pc := 1153) hx hb d_law_law_1153 ?_
  refine k_cst (v := 4) (by decide) ?_
  refine va_sld (pc := 1154) hx hb hX hbl hbA hS (by unfold vp_in; decide) d_law_law_1154 ?_
  refine k_cst (v := v4) hv4 ?_
  refine k_goI (gr := []) (k_rV (pc := 1155) (As := [.int (nI j), .int v2, .int v3, .int v4]) (rest := [.int ((-1))]) X (c_Mo_shade_z2 l D kA h2 j v2 v3 v4 qm hj H.size) rfl wm_3897 wm_9 wm_3894 wm_3895 wm_3896 4 (by decide +kernel) ⟨Nat.le_of_ble_eq_true rfl, Nat.le_of_ble_eq_true rfl⟩ rfl rfl (va_recv hK hP (ci := 13) (q0 := 0) rfl rfl) (k_pre hN hK hP hD [0, 1, 2] [] 3 rfl (by decide) rfl) rfl hl.1 rfl (Nat.le_of_ble_eq_true rfl) d_law_law_1155 ⟨Nat.le_of_ble_eq_true rfl, Nat.le_of_ble_eq_true rfl⟩) hP hD hS hA [0, 1, 2] [] 3 rfl (by decide) rfl rfl (fun r3 u4 H locs hu4 hP hD hS => ?_)
  obtain ⟨hP, hD⟩ := k_left hP hD
  subst hu4
  have hP : va_P D classes (cat []) H := hP
  have hD : va_D A (cat []) := hD
  refine lv_icmp_eq (pc := 1158) (tgt := 1295) hx hb d_law_law_1158 (by decide) (fun _ => ?_) (fun c1 => absurd (by decide) c1)
  rw [hAe] at hS
  exact law_exit l C0 (Nat.le_of_ble_eq_true rfl) (Nat.le_of_ble_eq_true rfl) hS hl
set_option maxRecDepth 100000 in
set_option maxHeartbeats 4000000 in
/-- DrawingHouse.text(II)I -/
theorem c_Ho_text_z1 (l : Launch) (D : va_G) (kA : Nat → ClassId) (a0 : Nat) (v1 : Int32) (v2 : Int32) (hg : sp_Ho_isPlace v1 = 0) (hgM : sp_Mo_isPlace v1 = 0) : Ci l y_Ho_text z_Ho_text { frames := 1, cells := 0, slots := 0, locals := 20 } D classes (TY kA) [.ref a0, .int v1, .int v2] [] (fun r (_ : List va_W) => r = (-1)) (fun u => u) 0 0 := by
  intro sz
  refine k_met (cc := b_Ho_text) (maxL := 4) (ret := (some .int)) (by decide) rfl (Nat.le_of_ble_eq_true rfl) (fun p e s m below meth c ls X hl hB => ?_)
  obtain ⟨hsz, hP, hK, hD0, hN⟩ := hB
  subst hsz
  have hD := hD0.self (sz := s.heap.size)
  generalize hAe : va_A (cat []) s.heap.size = A at hD ⊢
  have hA : ∀ q : Nat, s.heap.size ≤ q → A q := fun q h => by rw [← hAe]; exact Or.inr h
  have hS : va_S A s.heap s.heap [] := va_S.rf
  obtain ⟨hx, hb, hml, hown, hts, hr, hlk, hnm⟩ := id X
  have hl : lv_has ls 4 [(0, .ref a0), (1, .int v1), (2, .int v2)] := hl
  have hP : va_P D classes (cat []) s.heap := hP
  have hK : va_K D classes (TY kA) s := hK
  refine lv_iload_n (pc := 0) hx hb d_Ho_text_0 rfl (lv_at hl 1 rfl) ?_
  refine k_goI (gr := []) (k_rS (pc := 1) (As := [.int v1]) (rest := []) X (c_Ho_isPlace l D kA v1 s.heap.size) rfl wm_633 wm_1 wm_631 wm_632 1 (by decide +kernel) ⟨Nat.le_of_ble_eq_true rfl, Nat.le_of_ble_eq_true rfl⟩ rfl rfl (k_pre hN hK hP hD [] [] 0 rfl (by decide) rfl) rfl hl.1 rfl (Nat.le_of_ble_eq_true rfl) d_Ho_text_1 ⟨Nat.le_of_ble_eq_true rfl, Nat.le_of_ble_eq_true rfl⟩) hP hD hS hA [] [] 0 rfl (by decide) rfl rfl (fun r1 u2 H locs hu2 hP hD hS => ?_)
  subst hu2
  have hP : va_P D classes (cat []) H := hP
  have hD : va_D A (cat []) := hD
  refine lv_if_eq (pc := 4) (tgt := 29) hx hb d_Ho_text_4 (by decide) (fun c1 => ?_) (fun c1 => absurd (hg) c1)
  refine lv_iconst (pc := 29) (v := -1) hx hb d_Ho_text_29 (by decide) ?_
  refine W.widen (k := 0) (n := 0) (Nat.le_of_ble_eq_true rfl) (Nat.le_of_ble_eq_true rfl) ?_
  exact W.iret (v := (-1)) hx hb hr (fun t ht hW => ⟨⟨(-1), [], rfl, rfl, by rw [ht]; exact hP, va_K.moved hW.alike hK, hD⟩, hS.F ht⟩) hS.2.2 d_Ho_text_30
set_option maxRecDepth 100000 in
set_option maxHeartbeats 4000000 in
/-- DrawingHouseModel.text(II)I -/
theorem c_Mo_text_z1 (l : Launch) (D : va_G) (kA : Nat → ClassId) (a0 : Nat) (v1 : Int32) (v2 : Int32) (hg : sp_Ho_isPlace v1 = 0) (hgM : sp_Mo_isPlace v1 = 0) : Ci l y_Mo_text z_Mo_text { frames := 2, cells := 0, slots := 0, locals := 42 } D classes (TY kA) [.ref a0, .int v1, .int v2] [] (fun r (_ : List va_W) => r = (-1)) (fun u => u) 0 0 := by
  intro sz
  refine k_met (cc := b_Mo_text) (maxL := 4) (ret := (some .int)) (by decide) rfl (Nat.le_of_ble_eq_true rfl) (fun p e s m below meth c ls X hl hB => ?_)
  obtain ⟨hsz, hP, hK, hD0, hN⟩ := hB
  subst hsz
  have hD := hD0.self (sz := s.heap.size)
  generalize hAe : va_A (cat []) s.heap.size = A at hD ⊢
  have hA : ∀ q : Nat, s.heap.size ≤ q → A q := fun q h => by rw [← hAe]; exact Or.inr h
  have hS : va_S A s.heap s.heap [] := va_S.rf
  obtain ⟨hx, hb, hml, hown, hts, hr, hlk, hnm⟩ := id X
  have hl : lv_has ls 4 [(0, .ref a0), (1, .int v1), (2, .int v2)] := hl
  have hP : va_P D classes (cat []) s.heap := hP
  have hK : va_K D classes (TY kA) s := hK
  refine lv_iload_n (pc := 0) hx hb d_Mo_text_0 rfl (lv_at hl 1 rfl) ?_
  refine k_goI (gr := []) (k_rS (pc := 1) (As := [.int v1]) (rest := []) X (c_Mo_isPlace l D kA v1 s.heap.size) rfl wm_2978 wm_9 wm_2976 wm_2977 1 (by decide +kernel) ⟨Nat.le_of_ble_eq_true rfl, Nat.le_of_ble_eq_true rfl⟩ rfl rfl (k_pre hN hK hP hD [] [] 0 rfl (by decide) rfl) rfl hl.1 rfl (Nat.le_of_ble_eq_true rfl) d_Mo_text_1 ⟨Nat.le_of_ble_eq_true rfl, Nat.le_of_ble_eq_true rfl⟩) hP hD hS hA [] [] 0 rfl (by decide) rfl rfl (fun r1 u2 H locs hu2 hP hD hS => ?_)
  subst hu2
  have hP : va_P D classes (cat []) H := hP
  have hD : va_D A (cat []) := hD
  refine lv_if_eq (pc := 4) (tgt := 29) hx hb d_Mo_text_4 (by decide) (fun c1 => ?_) (fun c1 => absurd (hgM) c1)
  refine lv_iconst (pc := 29) (v := -1) hx hb d_Mo_text_29 (by decide) ?_
  refine W.widen (k := 0) (n := 0) (Nat.le_of_ble_eq_true rfl) (Nat.le_of_ble_eq_true rfl) ?_
  exact W.iret (v := (-1)) hx hb hr (fun t ht hW => ⟨⟨(-1), [], rfl, rfl, by rw [ht]; exact hP, va_K.moved hW.alike hK, hD⟩, hS.F ht⟩) hS.2.2 d_Mo_text_30
set_option maxRecDepth 100000 in
set_option maxHeartbeats 4000000 in
/-- text, a fresh house -/
theorem lf_text_1 {p : Program} {e : Env} {s : State} {m : MethodId} {below : List Frame} {meth : Method} {c : Code} (l : Launch) {b : Nat} {xs : Nat → Int32} (C0 : lw_At p s m meth c b 6 xs) {D : va_G} {kA : Nat → ClassId} (h : Nat) (h2 : Nat) (q : Nat → Nat) (qm : Nat → Nat) (v1 : Int32) (v2 : Int32) (hg : sp_Ho_isPlace v1 = 0) (hgM : sp_Mo_isPlace v1 = 0) (hv1 : xs 1 = v1) (hv2 : xs 2 = v2) {H : Heap} {locs : List Loc} {ls : Array Slot} (hK : va_K D classes (TY kA) s) (hN : nst s) (hP : va_P D classes (cat [[(h, .inr (12, [.ref (q 0), .ref (q 1), .ref (q 2), .ref (q 3), .ref (q 4), .ref (q 5), .ref (q 6), .int 0, .int ((-1)), .ref (q 9), .ref (q 10), .int 0, .int 0, .ref (q 13), .int 0, .int 0, .null, .null, .null, .null, .null]))], [(h2, .inr (13, mF qm x0Mo y0Mo))]]) H) (hD : va_D (fun q : Nat => s.heap.size ≤ q) (cat [[(h, .inr (12, [.ref (q 0), .ref (q 1), .ref (q 2), .ref (q 3), .ref (q 4), .ref (q 5), .ref (q 6), .int 0, .int ((-1)), .ref (q 9), .ref (q 10), .int 0, .int 0, .ref (q 13), .int 0, .int 0, .null, .null, .null, .null, .null]))], [(h2, .inr (13, mF qm x0Mo y0Mo))]])) (hS : va_S (fun q : Nat => s.heap.size ≤ q) s.heap H locs) (hl : lv_has ls 4 [(3, .int 0), (2, .ref h2), (1, .ref h), (0, .ref b)]) : W p l e room_1 s m #[Value.ref b] below meth c H locs 368 365796 (lw_Z below #[Value.ref b] s) (F0 m 1163 ls []) := by
  obtain ⟨hx, hb, hr, hml, hown, hts0, hX, hbl, hlocks, hgv⟩ := id C0
  have hts : ∀ w ∈ lw_g, w.before #[Value.ref b] s = true := fun w h => hts0 w (lw_gt h)
  have X : cx p s m #[Value.ref b] meth c b_law_law 4 ret "DrawingHouseLaw" meth.name := ⟨hx, hb, hml, hown, hts, hr, hlocks, rfl⟩
  obtain ⟨A, hAe⟩ : ∃ A : Nat → Prop, A = fun q : Nat => s.heap.size ≤ q := ⟨_, rfl⟩
  have hA : ∀ q : Nat, s.heap.size ≤ q → A q := fun q h => by rw [hAe]; exact h
  have hbA : ¬ A b := by rw [hAe]; exact Nat.not_le.mpr hbl
  rw [← hAe] at hD hS
  refine lv_aload_n (pc := 1163) hx hb d_law_law_1163 rfl (lv_at hl 2 rfl) ?_
  refine lv_aload_n (pc := 1164) hx hb d_law_law_1164 rfl (lv_at hl 3 rfl) ?_
  refine lv_iload_n (pc := 1165) hx hb d_law_law_1165 rfl (lv_at hl 0 rfl) ?_
  refine lv_iconst (pc := 1166) (v := 1) hx hb d_law_law_1166 (by decide) ?_
  refine lv_iadd (pc := 1167) hx hb d_law_law_1167 ?_
  refine k_cst (v := 1) (by decide) ?_
  refine va_sld (pc := 1168) hx hb hX hbl hbA hS (by unfold vp_in; decide) d_law_law_1168 ?_
  refine k_cst (v := v1) hv1 ?_
  refine lv_aload_n (pc := 1169) hx hb d_law_law_1169 rfl (lv_at hl 3 rfl) ?_
  refine lv_iload_n (pc := 1170) hx hb d_law_law_1170 rfl (lv_at hl 0 rfl) ?_
  refine lv_iconst (pc := 1171) (v := 2) hx hb d_law_law_1171 (by decide) ?_
  refine lv_iadd (pc := 1172) hx hb d_law_law_1172 ?_
  refine k_cst (v := 2) (by decide) ?_
  refine va_sld (pc := 1173) hx hb hX hbl hbA hS (by unfold vp_in; decide) d_law_law_1173 ?_
  refine k_cst (v := v2) hv2 ?_
  refine k_goI (gr := [[(h, .inr (12, [.ref (q 0), .ref (q 1), .ref (q 2), .ref (q 3), .ref (q 4), .ref (q 5), .ref (q 6), .int 0, .int ((-1)), .ref (q 9), .ref (q 10), .int 0, .int 0, .ref (q 13), .int 0, .int 0, .null, .null, .null, .null, .null]))], [(h2, .inr (13, mF qm x0Mo y0Mo))]]) (k_rV (pc := 1174) (As := [.int v1, .int v2]) (rest := []) X (c_Ho_text_z1 l D kA h v1 v2 hg hgM H.size) rfl wm_2330 wm_1 wm_2327 wm_2328 wm_2329 2 (by decide +kernel) ⟨Nat.le_of_ble_eq_true rfl, Nat.le_of_ble_eq_true rfl⟩ rfl rfl (va_recv hK hP (ci := 12) (q0 := 0) rfl rfl) (k_pre hN hK hP hD [] [0, 1] 2 rfl (by decide) rfl) rfl hl.1 rfl (Nat.le_of_ble_eq_true rfl) d_law_law_1174 ⟨Nat.le_of_ble_eq_true rfl, Nat.le_of_ble_eq_true rfl⟩) hP hD hS hA [] [0, 1] 2 rfl (by decide) rfl rfl (fun r1 u2 H locs hu2 hP hD hS => ?_)
  obtain ⟨hP, hD⟩ := k_left hP hD
  subst hu2
  have hP : va_P D classes (cat [[(h, .inr (12, [.ref (q 0), .ref (q 1), .ref (q 2), .ref (q 3), .ref (q 4), .ref (q 5), .ref (q 6), .int 0, .int ((-1)), .ref (q 9), .ref (q 10), .int 0, .int 0, .ref (q 13), .int 0, .int 0, .null, .null, .null, .null, .null]))], [(h2, .inr (13, mF qm x0Mo y0Mo))]]) H := hP
  have hD : va_D A (cat [[(h, .inr (12, [.ref (q 0), .ref (q 1), .ref (q 2), .ref (q 3), .ref (q 4), .ref (q 5), .ref (q 6), .int 0, .int ((-1)), .ref (q 9), .ref (q 10), .int 0, .int 0, .ref (q 13), .int 0, .int 0, .null, .null, .null, .null, .null]))], [(h2, .inr (13, mF qm x0Mo y0Mo))]]) := hD
  refine lv_aload_n (pc := 1177) hx hb d_law_law_1177 rfl (lv_at hl 1 rfl) ?_
  refine lv_aload_n (pc := 1178) hx hb d_law_law_1178 rfl (lv_at hl 3 rfl) ?_
  refine lv_iload_n (pc := 1179) hx hb d_law_law_1179 rfl (lv_at hl 0 rfl) ?_
  refine lv_iconst (pc := 1180) (v := 1) hx hb d_law_law_1180 (by decide) ?_
  refine lv_iadd (pc := 1181) hx hb d_law_law_1181 ?_
  refine k_cst (v := 1) (by decide) ?_
  refine va_sld (pc := 1182) hx hb hX hbl hbA hS (by unfold vp_in; decide) d_law_law_1182 ?_
  refine k_cst (v := v1) hv1 ?_
  refine lv_aload_n (pc := 1183) hx hb d_law_law_1183 rfl (lv_at hl 3 rfl) ?_
  refine lv_iload_n (pc := 1184) hx hb d_law_law_1184 rfl (lv_at hl 0 rfl) ?_
  refine lv_iconst (pc := 1185) (v := 2) hx hb d_law_law_1185 (by decide) ?_
  refine lv_iadd (pc := 1186) hx hb d_law_law_1186 ?_
  refine k_cst (v := 2) (by decide) ?_
  refine va_sld (pc := 1187) hx hb hX hbl hbA hS (by unfold vp_in; decide) d_law_law_1187 ?_
  refine k_cst (v := v2) hv2 ?_
  refine k_goI (gr := [[(h, .inr (12, [.ref (q 0), .ref (q 1), .ref (q 2), .ref (q 3), .ref (q 4), .ref (q 5), .ref (q 6), .int 0, .int ((-1)), .ref (q 9), .ref (q 10), .int 0, .int 0, .ref (q 13), .int 0, .int 0, .null, .null, .null, .null, .null]))], [(h2, .inr (13, mF qm x0Mo y0Mo))]]) (k_rV (pc := 1188) (As := [.int v1, .int v2]) (rest := [.int ((-1))]) X (c_Mo_text_z1 l D kA h2 v1 v2 hg hgM H.size) rfl wm_3901 wm_9 wm_3898 wm_3899 wm_3900 2 (by decide +kernel) ⟨Nat.le_of_ble_eq_true rfl, Nat.le_of_ble_eq_true rfl⟩ rfl rfl (va_recv hK hP (ci := 13) (q0 := 1) rfl rfl) (k_pre hN hK hP hD [] [0, 1] 2 rfl (by decide) rfl) rfl hl.1 rfl (Nat.le_of_ble_eq_true rfl) d_law_law_1188 ⟨Nat.le_of_ble_eq_true rfl, Nat.le_of_ble_eq_true rfl⟩) hP hD hS hA [] [0, 1] 2 rfl (by decide) rfl rfl (fun r3 u4 H locs hu4 hP hD hS => ?_)
  obtain ⟨hP, hD⟩ := k_left hP hD
  subst hu4
  have hP : va_P D classes (cat [[(h, .inr (12, [.ref (q 0), .ref (q 1), .ref (q 2), .ref (q 3), .ref (q 4), .ref (q 5), .ref (q 6), .int 0, .int ((-1)), .ref (q 9), .ref (q 10), .int 0, .int 0, .ref (q 13), .int 0, .int 0, .null, .null, .null, .null, .null]))], [(h2, .inr (13, mF qm x0Mo y0Mo))]]) H := hP
  have hD : va_D A (cat [[(h, .inr (12, [.ref (q 0), .ref (q 1), .ref (q 2), .ref (q 3), .ref (q 4), .ref (q 5), .ref (q 6), .int 0, .int ((-1)), .ref (q 9), .ref (q 10), .int 0, .int 0, .ref (q 13), .int 0, .int 0, .null, .null, .null, .null, .null]))], [(h2, .inr (13, mF qm x0Mo y0Mo))]]) := hD
  refine lv_icmp_eq (pc := 1191) (tgt := 1295) hx hb d_law_law_1191 (by decide) (fun _ => ?_) (fun c1 => absurd (by decide) c1)
  rw [hAe] at hS
  exact law_exit l C0 (Nat.le_of_ble_eq_true rfl) (Nat.le_of_ble_eq_true rfl) hS hl
set_option maxRecDepth 100000 in
set_option maxHeartbeats 4000000 in
/-- DrawingHouse.text(II)I -/
theorem c_Ho_text_z2 (l : Launch) (D : va_G) (kA : Nat → ClassId) (a0 : Nat) (j : Nat) (v2 : Int32) (hj : j < 4) (hn2 : v2 < 0) : Ci l y_Ho_text z_Ho_text { frames := 1, cells := 0, slots := 0, locals := 20 } D classes (TY kA) [.ref a0, .int (nI j), .int v2] [] (fun r (_ : List va_W) => r = (-1)) (fun u => u) 0 0 := by
  intro sz
  refine k_met (cc := b_Ho_text) (maxL := 4) (ret := (some .int)) (by decide) rfl (Nat.le_of_ble_eq_true rfl) (fun p e s m below meth c ls X hl hB => ?_)
  obtain ⟨hsz, hP, hK, hD0, hN⟩ := hB
  subst hsz
  have hD := hD0.self (sz := s.heap.size)
  generalize hAe : va_A (cat []) s.heap.size = A at hD ⊢
  have hA : ∀ q : Nat, s.heap.size ≤ q → A q := fun q h => by rw [← hAe]; exact Or.inr h
  have hS : va_S A s.heap s.heap [] := va_S.rf
  obtain ⟨hx, hb, hml, hown, hts, hr, hlk, hnm⟩ := id X
  have hl : lv_has ls 4 [(0, .ref a0), (1, .int (nI j)), (2, .int v2)] := hl
  have hP : va_P D classes (cat []) s.heap := hP
  have hK : va_K D classes (TY kA) s := hK
  refine lv_iload_n (pc := 0) hx hb d_Ho_text_0 rfl (lv_at hl 1 rfl) ?_
  refine k_goI (gr := []) (k_rS (pc := 1) (As := [.int (nI j)]) (rest := []) X (c_Ho_isPlace l D kA (nI j) s.heap.size) rfl wm_633 wm_1 wm_631 wm_632 1 (by decide +kernel) ⟨Nat.le_of_ble_eq_true rfl, Nat.le_of_ble_eq_true rfl⟩ rfl rfl (k_pre hN hK hP hD [] [] 0 rfl (by decide) rfl) rfl hl.1 rfl (Nat.le_of_ble_eq_true rfl) d_Ho_text_1 ⟨Nat.le_of_ble_eq_true rfl, Nat.le_of_ble_eq_true rfl⟩) hP hD hS hA [] [] 0 rfl (by decide) rfl rfl (fun r1 u2 H locs hu2 hP hD hS => ?_)
  subst hu2
  refine k_cst (v := 1) (place_ok hj) ?_
  have hP : va_P D classes (cat []) H := hP
  have hD : va_D A (cat []) := hD
  refine lv_if_eq (pc := 4) (tgt := 29) hx hb d_Ho_text_4 (by decide) (fun c1 => absurd c1 (by decide)) (fun c1 => ?_)
  refine lv_iload_n (pc := 7) hx hb d_Ho_text_7 rfl (lv_at hl 2 rfl) ?_
  refine lv_if_lt (pc := 8) (tgt := 29) hx hb d_Ho_text_8 (by decide) (fun c1 => ?_) (fun c1 => absurd (hn2) c1)
  refine lv_iconst (pc := 29) (v := -1) hx hb d_Ho_text_29 (by decide) ?_
  refine W.widen (k := 0) (n := 0) (Nat.le_of_ble_eq_true rfl) (Nat.le_of_ble_eq_true rfl) ?_
  exact W.iret (v := (-1)) hx hb hr (fun t ht hW => ⟨⟨(-1), [], rfl, rfl, by rw [ht]; exact hP, va_K.moved hW.alike hK, hD⟩, hS.F ht⟩) hS.2.2 d_Ho_text_30
set_option maxRecDepth 100000 in
set_option maxHeartbeats 4000000 in
/-- DrawingHouseModel.in(III)Z -/
theorem c_Mo_in_z6 (l : Launch) (D : va_G) (kA : Nat → ClassId) (v2 : Int32) (hn2 : v2 < 0) : Ci l y_Mo_in z_Mo_in { frames := 0, cells := 0, slots := 0, locals := 0 } D classes (TY kA) [.int v2, .int 0, .int 1] [] (fun r (_ : Unit) => r = 0) (fun u => []) 0 0 := by
  intro sz
  refine k_met (cc := b_Mo_in) (maxL := 3) (ret := (some .boolean)) (by decide) rfl (Nat.le_of_ble_eq_true rfl) (fun p e s m below meth c ls X hl hB => ?_)
  obtain ⟨hsz, hP, hK, hD0, hN⟩ := hB
  subst hsz
  have hD := hD0.self (sz := s.heap.size)
  generalize hAe : va_A (cat []) s.heap.size = A at hD ⊢
  have hA : ∀ q : Nat, s.heap.size ≤ q → A q := fun q h => by rw [← hAe]; exact Or.inr h
  have hS : va_S A s.heap s.heap [] := va_S.rf
  obtain ⟨hx, hb, hml, hown, hts, hr, hlk, hnm⟩ := id X
  have hl : lv_has ls 3 [(0, .int v2), (1, .int 0), (2, .int 1)] := hl
  have hP : va_P D classes (cat []) s.heap := hP
  have hK : va_K D classes (TY kA) s := hK
  refine lv_iload_n (pc := 0) hx hb d_Mo_in_0 rfl (lv_at hl 0 rfl) ?_
  refine lv_iload_n (pc := 1) hx hb d_Mo_in_1 rfl (lv_at hl 1 rfl) ?_
  refine lv_icmp_lt (pc := 2) (tgt := 14) hx hb d_Mo_in_2 (by decide) (fun c1 => ?_) (fun c1 => absurd (hn2) c1)
  refine lv_iconst (pc := 14) (v := 0) hx hb d_Mo_in_14 (by decide) ?_
  refine W.widen (k := 0) (n := 0) (Nat.le_of_ble_eq_true rfl) (Nat.le_of_ble_eq_true rfl) ?_
  exact W.zret (v := 0) hx hb hr rfl (fun t ht hW => ⟨⟨0, (), rfl, rfl, by rw [ht]; exact hP, va_K.moved hW.alike hK, hD⟩, hS.F ht⟩) hS.2.2 d_Mo_in_15
set_option maxRecDepth 100000 in
set_option maxHeartbeats 4000000 in
/-- DrawingHouseModel.text(II)I -/
theorem c_Mo_text_z2 (l : Launch) (D : va_G) (kA : Nat → ClassId) (a0 : Nat) (j : Nat) (v2 : Int32) (hj : j < 4) (hn2 : v2 < 0) : Ci l y_Mo_text z_Mo_text { frames := 2, cells := 0, slots := 0, locals := 42 } D classes (TY kA) [.ref a0, .int (nI j), .int v2] [] (fun r (_ : List va_W) => r = (-1)) (fun u => u) 0 0 := by
  intro sz
  refine k_met (cc := b_Mo_text) (maxL := 4) (ret := (some .int)) (by decide) rfl (Nat.le_of_ble_eq_true rfl) (fun p e s m below meth c ls X hl hB => ?_)
  obtain ⟨hsz, hP, hK, hD0, hN⟩ := hB
  subst hsz
  have hD := hD0.self (sz := s.heap.size)
  generalize hAe : va_A (cat []) s.heap.size = A at hD ⊢
  have hA : ∀ q : Nat, s.heap.size ≤ q → A q := fun q h => by rw [← hAe]; exact Or.inr h
  have hS : va_S A s.heap s.heap [] := va_S.rf
  obtain ⟨hx, hb, hml, hown, hts, hr, hlk, hnm⟩ := id X
  have hl : lv_has ls 4 [(0, .ref a0), (1, .int (nI j)), (2, .int v2)] := hl
  have hP : va_P D classes (cat []) s.heap := hP
  have hK : va_K D classes (TY kA) s := hK
  refine lv_iload_n (pc := 0) hx hb d_Mo_text_0 rfl (lv_at hl 1 rfl) ?_
  refine k_goI (gr := []) (k_rS (pc := 1) (As := [.int (nI j)]) (rest := []) X (c_Mo_isPlace l D kA (nI j) s.heap.size) rfl wm_2978 wm_9 wm_2976 wm_2977 1 (by decide +kernel) ⟨Nat.le_of_ble_eq_true rfl, Nat.le_of_ble_eq_true rfl⟩ rfl rfl (k_pre hN hK hP hD [] [] 0 rfl (by decide) rfl) rfl hl.1 rfl (Nat.le_of_ble_eq_true rfl) d_Mo_text_1 ⟨Nat.le_of_ble_eq_true rfl, Nat.le_of_ble_eq_true rfl⟩) hP hD hS hA [] [] 0 rfl (by decide) rfl rfl (fun r1 u2 H locs hu2 hP hD hS => ?_)
  subst hu2
  refine k_cst (v := 1) (placeM_ok hj) ?_
  have hP : va_P D classes (cat []) H := hP
  have hD : va_D A (cat []) := hD
  refine lv_if_eq (pc := 4) (tgt := 29) hx hb d_Mo_text_4 (by decide) (fun c1 => absurd c1 (by decide)) (fun c1 => ?_)
  refine lv_iload_n (pc := 7) hx hb d_Mo_text_7 rfl (lv_at hl 2 rfl) ?_
  refine lv_iconst (pc := 8) (v := 0) hx hb d_Mo_text_8 (by decide) ?_
  refine lv_iconst (pc := 9) (v := 1) hx hb d_Mo_text_9 (by decide) ?_
  refine k_goI (gr := []) (k_rS (pc := 10) (As := [.int v2, .int 0, .int 1]) (rest := []) X (c_Mo_in_z6 l D kA v2 hn2 H.size) rfl wm_2971 wm_9 wm_2969 wm_2970 3 (by decide +kernel) ⟨Nat.le_of_ble_eq_true rfl, Nat.le_of_ble_eq_true rfl⟩ rfl rfl (k_pre hN hK hP hD [] [] 0 rfl (by decide) rfl) rfl hl.1 rfl (Nat.le_of_ble_eq_true rfl) d_Mo_text_10 ⟨Nat.le_of_ble_eq_true rfl, Nat.le_of_ble_eq_true rfl⟩) hP hD hS hA [] [] 0 rfl (by decide) rfl rfl (fun r3 u4 H locs hu4 hP hD hS => ?_)
  subst hu4
  have hP : va_P D classes (cat []) H := hP
  have hD : va_D A (cat []) := hD
  refine lv_if_eq (pc := 13) (tgt := 29) hx hb d_Mo_text_13 (by decide) (fun c1 => ?_) (fun c1 => absurd (by decide) c1)
  refine lv_iconst (pc := 29) (v := -1) hx hb d_Mo_text_29 (by decide) ?_
  refine W.widen (k := 0) (n := 0) (Nat.le_of_ble_eq_true rfl) (Nat.le_of_ble_eq_true rfl) ?_
  exact W.iret (v := (-1)) hx hb hr (fun t ht hW => ⟨⟨(-1), [], rfl, rfl, by rw [ht]; exact hP, va_K.moved hW.alike hK, hD⟩, hS.F ht⟩) hS.2.2 d_Mo_text_30
set_option maxRecDepth 100000 in
set_option maxHeartbeats 4000000 in
/-- text, a fresh house -/
theorem lf_text_2 {p : Program} {e : Env} {s : State} {m : MethodId} {below : List Frame} {meth : Method} {c : Code} (l : Launch) {b : Nat} {xs : Nat → Int32} (C0 : lw_At p s m meth c b 6 xs) {D : va_G} {kA : Nat → ClassId} (h : Nat) (h2 : Nat) (q : Nat → Nat) (qm : Nat → Nat) (j : Nat) (v2 : Int32) (hj : j < 4) (hn2 : v2 < 0) (hv1 : xs 1 = nI j) (hv2 : xs 2 = v2) {H : Heap} {locs : List Loc} {ls : Array Slot} (hK : va_K D classes (TY kA) s) (hN : nst s) (hP : va_P D classes (cat [[(h, .inr (12, [.ref (q 0), .ref (q 1), .ref (q 2), .ref (q 3), .ref (q 4), .ref (q 5), .ref (q 6), .int 0, .int ((-1)), .ref (q 9), .ref (q 10), .int 0, .int 0, .ref (q 13), .int 0, .int 0, .null, .null, .null, .null, .null]))], [(h2, .inr (13, mF qm x0Mo y0Mo))]]) H) (hD : va_D (fun q : Nat => s.heap.size ≤ q) (cat [[(h, .inr (12, [.ref (q 0), .ref (q 1), .ref (q 2), .ref (q 3), .ref (q 4), .ref (q 5), .ref (q 6), .int 0, .int ((-1)), .ref (q 9), .ref (q 10), .int 0, .int 0, .ref (q 13), .int 0, .int 0, .null, .null, .null, .null, .null]))], [(h2, .inr (13, mF qm x0Mo y0Mo))]])) (hS : va_S (fun q : Nat => s.heap.size ≤ q) s.heap H locs) (hl : lv_has ls 4 [(3, .int 0), (2, .ref h2), (1, .ref h), (0, .ref b)]) : W p l e room_1 s m #[Value.ref b] below meth c H locs 368 365796 (lw_Z below #[Value.ref b] s) (F0 m 1163 ls []) := by
  obtain ⟨hx, hb, hr, hml, hown, hts0, hX, hbl, hlocks, hgv⟩ := id C0
  have hts : ∀ w ∈ lw_g, w.before #[Value.ref b] s = true := fun w h => hts0 w (lw_gt h)
  have X : cx p s m #[Value.ref b] meth c b_law_law 4 ret "DrawingHouseLaw" meth.name := ⟨hx, hb, hml, hown, hts, hr, hlocks, rfl⟩
  obtain ⟨A, hAe⟩ : ∃ A : Nat → Prop, A = fun q : Nat => s.heap.size ≤ q := ⟨_, rfl⟩
  have hA : ∀ q : Nat, s.heap.size ≤ q → A q := fun q h => by rw [hAe]; exact h
  have hbA : ¬ A b := by rw [hAe]; exact Nat.not_le.mpr hbl
  rw [← hAe] at hD hS
  refine lv_aload_n (pc := 1163) hx hb d_law_law_1163 rfl (lv_at hl 2 rfl) ?_
  refine lv_aload_n (pc := 1164) hx hb d_law_law_1164 rfl (lv_at hl 3 rfl) ?_
  refine lv_iload_n (pc := 1165) hx hb d_law_law_1165 rfl (lv_at hl 0 rfl) ?_
  refine lv_iconst (pc := 1166) (v := 1) hx hb d_law_law_1166 (by decide) ?_
  refine lv_iadd (pc := 1167) hx hb d_law_law_1167 ?_
  refine k_cst (v := 1) (by decide) ?_
  refine va_sld (pc := 1168) hx hb hX hbl hbA hS (by unfold vp_in; decide) d_law_law_1168 ?_
  refine k_cst (v := nI j) hv1 ?_
  refine lv_aload_n (pc := 1169) hx hb d_law_law_1169 rfl (lv_at hl 3 rfl) ?_
  refine lv_iload_n (pc := 1170) hx hb d_law_law_1170 rfl (lv_at hl 0 rfl) ?_
  refine lv_iconst (pc := 1171) (v := 2) hx hb d_law_law_1171 (by decide) ?_
  refine lv_iadd (pc := 1172) hx hb d_law_law_1172 ?_
  refine k_cst (v := 2) (by decide) ?_
  refine va_sld (pc := 1173) hx hb hX hbl hbA hS (by unfold vp_in; decide) d_law_law_1173 ?_
  refine k_cst (v := v2) hv2 ?_
  refine k_goI (gr := [[(h, .inr (12, [.ref (q 0), .ref (q 1), .ref (q 2), .ref (q 3), .ref (q 4), .ref (q 5), .ref (q 6), .int 0, .int ((-1)), .ref (q 9), .ref (q 10), .int 0, .int 0, .ref (q 13), .int 0, .int 0, .null, .null, .null, .null, .null]))], [(h2, .inr (13, mF qm x0Mo y0Mo))]]) (k_rV (pc := 1174) (As := [.int (nI j), .int v2]) (rest := []) X (c_Ho_text_z2 l D kA h j v2 hj hn2 H.size) rfl wm_2330 wm_1 wm_2327 wm_2328 wm_2329 2 (by decide +kernel) ⟨Nat.le_of_ble_eq_true rfl, Nat.le_of_ble_eq_true rfl⟩ rfl rfl (va_recv hK hP (ci := 12) (q0 := 0) rfl rfl) (k_pre hN hK hP hD [] [0, 1] 2 rfl (by decide) rfl) rfl hl.1 rfl (Nat.le_of_ble_eq_true rfl) d_law_law_1174 ⟨Nat.le_of_ble_eq_true rfl, Nat.le_of_ble_eq_true rfl⟩) hP hD hS hA [] [0, 1] 2 rfl (by decide) rfl rfl (fun r1 u2 H locs hu2 hP hD hS => ?_)
  obtain ⟨hP, hD⟩ := k_left hP hD
  subst hu2
  have hP : va_P D classes (cat [[(h, .inr (12, [.ref (q 0), .ref (q 1), .ref (q 2), .ref (q 3), .ref (q 4), .ref (q 5), .ref (q 6), .int 0, .int ((-1)), .ref (q 9), .ref (q 10), .int 0, .int 0, .ref (q 13), .int 0, .int 0, .null, .null, .null, .null, .null]))], [(h2, .inr (13, mF qm x0Mo y0Mo))]]) H := hP
  have hD : va_D A (cat [[(h, .inr (12, [.ref (q 0), .ref (q 1), .ref (q 2), .ref (q 3), .ref (q 4), .ref (q 5), .ref (q 6), .int 0, .int ((-1)), .ref (q 9), .ref (q 10), .int 0, .int 0, .ref (q 13), .int 0, .int 0, .null, .null, .null, .null, .null]))], [(h2, .inr (13, mF qm x0Mo y0Mo))]]) := hD
  refine lv_aload_n (pc := 1177) hx hb d_law_law_1177 rfl (lv_at hl 1 rfl) ?_
  refine lv_aload_n (pc := 1178) hx hb d_law_law_1178 rfl (lv_at hl 3 rfl) ?_
  refine lv_iload_n (pc := 1179) hx hb d_law_law_1179 rfl (lv_at hl 0 rfl) ?_
  refine lv_iconst (pc := 1180) (v := 1) hx hb d_law_law_1180 (by decide) ?_
  refine lv_iadd (pc := 1181) hx hb d_law_law_1181 ?_
  refine k_cst (v := 1) (by decide) ?_
  refine va_sld (pc := 1182) hx hb hX hbl hbA hS (by unfold vp_in; decide) d_law_law_1182 ?_
  refine k_cst (v := nI j) hv1 ?_
  refine lv_aload_n (pc := 1183) hx hb d_law_law_1183 rfl (lv_at hl 3 rfl) ?_
  refine lv_iload_n (pc := 1184) hx hb d_law_law_1184 rfl (lv_at hl 0 rfl) ?_
  refine lv_iconst (pc := 1185) (v := 2) hx hb d_law_law_1185 (by decide) ?_
  refine lv_iadd (pc := 1186) hx hb d_law_law_1186 ?_
  refine k_cst (v := 2) (by decide) ?_
  refine va_sld (pc := 1187) hx hb hX hbl hbA hS (by unfold vp_in; decide) d_law_law_1187 ?_
  refine k_cst (v := v2) hv2 ?_
  refine k_goI (gr := [[(h, .inr (12, [.ref (q 0), .ref (q 1), .ref (q 2), .ref (q 3), .ref (q 4), .ref (q 5), .ref (q 6), .int 0, .int ((-1)), .ref (q 9), .ref (q 10), .int 0, .int 0, .ref (q 13), .int 0, .int 0, .null, .null, .null, .null, .null]))], [(h2, .inr (13, mF qm x0Mo y0Mo))]]) (k_rV (pc := 1188) (As := [.int (nI j), .int v2]) (rest := [.int ((-1))]) X (c_Mo_text_z2 l D kA h2 j v2 hj hn2 H.size) rfl wm_3901 wm_9 wm_3898 wm_3899 wm_3900 2 (by decide +kernel) ⟨Nat.le_of_ble_eq_true rfl, Nat.le_of_ble_eq_true rfl⟩ rfl rfl (va_recv hK hP (ci := 13) (q0 := 1) rfl rfl) (k_pre hN hK hP hD [] [0, 1] 2 rfl (by decide) rfl) rfl hl.1 rfl (Nat.le_of_ble_eq_true rfl) d_law_law_1188 ⟨Nat.le_of_ble_eq_true rfl, Nat.le_of_ble_eq_true rfl⟩) hP hD hS hA [] [0, 1] 2 rfl (by decide) rfl rfl (fun r3 u4 H locs hu4 hP hD hS => ?_)
  obtain ⟨hP, hD⟩ := k_left hP hD
  subst hu4
  have hP : va_P D classes (cat [[(h, .inr (12, [.ref (q 0), .ref (q 1), .ref (q 2), .ref (q 3), .ref (q 4), .ref (q 5), .ref (q 6), .int 0, .int ((-1)), .ref (q 9), .ref (q 10), .int 0, .int 0, .ref (q 13), .int 0, .int 0, .null, .null, .null, .null, .null]))], [(h2, .inr (13, mF qm x0Mo y0Mo))]]) H := hP
  have hD : va_D A (cat [[(h, .inr (12, [.ref (q 0), .ref (q 1), .ref (q 2), .ref (q 3), .ref (q 4), .ref (q 5), .ref (q 6), .int 0, .int ((-1)), .ref (q 9), .ref (q 10), .int 0, .int 0, .ref (q 13), .int 0, .int 0, .null, .null, .null, .null, .null]))], [(h2, .inr (13, mF qm x0Mo y0Mo))]]) := hD
  refine lv_icmp_eq (pc := 1191) (tgt := 1295) hx hb d_law_law_1191 (by decide) (fun _ => ?_) (fun c1 => absurd (by decide) c1)
  rw [hAe] at hS
  exact law_exit l C0 (Nat.le_of_ble_eq_true rfl) (Nat.le_of_ble_eq_true rfl) hS hl
set_option maxRecDepth 100000 in
set_option maxHeartbeats 4000000 in
/-- DrawingHouse.text(II)I -/
theorem c_Ho_text_z3 (l : Launch) (D : va_G) (kA : Nat → ClassId) (a0 : Nat) (j : Nat) (v2 : Int32) (hj : j < 4) (hp2 : ¬ v2 < 0) (hb2 : 2 ≤ v2) (hc2 : 1 < v2) : Ci l y_Ho_text z_Ho_text { frames := 1, cells := 0, slots := 0, locals := 20 } D classes (TY kA) [.ref a0, .int (nI j), .int v2] [] (fun r (_ : List va_W) => r = (-1)) (fun u => u) 0 0 := by
  intro sz
  refine k_met (cc := b_Ho_text) (maxL := 4) (ret := (some .int)) (by decide) rfl (Nat.le_of_ble_eq_true rfl) (fun p e s m below meth c ls X hl hB => ?_)
  obtain ⟨hsz, hP, hK, hD0, hN⟩ := hB
  subst hsz
  have hD := hD0.self (sz := s.heap.size)
  generalize hAe : va_A (cat []) s.heap.size = A at hD ⊢
  have hA : ∀ q : Nat, s.heap.size ≤ q → A q := fun q h => by rw [← hAe]; exact Or.inr h
  have hS : va_S A s.heap s.heap [] := va_S.rf
  obtain ⟨hx, hb, hml, hown, hts, hr, hlk, hnm⟩ := id X
  have hl : lv_has ls 4 [(0, .ref a0), (1, .int (nI j)), (2, .int v2)] := hl
  have hP : va_P D classes (cat []) s.heap := hP
  have hK : va_K D classes (TY kA) s := hK
  refine lv_iload_n (pc := 0) hx hb d_Ho_text_0 rfl (lv_at hl 1 rfl) ?_
  refine k_goI (gr := []) (k_rS (pc := 1) (As := [.int (nI j)]) (rest := []) X (c_Ho_isPlace l D kA (nI j) s.heap.size) rfl wm_633 wm_1 wm_631 wm_632 1 (by decide +kernel) ⟨Nat.le_of_ble_eq_true rfl, Nat.le_of_ble_eq_true rfl⟩ rfl rfl (k_pre hN hK hP hD [] [] 0 rfl (by decide) rfl) rfl hl.1 rfl (Nat.le_of_ble_eq_true rfl) d_Ho_text_1 ⟨Nat.le_of_ble_eq_true rfl, Nat.le_of_ble_eq_true rfl⟩) hP hD hS hA [] [] 0 rfl (by decide) rfl rfl (fun r1 u2 H locs hu2 hP hD hS => ?_)
  subst hu2
  refine k_cst (v := 1) (place_ok hj) ?_
  have hP : va_P D classes (cat []) H := hP
  have hD : va_D A (cat []) := hD
  refine lv_if_eq (pc := 4) (tgt := 29) hx hb d_Ho_text_4 (by decide) (fun c1 => absurd c1 (by decide)) (fun c1 => ?_)
  refine lv_iload_n (pc := 7) hx hb d_Ho_text_7 rfl (lv_at hl 2 rfl) ?_
  refine lv_if_lt (pc := 8) (tgt := 29) hx hb d_Ho_text_8 (by decide) (fun c1 => absurd c1 (hp2)) (fun c1 => ?_)
  refine lv_iload_n (pc := 11) hx hb d_Ho_text_11 rfl (lv_at hl 2 rfl) ?_
  refine lv_iconst (pc := 12) (v := 1) hx hb d_Ho_text_12 (by decide) ?_
  refine lv_icmp_gt (pc := 13) (tgt := 29) hx hb d_Ho_text_13 (by decide) (fun c1 => ?_) (fun c1 => absurd (hc2) c1)
  refine lv_iconst (pc := 29) (v := -1) hx hb d_Ho_text_29 (by decide) ?_
  refine W.widen (k := 0) (n := 0) (Nat.le_of_ble_eq_true rfl) (Nat.le_of_ble_eq_true rfl) ?_
  exact W.iret (v := (-1)) hx hb hr (fun t ht hW => ⟨⟨(-1), [], rfl, rfl, by rw [ht]; exact hP, va_K.moved hW.alike hK, hD⟩, hS.F ht⟩) hS.2.2 d_Ho_text_30
set_option maxRecDepth 100000 in
set_option maxHeartbeats 4000000 in
/-- DrawingHouseModel.in(III)Z -/
theorem c_Mo_in_z7 (l : Launch) (D : va_G) (kA : Nat → ClassId) (v2 : Int32) (hp2 : ¬ v2 < 0) (hb2 : 2 ≤ v2) (hc2 : 1 < v2) : Ci l y_Mo_in z_Mo_in { frames := 0, cells := 0, slots := 0, locals := 0 } D classes (TY kA) [.int v2, .int 0, .int 1] [] (fun r (_ : Unit) => r = 0) (fun u => []) 0 0 := by
  intro sz
  refine k_met (cc := b_Mo_in) (maxL := 3) (ret := (some .boolean)) (by decide) rfl (Nat.le_of_ble_eq_true rfl) (fun p e s m below meth c ls X hl hB => ?_)
  obtain ⟨hsz, hP, hK, hD0, hN⟩ := hB
  subst hsz
  have hD := hD0.self (sz := s.heap.size)
  generalize hAe : va_A (cat []) s.heap.size = A at hD ⊢
  have hA : ∀ q : Nat, s.heap.size ≤ q → A q := fun q h => by rw [← hAe]; exact Or.inr h
  have hS : va_S A s.heap s.heap [] := va_S.rf
  obtain ⟨hx, hb, hml, hown, hts, hr, hlk, hnm⟩ := id X
  have hl : lv_has ls 3 [(0, .int v2), (1, .int 0), (2, .int 1)] := hl
  have hP : va_P D classes (cat []) s.heap := hP
  have hK : va_K D classes (TY kA) s := hK
  refine lv_iload_n (pc := 0) hx hb d_Mo_in_0 rfl (lv_at hl 0 rfl) ?_
  refine lv_iload_n (pc := 1) hx hb d_Mo_in_1 rfl (lv_at hl 1 rfl) ?_
  refine lv_icmp_lt (pc := 2) (tgt := 14) hx hb d_Mo_in_2 (by decide) (fun c1 => absurd c1 (hp2)) (fun c1 => ?_)
  refine lv_iload_n (pc := 5) hx hb d_Mo_in_5 rfl (lv_at hl 0 rfl) ?_
  refine lv_iload_n (pc := 6) hx hb d_Mo_in_6 rfl (lv_at hl 2 rfl) ?_
  refine lv_icmp_gt (pc := 7) (tgt := 14) hx hb d_Mo_in_7 (by decide) (fun c1 => ?_) (fun c1 => absurd (hc2) c1)
  refine lv_iconst (pc := 14) (v := 0) hx hb d_Mo_in_14 (by decide) ?_
  refine W.widen (k := 0) (n := 0) (Nat.le_of_ble_eq_true rfl) (Nat.le_of_ble_eq_true rfl) ?_
  exact W.zret (v := 0) hx hb hr rfl (fun t ht hW => ⟨⟨0, (), rfl, rfl, by rw [ht]; exact hP, va_K.moved hW.alike hK, hD⟩, hS.F ht⟩) hS.2.2 d_Mo_in_15
set_option maxRecDepth 100000 in
set_option maxHeartbeats 4000000 in
/-- DrawingHouseModel.text(II)I -/
theorem c_Mo_text_z3 (l : Launch) (D : va_G) (kA : Nat → ClassId) (a0 : Nat) (j : Nat) (v2 : Int32) (hj : j < 4) (hp2 : ¬ v2 < 0) (hb2 : 2 ≤ v2) (hc2 : 1 < v2) : Ci l y_Mo_text z_Mo_text { frames := 2, cells := 0, slots := 0, locals := 42 } D classes (TY kA) [.ref a0, .int (nI j), .int v2] [] (fun r (_ : List va_W) => r = (-1)) (fun u => u) 0 0 := by
  intro sz
  refine k_met (cc := b_Mo_text) (maxL := 4) (ret := (some .int)) (by decide) rfl (Nat.le_of_ble_eq_true rfl) (fun p e s m below meth c ls X hl hB => ?_)
  obtain ⟨hsz, hP, hK, hD0, hN⟩ := hB
  subst hsz
  have hD := hD0.self (sz := s.heap.size)
  generalize hAe : va_A (cat []) s.heap.size = A at hD ⊢
  have hA : ∀ q : Nat, s.heap.size ≤ q → A q := fun q h => by rw [← hAe]; exact Or.inr h
  have hS : va_S A s.heap s.heap [] := va_S.rf
  obtain ⟨hx, hb, hml, hown, hts, hr, hlk, hnm⟩ := id X
  have hl : lv_has ls 4 [(0, .ref a0), (1, .int (nI j)), (2, .int v2)] := hl
  have hP : va_P D classes (cat []) s.heap := hP
  have hK : va_K D classes (TY kA) s := hK
  refine lv_iload_n (pc := 0) hx hb d_Mo_text_0 rfl (lv_at hl 1 rfl) ?_
  refine k_goI (gr := []) (k_rS (pc := 1) (As := [.int (nI j)]) (rest := []) X (c_Mo_isPlace l D kA (nI j) s.heap.size) rfl wm_2978 wm_9 wm_2976 wm_2977 1 (by decide +kernel) ⟨Nat.le_of_ble_eq_true rfl, Nat.le_of_ble_eq_true rfl⟩ rfl rfl (k_pre hN hK hP hD [] [] 0 rfl (by decide) rfl) rfl hl.1 rfl (Nat.le_of_ble_eq_true rfl) d_Mo_text_1 ⟨Nat.le_of_ble_eq_true rfl, Nat.le_of_ble_eq_true rfl⟩) hP hD hS hA [] [] 0 rfl (by decide) rfl rfl (fun r1 u2 H locs hu2 hP hD hS => ?_)
  subst hu2
  refine k_cst (v := 1) (placeM_ok hj) ?_
  have hP : va_P D classes (cat []) H := hP
  have hD : va_D A (cat []) := hD
  refine lv_if_eq (pc := 4) (tgt := 29) hx hb d_Mo_text_4 (by decide) (fun c1 => absurd c1 (by decide)) (fun c1 => ?_)
  refine lv_iload_n (pc := 7) hx hb d_Mo_text_7 rfl (lv_at hl 2 rfl) ?_
  refine lv_iconst (pc := 8) (v := 0) hx hb d_Mo_text_8 (by decide) ?_
  refine lv_iconst (pc := 9) (v := 1) hx hb d_Mo_text_9 (by decide) ?_
  refine k_goI (gr := []) (k_rS (pc := 10) (As := [.int v2, .int 0, .int 1]) (rest := []) X (c_Mo_in_z7 l D kA v2 hp2 hb2 hc2 H.size) rfl wm_2971 wm_9 wm_2969 wm_2970 3 (by decide +kernel) ⟨Nat.le_of_ble_eq_true rfl, Nat.le_of_ble_eq_true rfl⟩ rfl rfl (k_pre hN hK hP hD [] [] 0 rfl (by decide) rfl) rfl hl.1 rfl (Nat.le_of_ble_eq_true rfl) d_Mo_text_10 ⟨Nat.le_of_ble_eq_true rfl, Nat.le_of_ble_eq_true rfl⟩) hP hD hS hA [] [] 0 rfl (by decide) rfl rfl (fun r3 u4 H locs hu4 hP hD hS => ?_)
  subst hu4
  have hP : va_P D classes (cat []) H := hP
  have hD : va_D A (cat []) := hD
  refine lv_if_eq (pc := 13) (tgt := 29) hx hb d_Mo_text_13 (by decide) (fun c1 => ?_) (fun c1 => absurd (by decide) c1)
  refine lv_iconst (pc := 29) (v := -1) hx hb d_Mo_text_29 (by decide) ?_
  refine W.widen (k := 0) (n := 0) (Nat.le_of_ble_eq_true rfl) (Nat.le_of_ble_eq_true rfl) ?_
  exact W.iret (v := (-1)) hx hb hr (fun t ht hW => ⟨⟨(-1), [], rfl, rfl, by rw [ht]; exact hP, va_K.moved hW.alike hK, hD⟩, hS.F ht⟩) hS.2.2 d_Mo_text_30
set_option maxRecDepth 100000 in
set_option maxHeartbeats 4000000 in
/-- text, a fresh house -/
theorem lf_text_3 {p : Program} {e : Env} {s : State} {m : MethodId} {below : List Frame} {meth : Method} {c : Code} (l : Launch) {b : Nat} {xs : Nat → Int32} (C0 : lw_At p s m meth c b 6 xs) {D : va_G} {kA : Nat → ClassId} (h : Nat) (h2 : Nat) (q : Nat → Nat) (qm : Nat → Nat) (j : Nat) (v2 : Int32) (hj : j < 4) (hp2 : ¬ v2 < 0) (hb2 : 2 ≤ v2) (hc2 : 1 < v2) (hv1 : xs 1 = nI j) (hv2 : xs 2 = v2) {H : Heap} {locs : List Loc} {ls : Array Slot} (hK : va_K D classes (TY kA) s) (hN : nst s) (hP : va_P D classes (cat [[(h, .inr (12, [.ref (q 0), .ref (q 1), .ref (q 2), .ref (q 3), .ref (q 4), .ref (q 5), .ref (q 6), .int 0, .int ((-1)), .ref (q 9), .ref (q 10), .int 0, .int 0, .ref (q 13), .int 0, .int 0, .null, .null, .null, .null, .null]))], [(h2, .inr (13, mF qm x0Mo y0Mo))]]) H) (hD : va_D (fun q : Nat => s.heap.size ≤ q) (cat [[(h, .inr (12, [.ref (q 0), .ref (q 1), .ref (q 2), .ref (q 3), .ref (q 4), .ref (q 5), .ref (q 6), .int 0, .int ((-1)), .ref (q 9), .ref (q 10), .int 0, .int 0, .ref (q 13), .int 0, .int 0, .null, .null, .null, .null, .null]))], [(h2, .inr (13, mF qm x0Mo y0Mo))]])) (hS : va_S (fun q : Nat => s.heap.size ≤ q) s.heap H locs) (hl : lv_has ls 4 [(3, .int 0), (2, .ref h2), (1, .ref h), (0, .ref b)]) : W p l e room_1 s m #[Value.ref b] below meth c H locs 368 365796 (lw_Z below #[Value.ref b] s) (F0 m 1163 ls []) := by
  obtain ⟨hx, hb, hr, hml, hown, hts0, hX, hbl, hlocks, hgv⟩ := id C0
  have hts : ∀ w ∈ lw_g, w.before #[Value.ref b] s = true := fun w h => hts0 w (lw_gt h)
  have X : cx p s m #[Value.ref b] meth c b_law_law 4 ret "DrawingHouseLaw" meth.name := ⟨hx, hb, hml, hown, hts, hr, hlocks, rfl⟩
  obtain ⟨A, hAe⟩ : ∃ A : Nat → Prop, A = fun q : Nat => s.heap.size ≤ q := ⟨_, rfl⟩
  have hA : ∀ q : Nat, s.heap.size ≤ q → A q := fun q h => by rw [hAe]; exact h
  have hbA : ¬ A b := by rw [hAe]; exact Nat.not_le.mpr hbl
  rw [← hAe] at hD hS
  refine lv_aload_n (pc := 1163) hx hb d_law_law_1163 rfl (lv_at hl 2 rfl) ?_
  refine lv_aload_n (pc := 1164) hx hb d_law_law_1164 rfl (lv_at hl 3 rfl) ?_
  refine lv_iload_n (pc := 1165) hx hb d_law_law_1165 rfl (lv_at hl 0 rfl) ?_
  refine lv_iconst (pc := 1166) (v := 1) hx hb d_law_law_1166 (by decide) ?_
  refine lv_iadd (pc := 1167) hx hb d_law_law_1167 ?_
  refine k_cst (v := 1) (by decide) ?_
  refine va_sld (pc := 1168) hx hb hX hbl hbA hS (by unfold vp_in; decide) d_law_law_1168 ?_
  refine k_cst (v := nI j) hv1 ?_
  refine lv_aload_n (pc := 1169) hx hb d_law_law_1169 rfl (lv_at hl 3 rfl) ?_
  refine lv_iload_n (pc := 1170) hx hb d_law_law_1170 rfl (lv_at hl 0 rfl) ?_
  refine lv_iconst (pc := 1171) (v := 2) hx hb d_law_law_1171 (by decide) ?_
  refine lv_iadd (pc := 1172) hx hb d_law_law_1172 ?_
  refine k_cst (v := 2) (by decide) ?_
  refine va_sld (pc := 1173) hx hb hX hbl hbA hS (by unfold vp_in; decide) d_law_law_1173 ?_
  refine k_cst (v := v2) hv2 ?_
  refine k_goI (gr := [[(h, .inr (12, [.ref (q 0), .ref (q 1), .ref (q 2), .ref (q 3), .ref (q 4), .ref (q 5), .ref (q 6), .int 0, .int ((-1)), .ref (q 9), .ref (q 10), .int 0, .int 0, .ref (q 13), .int 0, .int 0, .null, .null, .null, .null, .null]))], [(h2, .inr (13, mF qm x0Mo y0Mo))]]) (k_rV (pc := 1174) (As := [.int (nI j), .int v2]) (rest := []) X (c_Ho_text_z3 l D kA h j v2 hj hp2 hb2 hc2 H.size) rfl wm_2330 wm_1 wm_2327 wm_2328 wm_2329 2 (by decide +kernel) ⟨Nat.le_of_ble_eq_true rfl, Nat.le_of_ble_eq_true rfl⟩ rfl rfl (va_recv hK hP (ci := 12) (q0 := 0) rfl rfl) (k_pre hN hK hP hD [] [0, 1] 2 rfl (by decide) rfl) rfl hl.1 rfl (Nat.le_of_ble_eq_true rfl) d_law_law_1174 ⟨Nat.le_of_ble_eq_true rfl, Nat.le_of_ble_eq_true rfl⟩) hP hD hS hA [] [0, 1] 2 rfl (by decide) rfl rfl (fun r1 u2 H locs hu2 hP hD hS => ?_)
  obtain ⟨hP, hD⟩ := k_left hP hD
  subst hu2
  have hP : va_P D classes (cat [[(h, .inr (12, [.ref (q 0), .ref (q 1), .ref (q 2), .ref (q 3), .ref (q 4), .ref (q 5), .ref (q 6), .int 0, .int ((-1)), .ref (q 9), .ref (q 10), .int 0, .int 0, .ref (q 13), .int 0, .int 0, .null, .null, .null, .null, .null]))], [(h2, .inr (13, mF qm x0Mo y0Mo))]]) H := hP
  have hD : va_D A (cat [[(h, .inr (12, [.ref (q 0), .ref (q 1), .ref (q 2), .ref (q 3), .ref (q 4), .ref (q 5), .ref (q 6), .int 0, .int ((-1)), .ref (q 9), .ref (q 10), .int 0, .int 0, .ref (q 13), .int 0, .int 0, .null, .null, .null, .null, .null]))], [(h2, .inr (13, mF qm x0Mo y0Mo))]]) := hD
  refine lv_aload_n (pc := 1177) hx hb d_law_law_1177 rfl (lv_at hl 1 rfl) ?_
  refine lv_aload_n (pc := 1178) hx hb d_law_law_1178 rfl (lv_at hl 3 rfl) ?_
  refine lv_iload_n (pc := 1179) hx hb d_law_law_1179 rfl (lv_at hl 0 rfl) ?_
  refine lv_iconst (pc := 1180) (v := 1) hx hb d_law_law_1180 (by decide) ?_
  refine lv_iadd (pc := 1181) hx hb d_law_law_1181 ?_
  refine k_cst (v := 1) (by decide) ?_
  refine va_sld (pc := 1182) hx hb hX hbl hbA hS (by unfold vp_in; decide) d_law_law_1182 ?_
  refine k_cst (v := nI j) hv1 ?_
  refine lv_aload_n (pc := 1183) hx hb d_law_law_1183 rfl (lv_at hl 3 rfl) ?_
  refine lv_iload_n (pc := 1184) hx hb d_law_law_1184 rfl (lv_at hl 0 rfl) ?_
  refine lv_iconst (pc := 1185) (v := 2) hx hb d_law_law_1185 (by decide) ?_
  refine lv_iadd (pc := 1186) hx hb d_law_law_1186 ?_
  refine k_cst (v := 2) (by decide) ?_
  refine va_sld (pc := 1187) hx hb hX hbl hbA hS (by unfold vp_in; decide) d_law_law_1187 ?_
  refine k_cst (v := v2) hv2 ?_
  refine k_goI (gr := [[(h, .inr (12, [.ref (q 0), .ref (q 1), .ref (q 2), .ref (q 3), .ref (q 4), .ref (q 5), .ref (q 6), .int 0, .int ((-1)), .ref (q 9), .ref (q 10), .int 0, .int 0, .ref (q 13), .int 0, .int 0, .null, .null, .null, .null, .null]))], [(h2, .inr (13, mF qm x0Mo y0Mo))]]) (k_rV (pc := 1188) (As := [.int (nI j), .int v2]) (rest := [.int ((-1))]) X (c_Mo_text_z3 l D kA h2 j v2 hj hp2 hb2 hc2 H.size) rfl wm_3901 wm_9 wm_3898 wm_3899 wm_3900 2 (by decide +kernel) ⟨Nat.le_of_ble_eq_true rfl, Nat.le_of_ble_eq_true rfl⟩ rfl rfl (va_recv hK hP (ci := 13) (q0 := 1) rfl rfl) (k_pre hN hK hP hD [] [0, 1] 2 rfl (by decide) rfl) rfl hl.1 rfl (Nat.le_of_ble_eq_true rfl) d_law_law_1188 ⟨Nat.le_of_ble_eq_true rfl, Nat.le_of_ble_eq_true rfl⟩) hP hD hS hA [] [0, 1] 2 rfl (by decide) rfl rfl (fun r3 u4 H locs hu4 hP hD hS => ?_)
  obtain ⟨hP, hD⟩ := k_left hP hD
  subst hu4
  have hP : va_P D classes (cat [[(h, .inr (12, [.ref (q 0), .ref (q 1), .ref (q 2), .ref (q 3), .ref (q 4), .ref (q 5), .ref (q 6), .int 0, .int ((-1)), .ref (q 9), .ref (q 10), .int 0, .int 0, .ref (q 13), .int 0, .int 0, .null, .null, .null, .null, .null]))], [(h2, .inr (13, mF qm x0Mo y0Mo))]]) H := hP
  have hD : va_D A (cat [[(h, .inr (12, [.ref (q 0), .ref (q 1), .ref (q 2), .ref (q 3), .ref (q 4), .ref (q 5), .ref (q 6), .int 0, .int ((-1)), .ref (q 9), .ref (q 10), .int 0, .int 0, .ref (q 13), .int 0, .int 0, .null, .null, .null, .null, .null]))], [(h2, .inr (13, mF qm x0Mo y0Mo))]]) := hD
  refine lv_icmp_eq (pc := 1191) (tgt := 1295) hx hb d_law_law_1191 (by decide) (fun _ => ?_) (fun c1 => absurd (by decide) c1)
  rw [hAe] at hS
  exact law_exit l C0 (Nat.le_of_ble_eq_true rfl) (Nat.le_of_ble_eq_true rfl) hS hl
set_option maxRecDepth 100000 in
set_option maxHeartbeats 4000000 in
/-- DrawingHouse.writeGroup(LDrawingHouse$Graph;II)V -/
theorem c_Ho_writeGroup_z1 (l : Launch) (D : va_G) (kA : Nat → ClassId) (a0 : Nat) (g : Nat → Nat → Nat) (j : Nat) (a1 : Nat) (a2 : Nat) (a3 : Nat) (a4 : Nat) (a5 : Nat) (a6 : Nat) (a7 : Nat) (a8 : Nat) (a9 : Nat) (a10 : Nat) (a11 : Nat) (a12 : Nat) (a13 : Nat) (hj : j < 4) : Cv l y_Ho_writeGroup z_Ho_writeGroup { frames := 0, cells := 0, slots := 0, locals := 0 } D classes (TY kA) [.ref a0, .ref (g 0 j), .int 0, .int 0] [[(g 0 j, .inr (3, [.int 0, .int 0, .int 1, .ref a1, .ref a2, .ref a3, .ref a4, .ref a5, .ref a6, .ref a7, .ref a8, .ref a9, .ref a10, .ref a11, .ref a12, .ref a13, .null, .int 0, .int 0]))]] (fun _ : Unit => True) (fun u => [[(g 0 j, .inr (3, [.int 0, .int 0, .int 1, .ref a1, .ref a2, .ref a3, .ref a4, .ref a5, .ref a6, .ref a7, .ref a8, .ref a9, .ref a10, .ref a11, .ref a12, .ref a13, .null, .int 0, .int 0]))]]) 0 0 := by
  intro sz
  refine k_met (cc := b_Ho_writeGroup) (maxL := 5) (ret := none) (by decide) rfl (Nat.le_of_ble_eq_true rfl) (fun p e s m below meth c ls X hl hB => ?_)
  obtain ⟨hsz, hP, hK, hD0, hN⟩ := hB
  subst hsz
  have hD := hD0.self (sz := s.heap.size)
  generalize hAe : va_A (cat [[(g 0 j, .inr (3, [.int 0, .int 0, .int 1, .ref a1, .ref a2, .ref a3, .ref a4, .ref a5, .ref a6, .ref a7, .ref a8, .ref a9, .ref a10, .ref a11, .ref a12, .ref a13, .null, .int 0, .int 0]))]]) s.heap.size = A at hD ⊢
  have hA : ∀ q : Nat, s.heap.size ≤ q → A q := fun q h => by rw [← hAe]; exact Or.inr h
  have hS : va_S A s.heap s.heap [] := va_S.rf
  obtain ⟨hx, hb, hml, hown, hts, hr, hlk, hnm⟩ := id X
  have hl : lv_has ls 5 [(0, .ref a0), (1, .ref (g 0 j)), (2, .int 0), (3, .int 0)] := hl
  have hP : va_P D classes (cat [[(g 0 j, .inr (3, [.int 0, .int 0, .int 1, .ref a1, .ref a2, .ref a3, .ref a4, .ref a5, .ref a6, .ref a7, .ref a8, .ref a9, .ref a10, .ref a11, .ref a12, .ref a13, .null, .int 0, .int 0]))]]) s.heap := hP
  have hK : va_K D classes (TY kA) s := hK
  refine lv_iconst (pc := 0) (v := 0) hx hb d_Ho_writeGroup_0 (by decide) ?_
  refine lv_istore (pc := 1) (lv' := [(4, .int 0), (0, .ref a0), (1, .ref (g 0 j)), (2, .int 0), (3, .int 0)]) hx hb d_Ho_writeGroup_1 hl (by decide) rfl (fun ls hl => ?_)
  refine lv_iload (pc := 3) hx hb d_Ho_writeGroup_3 (lv_at hl 0 rfl) ?_
  refine lv_aload_n (pc := 5) hx hb d_Ho_writeGroup_5 rfl (lv_at hl 2 rfl) ?_
  refine k_get (pc := 6) X hK hP 0 rfl rfl i_Gr 0 (by decide) wm_62 rfl rfl d_Ho_writeGroup_6 ?_
  refine lv_icmp_ge (pc := 9) (tgt := 95) hx hb d_Ho_writeGroup_9 (by decide) (fun _ => ?_) (fun c1 => absurd (by decide) c1)
  refine lv_iload_n (pc := 95) hx hb d_Ho_writeGroup_95 rfl (lv_at hl 3 rfl) ?_
  refine lv_iconst (pc := 96) (v := 1) hx hb d_Ho_writeGroup_96 (by decide) ?_
  refine lv_iadd (pc := 97) hx hb d_Ho_writeGroup_97 ?_
  refine k_cst (v := 1) (by decide) ?_
  refine lv_istore (pc := 98) (lv' := [(4, .int 1), (0, .ref a0), (1, .ref (g 0 j)), (2, .int 0), (3, .int 0)]) hx hb d_Ho_writeGroup_98 hl (by decide) rfl (fun ls hl => ?_)
  refine lv_iload (pc := 100) hx hb d_Ho_writeGroup_100 (lv_at hl 0 rfl) ?_
  refine lv_aload_n (pc := 102) hx hb d_Ho_writeGroup_102 rfl (lv_at hl 2 rfl) ?_
  refine k_get (pc := 103) X hK hP 0 rfl rfl i_Gr 2 (by decide) wm_80 rfl rfl d_Ho_writeGroup_103 ?_
  refine lv_icmp_ge (pc := 106) (tgt := 179) hx hb d_Ho_writeGroup_106 (by decide) (fun _ => ?_) (fun c1 => absurd (by decide) c1)
  refine W.widen (k := 0) (n := 0) (Nat.le_of_ble_eq_true rfl) (Nat.le_of_ble_eq_true rfl) ?_
  exact W.vret hx hb hr (fun t ht hW => ⟨⟨(), rfl, trivial, by rw [ht]; exact hP, va_K.moved hW.alike hK, hD⟩, hS.F ht⟩) hS.2.2 d_Ho_writeGroup_179
set_option maxRecDepth 100000 in
set_option maxHeartbeats 4000000 in
/-- DrawingHouse.writeEdges(LDrawingHouse$Graph;)V -/
theorem c_Ho_writeEdges_z1 (l : Launch) (D : va_G) (kA : Nat → ClassId) (a0 : Nat) (g : Nat → Nat → Nat) (j : Nat) (a1 : Nat) (a2 : Nat) (a3 : Nat) (a4 : Nat) (a5 : Nat) (a6 : Nat) (a7 : Nat) (a8 : Nat) (a9 : Nat) (a10 : Nat) (a11 : Nat) (a12 : Nat) (a13 : Nat) (hj : j < 4) : Cv l y_Ho_writeEdges z_Ho_writeEdges { frames := 0, cells := 0, slots := 0, locals := 0 } D classes (TY kA) [.ref a0, .ref (g 0 j)] [[(g 0 j, .inr (3, [.int 0, .int 0, .int 1, .ref a1, .ref a2, .ref a3, .ref a4, .ref a5, .ref a6, .ref a7, .ref a8, .ref a9, .ref a10, .ref a11, .ref a12, .ref a13, .null, .int 0, .int 0]))]] (fun _ : Unit => True) (fun u => [[(g 0 j, .inr (3, [.int 0, .int 0, .int 1, .ref a1, .ref a2, .ref a3, .ref a4, .ref a5, .ref a6, .ref a7, .ref a8, .ref a9, .ref a10, .ref a11, .ref a12, .ref a13, .null, .int 0, .int 0]))]]) 0 0 := by
  intro sz
  refine k_met (cc := b_Ho_writeEdges) (maxL := 3) (ret := none) (by decide) rfl (Nat.le_of_ble_eq_true rfl) (fun p e s m below meth c ls X hl hB => ?_)
  obtain ⟨hsz, hP, hK, hD0, hN⟩ := hB
  subst hsz
  have hD := hD0.self (sz := s.heap.size)
  generalize hAe : va_A (cat [[(g 0 j, .inr (3, [.int 0, .int 0, .int 1, .ref a1, .ref a2, .ref a3, .ref a4, .ref a5, .ref a6, .ref a7, .ref a8, .ref a9, .ref a10, .ref a11, .ref a12, .ref a13, .null, .int 0, .int 0]))]]) s.heap.size = A at hD ⊢
  have hA : ∀ q : Nat, s.heap.size ≤ q → A q := fun q h => by rw [← hAe]; exact Or.inr h
  have hS : va_S A s.heap s.heap [] := va_S.rf
  obtain ⟨hx, hb, hml, hown, hts, hr, hlk, hnm⟩ := id X
  have hl : lv_has ls 3 [(0, .ref a0), (1, .ref (g 0 j))] := hl
  have hP : va_P D classes (cat [[(g 0 j, .inr (3, [.int 0, .int 0, .int 1, .ref a1, .ref a2, .ref a3, .ref a4, .ref a5, .ref a6, .ref a7, .ref a8, .ref a9, .ref a10, .ref a11, .ref a12, .ref a13, .null, .int 0, .int 0]))]]) s.heap := hP
  have hK : va_K D classes (TY kA) s := hK
  refine lv_iconst (pc := 0) (v := 0) hx hb d_Ho_writeEdges_0 (by decide) ?_
  refine lv_istore_n (pc := 1) (lv' := [(2, .int 0), (0, .ref a0), (1, .ref (g 0 j))]) hx hb d_Ho_writeEdges_1 rfl hl (by decide) rfl (fun ls hl => ?_)
  refine lv_iload_n (pc := 2) hx hb d_Ho_writeEdges_2 rfl (lv_at hl 0 rfl) ?_
  refine lv_aload_n (pc := 3) hx hb d_Ho_writeEdges_3 rfl (lv_at hl 2 rfl) ?_
  refine k_get (pc := 4) X hK hP 0 rfl rfl i_Gr 1 (by decide) wm_73 rfl rfl d_Ho_writeEdges_4 ?_
  refine lv_icmp_ge (pc := 7) (tgt := 129) hx hb d_Ho_writeEdges_7 (by decide) (fun _ => ?_) (fun c1 => absurd (by decide) c1)
  refine W.widen (k := 0) (n := 0) (Nat.le_of_ble_eq_true rfl) (Nat.le_of_ble_eq_true rfl) ?_
  exact W.vret hx hb hr (fun t ht hW => ⟨⟨(), rfl, trivial, by rw [ht]; exact hP, va_K.moved hW.alike hK, hD⟩, hS.F ht⟩) hS.2.2 d_Ho_writeEdges_129
set_option maxRecDepth 100000 in
set_option maxHeartbeats 4000000 in
/-- DrawingHouse.text(II)I -/
theorem c_Ho_text_z4 (l : Launch) (D : va_G) (kA : Nat → ClassId) (a0 : Nat) (j : Nat) (a1 : Nat) (a2 : Nat) (a3 : Nat) (a4 : Nat) (a5 : Nat) (a6 : Nat) (a7 : Nat) (a8 : Nat) (a9 : Nat) (a10 : Nat) (g : Nat → Nat → Nat) (a11 : Nat) (a12 : Nat) (a13 : Nat) (a14 : Nat) (a15 : Nat) (a16 : Nat) (a17 : Nat) (a18 : Nat) (a19 : Nat) (a20 : Nat) (a21 : Nat) (a22 : Nat) (a23 : Nat) (hj : j < 4) : Ci l y_Ho_text z_Ho_text { frames := 1, cells := 0, slots := 0, locals := 24 } D classes (TY kA) [.ref a0, .int (nI j), .int 0] [[(a0, .inr (12, [.ref a1, .ref a2, .ref a3, .ref a4, .ref a5, .ref a6, .ref a7, .int 0, .int ((-1)), .ref a8, .ref a9, .int 0, .int 0, .ref a10, .int 0, .int 0, .null, .null, .null, .null, .null]))], [(a1, .inl (kA 4, 4, .inr (.inr (.inr (.inr (rr (g 0)))))))], [(g 0 j, .inr (3, [.int 0, .int 0, .int 1, .ref a11, .ref a12, .ref a13, .ref a14, .ref a15, .ref a16, .ref a17, .ref a18, .ref a19, .ref a20, .ref a21, .ref a22, .ref a23, .null, .int 0, .int 0]))]] (fun r (_ : List va_W) => r = 0) (fun u => u) 0 0 := by
  intro sz
  refine k_met (cc := b_Ho_text) (maxL := 4) (ret := (some .int)) (by decide) rfl (Nat.le_of_ble_eq_true rfl) (fun p e s m below meth c ls X hl hB => ?_)
  obtain ⟨hsz, hP, hK, hD0, hN⟩ := hB
  subst hsz
  have hD := hD0.self (sz := s.heap.size)
  generalize hAe : va_A (cat [[(a0, .inr (12, [.ref a1, .ref a2, .ref a3, .ref a4, .ref a5, .ref a6, .ref a7, .int 0, .int ((-1)), .ref a8, .ref a9, .int 0, .int 0, .ref a10, .int 0, .int 0, .null, .null, .null, .null, .null]))], [(a1, .inl (kA 4, 4, .inr (.inr (.inr (.inr (rr (g 0)))))))], [(g 0 j, .inr (3, [.int 0, .int 0, .int 1, .ref a11, .ref a12, .ref a13, .ref a14, .ref a15, .ref a16, .ref a17, .ref a18, .ref a19, .ref a20, .ref a21, .ref a22, .ref a23, .null, .int 0, .int 0]))]]) s.heap.size = A at hD ⊢
  have hA : ∀ q : Nat, s.heap.size ≤ q → A q := fun q h => by rw [← hAe]; exact Or.inr h
  have hS : va_S A s.heap s.heap [] := va_S.rf
  obtain ⟨hx, hb, hml, hown, hts, hr, hlk, hnm⟩ := id X
  have hl : lv_has ls 4 [(0, .ref a0), (1, .int (nI j)), (2, .int 0)] := hl
  have hP : va_P D classes (cat [[(a0, .inr (12, [.ref a1, .ref a2, .ref a3, .ref a4, .ref a5, .ref a6, .ref a7, .int 0, .int ((-1)), .ref a8, .ref a9, .int 0, .int 0, .ref a10, .int 0, .int 0, .null, .null, .null, .null, .null]))], [(a1, .inl (kA 4, 4, .inr (.inr (.inr (.inr (rr (g 0)))))))], [(g 0 j, .inr (3, [.int 0, .int 0, .int 1, .ref a11, .ref a12, .ref a13, .ref a14, .ref a15, .ref a16, .ref a17, .ref a18, .ref a19, .ref a20, .ref a21, .ref a22, .ref a23, .null, .int 0, .int 0]))]]) s.heap := hP
  have hK : va_K D classes (TY kA) s := hK
  refine lv_iload_n (pc := 0) hx hb d_Ho_text_0 rfl (lv_at hl 1 rfl) ?_
  refine k_goI (gr := [[(a0, .inr (12, [.ref a1, .ref a2, .ref a3, .ref a4, .ref a5, .ref a6, .ref a7, .int 0, .int ((-1)), .ref a8, .ref a9, .int 0, .int 0, .ref a10, .int 0, .int 0, .null, .null, .null, .null, .null]))], [(a1, .inl (kA 4, 4, .inr (.inr (.inr (.inr (rr (g 0)))))))], [(g 0 j, .inr (3, [.int 0, .int 0, .int 1, .ref a11, .ref a12, .ref a13, .ref a14, .ref a15, .ref a16, .ref a17, .ref a18, .ref a19, .ref a20, .ref a21, .ref a22, .ref a23, .null, .int 0, .int 0]))]]) (k_rS (pc := 1) (As := [.int (nI j)]) (rest := []) X (c_Ho_isPlace l D kA (nI j) s.heap.size) rfl wm_633 wm_1 wm_631 wm_632 1 (by decide +kernel) ⟨Nat.le_of_ble_eq_true rfl, Nat.le_of_ble_eq_true rfl⟩ rfl rfl (k_pre hN hK hP hD [] [0, 1, 2] 3 rfl (by decide) rfl) rfl hl.1 rfl (Nat.le_of_ble_eq_true rfl) d_Ho_text_1 ⟨Nat.le_of_ble_eq_true rfl, Nat.le_of_ble_eq_true rfl⟩) hP hD hS hA [] [0, 1, 2] 3 rfl (by decide) rfl rfl (fun r1 u2 H locs hu2 hP hD hS => ?_)
  subst hu2
  refine k_cst (v := 1) (place_ok hj) ?_
  have hP : va_P D classes (cat [[(a0, .inr (12, [.ref a1, .ref a2, .ref a3, .ref a4, .ref a5, .ref a6, .ref a7, .int 0, .int ((-1)), .ref a8, .ref a9, .int 0, .int 0, .ref a10, .int 0, .int 0, .null, .null, .null, .null, .null]))], [(a1, .inl (kA 4, 4, .inr (.inr (.inr (.inr (rr (g 0)))))))], [(g 0 j, .inr (3, [.int 0, .int 0, .int 1, .ref a11, .ref a12, .ref a13, .ref a14, .ref a15, .ref a16, .ref a17, .ref a18, .ref a19, .ref a20, .ref a21, .ref a22, .ref a23, .null, .int 0, .int 0]))]]) H := hP
  have hD : va_D A (cat [[(a0, .inr (12, [.ref a1, .ref a2, .ref a3, .ref a4, .ref a5, .ref a6, .ref a7, .int 0, .int ((-1)), .ref a8, .ref a9, .int 0, .int 0, .ref a10, .int 0, .int 0, .null, .null, .null, .null, .null]))], [(a1, .inl (kA 4, 4, .inr (.inr (.inr (.inr (rr (g 0)))))))], [(g 0 j, .inr (3, [.int 0, .int 0, .int 1, .ref a11, .ref a12, .ref a13, .ref a14, .ref a15, .ref a16, .ref a17, .ref a18, .ref a19, .ref a20, .ref a21, .ref a22, .ref a23, .null, .int 0, .int 0]))]]) := hD
  refine lv_if_eq (pc := 4) (tgt := 29) hx hb d_Ho_text_4 (by decide) (fun c1 => absurd c1 (by decide)) (fun c1 => ?_)
  refine lv_iload_n (pc := 7) hx hb d_Ho_text_7 rfl (lv_at hl 2 rfl) ?_
  refine lv_if_lt (pc := 8) (tgt := 29) hx hb d_Ho_text_8 (by decide) (fun c1 => absurd c1 (by decide)) (fun c1 => ?_)
  refine lv_iload_n (pc := 11) hx hb d_Ho_text_11 rfl (lv_at hl 2 rfl) ?_
  refine lv_iconst (pc := 12) (v := 1) hx hb d_Ho_text_12 (by decide) ?_
  refine lv_icmp_gt (pc := 13) (tgt := 29) hx hb d_Ho_text_13 (by decide) (fun c1 => absurd c1 (by decide)) (fun _ => ?_)
  refine lv_iload_n (pc := 16) hx hb d_Ho_text_16 rfl (lv_at hl 2 rfl) ?_
  refine lv_iconst (pc := 17) (v := 1) hx hb d_Ho_text_17 (by decide) ?_
  refine lv_icmp_ne (pc := 18) (tgt := 31) hx hb d_Ho_text_18 (by decide) (fun _ => ?_) (fun c1 => absurd c1 (by decide))
  refine lv_aload_n (pc := 31) hx hb d_Ho_text_31 rfl (lv_at hl 0 rfl) ?_
  refine lv_iconst (pc := 32) (v := 0) hx hb d_Ho_text_32 (by decide) ?_
  refine k_put (pc := 33) X hK hP hD hS 0 rfl rfl i_Ho t_Ho t_Ho_ok n_Ho 12 (by decide) wm_567 rfl (Or.inl rfl) rfl rfl (Nat.le_of_ble_eq_true rfl) d_Ho_text_33 (fun H locs hP hD hS => ?_)
  have hP : va_P D classes (cat [[(a0, .inr (12, [.ref a1, .ref a2, .ref a3, .ref a4, .ref a5, .ref a6, .ref a7, .int 0, .int ((-1)), .ref a8, .ref a9, .int 0, .int 0, .ref a10, .int 0, .int 0, .null, .null, .null, .null, .null]))], [(a1, .inl (kA 4, 4, .inr (.inr (.inr (.inr (rr (g 0)))))))], [(g 0 j, .inr (3, [.int 0, .int 0, .int 1, .ref a11, .ref a12, .ref a13, .ref a14, .ref a15, .ref a16, .ref a17, .ref a18, .ref a19, .ref a20, .ref a21, .ref a22, .ref a23, .null, .int 0, .int 0]))]]) H := hP
  have hD : va_D A (cat [[(a0, .inr (12, [.ref a1, .ref a2, .ref a3, .ref a4, .ref a5, .ref a6, .ref a7, .int 0, .int ((-1)), .ref a8, .ref a9, .int 0, .int 0, .ref a10, .int 0, .int 0, .null, .null, .null, .null, .null]))], [(a1, .inl (kA 4, 4, .inr (.inr (.inr (.inr (rr (g 0)))))))], [(g 0 j, .inr (3, [.int 0, .int 0, .int 1, .ref a11, .ref a12, .ref a13, .ref a14, .ref a15, .ref a16, .ref a17, .ref a18, .ref a19, .ref a20, .ref a21, .ref a22, .ref a23, .null, .int 0, .int 0]))]]) := hD
  refine lv_iload_n (pc := 36) hx hb d_Ho_text_36 rfl (lv_at hl 2 rfl) ?_
  refine lv_if_ne (pc := 37) (tgt := 65) hx hb d_Ho_text_37 (by decide) (fun c1 => absurd (by decide) c1) (fun c1 => ?_)
  refine lv_aload_n (pc := 40) hx hb d_Ho_text_40 rfl (lv_at hl 0 rfl) ?_
  refine lv_aload_n (pc := 41) hx hb d_Ho_text_41 rfl (lv_at hl 0 rfl) ?_
  refine k_get (pc := 42) X hK hP 0 rfl rfl i_Ho 0 (by decide) wm_555 rfl rfl d_Ho_text_42 ?_
  refine lv_iload_n (pc := 45) hx hb d_Ho_text_45 rfl (lv_at hl 1 rfl) ?_
  refine k_ald (pc := 46) hx hb hK hP 1 4 rfl rfl (j) rfl (by omega) (by decide) (rr_at (by omega)) d_Ho_text_46 ?_
  refine lv_iconst (pc := 47) (v := 0) hx hb d_Ho_text_47 (by decide) ?_
  refine lv_iconst (pc := 48) (v := 0) hx hb d_Ho_text_48 (by decide) ?_
  refine k_goV (gr := [[(a0, .inr (12, [.ref a1, .ref a2, .ref a3, .ref a4, .ref a5, .ref a6, .ref a7, .int 0, .int ((-1)), .ref a8, .ref a9, .int 0, .int 0, .ref a10, .int 0, .int 0, .null, .null, .null, .null, .null]))], [(a1, .inl (kA 4, 4, .inr (.inr (.inr (.inr (rr (g 0)))))))]]) (k_rV (pc := 49) (As := [.ref (g 0 j), .int 0, .int 0]) (rest := []) X (c_Ho_writeGroup_z1 l D kA a0 g j a11 a12 a13 a14 a15 a16 a17 a18 a19 a20 a21 a22 a23 hj H.size) rfl wm_2334 wm_1 wm_2331 wm_2333 wv_11_14 3 (by decide +kernel) ⟨Nat.le_of_ble_eq_true rfl, Nat.le_of_ble_eq_true rfl⟩ rfl rfl (va_recv hK hP (ci := 12) (q0 := 0) rfl rfl) (k_pre hN hK hP hD [2] [0, 1] 3 rfl (by decide) rfl) rfl hl.1 rfl (Nat.le_of_ble_eq_true rfl) d_Ho_text_49 ⟨Nat.le_of_ble_eq_true rfl, Nat.le_of_ble_eq_true rfl⟩) hP hD hS hA [2] [0, 1] 3 rfl (by decide) rfl rfl (fun u3 H locs hu3 hP hD hS => ?_)
  have hP : va_P D classes (cat [[(a0, .inr (12, [.ref a1, .ref a2, .ref a3, .ref a4, .ref a5, .ref a6, .ref a7, .int 0, .int ((-1)), .ref a8, .ref a9, .int 0, .int 0, .ref a10, .int 0, .int 0, .null, .null, .null, .null, .null]))], [(a1, .inl (kA 4, 4, .inr (.inr (.inr (.inr (rr (g 0)))))))], [(g 0 j, .inr (3, [.int 0, .int 0, .int 1, .ref a11, .ref a12, .ref a13, .ref a14, .ref a15, .ref a16, .ref a17, .ref a18, .ref a19, .ref a20, .ref a21, .ref a22, .ref a23, .null, .int 0, .int 0]))]]) H := hP
  have hD : va_D A (cat [[(a0, .inr (12, [.ref a1, .ref a2, .ref a3, .ref a4, .ref a5, .ref a6, .ref a7, .int 0, .int ((-1)), .ref a8, .ref a9, .int 0, .int 0, .ref a10, .int 0, .int 0, .null, .null, .null, .null, .null]))], [(a1, .inl (kA 4, 4, .inr (.inr (.inr (.inr (rr (g 0)))))))], [(g 0 j, .inr (3, [.int 0, .int 0, .int 1, .ref a11, .ref a12, .ref a13, .ref a14, .ref a15, .ref a16, .ref a17, .ref a18, .ref a19, .ref a20, .ref a21, .ref a22, .ref a23, .null, .int 0, .int 0]))]]) := hD
  refine lv_aload_n (pc := 52) hx hb d_Ho_text_52 rfl (lv_at hl 0 rfl) ?_
  refine lv_aload_n (pc := 53) hx hb d_Ho_text_53 rfl (lv_at hl 0 rfl) ?_
  refine k_get (pc := 54) X hK hP 0 rfl rfl i_Ho 0 (by decide) wm_555 rfl rfl d_Ho_text_54 ?_
  refine lv_iload_n (pc := 57) hx hb d_Ho_text_57 rfl (lv_at hl 1 rfl) ?_
  refine k_ald (pc := 58) hx hb hK hP 1 4 rfl rfl (j) rfl (by omega) (by decide) (rr_at (by omega)) d_Ho_text_58 ?_
  refine k_goV (gr := [[(a0, .inr (12, [.ref a1, .ref a2, .ref a3, .ref a4, .ref a5, .ref a6, .ref a7, .int 0, .int ((-1)), .ref a8, .ref a9, .int 0, .int 0, .ref a10, .int 0, .int 0, .null, .null, .null, .null, .null]))], [(a1, .inl (kA 4, 4, .inr (.inr (.inr (.inr (rr (g 0)))))))]]) (k_rV (pc := 59) (As := [.ref (g 0 j)]) (rest := []) X (c_Ho_writeEdges_z1 l D kA a0 g j a11 a12 a13 a14 a15 a16 a17 a18 a19 a20 a21 a22 a23 hj H.size) rfl wm_2365 wm_1 wm_2362 wm_2364 wv_12_3 1 (by decide +kernel) ⟨Nat.le_of_ble_eq_true rfl, Nat.le_of_ble_eq_true rfl⟩ rfl rfl (va_recv hK hP (ci := 12) (q0 := 0) rfl rfl) (k_pre hN hK hP hD [2] [0, 1] 3 rfl (by decide) rfl) rfl hl.1 rfl (Nat.le_of_ble_eq_true rfl) d_Ho_text_59 ⟨Nat.le_of_ble_eq_true rfl, Nat.le_of_ble_eq_true rfl⟩) hP hD hS hA [2] [0, 1] 3 rfl (by decide) rfl rfl (fun u4 H locs hu4 hP hD hS => ?_)
  have hP : va_P D classes (cat [[(a0, .inr (12, [.ref a1, .ref a2, .ref a3, .ref a4, .ref a5, .ref a6, .ref a7, .int 0, .int ((-1)), .ref a8, .ref a9, .int 0, .int 0, .ref a10, .int 0, .int 0, .null, .null, .null, .null, .null]))], [(a1, .inl (kA 4, 4, .inr (.inr (.inr (.inr (rr (g 0)))))))], [(g 0 j, .inr (3, [.int 0, .int 0, .int 1, .ref a11, .ref a12, .ref a13, .ref a14, .ref a15, .ref a16, .ref a17, .ref a18, .ref a19, .ref a20, .ref a21, .ref a22, .ref a23, .null, .int 0, .int 0]))]]) H := hP
  have hD : va_D A (cat [[(a0, .inr (12, [.ref a1, .ref a2, .ref a3, .ref a4, .ref a5, .ref a6, .ref a7, .int 0, .int ((-1)), .ref a8, .ref a9, .int 0, .int 0, .ref a10, .int 0, .int 0, .null, .null, .null, .null, .null]))], [(a1, .inl (kA 4, 4, .inr (.inr (.inr (.inr (rr (g 0)))))))], [(g 0 j, .inr (3, [.int 0, .int 0, .int 1, .ref a11, .ref a12, .ref a13, .ref a14, .ref a15, .ref a16, .ref a17, .ref a18, .ref a19, .ref a20, .ref a21, .ref a22, .ref a23, .null, .int 0, .int 0]))]]) := hD
  refine lv_goto (pc := 62) (tgt := 81) hx hb d_Ho_text_62 (by decide) ?_
  refine lv_aload_n (pc := 81) hx hb d_Ho_text_81 rfl (lv_at hl 0 rfl) ?_
  refine k_get (pc := 82) X hK hP 0 rfl rfl i_Ho 12 (by decide) wm_567 rfl rfl d_Ho_text_82 ?_
  refine lv_sipush (pc := 85) (v := 4000) hx hb d_Ho_text_85 (by decide) ?_
  refine lv_icmp_le (pc := 88) (tgt := 93) hx hb d_Ho_text_88 (by decide) (fun _ => ?_) (fun c1 => absurd (by decide) c1)
  refine lv_aload_n (pc := 93) hx hb d_Ho_text_93 rfl (lv_at hl 0 rfl) ?_
  refine k_get (pc := 94) X hK hP 0 rfl rfl i_Ho 9 (by decide) wm_564 rfl rfl d_Ho_text_94 ?_
  refine lv_astore_n (pc := 97) (lv' := [(3, .ref a8), (0, .ref a0), (1, .int (nI j)), (2, .int 0)]) hx hb d_Ho_text_97 rfl hl (by decide) rfl (fun ls hl => ?_)
  refine lv_aload_n (pc := 98) hx hb d_Ho_text_98 rfl (lv_at hl 1 rfl) ?_
  refine lv_aload_n (pc := 99) hx hb d_Ho_text_99 rfl (lv_at hl 1 rfl) ?_
  refine k_get (pc := 100) X hK hP 0 rfl rfl i_Ho 10 (by decide) wm_565 rfl rfl d_Ho_text_100 ?_
  refine k_put (pc := 103) X hK hP hD hS 0 rfl rfl i_Ho t_Ho t_Ho_ok n_Ho 9 (by decide) wm_564 rfl (Or.inl rfl) rfl rfl (Nat.le_of_ble_eq_true rfl) d_Ho_text_103 (fun H locs hP hD hS => ?_)
  have hP : va_P D classes (cat [[(a0, .inr (12, [.ref a1, .ref a2, .ref a3, .ref a4, .ref a5, .ref a6, .ref a7, .int 0, .int ((-1)), .ref a9, .ref a9, .int 0, .int 0, .ref a10, .int 0, .int 0, .null, .null, .null, .null, .null]))], [(a1, .inl (kA 4, 4, .inr (.inr (.inr (.inr (rr (g 0)))))))], [(g 0 j, .inr (3, [.int 0, .int 0, .int 1, .ref a11, .ref a12, .ref a13, .ref a14, .ref a15, .ref a16, .ref a17, .ref a18, .ref a19, .ref a20, .ref a21, .ref a22, .ref a23, .null, .int 0, .int 0]))]]) H := hP
  have hD : va_D A (cat [[(a0, .inr (12, [.ref a1, .ref a2, .ref a3, .ref a4, .ref a5, .ref a6, .ref a7, .int 0, .int ((-1)), .ref a9, .ref a9, .int 0, .int 0, .ref a10, .int 0, .int 0, .null, .null, .null, .null, .null]))], [(a1, .inl (kA 4, 4, .inr (.inr (.inr (.inr (rr (g 0)))))))], [(g 0 j, .inr (3, [.int 0, .int 0, .int 1, .ref a11, .ref a12, .ref a13, .ref a14, .ref a15, .ref a16, .ref a17, .ref a18, .ref a19, .ref a20, .ref a21, .ref a22, .ref a23, .null, .int 0, .int 0]))]]) := hD
  refine lv_aload_n (pc := 106) hx hb d_Ho_text_106 rfl (lv_at hl 1 rfl) ?_
  refine lv_aload_n (pc := 107) hx hb d_Ho_text_107 rfl (lv_at hl 0 rfl) ?_
  refine k_put (pc := 108) X hK hP hD hS 0 rfl rfl i_Ho t_Ho t_Ho_ok n_Ho 10 (by decide) wm_565 rfl (Or.inl rfl) rfl rfl (Nat.le_of_ble_eq_true rfl) d_Ho_text_108 (fun H locs hP hD hS => ?_)
  have hP : va_P D classes (cat [[(a0, .inr (12, [.ref a1, .ref a2, .ref a3, .ref a4, .ref a5, .ref a6, .ref a7, .int 0, .int ((-1)), .ref a9, .ref a8, .int 0, .int 0, .ref a10, .int 0, .int 0, .null, .null, .null, .null, .null]))], [(a1, .inl (kA 4, 4, .inr (.inr (.inr (.inr (rr (g 0)))))))], [(g 0 j, .inr (3, [.int 0, .int 0, .int 1, .ref a11, .ref a12, .ref a13, .ref a14, .ref a15, .ref a16, .ref a17, .ref a18, .ref a19, .ref a20, .ref a21, .ref a22, .ref a23, .null, .int 0, .int 0]))]]) H := hP
  have hD : va_D A (cat [[(a0, .inr (12, [.ref a1, .ref a2, .ref a3, .ref a4, .ref a5, .ref a6, .ref a7, .int 0, .int ((-1)), .ref a9, .ref a8, .int 0, .int 0, .ref a10, .int 0, .int 0, .null, .null, .null, .null, .null]))], [(a1, .inl (kA 4, 4, .inr (.inr (.inr (.inr (rr (g 0)))))))], [(g 0 j, .inr (3, [.int 0, .int 0, .int 1, .ref a11, .ref a12, .ref a13, .ref a14, .ref a15, .ref a16, .ref a17, .ref a18, .ref a19, .ref a20, .ref a21, .ref a22, .ref a23, .null, .int 0, .int 0]))]]) := hD
  refine lv_aload_n (pc := 111) hx hb d_Ho_text_111 rfl (lv_at hl 1 rfl) ?_
  refine lv_aload_n (pc := 112) hx hb d_Ho_text_112 rfl (lv_at hl 1 rfl) ?_
  refine k_get (pc := 113) X hK hP 0 rfl rfl i_Ho 12 (by decide) wm_567 rfl rfl d_Ho_text_113 ?_
  refine k_put (pc := 116) X hK hP hD hS 0 rfl rfl i_Ho t_Ho t_Ho_ok n_Ho 11 (by decide) wm_566 rfl (Or.inl rfl) rfl rfl (Nat.le_of_ble_eq_true rfl) d_Ho_text_116 (fun H locs hP hD hS => ?_)
  have hP : va_P D classes (cat [[(a0, .inr (12, [.ref a1, .ref a2, .ref a3, .ref a4, .ref a5, .ref a6, .ref a7, .int 0, .int ((-1)), .ref a9, .ref a8, .int 0, .int 0, .ref a10, .int 0, .int 0, .null, .null, .null, .null, .null]))], [(a1, .inl (kA 4, 4, .inr (.inr (.inr (.inr (rr (g 0)))))))], [(g 0 j, .inr (3, [.int 0, .int 0, .int 1, .ref a11, .ref a12, .ref a13, .ref a14, .ref a15, .ref a16, .ref a17, .ref a18, .ref a19, .ref a20, .ref a21, .ref a22, .ref a23, .null, .int 0, .int 0]))]]) H := hP
  have hD : va_D A (cat [[(a0, .inr (12, [.ref a1, .ref a2, .ref a3, .ref a4, .ref a5, .ref a6, .ref a7, .int 0, .int ((-1)), .ref a9, .ref a8, .int 0, .int 0, .ref a10, .int 0, .int 0, .null, .null, .null, .null, .null]))], [(a1, .inl (kA 4, 4, .inr (.inr (.inr (.inr (rr (g 0)))))))], [(g 0 j, .inr (3, [.int 0, .int 0, .int 1, .ref a11, .ref a12, .ref a13, .ref a14, .ref a15, .ref a16, .ref a17, .ref a18, .ref a19, .ref a20, .ref a21, .ref a22, .ref a23, .null, .int 0, .int 0]))]]) := hD
  refine lv_aload_n (pc := 119) hx hb d_Ho_text_119 rfl (lv_at hl 1 rfl) ?_
  refine k_get (pc := 120) X hK hP 0 rfl rfl i_Ho 11 (by decide) wm_566 rfl rfl d_Ho_text_120 ?_
  refine W.widen (k := 0) (n := 0) (Nat.le_of_ble_eq_true rfl) (Nat.le_of_ble_eq_true rfl) ?_
  exact W.iret (v := 0) hx hb hr (fun t ht hW => ⟨⟨0, [[(a0, .inr (12, [.ref a1, .ref a2, .ref a3, .ref a4, .ref a5, .ref a6, .ref a7, .int 0, .int ((-1)), .ref a9, .ref a8, .int 0, .int 0, .ref a10, .int 0, .int 0, .null, .null, .null, .null, .null]))], [(a1, .inl (kA 4, 4, .inr (.inr (.inr (.inr (rr (g 0)))))))], [(g 0 j, .inr (3, [.int 0, .int 0, .int 1, .ref a11, .ref a12, .ref a13, .ref a14, .ref a15, .ref a16, .ref a17, .ref a18, .ref a19, .ref a20, .ref a21, .ref a22, .ref a23, .null, .int 0, .int 0]))]], rfl, rfl, by rw [ht]; exact hP, va_K.moved hW.alike hK, hD⟩, hS.F ht⟩) hS.2.2 d_Ho_text_123
set_option maxRecDepth 100000 in
set_option maxHeartbeats 4000000 in
/-- DrawingHouseModel.in(III)Z -/
theorem c_Mo_in_z8 (l : Launch) (D : va_G) (kA : Nat → ClassId) : Ci l y_Mo_in z_Mo_in { frames := 0, cells := 0, slots := 0, locals := 0 } D classes (TY kA) [.int 0, .int 0, .int 1] [] (fun r (_ : Unit) => r = 1) (fun u => []) 0 0 := by
  intro sz
  refine k_met (cc := b_Mo_in) (maxL := 3) (ret := (some .boolean)) (by decide) rfl (Nat.le_of_ble_eq_true rfl) (fun p e s m below meth c ls X hl hB => ?_)
  obtain ⟨hsz, hP, hK, hD0, hN⟩ := hB
  subst hsz
  have hD := hD0.self (sz := s.heap.size)
  generalize hAe : va_A (cat []) s.heap.size = A at hD ⊢
  have hA : ∀ q : Nat, s.heap.size ≤ q → A q := fun q h => by rw [← hAe]; exact Or.inr h
  have hS : va_S A s.heap s.heap [] := va_S.rf
  obtain ⟨hx, hb, hml, hown, hts, hr, hlk, hnm⟩ := id X
  have hl : lv_has ls 3 [(0, .int 0), (1, .int 0), (2, .int 1)] := hl
  have hP : va_P D classes (cat []) s.heap := hP
  have hK : va_K D classes (TY kA) s := hK
  refine lv_iload_n (pc := 0) hx hb d_Mo_in_0 rfl (lv_at hl 0 rfl) ?_
  refine lv_iload_n (pc := 1) hx hb d_Mo_in_1 rfl (lv_at hl 1 rfl) ?_
  refine lv_icmp_lt (pc := 2) (tgt := 14) hx hb d_Mo_in_2 (by decide) (fun c1 => absurd c1 (by decide)) (fun _ => ?_)
  refine lv_iload_n (pc := 5) hx hb d_Mo_in_5 rfl (lv_at hl 0 rfl) ?_
  refine lv_iload_n (pc := 6) hx hb d_Mo_in_6 rfl (lv_at hl 2 rfl) ?_
  refine lv_icmp_gt (pc := 7) (tgt := 14) hx hb d_Mo_in_7 (by decide) (fun c1 => absurd c1 (by decide)) (fun _ => ?_)
  refine lv_iconst (pc := 10) (v := 1) hx hb d_Mo_in_10 (by decide) ?_
  refine lv_goto (pc := 11) (tgt := 15) hx hb d_Mo_in_11 (by decide) ?_
  refine W.widen (k := 0) (n := 0) (Nat.le_of_ble_eq_true rfl) (Nat.le_of_ble_eq_true rfl) ?_
  exact W.zret (v := 1) hx hb hr rfl (fun t ht hW => ⟨⟨1, (), rfl, rfl, by rw [ht]; exact hP, va_K.moved hW.alike hK, hD⟩, hS.F ht⟩) hS.2.2 d_Mo_in_15
set_option maxRecDepth 100000 in
set_option maxHeartbeats 4000000 in
/-- DrawingHouseModel.groups()I -/
theorem c_Mo_groups_z1 (l : Launch) (D : va_G) (kA : Nat → ClassId) (a0 : Nat) (qm : Nat → Nat) (j : Nat) (hj : j < 4) : Ci l y_Mo_groups z_Mo_groups { frames := 0, cells := 0, slots := 0, locals := 0 } D classes (TY kA) [.ref a0] [[(a0, .inr (13, mF qm (va_up x0Mo 5 (nI (539 * (31 * j + 0)))) y0Mo))], [(qm 2, .inl (kA 0, 66836, .inl all0))]] (fun r (_ : Unit) => r = 1) (fun u => [[(a0, .inr (13, mF qm (va_up x0Mo 5 (nI (539 * (31 * j + 0)))) y0Mo))], [(qm 2, .inl (kA 0, 66836, .inl all0))]]) 0 0 := by
  intro sz
  refine k_met (cc := b_Mo_groups) (maxL := 1) (ret := (some .int)) (by decide) rfl (Nat.le_of_ble_eq_true rfl) (fun p e s m below meth c ls X hl hB => ?_)
  obtain ⟨hsz, hP, hK, hD0, hN⟩ := hB
  subst hsz
  have hD := hD0.self (sz := s.heap.size)
  generalize hAe : va_A (cat [[(a0, .inr (13, mF qm (va_up x0Mo 5 (nI (539 * (31 * j + 0)))) y0Mo))], [(qm 2, .inl (kA 0, 66836, .inl all0))]]) s.heap.size = A at hD ⊢
  have hA : ∀ q : Nat, s.heap.size ≤ q → A q := fun q h => by rw [← hAe]; exact Or.inr h
  have hS : va_S A s.heap s.heap [] := va_S.rf
  obtain ⟨hx, hb, hml, hown, hts, hr, hlk, hnm⟩ := id X
  have hl : lv_has ls 1 [(0, .ref a0)] := hl
  have hP : va_P D classes (cat [[(a0, .inr (13, mF qm (va_up x0Mo 5 (nI (539 * (31 * j + 0)))) y0Mo))], [(qm 2, .inl (kA 0, 66836, .inl all0))]]) s.heap := hP
  have hK : va_K D classes (TY kA) s := hK
  refine lv_aload_n (pc := 0) hx hb d_Mo_groups_0 rfl (lv_at hl 0 rfl) ?_
  refine k_get (pc := 1) (v := .ref (qm 2)) X hK hP 0 rfl rfl i_Mo 2 (by decide) wm_2435 rfl rfl d_Mo_groups_1 ?_
  refine lv_aload_n (pc := 4) hx hb d_Mo_groups_4 rfl (lv_at hl 0 rfl) ?_
  refine k_get (pc := 5) (v := .int (nI (539 * (31 * j + 0)))) X hK hP 0 rfl rfl i_Mo 5 (by decide) wm_2438 rfl rfl d_Mo_groups_5 ?_
  refine lv_iconst (pc := 8) (v := 2) hx hb d_Mo_groups_8 (by decide) ?_
  refine k_add (pc := 9) (x := 539 * (31 * j + 0)) (y := 2) hx hb d_Mo_groups_9 ?_
  refine k_ild (pc := 10) hx hb hK hP 1 0 rfl rfl ((539 * (31 * j + 0)) + 2) rfl (by omega) (by decide) d_Mo_groups_10 ?_
  refine k_cst (v := 1) (all0_e hj (o := 2) (by omega) (by decide) rfl) ?_
  refine W.widen (k := 0) (n := 0) (Nat.le_of_ble_eq_true rfl) (Nat.le_of_ble_eq_true rfl) ?_
  exact W.iret (v := 1) hx hb hr (fun t ht hW => ⟨⟨1, (), rfl, rfl, by rw [ht]; exact hP, va_K.moved hW.alike hK, hD⟩, hS.F ht⟩) hS.2.2 d_Mo_groups_11
set_option maxRecDepth 100000 in
set_option maxHeartbeats 4000000 in
/-- DrawingHouseModel.writeGroup(I)V -/
theorem c_Mo_writeGroup_z1 (l : Launch) (D : va_G) (kA : Nat → ClassId) (a0 : Nat) (qm : Nat → Nat) (j : Nat) (hj : j < 4) : Cv l y_Mo_writeGroup z_Mo_writeGroup { frames := 1, cells := 0, slots := 0, locals := 20 } D classes (TY kA) [.ref a0, .int 0] [[(a0, .inr (13, mF qm (va_up x0Mo 5 (nI (539 * (31 * j + 0)))) y0Mo))], [(qm 2, .inl (kA 0, 66836, .inl all0))]] (fun _ : Unit => True) (fun u => [[(a0, .inr (13, mF qm (va_up x0Mo 5 (nI (539 * (31 * j + 0)))) y0Mo))], [(qm 2, .inl (kA 0, 66836, .inl all0))]]) 0 0 := by
  intro sz
  refine k_met (cc := b_Mo_writeGroup) (maxL := 3) (ret := none) (by decide) rfl (Nat.le_of_ble_eq_true rfl) (fun p e s m below meth c ls X hl hB => ?_)
  obtain ⟨hsz, hP, hK, hD0, hN⟩ := hB
  subst hsz
  have hD := hD0.self (sz := s.heap.size)
  generalize hAe : va_A (cat [[(a0, .inr (13, mF qm (va_up x0Mo 5 (nI (539 * (31 * j + 0)))) y0Mo))], [(qm 2, .inl (kA 0, 66836, .inl all0))]]) s.heap.size = A at hD ⊢
  have hA : ∀ q : Nat, s.heap.size ≤ q → A q := fun q h => by rw [← hAe]; exact Or.inr h
  have hS : va_S A s.heap s.heap [] := va_S.rf
  obtain ⟨hx, hb, hml, hown, hts, hr, hlk, hnm⟩ := id X
  have hl : lv_has ls 3 [(0, .ref a0), (1, .int 0)] := hl
  have hP : va_P D classes (cat [[(a0, .inr (13, mF qm (va_up x0Mo 5 (nI (539 * (31 * j + 0)))) y0Mo))], [(qm 2, .inl (kA 0, 66836, .inl all0))]]) s.heap := hP
  have hK : va_K D classes (TY kA) s := hK
  refine lv_iconst (pc := 0) (v := 0) hx hb d_Mo_writeGroup_0 (by decide) ?_
  refine lv_istore_n (pc := 1) (lv' := [(2, .int 0), (0, .ref a0), (1, .int 0)]) hx hb d_Mo_writeGroup_1 rfl hl (by decide) rfl (fun ls hl => ?_)
  refine lv_iload_n (pc := 2) hx hb d_Mo_writeGroup_2 rfl (lv_at hl 0 rfl) ?_
  refine lv_aload_n (pc := 3) hx hb d_Mo_writeGroup_3 rfl (lv_at hl 1 rfl) ?_
  refine k_goI (gr := []) (k_rV (pc := 4) (As := []) (rest := [.int 0]) X (c_Mo_nodes_z1 l D kA a0 qm j hj s.heap.size) rfl wm_3025 wm_9 wm_3022 wm_3024 wv_13_3 0 (by decide +kernel) ⟨Nat.le_of_ble_eq_true rfl, Nat.le_of_ble_eq_true rfl⟩ rfl rfl (va_recv hK hP (ci := 13) (q0 := 0) rfl rfl) (k_pre hN hK hP hD [0, 1] [] 2 rfl (by decide) rfl) rfl hl.1 rfl (Nat.le_of_ble_eq_true rfl) d_Mo_writeGroup_4 ⟨Nat.le_of_ble_eq_true rfl, Nat.le_of_ble_eq_true rfl⟩) hP hD hS hA [0, 1] [] 2 rfl (by decide) rfl rfl (fun r1 u2 H locs hu2 hP hD hS => ?_)
  subst hu2
  have hP : va_P D classes (cat [[(a0, .inr (13, mF qm (va_up x0Mo 5 (nI (539 * (31 * j + 0)))) y0Mo))], [(qm 2, .inl (kA 0, 66836, .inl all0))]]) H := hP
  have hD : va_D A (cat [[(a0, .inr (13, mF qm (va_up x0Mo 5 (nI (539 * (31 * j + 0)))) y0Mo))], [(qm 2, .inl (kA 0, 66836, .inl all0))]]) := hD
  refine lv_icmp_ge (pc := 7) (tgt := 79) hx hb d_Mo_writeGroup_7 (by decide) (fun _ => ?_) (fun c1 => absurd (by decide) c1)
  refine lv_iload_n (pc := 79) hx hb d_Mo_writeGroup_79 rfl (lv_at hl 2 rfl) ?_
  refine lv_iconst (pc := 80) (v := 1) hx hb d_Mo_writeGroup_80 (by decide) ?_
  refine lv_iadd (pc := 81) hx hb d_Mo_writeGroup_81 ?_
  refine k_cst (v := 1) (by decide) ?_
  refine lv_istore_n (pc := 82) (lv' := [(2, .int 1), (0, .ref a0), (1, .int 0)]) hx hb d_Mo_writeGroup_82 rfl hl (by decide) rfl (fun ls hl => ?_)
  refine lv_iload_n (pc := 83) hx hb d_Mo_writeGroup_83 rfl (lv_at hl 0 rfl) ?_
  refine lv_aload_n (pc := 84) hx hb d_Mo_writeGroup_84 rfl (lv_at hl 1 rfl) ?_
  refine k_goI (gr := []) (k_rV (pc := 85) (As := []) (rest := [.int 1]) X (c_Mo_groups_z1 l D kA a0 qm j hj H.size) rfl wm_3070 wm_9 wm_3067 wm_3069 wv_13_14 0 (by decide +kernel) ⟨Nat.le_of_ble_eq_true rfl, Nat.le_of_ble_eq_true rfl⟩ rfl rfl (va_recv hK hP (ci := 13) (q0 := 0) rfl rfl) (k_pre hN hK hP hD [0, 1] [] 2 rfl (by decide) rfl) rfl hl.1 rfl (Nat.le_of_ble_eq_true rfl) d_Mo_writeGroup_85 ⟨Nat.le_of_ble_eq_true rfl, Nat.le_of_ble_eq_true rfl⟩) hP hD hS hA [0, 1] [] 2 rfl (by decide) rfl rfl (fun r3 u4 H locs hu4 hP hD hS => ?_)
  subst hu4
  have hP : va_P D classes (cat [[(a0, .inr (13, mF qm (va_up x0Mo 5 (nI (539 * (31 * j + 0)))) y0Mo))], [(qm 2, .inl (kA 0, 66836, .inl all0))]]) H := hP
  have hD : va_D A (cat [[(a0, .inr (13, mF qm (va_up x0Mo 5 (nI (539 * (31 * j + 0)))) y0Mo))], [(qm 2, .inl (kA 0, 66836, .inl all0))]]) := hD
  refine lv_icmp_ge (pc := 88) (tgt := 177) hx hb d_Mo_writeGroup_88 (by decide) (fun _ => ?_) (fun c1 => absurd (by decide) c1)
  refine W.widen (k := 0) (n := 0) (Nat.le_of_ble_eq_true rfl) (Nat.le_of_ble_eq_true rfl) ?_
  exact W.vret hx hb hr (fun t ht hW => ⟨⟨(), rfl, trivial, by rw [ht]; exact hP, va_K.moved hW.alike hK, hD⟩, hS.F ht⟩) hS.2.2 d_Mo_writeGroup_177
set_option maxRecDepth 100000 in
set_option maxHeartbeats 4000000 in
/-- DrawingHouseModel.writeEdges()V -/
theorem c_Mo_writeEdges_z1 (l : Launch) (D : va_G) (kA : Nat → ClassId) (a0 : Nat) (qm : Nat → Nat) (j : Nat) (hj : j < 4) : Cv l y_Mo_writeEdges z_Mo_writeEdges { frames := 1, cells := 0, slots := 0, locals := 20 } D classes (TY kA) [.ref a0] [[(a0, .inr (13, mF qm (va_up x0Mo 5 (nI (539 * (31 * j + 0)))) y0Mo))], [(qm 2, .inl (kA 0, 66836, .inl all0))]] (fun _ : Unit => True) (fun u => [[(a0, .inr (13, mF qm (va_up x0Mo 5 (nI (539 * (31 * j + 0)))) y0Mo))], [(qm 2, .inl (kA 0, 66836, .inl all0))]]) 0 0 := by
  intro sz
  refine k_met (cc := b_Mo_writeEdges) (maxL := 2) (ret := none) (by decide) rfl (Nat.le_of_ble_eq_true rfl) (fun p e s m below meth c ls X hl hB => ?_)
  obtain ⟨hsz, hP, hK, hD0, hN⟩ := hB
  subst hsz
  have hD := hD0.self (sz := s.heap.size)
  generalize hAe : va_A (cat [[(a0, .inr (13, mF qm (va_up x0Mo 5 (nI (539 * (31 * j + 0)))) y0Mo))], [(qm 2, .inl (kA 0, 66836, .inl all0))]]) s.heap.size = A at hD ⊢
  have hA : ∀ q : Nat, s.heap.size ≤ q → A q := fun q h => by rw [← hAe]; exact Or.inr h
  have hS : va_S A s.heap s.heap [] := va_S.rf
  obtain ⟨hx, hb, hml, hown, hts, hr, hlk, hnm⟩ := id X
  have hl : lv_has ls 2 [(0, .ref a0)] := hl
  have hP : va_P D classes (cat [[(a0, .inr (13, mF qm (va_up x0Mo 5 (nI (539 * (31 * j + 0)))) y0Mo))], [(qm 2, .inl (kA 0, 66836, .inl all0))]]) s.heap := hP
  have hK : va_K D classes (TY kA) s := hK
  refine lv_iconst (pc := 0) (v := 0) hx hb d_Mo_writeEdges_0 (by decide) ?_
  refine lv_istore_n (pc := 1) (lv' := [(1, .int 0), (0, .ref a0)]) hx hb d_Mo_writeEdges_1 rfl hl (by decide) rfl (fun ls hl => ?_)
  refine lv_iload_n (pc := 2) hx hb d_Mo_writeEdges_2 rfl (lv_at hl 0 rfl) ?_
  refine lv_aload_n (pc := 3) hx hb d_Mo_writeEdges_3 rfl (lv_at hl 1 rfl) ?_
  refine k_goI (gr := []) (k_rV (pc := 4) (As := []) (rest := [.int 0]) X (c_Mo_edges_z1 l D kA a0 qm j hj s.heap.size) rfl wm_3037 wm_9 wm_3034 wm_3036 wv_13_6 0 (by decide +kernel) ⟨Nat.le_of_ble_eq_true rfl, Nat.le_of_ble_eq_true rfl⟩ rfl rfl (va_recv hK hP (ci := 13) (q0 := 0) rfl rfl) (k_pre hN hK hP hD [0, 1] [] 2 rfl (by decide) rfl) rfl hl.1 rfl (Nat.le_of_ble_eq_true rfl) d_Mo_writeEdges_4 ⟨Nat.le_of_ble_eq_true rfl, Nat.le_of_ble_eq_true rfl⟩) hP hD hS hA [0, 1] [] 2 rfl (by decide) rfl rfl (fun r1 u2 H locs hu2 hP hD hS => ?_)
  subst hu2
  have hP : va_P D classes (cat [[(a0, .inr (13, mF qm (va_up x0Mo 5 (nI (539 * (31 * j + 0)))) y0Mo))], [(qm 2, .inl (kA 0, 66836, .inl all0))]]) H := hP
  have hD : va_D A (cat [[(a0, .inr (13, mF qm (va_up x0Mo 5 (nI (539 * (31 * j + 0)))) y0Mo))], [(qm 2, .inl (kA 0, 66836, .inl all0))]]) := hD
  refine lv_icmp_ge (pc := 7) (tgt := 95) hx hb d_Mo_writeEdges_7 (by decide) (fun _ => ?_) (fun c1 => absurd (by decide) c1)
  refine W.widen (k := 0) (n := 0) (Nat.le_of_ble_eq_true rfl) (Nat.le_of_ble_eq_true rfl) ?_
  exact W.vret hx hb hr (fun t ht hW => ⟨⟨(), rfl, trivial, by rw [ht]; exact hP, va_K.moved hW.alike hK, hD⟩, hS.F ht⟩) hS.2.2 d_Mo_writeEdges_95
set_option maxRecDepth 100000 in
set_option maxHeartbeats 4000000 in
/-- DrawingHouseModel.text(II)I -/
theorem c_Mo_text_z4 (l : Launch) (D : va_G) (kA : Nat → ClassId) (a0 : Nat) (j : Nat) (qm : Nat → Nat) (hj : j < 4) : Ci l y_Mo_text z_Mo_text { frames := 2, cells := 0, slots := 0, locals := 42 } D classes (TY kA) [.ref a0, .int (nI j), .int 0] [[(a0, .inr (13, mF qm x0Mo y0Mo))], [(qm 3, .inl (kA 0, 4, .inl (fun _ => 0)))], [(qm 2, .inl (kA 0, 66836, .inl all0))]] (fun r (_ : List va_W) => r = 0) (fun u => u) 0 0 := by
  intro sz
  refine k_met (cc := b_Mo_text) (maxL := 4) (ret := (some .int)) (by decide) rfl (Nat.le_of_ble_eq_true rfl) (fun p e s m below meth c ls X hl hB => ?_)
  obtain ⟨hsz, hP, hK, hD0, hN⟩ := hB
  subst hsz
  have hD := hD0.self (sz := s.heap.size)
  generalize hAe : va_A (cat [[(a0, .inr (13, mF qm x0Mo y0Mo))], [(qm 3, .inl (kA 0, 4, .inl (fun _ => 0)))], [(qm 2, .inl (kA 0, 66836, .inl all0))]]) s.heap.size = A at hD ⊢
  have hA : ∀ q : Nat, s.heap.size ≤ q → A q := fun q h => by rw [← hAe]; exact Or.inr h
  have hS : va_S A s.heap s.heap [] := va_S.rf
  obtain ⟨hx, hb, hml, hown, hts, hr, hlk, hnm⟩ := id X
  have hl : lv_has ls 4 [(0, .ref a0), (1, .int (nI j)), (2, .int 0)] := hl
  have hP : va_P D classes (cat [[(a0, .inr (13, mF qm x0Mo y0Mo))], [(qm 3, .inl (kA 0, 4, .inl (fun _ => 0)))], [(qm 2, .inl (kA 0, 66836, .inl all0))]]) s.heap := hP
  have hK : va_K D classes (TY kA) s := hK
  refine lv_iload_n (pc := 0) hx hb d_Mo_text_0 rfl (lv_at hl 1 rfl) ?_
  refine k_goI (gr := [[(a0, .inr (13, mF qm x0Mo y0Mo))], [(qm 3, .inl (kA 0, 4, .inl (fun _ => 0)))], [(qm 2, .inl (kA 0, 66836, .inl all0))]]) (k_rS (pc := 1) (As := [.int (nI j)]) (rest := []) X (c_Mo_isPlace l D kA (nI j) s.heap.size) rfl wm_2978 wm_9 wm_2976 wm_2977 1 (by decide +kernel) ⟨Nat.le_of_ble_eq_true rfl, Nat.le_of_ble_eq_true rfl⟩ rfl rfl (k_pre hN hK hP hD [] [0, 1, 2] 3 rfl (by decide) rfl) rfl hl.1 rfl (Nat.le_of_ble_eq_true rfl) d_Mo_text_1 ⟨Nat.le_of_ble_eq_true rfl, Nat.le_of_ble_eq_true rfl⟩) hP hD hS hA [] [0, 1, 2] 3 rfl (by decide) rfl rfl (fun r1 u2 H locs hu2 hP hD hS => ?_)
  subst hu2
  refine k_cst (v := 1) (placeM_ok hj) ?_
  have hP : va_P D classes (cat [[(a0, .inr (13, mF qm x0Mo y0Mo))], [(qm 3, .inl (kA 0, 4, .inl (fun _ => 0)))], [(qm 2, .inl (kA 0, 66836, .inl all0))]]) H := hP
  have hD : va_D A (cat [[(a0, .inr (13, mF qm x0Mo y0Mo))], [(qm 3, .inl (kA 0, 4, .inl (fun _ => 0)))], [(qm 2, .inl (kA 0, 66836, .inl all0))]]) := hD
  refine lv_if_eq (pc := 4) (tgt := 29) hx hb d_Mo_text_4 (by decide) (fun c1 => absurd c1 (by decide)) (fun c1 => ?_)
  refine lv_iload_n (pc := 7) hx hb d_Mo_text_7 rfl (lv_at hl 2 rfl) ?_
  refine lv_iconst (pc := 8) (v := 0) hx hb d_Mo_text_8 (by decide) ?_
  refine lv_iconst (pc := 9) (v := 1) hx hb d_Mo_text_9 (by decide) ?_
  refine k_goI (gr := [[(a0, .inr (13, mF qm x0Mo y0Mo))], [(qm 3, .inl (kA 0, 4, .inl (fun _ => 0)))], [(qm 2, .inl (kA 0, 66836, .inl all0))]]) (k_rS (pc := 10) (As := [.int 0, .int 0, .int 1]) (rest := []) X (c_Mo_in_z8 l D kA  H.size) rfl wm_2971 wm_9 wm_2969 wm_2970 3 (by decide +kernel) ⟨Nat.le_of_ble_eq_true rfl, Nat.le_of_ble_eq_true rfl⟩ rfl rfl (k_pre hN hK hP hD [] [0, 1, 2] 3 rfl (by decide) rfl) rfl hl.1 rfl (Nat.le_of_ble_eq_true rfl) d_Mo_text_10 ⟨Nat.le_of_ble_eq_true rfl, Nat.le_of_ble_eq_true rfl⟩) hP hD hS hA [] [0, 1, 2] 3 rfl (by decide) rfl rfl (fun r3 u4 H locs hu4 hP hD hS => ?_)
  subst hu4
  have hP : va_P D classes (cat [[(a0, .inr (13, mF qm x0Mo y0Mo))], [(qm 3, .inl (kA 0, 4, .inl (fun _ => 0)))], [(qm 2, .inl (kA 0, 66836, .inl all0))]]) H := hP
  have hD : va_D A (cat [[(a0, .inr (13, mF qm x0Mo y0Mo))], [(qm 3, .inl (kA 0, 4, .inl (fun _ => 0)))], [(qm 2, .inl (kA 0, 66836, .inl all0))]]) := hD
  refine lv_if_eq (pc := 13) (tgt := 29) hx hb d_Mo_text_13 (by decide) (fun c1 => absurd c1 (by decide)) (fun c1 => ?_)
  refine lv_iload_n (pc := 16) hx hb d_Mo_text_16 rfl (lv_at hl 2 rfl) ?_
  refine lv_iconst (pc := 17) (v := 1) hx hb d_Mo_text_17 (by decide) ?_
  refine lv_icmp_ne (pc := 18) (tgt := 31) hx hb d_Mo_text_18 (by decide) (fun _ => ?_) (fun c1 => absurd c1 (by decide))
  refine lv_aload_n (pc := 31) hx hb d_Mo_text_31 rfl (lv_at hl 0 rfl) ?_
  refine lv_iload_n (pc := 32) hx hb d_Mo_text_32 rfl (lv_at hl 1 rfl) ?_
  refine k_goV (gr := [[(qm 2, .inl (kA 0, 66836, .inl all0))]]) (k_rV (pc := 33) (As := [.int (nI j)]) (rest := []) X (c_Mo_take_z1 l D kA a0 j qm hj H.size) rfl wm_3091 wm_9 wm_3088 wm_3090 wv_14_2 1 (by decide +kernel) ⟨Nat.le_of_ble_eq_true rfl, Nat.le_of_ble_eq_true rfl⟩ rfl rfl (va_recv hK hP (ci := 13) (q0 := 0) rfl rfl) (k_pre hN hK hP hD [0, 1] [2] 3 rfl (by decide) rfl) rfl hl.1 rfl (Nat.le_of_ble_eq_true rfl) d_Mo_text_33 ⟨Nat.le_of_ble_eq_true rfl, Nat.le_of_ble_eq_true rfl⟩) hP hD hS hA [0, 1] [2] 3 rfl (by decide) rfl rfl (fun u5 H locs hu5 hP hD hS => ?_)
  have hP : va_P D classes (cat [[(qm 2, .inl (kA 0, 66836, .inl all0))], [(a0, .inr (13, mF qm (va_up x0Mo 5 (nI (539 * (31 * j + 0)))) y0Mo))], [(qm 3, .inl (kA 0, 4, .inl (fun _ => 0)))]]) H := hP
  have hD : va_D A (cat [[(qm 2, .inl (kA 0, 66836, .inl all0))], [(a0, .inr (13, mF qm (va_up x0Mo 5 (nI (539 * (31 * j + 0)))) y0Mo))], [(qm 3, .inl (kA 0, 4, .inl (fun _ => 0)))]]) := hD
  refine lv_aload_n (pc := 36) hx hb d_Mo_text_36 rfl (lv_at hl 0 rfl) ?_
  refine lv_iconst (pc := 37) (v := 0) hx hb d_Mo_text_37 (by decide) ?_
  refine k_put (pc := 38) X hK hP hD hS 1 rfl rfl i_Mo t_Mo t_Mo_ok n_Mo 170 (by decide) wm_2602 rfl (Or.inl rfl) rfl rfl (Nat.le_of_ble_eq_true rfl) d_Mo_text_38 (fun H locs hP hD hS => ?_)
  have hP : va_P D classes (cat [[(qm 2, .inl (kA 0, 66836, .inl all0))], [(a0, .inr (13, mF qm (va_up x0Mo 5 (nI (539 * (31 * j + 0)))) y0Mo))], [(qm 3, .inl (kA 0, 4, .inl (fun _ => 0)))]]) H := hP
  have hD : va_D A (cat [[(qm 2, .inl (kA 0, 66836, .inl all0))], [(a0, .inr (13, mF qm (va_up x0Mo 5 (nI (539 * (31 * j + 0)))) y0Mo))], [(qm 3, .inl (kA 0, 4, .inl (fun _ => 0)))]]) := hD
  refine lv_iload_n (pc := 41) hx hb d_Mo_text_41 rfl (lv_at hl 2 rfl) ?_
  refine lv_if_ne (pc := 42) (tgt := 57) hx hb d_Mo_text_42 (by decide) (fun c1 => absurd (by decide) c1) (fun c1 => ?_)
  refine lv_aload_n (pc := 45) hx hb d_Mo_text_45 rfl (lv_at hl 0 rfl) ?_
  refine lv_iconst (pc := 46) (v := 0) hx hb d_Mo_text_46 (by decide) ?_
  refine k_goV (gr := [[(qm 3, .inl (kA 0, 4, .inl (fun _ => 0)))]]) (k_rV (pc := 47) (As := [.int 0]) (rest := []) X (c_Mo_writeGroup_z1 l D kA a0 qm j hj H.size) rfl wm_3905 wm_9 wm_3902 wm_3904 wv_24_6 1 (by decide +kernel) ⟨Nat.le_of_ble_eq_true rfl, Nat.le_of_ble_eq_true rfl⟩ rfl rfl (va_recv hK hP (ci := 13) (q0 := 1) rfl rfl) (k_pre hN hK hP hD [1, 0] [2] 3 rfl (by decide) rfl) rfl hl.1 rfl (Nat.le_of_ble_eq_true rfl) d_Mo_text_47 ⟨Nat.le_of_ble_eq_true rfl, Nat.le_of_ble_eq_true rfl⟩) hP hD hS hA [1, 0] [2] 3 rfl (by decide) rfl rfl (fun u6 H locs hu6 hP hD hS => ?_)
  have hP : va_P D classes (cat [[(qm 3, .inl (kA 0, 4, .inl (fun _ => 0)))], [(a0, .inr (13, mF qm (va_up x0Mo 5 (nI (539 * (31 * j + 0)))) y0Mo))], [(qm 2, .inl (kA 0, 66836, .inl all0))]]) H := hP
  have hD : va_D A (cat [[(qm 3, .inl (kA 0, 4, .inl (fun _ => 0)))], [(a0, .inr (13, mF qm (va_up x0Mo 5 (nI (539 * (31 * j + 0)))) y0Mo))], [(qm 2, .inl (kA 0, 66836, .inl all0))]]) := hD
  refine lv_aload_n (pc := 50) hx hb d_Mo_text_50 rfl (lv_at hl 0 rfl) ?_
  refine k_goV (gr := [[(qm 3, .inl (kA 0, 4, .inl (fun _ => 0)))]]) (k_rV (pc := 51) (As := []) (rest := []) X (c_Mo_writeEdges_z1 l D kA a0 qm j hj H.size) rfl wm_3937 wm_9 wm_3934 wm_3936 wv_24_12 0 (by decide +kernel) ⟨Nat.le_of_ble_eq_true rfl, Nat.le_of_ble_eq_true rfl⟩ rfl rfl (va_recv hK hP (ci := 13) (q0 := 1) rfl rfl) (k_pre hN hK hP hD [1, 2] [0] 3 rfl (by decide) rfl) rfl hl.1 rfl (Nat.le_of_ble_eq_true rfl) d_Mo_text_51 ⟨Nat.le_of_ble_eq_true rfl, Nat.le_of_ble_eq_true rfl⟩) hP hD hS hA [1, 2] [0] 3 rfl (by decide) rfl rfl (fun u7 H locs hu7 hP hD hS => ?_)
  have hP : va_P D classes (cat [[(qm 3, .inl (kA 0, 4, .inl (fun _ => 0)))], [(a0, .inr (13, mF qm (va_up x0Mo 5 (nI (539 * (31 * j + 0)))) y0Mo))], [(qm 2, .inl (kA 0, 66836, .inl all0))]]) H := hP
  have hD : va_D A (cat [[(qm 3, .inl (kA 0, 4, .inl (fun _ => 0)))], [(a0, .inr (13, mF qm (va_up x0Mo 5 (nI (539 * (31 * j + 0)))) y0Mo))], [(qm 2, .inl (kA 0, 66836, .inl all0))]]) := hD
  refine lv_goto (pc := 54) (tgt := 61) hx hb d_Mo_text_54 (by decide) ?_
  refine lv_aload_n (pc := 61) hx hb d_Mo_text_61 rfl (lv_at hl 0 rfl) ?_
  refine k_get (pc := 62) (v := .int 0) X hK hP 1 rfl rfl i_Mo 170 (by decide) wm_2602 rfl rfl d_Mo_text_62 ?_
  refine lv_sipush (pc := 65) (v := 4000) hx hb d_Mo_text_65 (by decide) ?_
  refine lv_icmp_le (pc := 68) (tgt := 73) hx hb d_Mo_text_68 (by decide) (fun _ => ?_) (fun c1 => absurd (by decide) c1)
  refine lv_aload_n (pc := 73) hx hb d_Mo_text_73 rfl (lv_at hl 0 rfl) ?_
  refine lv_aload_n (pc := 74) hx hb d_Mo_text_74 rfl (lv_at hl 0 rfl) ?_
  refine k_get (pc := 75) (v := .int 0) X hK hP 1 rfl rfl i_Mo 170 (by decide) wm_2602 rfl rfl d_Mo_text_75 ?_
  refine k_put (pc := 78) X hK hP hD hS 1 rfl rfl i_Mo t_Mo t_Mo_ok n_Mo 169 (by decide) wm_2601 rfl (Or.inl rfl) rfl rfl (Nat.le_of_ble_eq_true rfl) d_Mo_text_78 (fun H locs hP hD hS => ?_)
  have hP : va_P D classes (cat [[(qm 3, .inl (kA 0, 4, .inl (fun _ => 0)))], [(a0, .inr (13, mF qm (va_up x0Mo 5 (nI (539 * (31 * j + 0)))) y0Mo))], [(qm 2, .inl (kA 0, 66836, .inl all0))]]) H := hP
  have hD : va_D A (cat [[(qm 3, .inl (kA 0, 4, .inl (fun _ => 0)))], [(a0, .inr (13, mF qm (va_up x0Mo 5 (nI (539 * (31 * j + 0)))) y0Mo))], [(qm 2, .inl (kA 0, 66836, .inl all0))]]) := hD
  refine lv_iconst (pc := 81) (v := 0) hx hb d_Mo_text_81 (by decide) ?_
  refine lv_istore_n (pc := 82) (lv' := [(3, .int 0), (0, .ref a0), (1, .int (nI j)), (2, .int 0)]) hx hb d_Mo_text_82 rfl hl (by decide) rfl (fun ls hl => ?_)
  refine lv_iload_n (pc := 83) hx hb d_Mo_text_83 rfl (lv_at hl 0 rfl) ?_
  refine lv_aload_n (pc := 84) hx hb d_Mo_text_84 rfl (lv_at hl 1 rfl) ?_
  refine k_get (pc := 85) (v := .int 0) X hK hP 1 rfl rfl i_Mo 170 (by decide) wm_2602 rfl rfl d_Mo_text_85 ?_
  refine lv_icmp_ge (pc := 88) (tgt := 109) hx hb d_Mo_text_88 (by decide) (fun _ => ?_) (fun c1 => absurd (by decide) c1)
  refine lv_aload_n (pc := 109) hx hb d_Mo_text_109 rfl (lv_at hl 1 rfl) ?_
  refine k_get (pc := 110) (v := .int 0) X hK hP 1 rfl rfl i_Mo 170 (by decide) wm_2602 rfl rfl d_Mo_text_110 ?_
  refine W.widen (k := 0) (n := 0) (Nat.le_of_ble_eq_true rfl) (Nat.le_of_ble_eq_true rfl) ?_
  exact W.iret (v := 0) hx hb hr (fun t ht hW => ⟨⟨0, [[(qm 3, .inl (kA 0, 4, .inl (fun _ => 0)))], [(a0, .inr (13, mF qm (va_up x0Mo 5 (nI (539 * (31 * j + 0)))) y0Mo))], [(qm 2, .inl (kA 0, 66836, .inl all0))]], rfl, rfl, by rw [ht]; exact hP, va_K.moved hW.alike hK, hD⟩, hS.F ht⟩) hS.2.2 d_Mo_text_113
set_option maxRecDepth 100000 in
set_option maxHeartbeats 4000000 in
/-- text, a fresh house -/
theorem lf_text_4 {p : Program} {e : Env} {s : State} {m : MethodId} {below : List Frame} {meth : Method} {c : Code} (l : Launch) {b : Nat} {xs : Nat → Int32} (C0 : lw_At p s m meth c b 6 xs) {D : va_G} {kA : Nat → ClassId} (h : Nat) (h2 : Nat) (q : Nat → Nat) (qg : Nat → Nat) (qm : Nat → Nat) (g : Nat → Nat → Nat) (j : Nat) (hj : j < 4) (hv1 : xs 1 = nI j) (hv2 : xs 2 = 0) {H : Heap} {locs : List Loc} {ls : Array Slot} (hK : va_K D classes (TY kA) s) (hN : nst s) (hP : va_P D classes (cat [[(h, .inr (12, [.ref (q 0), .ref (q 1), .ref (q 2), .ref (q 3), .ref (q 4), .ref (q 5), .ref (q 6), .int 0, .int ((-1)), .ref (q 9), .ref (q 10), .int 0, .int 0, .ref (q 13), .int 0, .int 0, .null, .null, .null, .null, .null]))], [(q 0, .inl (kA 4, 4, .inr (.inr (.inr (.inr (rr (g 0)))))))], [(g 0 j, .inr (3, [.int 0, .int 0, .int 1, .ref (qg 3), .ref (qg 4), .ref (qg 5), .ref (qg 6), .ref (qg 7), .ref (qg 8), .ref (qg 9), .ref (qg 10), .ref (qg 11), .ref (qg 12), .ref (qg 13), .ref (qg 14), .ref (qg 15), .null, .int 0, .int 0]))], [(h2, .inr (13, mF qm x0Mo y0Mo))], [(qm 3, .inl (kA 0, 4, .inl (fun _ => 0)))], [(qm 2, .inl (kA 0, 66836, .inl all0))]]) H) (hD : va_D (fun q : Nat => s.heap.size ≤ q) (cat [[(h, .inr (12, [.ref (q 0), .ref (q 1), .ref (q 2), .ref (q 3), .ref (q 4), .ref (q 5), .ref (q 6), .int 0, .int ((-1)), .ref (q 9), .ref (q 10), .int 0, .int 0, .ref (q 13), .int 0, .int 0, .null, .null, .null, .null, .null]))], [(q 0, .inl (kA 4, 4, .inr (.inr (.inr (.inr (rr (g 0)))))))], [(g 0 j, .inr (3, [.int 0, .int 0, .int 1, .ref (qg 3), .ref (qg 4), .ref (qg 5), .ref (qg 6), .ref (qg 7), .ref (qg 8), .ref (qg 9), .ref (qg 10), .ref (qg 11), .ref (qg 12), .ref (qg 13), .ref (qg 14), .ref (qg 15), .null, .int 0, .int 0]))], [(h2, .inr (13, mF qm x0Mo y0Mo))], [(qm 3, .inl (kA 0, 4, .inl (fun _ => 0)))], [(qm 2, .inl (kA 0, 66836, .inl all0))]])) (hS : va_S (fun q : Nat => s.heap.size ≤ q) s.heap H locs) (hl : lv_has ls 4 [(3, .int 0), (2, .ref h2), (1, .ref h), (0, .ref b)]) : W p l e room_1 s m #[Value.ref b] below meth c H locs 368 365796 (lw_Z below #[Value.ref b] s) (F0 m 1163 ls []) := by
  obtain ⟨hx, hb, hr, hml, hown, hts0, hX, hbl, hlocks, hgv⟩ := id C0
  have hts : ∀ w ∈ lw_g, w.before #[Value.ref b] s = true := fun w h => hts0 w (lw_gt h)
  have X : cx p s m #[Value.ref b] meth c b_law_law 4 ret "DrawingHouseLaw" meth.name := ⟨hx, hb, hml, hown, hts, hr, hlocks, rfl⟩
  obtain ⟨A, hAe⟩ : ∃ A : Nat → Prop, A = fun q : Nat => s.heap.size ≤ q := ⟨_, rfl⟩
  have hA : ∀ q : Nat, s.heap.size ≤ q → A q := fun q h => by rw [hAe]; exact h
  have hbA : ¬ A b := by rw [hAe]; exact Nat.not_le.mpr hbl
  rw [← hAe] at hD hS
  refine lv_aload_n (pc := 1163) hx hb d_law_law_1163 rfl (lv_at hl 2 rfl) ?_
  refine lv_aload_n (pc := 1164) hx hb d_law_law_1164 rfl (lv_at hl 3 rfl) ?_
  refine lv_iload_n (pc := 1165) hx hb d_law_law_1165 rfl (lv_at hl 0 rfl) ?_
  refine lv_iconst (pc := 1166) (v := 1) hx hb d_law_law_1166 (by decide) ?_
  refine lv_iadd (pc := 1167) hx hb d_law_law_1167 ?_
  refine k_cst (v := 1) (by decide) ?_
  refine va_sld (pc := 1168) hx hb hX hbl hbA hS (by unfold vp_in; decide) d_law_law_1168 ?_
  refine k_cst (v := nI j) hv1 ?_
  refine lv_aload_n (pc := 1169) hx hb d_law_law_1169 rfl (lv_at hl 3 rfl) ?_
  refine lv_iload_n (pc := 1170) hx hb d_law_law_1170 rfl (lv_at hl 0 rfl) ?_
  refine lv_iconst (pc := 1171) (v := 2) hx hb d_law_law_1171 (by decide) ?_
  refine lv_iadd (pc := 1172) hx hb d_law_law_1172 ?_
  refine k_cst (v := 2) (by decide) ?_
  refine va_sld (pc := 1173) hx hb hX hbl hbA hS (by unfold vp_in; decide) d_law_law_1173 ?_
  refine k_cst (v := 0) hv2 ?_
  refine k_goI (gr := [[(h2, .inr (13, mF qm x0Mo y0Mo))], [(qm 3, .inl (kA 0, 4, .inl (fun _ => 0)))], [(qm 2, .inl (kA 0, 66836, .inl all0))]]) (k_rV (pc := 1174) (As := [.int (nI j), .int 0]) (rest := []) X (c_Ho_text_z4 l D kA h j (q 0) (q 1) (q 2) (q 3) (q 4) (q 5) (q 6) (q 9) (q 10) (q 13) g (qg 3) (qg 4) (qg 5) (qg 6) (qg 7) (qg 8) (qg 9) (qg 10) (qg 11) (qg 12) (qg 13) (qg 14) (qg 15) hj H.size) rfl wm_2330 wm_1 wm_2327 wm_2328 wm_2329 2 (by decide +kernel) ⟨Nat.le_of_ble_eq_true rfl, Nat.le_of_ble_eq_true rfl⟩ rfl rfl (va_recv hK hP (ci := 12) (q0 := 0) rfl rfl) (k_pre hN hK hP hD [0, 1, 2] [3, 4, 5] 6 rfl (by decide) rfl) rfl hl.1 rfl (Nat.le_of_ble_eq_true rfl) d_law_law_1174 ⟨Nat.le_of_ble_eq_true rfl, Nat.le_of_ble_eq_true rfl⟩) hP hD hS hA [0, 1, 2] [3, 4, 5] 6 rfl (by decide) rfl rfl (fun r1 u2 H locs hu2 hP hD hS => ?_)
  obtain ⟨hP, hD⟩ := k_left hP hD
  subst hu2
  have hP : va_P D classes (cat [[(h2, .inr (13, mF qm x0Mo y0Mo))], [(qm 3, .inl (kA 0, 4, .inl (fun _ => 0)))], [(qm 2, .inl (kA 0, 66836, .inl all0))]]) H := hP
  have hD : va_D A (cat [[(h2, .inr (13, mF qm x0Mo y0Mo))], [(qm 3, .inl (kA 0, 4, .inl (fun _ => 0)))], [(qm 2, .inl (kA 0, 66836, .inl all0))]]) := hD
  refine lv_aload_n (pc := 1177) hx hb d_law_law_1177 rfl (lv_at hl 1 rfl) ?_
  refine lv_aload_n (pc := 1178) hx hb d_law_law_1178 rfl (lv_at hl 3 rfl) ?_
  refine lv_iload_n (pc := 1179) hx hb d_law_law_1179 rfl (lv_at hl 0 rfl) ?_
  refine lv_iconst (pc := 1180) (v := 1) hx hb d_law_law_1180 (by decide) ?_
  refine lv_iadd (pc := 1181) hx hb d_law_law_1181 ?_
  refine k_cst (v := 1) (by decide) ?_
  refine va_sld (pc := 1182) hx hb hX hbl hbA hS (by unfold vp_in; decide) d_law_law_1182 ?_
  refine k_cst (v := nI j) hv1 ?_
  refine lv_aload_n (pc := 1183) hx hb d_law_law_1183 rfl (lv_at hl 3 rfl) ?_
  refine lv_iload_n (pc := 1184) hx hb d_law_law_1184 rfl (lv_at hl 0 rfl) ?_
  refine lv_iconst (pc := 1185) (v := 2) hx hb d_law_law_1185 (by decide) ?_
  refine lv_iadd (pc := 1186) hx hb d_law_law_1186 ?_
  refine k_cst (v := 2) (by decide) ?_
  refine va_sld (pc := 1187) hx hb hX hbl hbA hS (by unfold vp_in; decide) d_law_law_1187 ?_
  refine k_cst (v := 0) hv2 ?_
  refine k_goI (gr := []) (k_rV (pc := 1188) (As := [.int (nI j), .int 0]) (rest := [.int 0]) X (c_Mo_text_z4 l D kA h2 j qm hj H.size) rfl wm_3901 wm_9 wm_3898 wm_3899 wm_3900 2 (by decide +kernel) ⟨Nat.le_of_ble_eq_true rfl, Nat.le_of_ble_eq_true rfl⟩ rfl rfl (va_recv hK hP (ci := 13) (q0 := 0) rfl rfl) (k_pre hN hK hP hD [0, 1, 2] [] 3 rfl (by decide) rfl) rfl hl.1 rfl (Nat.le_of_ble_eq_true rfl) d_law_law_1188 ⟨Nat.le_of_ble_eq_true rfl, Nat.le_of_ble_eq_true rfl⟩) hP hD hS hA [0, 1, 2] [] 3 rfl (by decide) rfl rfl (fun r3 u4 H locs hu4 hP hD hS => ?_)
  obtain ⟨hP, hD⟩ := k_left hP hD
  subst hu4
  have hP : va_P D classes (cat []) H := hP
  have hD : va_D A (cat []) := hD
  refine lv_icmp_eq (pc := 1191) (tgt := 1295) hx hb d_law_law_1191 (by decide) (fun _ => ?_) (fun c1 => absurd (by decide) c1)
  rw [hAe] at hS
  exact law_exit l C0 (Nat.le_of_ble_eq_true rfl) (Nat.le_of_ble_eq_true rfl) hS hl
set_option maxRecDepth 100000 in
set_option maxHeartbeats 4000000 in
/-- DrawingHouse.text(II)I -/
theorem c_Ho_text_z5 (l : Launch) (D : va_G) (kA : Nat → ClassId) (a0 : Nat) (j : Nat) (a1 : Nat) (a2 : Nat) (a3 : Nat) (a4 : Nat) (a5 : Nat) (a6 : Nat) (a7 : Nat) (a8 : Nat) (a9 : Nat) (a10 : Nat) (g : Nat → Nat → Nat) (a11 : Nat) (a12 : Nat) (a13 : Nat) (a14 : Nat) (a15 : Nat) (a16 : Nat) (a17 : Nat) (a18 : Nat) (a19 : Nat) (a20 : Nat) (a21 : Nat) (a22 : Nat) (a23 : Nat) (hj : j < 4) : Ci l y_Ho_text z_Ho_text { frames := 2, cells := 0, slots := 0, locals := 41 } D classes (TY kA) [.ref a0, .int (nI j), .int 1] [[(a0, .inr (12, [.ref a1, .ref a2, .ref a3, .ref a4, .ref a5, .ref a6, .ref a7, .int 0, .int ((-1)), .ref a8, .ref a9, .int 0, .int 0, .ref a10, .int 0, .int 0, .null, .null, .null, .null, .null]))], [(a4, .inl (kA 7, 4, .inr (.inr (.inr (.inr (rr (g 3)))))))], [(g 3 j, .inr (0, [.ref a11, .int ((-1)), .ref a12, .ref a13, .ref a14, .ref a15, .ref a16, .int 0, .int 0, .int 0, .ref a17, .ref a18, .ref a19, .ref a20, .ref a21, .ref a22, .ref a23, .int 0, .int 0, .int 0, .int 0]))]] (fun r (_ : List va_W) => r = (-1)) (fun u => u) 0 0 := by
  intro sz
  refine k_met (cc := b_Ho_text) (maxL := 4) (ret := (some .int)) (by decide) rfl (Nat.le_of_ble_eq_true rfl) (fun p e s m below meth c ls X hl hB => ?_)
  obtain ⟨hsz, hP, hK, hD0, hN⟩ := hB
  subst hsz
  have hD := hD0.self (sz := s.heap.size)
  generalize hAe : va_A (cat [[(a0, .inr (12, [.ref a1, .ref a2, .ref a3, .ref a4, .ref a5, .ref a6, .ref a7, .int 0, .int ((-1)), .ref a8, .ref a9, .int 0, .int 0, .ref a10, .int 0, .int 0, .null, .null, .null, .null, .null]))], [(a4, .inl (kA 7, 4, .inr (.inr (.inr (.inr (rr (g 3)))))))], [(g 3 j, .inr (0, [.ref a11, .int ((-1)), .ref a12, .ref a13, .ref a14, .ref a15, .ref a16, .int 0, .int 0, .int 0, .ref a17, .ref a18, .ref a19, .ref a20, .ref a21, .ref a22, .ref a23, .int 0, .int 0, .int 0, .int 0]))]]) s.heap.size = A at hD ⊢
  have hA : ∀ q : Nat, s.heap.size ≤ q → A q := fun q h => by rw [← hAe]; exact Or.inr h
  have hS : va_S A s.heap s.heap [] := va_S.rf
  obtain ⟨hx, hb, hml, hown, hts, hr, hlk, hnm⟩ := id X
  have hl : lv_has ls 4 [(0, .ref a0), (1, .int (nI j)), (2, .int 1)] := hl
  have hP : va_P D classes (cat [[(a0, .inr (12, [.ref a1, .ref a2, .ref a3, .ref a4, .ref a5, .ref a6, .ref a7, .int 0, .int ((-1)), .ref a8, .ref a9, .int 0, .int 0, .ref a10, .int 0, .int 0, .null, .null, .null, .null, .null]))], [(a4, .inl (kA 7, 4, .inr (.inr (.inr (.inr (rr (g 3)))))))], [(g 3 j, .inr (0, [.ref a11, .int ((-1)), .ref a12, .ref a13, .ref a14, .ref a15, .ref a16, .int 0, .int 0, .int 0, .ref a17, .ref a18, .ref a19, .ref a20, .ref a21, .ref a22, .ref a23, .int 0, .int 0, .int 0, .int 0]))]]) s.heap := hP
  have hK : va_K D classes (TY kA) s := hK
  refine lv_iload_n (pc := 0) hx hb d_Ho_text_0 rfl (lv_at hl 1 rfl) ?_
  refine k_goI (gr := [[(a0, .inr (12, [.ref a1, .ref a2, .ref a3, .ref a4, .ref a5, .ref a6, .ref a7, .int 0, .int ((-1)), .ref a8, .ref a9, .int 0, .int 0, .ref a10, .int 0, .int 0, .null, .null, .null, .null, .null]))], [(a4, .inl (kA 7, 4, .inr (.inr (.inr (.inr (rr (g 3)))))))], [(g 3 j, .inr (0, [.ref a11, .int ((-1)), .ref a12, .ref a13, .ref a14, .ref a15, .ref a16, .int 0, .int 0, .int 0, .ref a17, .ref a18, .ref a19, .ref a20, .ref a21, .ref a22, .ref a23, .int 0, .int 0, .int 0, .int 0]))]]) (k_rS (pc := 1) (As := [.int (nI j)]) (rest := []) X (c_Ho_isPlace l D kA (nI j) s.heap.size) rfl wm_633 wm_1 wm_631 wm_632 1 (by decide +kernel) ⟨Nat.le_of_ble_eq_true rfl, Nat.le_of_ble_eq_true rfl⟩ rfl rfl (k_pre hN hK hP hD [] [0, 1, 2] 3 rfl (by decide) rfl) rfl hl.1 rfl (Nat.le_of_ble_eq_true rfl) d_Ho_text_1 ⟨Nat.le_of_ble_eq_true rfl, Nat.le_of_ble_eq_true rfl⟩) hP hD hS hA [] [0, 1, 2] 3 rfl (by decide) rfl rfl (fun r1 u2 H locs hu2 hP hD hS => ?_)
  subst hu2
  refine k_cst (v := 1) (place_ok hj) ?_
  have hP : va_P D classes (cat [[(a0, .inr (12, [.ref a1, .ref a2, .ref a3, .ref a4, .ref a5, .ref a6, .ref a7, .int 0, .int ((-1)), .ref a8, .ref a9, .int 0, .int 0, .ref a10, .int 0, .int 0, .null, .null, .null, .null, .null]))], [(a4, .inl (kA 7, 4, .inr (.inr (.inr (.inr (rr (g 3)))))))], [(g 3 j, .inr (0, [.ref a11, .int ((-1)), .ref a12, .ref a13, .ref a14, .ref a15, .ref a16, .int 0, .int 0, .int 0, .ref a17, .ref a18, .ref a19, .ref a20, .ref a21, .ref a22, .ref a23, .int 0, .int 0, .int 0, .int 0]))]]) H := hP
  have hD : va_D A (cat [[(a0, .inr (12, [.ref a1, .ref a2, .ref a3, .ref a4, .ref a5, .ref a6, .ref a7, .int 0, .int ((-1)), .ref a8, .ref a9, .int 0, .int 0, .ref a10, .int 0, .int 0, .null, .null, .null, .null, .null]))], [(a4, .inl (kA 7, 4, .inr (.inr (.inr (.inr (rr (g 3)))))))], [(g 3 j, .inr (0, [.ref a11, .int ((-1)), .ref a12, .ref a13, .ref a14, .ref a15, .ref a16, .int 0, .int 0, .int 0, .ref a17, .ref a18, .ref a19, .ref a20, .ref a21, .ref a22, .ref a23, .int 0, .int 0, .int 0, .int 0]))]]) := hD
  refine lv_if_eq (pc := 4) (tgt := 29) hx hb d_Ho_text_4 (by decide) (fun c1 => absurd c1 (by decide)) (fun c1 => ?_)
  refine lv_iload_n (pc := 7) hx hb d_Ho_text_7 rfl (lv_at hl 2 rfl) ?_
  refine lv_if_lt (pc := 8) (tgt := 29) hx hb d_Ho_text_8 (by decide) (fun c1 => absurd c1 (by decide)) (fun c1 => ?_)
  refine lv_iload_n (pc := 11) hx hb d_Ho_text_11 rfl (lv_at hl 2 rfl) ?_
  refine lv_iconst (pc := 12) (v := 1) hx hb d_Ho_text_12 (by decide) ?_
  refine lv_icmp_gt (pc := 13) (tgt := 29) hx hb d_Ho_text_13 (by decide) (fun c1 => absurd c1 (by decide)) (fun _ => ?_)
  refine lv_iload_n (pc := 16) hx hb d_Ho_text_16 rfl (lv_at hl 2 rfl) ?_
  refine lv_iconst (pc := 17) (v := 1) hx hb d_Ho_text_17 (by decide) ?_
  refine lv_icmp_ne (pc := 18) (tgt := 31) hx hb d_Ho_text_18 (by decide) (fun c1 => absurd (by decide) c1) (fun _ => ?_)
  refine lv_aload_n (pc := 21) hx hb d_Ho_text_21 rfl (lv_at hl 0 rfl) ?_
  refine lv_iload_n (pc := 22) hx hb d_Ho_text_22 rfl (lv_at hl 1 rfl) ?_
  refine k_goI (gr := []) (k_rV (pc := 23) (As := [.int (nI j)]) (rest := []) X (c_Ho_hasDrawing_z2 l D kA a0 j a1 a2 a3 a4 a5 a6 a7 a8 a9 a10 g a11 a12 a13 a14 a15 a16 a17 a18 a19 a20 a21 a22 a23 hj H.size) rfl wm_1859 wm_1 wm_1856 wm_1858 wv_8_15 1 (by decide +kernel) ⟨Nat.le_of_ble_eq_true rfl, Nat.le_of_ble_eq_true rfl⟩ rfl rfl (va_recv hK hP (ci := 12) (q0 := 0) rfl rfl) (k_pre hN hK hP hD [0, 1, 2] [] 3 rfl (by decide) rfl) rfl hl.1 rfl (Nat.le_of_ble_eq_true rfl) d_Ho_text_23 ⟨Nat.le_of_ble_eq_true rfl, Nat.le_of_ble_eq_true rfl⟩) hP hD hS hA [0, 1, 2] [] 3 rfl (by decide) rfl rfl (fun r3 u4 H locs hu4 hP hD hS => ?_)
  subst hu4
  have hP : va_P D classes (cat [[(a0, .inr (12, [.ref a1, .ref a2, .ref a3, .ref a4, .ref a5, .ref a6, .ref a7, .int 0, .int ((-1)), .ref a8, .ref a9, .int 0, .int 0, .ref a10, .int 0, .int 0, .null, .null, .null, .null, .null]))], [(a4, .inl (kA 7, 4, .inr (.inr (.inr (.inr (rr (g 3)))))))], [(g 3 j, .inr (0, [.ref a11, .int ((-1)), .ref a12, .ref a13, .ref a14, .ref a15, .ref a16, .int 0, .int 0, .int 0, .ref a17, .ref a18, .ref a19, .ref a20, .ref a21, .ref a22, .ref a23, .int 0, .int 0, .int 0, .int 0]))]]) H := hP
  have hD : va_D A (cat [[(a0, .inr (12, [.ref a1, .ref a2, .ref a3, .ref a4, .ref a5, .ref a6, .ref a7, .int 0, .int ((-1)), .ref a8, .ref a9, .int 0, .int 0, .ref a10, .int 0, .int 0, .null, .null, .null, .null, .null]))], [(a4, .inl (kA 7, 4, .inr (.inr (.inr (.inr (rr (g 3)))))))], [(g 3 j, .inr (0, [.ref a11, .int ((-1)), .ref a12, .ref a13, .ref a14, .ref a15, .ref a16, .int 0, .int 0, .int 0, .ref a17, .ref a18, .ref a19, .ref a20, .ref a21, .ref a22, .ref a23, .int 0, .int 0, .int 0, .int 0]))]]) := hD
  refine lv_if_ne (pc := 26) (tgt := 31) hx hb d_Ho_text_26 (by decide) (fun c1 => absurd (by decide) c1) (fun c1 => ?_)
  refine lv_iconst (pc := 29) (v := -1) hx hb d_Ho_text_29 (by decide) ?_
  refine W.widen (k := 0) (n := 0) (Nat.le_of_ble_eq_true rfl) (Nat.le_of_ble_eq_true rfl) ?_
  exact W.iret (v := (-1)) hx hb hr (fun t ht hW => ⟨⟨(-1), [[(a0, .inr (12, [.ref a1, .ref a2, .ref a3, .ref a4, .ref a5, .ref a6, .ref a7, .int 0, .int ((-1)), .ref a8, .ref a9, .int 0, .int 0, .ref a10, .int 0, .int 0, .null, .null, .null, .null, .null]))], [(a4, .inl (kA 7, 4, .inr (.inr (.inr (.inr (rr (g 3)))))))], [(g 3 j, .inr (0, [.ref a11, .int ((-1)), .ref a12, .ref a13, .ref a14, .ref a15, .ref a16, .int 0, .int 0, .int 0, .ref a17, .ref a18, .ref a19, .ref a20, .ref a21, .ref a22, .ref a23, .int 0, .int 0, .int 0, .int 0]))]], rfl, rfl, by rw [ht]; exact hP, va_K.moved hW.alike hK, hD⟩, hS.F ht⟩) hS.2.2 d_Ho_text_30
set_option maxRecDepth 100000 in
set_option maxHeartbeats 4000000 in
/-- DrawingHouseModel.in(III)Z -/
theorem c_Mo_in_z9 (l : Launch) (D : va_G) (kA : Nat → ClassId) : Ci l y_Mo_in z_Mo_in { frames := 0, cells := 0, slots := 0, locals := 0 } D classes (TY kA) [.int 1, .int 0, .int 1] [] (fun r (_ : Unit) => r = 1) (fun u => []) 0 0 := by
  intro sz
  refine k_met (cc := b_Mo_in) (maxL := 3) (ret := (some .boolean)) (by decide) rfl (Nat.le_of_ble_eq_true rfl) (fun p e s m below meth c ls X hl hB => ?_)
  obtain ⟨hsz, hP, hK, hD0, hN⟩ := hB
  subst hsz
  have hD := hD0.self (sz := s.heap.size)
  generalize hAe : va_A (cat []) s.heap.size = A at hD ⊢
  have hA : ∀ q : Nat, s.heap.size ≤ q → A q := fun q h => by rw [← hAe]; exact Or.inr h
  have hS : va_S A s.heap s.heap [] := va_S.rf
  obtain ⟨hx, hb, hml, hown, hts, hr, hlk, hnm⟩ := id X
  have hl : lv_has ls 3 [(0, .int 1), (1, .int 0), (2, .int 1)] := hl
  have hP : va_P D classes (cat []) s.heap := hP
  have hK : va_K D classes (TY kA) s := hK
  refine lv_iload_n (pc := 0) hx hb d_Mo_in_0 rfl (lv_at hl 0 rfl) ?_
  refine lv_iload_n (pc := 1) hx hb d_Mo_in_1 rfl (lv_at hl 1 rfl) ?_
  refine lv_icmp_lt (pc := 2) (tgt := 14) hx hb d_Mo_in_2 (by decide) (fun c1 => absurd c1 (by decide)) (fun _ => ?_)
  refine lv_iload_n (pc := 5) hx hb d_Mo_in_5 rfl (lv_at hl 0 rfl) ?_
  refine lv_iload_n (pc := 6) hx hb d_Mo_in_6 rfl (lv_at hl 2 rfl) ?_
  refine lv_icmp_gt (pc := 7) (tgt := 14) hx hb d_Mo_in_7 (by decide) (fun c1 => absurd c1 (by decide)) (fun _ => ?_)
  refine lv_iconst (pc := 10) (v := 1) hx hb d_Mo_in_10 (by decide) ?_
  refine lv_goto (pc := 11) (tgt := 15) hx hb d_Mo_in_11 (by decide) ?_
  refine W.widen (k := 0) (n := 0) (Nat.le_of_ble_eq_true rfl) (Nat.le_of_ble_eq_true rfl) ?_
  exact W.zret (v := 1) hx hb hr rfl (fun t ht hW => ⟨⟨1, (), rfl, rfl, by rw [ht]; exact hP, va_K.moved hW.alike hK, hD⟩, hS.F ht⟩) hS.2.2 d_Mo_in_15
set_option maxRecDepth 100000 in
set_option maxHeartbeats 4000000 in
/-- DrawingHouseModel.text(II)I -/
theorem c_Mo_text_z5 (l : Launch) (D : va_G) (kA : Nat → ClassId) (a0 : Nat) (j : Nat) (qm : Nat → Nat) (hj : j < 4) : Ci l y_Mo_text z_Mo_text { frames := 3, cells := 0, slots := 0, locals := 63 } D classes (TY kA) [.ref a0, .int (nI j), .int 1] [[(a0, .inr (13, mF qm x0Mo y0Mo))], [(qm 61, .inl (kA 0, 4, .inl (upd (upd (upd (upd (fun _ => 0) 0 (-1)) 1 (-1)) 2 (-1)) 3 (-1))))]] (fun r (_ : List va_W) => r = (-1)) (fun u => u) 0 0 := by
  intro sz
  refine k_met (cc := b_Mo_text) (maxL := 4) (ret := (some .int)) (by decide) rfl (Nat.le_of_ble_eq_true rfl) (fun p e s m below meth c ls X hl hB => ?_)
  obtain ⟨hsz, hP, hK, hD0, hN⟩ := hB
  subst hsz
  have hD := hD0.self (sz := s.heap.size)
  generalize hAe : va_A (cat [[(a0, .inr (13, mF qm x0Mo y0Mo))], [(qm 61, .inl (kA 0, 4, .inl (upd (upd (upd (upd (fun _ => 0) 0 (-1)) 1 (-1)) 2 (-1)) 3 (-1))))]]) s.heap.size = A at hD ⊢
  have hA : ∀ q : Nat, s.heap.size ≤ q → A q := fun q h => by rw [← hAe]; exact Or.inr h
  have hS : va_S A s.heap s.heap [] := va_S.rf
  obtain ⟨hx, hb, hml, hown, hts, hr, hlk, hnm⟩ := id X
  have hl : lv_has ls 4 [(0, .ref a0), (1, .int (nI j)), (2, .int 1)] := hl
  have hP : va_P D classes (cat [[(a0, .inr (13, mF qm x0Mo y0Mo))], [(qm 61, .inl (kA 0, 4, .inl (upd (upd (upd (upd (fun _ => 0) 0 (-1)) 1 (-1)) 2 (-1)) 3 (-1))))]]) s.heap := hP
  have hK : va_K D classes (TY kA) s := hK
  refine lv_iload_n (pc := 0) hx hb d_Mo_text_0 rfl (lv_at hl 1 rfl) ?_
  refine k_goI (gr := [[(a0, .inr (13, mF qm x0Mo y0Mo))], [(qm 61, .inl (kA 0, 4, .inl (upd (upd (upd (upd (fun _ => 0) 0 (-1)) 1 (-1)) 2 (-1)) 3 (-1))))]]) (k_rS (pc := 1) (As := [.int (nI j)]) (rest := []) X (c_Mo_isPlace l D kA (nI j) s.heap.size) rfl wm_2978 wm_9 wm_2976 wm_2977 1 (by decide +kernel) ⟨Nat.le_of_ble_eq_true rfl, Nat.le_of_ble_eq_true rfl⟩ rfl rfl (k_pre hN hK hP hD [] [0, 1] 2 rfl (by decide) rfl) rfl hl.1 rfl (Nat.le_of_ble_eq_true rfl) d_Mo_text_1 ⟨Nat.le_of_ble_eq_true rfl, Nat.le_of_ble_eq_true rfl⟩) hP hD hS hA [] [0, 1] 2 rfl (by decide) rfl rfl (fun r1 u2 H locs hu2 hP hD hS => ?_)
  subst hu2
  refine k_cst (v := 1) (placeM_ok hj) ?_
  have hP : va_P D classes (cat [[(a0, .inr (13, mF qm x0Mo y0Mo))], [(qm 61, .inl (kA 0, 4, .inl (upd (upd (upd (upd (fun _ => 0) 0 (-1)) 1 (-1)) 2 (-1)) 3 (-1))))]]) H := hP
  have hD : va_D A (cat [[(a0, .inr (13, mF qm x0Mo y0Mo))], [(qm 61, .inl (kA 0, 4, .inl (upd (upd (upd (upd (fun _ => 0) 0 (-1)) 1 (-1)) 2 (-1)) 3 (-1))))]]) := hD
  refine lv_if_eq (pc := 4) (tgt := 29) hx hb d_Mo_text_4 (by decide) (fun c1 => absurd c1 (by decide)) (fun c1 => ?_)
  refine lv_iload_n (pc := 7) hx hb d_Mo_text_7 rfl (lv_at hl 2 rfl) ?_
  refine lv_iconst (pc := 8) (v := 0) hx hb d_Mo_text_8 (by decide) ?_
  refine lv_iconst (pc := 9) (v := 1) hx hb d_Mo_text_9 (by decide) ?_
  refine k_goI (gr := [[(a0, .inr (13, mF qm x0Mo y0Mo))], [(qm 61, .inl (kA 0, 4, .inl (upd (upd (upd (upd (fun _ => 0) 0 (-1)) 1 (-1)) 2 (-1)) 3 (-1))))]]) (k_rS (pc := 10) (As := [.int 1, .int 0, .int 1]) (rest := []) X (c_Mo_in_z9 l D kA  H.size) rfl wm_2971 wm_9 wm_2969 wm_2970 3 (by decide +kernel) ⟨Nat.le_of_ble_eq_true rfl, Nat.le_of_ble_eq_true rfl⟩ rfl rfl (k_pre hN hK hP hD [] [0, 1] 2 rfl (by decide) rfl) rfl hl.1 rfl (Nat.le_of_ble_eq_true rfl) d_Mo_text_10 ⟨Nat.le_of_ble_eq_true rfl, Nat.le_of_ble_eq_true rfl⟩) hP hD hS hA [] [0, 1] 2 rfl (by decide) rfl rfl (fun r3 u4 H locs hu4 hP hD hS => ?_)
  subst hu4
  have hP : va_P D classes (cat [[(a0, .inr (13, mF qm x0Mo y0Mo))], [(qm 61, .inl (kA 0, 4, .inl (upd (upd (upd (upd (fun _ => 0) 0 (-1)) 1 (-1)) 2 (-1)) 3 (-1))))]]) H := hP
  have hD : va_D A (cat [[(a0, .inr (13, mF qm x0Mo y0Mo))], [(qm 61, .inl (kA 0, 4, .inl (upd (upd (upd (upd (fun _ => 0) 0 (-1)) 1 (-1)) 2 (-1)) 3 (-1))))]]) := hD
  refine lv_if_eq (pc := 13) (tgt := 29) hx hb d_Mo_text_13 (by decide) (fun c1 => absurd c1 (by decide)) (fun c1 => ?_)
  refine lv_iload_n (pc := 16) hx hb d_Mo_text_16 rfl (lv_at hl 2 rfl) ?_
  refine lv_iconst (pc := 17) (v := 1) hx hb d_Mo_text_17 (by decide) ?_
  refine lv_icmp_ne (pc := 18) (tgt := 31) hx hb d_Mo_text_18 (by decide) (fun c1 => absurd (by decide) c1) (fun _ => ?_)
  refine lv_aload_n (pc := 21) hx hb d_Mo_text_21 rfl (lv_at hl 0 rfl) ?_
  refine lv_iload_n (pc := 22) hx hb d_Mo_text_22 rfl (lv_at hl 1 rfl) ?_
  refine k_goI (gr := []) (k_rV (pc := 23) (As := [.int (nI j)]) (rest := []) X (c_Mo_isDrawn_z2 l D kA a0 j qm hj H.size) rfl wm_3669 wm_9 wm_3666 wm_3668 wv_21_13 1 (by decide +kernel) ⟨Nat.le_of_ble_eq_true rfl, Nat.le_of_ble_eq_true rfl⟩ rfl rfl (va_recv hK hP (ci := 13) (q0 := 0) rfl rfl) (k_pre hN hK hP hD [0, 1] [] 2 rfl (by decide) rfl) rfl hl.1 rfl (Nat.le_of_ble_eq_true rfl) d_Mo_text_23 ⟨Nat.le_of_ble_eq_true rfl, Nat.le_of_ble_eq_true rfl⟩) hP hD hS hA [0, 1] [] 2 rfl (by decide) rfl rfl (fun r5 u6 H locs hu6 hP hD hS => ?_)
  subst hu6
  have hP : va_P D classes (cat [[(a0, .inr (13, mF qm x0Mo y0Mo))], [(qm 61, .inl (kA 0, 4, .inl (upd (upd (upd (upd (fun _ => 0) 0 (-1)) 1 (-1)) 2 (-1)) 3 (-1))))]]) H := hP
  have hD : va_D A (cat [[(a0, .inr (13, mF qm x0Mo y0Mo))], [(qm 61, .inl (kA 0, 4, .inl (upd (upd (upd (upd (fun _ => 0) 0 (-1)) 1 (-1)) 2 (-1)) 3 (-1))))]]) := hD
  refine lv_if_ne (pc := 26) (tgt := 31) hx hb d_Mo_text_26 (by decide) (fun c1 => absurd (by decide) c1) (fun c1 => ?_)
  refine lv_iconst (pc := 29) (v := -1) hx hb d_Mo_text_29 (by decide) ?_
  refine W.widen (k := 0) (n := 0) (Nat.le_of_ble_eq_true rfl) (Nat.le_of_ble_eq_true rfl) ?_
  exact W.iret (v := (-1)) hx hb hr (fun t ht hW => ⟨⟨(-1), [[(a0, .inr (13, mF qm x0Mo y0Mo))], [(qm 61, .inl (kA 0, 4, .inl (upd (upd (upd (upd (fun _ => 0) 0 (-1)) 1 (-1)) 2 (-1)) 3 (-1))))]], rfl, rfl, by rw [ht]; exact hP, va_K.moved hW.alike hK, hD⟩, hS.F ht⟩) hS.2.2 d_Mo_text_30
set_option maxRecDepth 100000 in
set_option maxHeartbeats 4000000 in
/-- text, a fresh house -/
theorem lf_text_5 {p : Program} {e : Env} {s : State} {m : MethodId} {below : List Frame} {meth : Method} {c : Code} (l : Launch) {b : Nat} {xs : Nat → Int32} (C0 : lw_At p s m meth c b 6 xs) {D : va_G} {kA : Nat → ClassId} (h : Nat) (h2 : Nat) (q : Nat → Nat) (qd : Nat → Nat) (qm : Nat → Nat) (g : Nat → Nat → Nat) (j : Nat) (hj : j < 4) (hv1 : xs 1 = nI j) (hv2 : xs 2 = 1) {H : Heap} {locs : List Loc} {ls : Array Slot} (hK : va_K D classes (TY kA) s) (hN : nst s) (hP : va_P D classes (cat [[(h, .inr (12, [.ref (q 0), .ref (q 1), .ref (q 2), .ref (q 3), .ref (q 4), .ref (q 5), .ref (q 6), .int 0, .int ((-1)), .ref (q 9), .ref (q 10), .int 0, .int 0, .ref (q 13), .int 0, .int 0, .null, .null, .null, .null, .null]))], [(q 3, .inl (kA 7, 4, .inr (.inr (.inr (.inr (rr (g 3)))))))], [(g 3 j, .inr (0, [.ref (qd 0), .int ((-1)), .ref (qd 2), .ref (qd 3), .ref (qd 4), .ref (qd 5), .ref (qd 6), .int 0, .int 0, .int 0, .ref (qd 10), .ref (qd 11), .ref (qd 12), .ref (qd 13), .ref (qd 14), .ref (qd 15), .ref (qd 16), .int 0, .int 0, .int 0, .int 0]))], [(h2, .inr (13, mF qm x0Mo y0Mo))], [(qm 61, .inl (kA 0, 4, .inl (upd (upd (upd (upd (fun _ => 0) 0 (-1)) 1 (-1)) 2 (-1)) 3 (-1))))]]) H) (hD : va_D (fun q : Nat => s.heap.size ≤ q) (cat [[(h, .inr (12, [.ref (q 0), .ref (q 1), .ref (q 2), .ref (q 3), .ref (q 4), .ref (q 5), .ref (q 6), .int 0, .int ((-1)), .ref (q 9), .ref (q 10), .int 0, .int 0, .ref (q 13), .int 0, .int 0, .null, .null, .null, .null, .null]))], [(q 3, .inl (kA 7, 4, .inr (.inr (.inr (.inr (rr (g 3)))))))], [(g 3 j, .inr (0, [.ref (qd 0), .int ((-1)), .ref (qd 2), .ref (qd 3), .ref (qd 4), .ref (qd 5), .ref (qd 6), .int 0, .int 0, .int 0, .ref (qd 10), .ref (qd 11), .ref (qd 12), .ref (qd 13), .ref (qd 14), .ref (qd 15), .ref (qd 16), .int 0, .int 0, .int 0, .int 0]))], [(h2, .inr (13, mF qm x0Mo y0Mo))], [(qm 61, .inl (kA 0, 4, .inl (upd (upd (upd (upd (fun _ => 0) 0 (-1)) 1 (-1)) 2 (-1)) 3 (-1))))]])) (hS : va_S (fun q : Nat => s.heap.size ≤ q) s.heap H locs) (hl : lv_has ls 4 [(3, .int 0), (2, .ref h2), (1, .ref h), (0, .ref b)]) : W p l e room_1 s m #[Value.ref b] below meth c H locs 368 365796 (lw_Z below #[Value.ref b] s) (F0 m 1163 ls []) := by
  obtain ⟨hx, hb, hr, hml, hown, hts0, hX, hbl, hlocks, hgv⟩ := id C0
  have hts : ∀ w ∈ lw_g, w.before #[Value.ref b] s = true := fun w h => hts0 w (lw_gt h)
  have X : cx p s m #[Value.ref b] meth c b_law_law 4 ret "DrawingHouseLaw" meth.name := ⟨hx, hb, hml, hown, hts, hr, hlocks, rfl⟩
  obtain ⟨A, hAe⟩ : ∃ A : Nat → Prop, A = fun q : Nat => s.heap.size ≤ q := ⟨_, rfl⟩
  have hA : ∀ q : Nat, s.heap.size ≤ q → A q := fun q h => by rw [hAe]; exact h
  have hbA : ¬ A b := by rw [hAe]; exact Nat.not_le.mpr hbl
  rw [← hAe] at hD hS
  refine lv_aload_n (pc := 1163) hx hb d_law_law_1163 rfl (lv_at hl 2 rfl) ?_
  refine lv_aload_n (pc := 1164) hx hb d_law_law_1164 rfl (lv_at hl 3 rfl) ?_
  refine lv_iload_n (pc := 1165) hx hb d_law_law_1165 rfl (lv_at hl 0 rfl) ?_
  refine lv_iconst (pc := 1166) (v := 1) hx hb d_law_law_1166 (by decide) ?_
  refine lv_iadd (pc := 1167) hx hb d_law_law_1167 ?_
  refine k_cst (v := 1) (by decide) ?_
  refine va_sld (pc := 1168) hx hb hX hbl hbA hS (by unfold vp_in; decide) d_law_law_1168 ?_
  refine k_cst (v := nI j) hv1 ?_
  refine lv_aload_n (pc := 1169) hx hb d_law_law_1169 rfl (lv_at hl 3 rfl) ?_
  refine lv_iload_n (pc := 1170) hx hb d_law_law_1170 rfl (lv_at hl 0 rfl) ?_
  refine lv_iconst (pc := 1171) (v := 2) hx hb d_law_law_1171 (by decide) ?_
  refine lv_iadd (pc := 1172) hx hb d_law_law_1172 ?_
  refine k_cst (v := 2) (by decide) ?_
  refine va_sld (pc := 1173) hx hb hX hbl hbA hS (by unfold vp_in; decide) d_law_law_1173 ?_
  refine k_cst (v := 1) hv2 ?_
  refine k_goI (gr := [[(h2, .inr (13, mF qm x0Mo y0Mo))], [(qm 61, .inl (kA 0, 4, .inl (upd (upd (upd (upd (fun _ => 0) 0 (-1)) 1 (-1)) 2 (-1)) 3 (-1))))]]) (k_rV (pc := 1174) (As := [.int (nI j), .int 1]) (rest := []) X (c_Ho_text_z5 l D kA h j (q 0) (q 1) (q 2) (q 3) (q 4) (q 5) (q 6) (q 9) (q 10) (q 13) g (qd 0) (qd 2) (qd 3) (qd 4) (qd 5) (qd 6) (qd 10) (qd 11) (qd 12) (qd 13) (qd 14) (qd 15) (qd 16) hj H.size) rfl wm_2330 wm_1 wm_2327 wm_2328 wm_2329 2 (by decide +kernel) ⟨Nat.le_of_ble_eq_true rfl, Nat.le_of_ble_eq_true rfl⟩ rfl rfl (va_recv hK hP (ci := 12) (q0 := 0) rfl rfl) (k_pre hN hK hP hD [0, 1, 2] [3, 4] 5 rfl (by decide) rfl) rfl hl.1 rfl (Nat.le_of_ble_eq_true rfl) d_law_law_1174 ⟨Nat.le_of_ble_eq_true rfl, Nat.le_of_ble_eq_true rfl⟩) hP hD hS hA [0, 1, 2] [3, 4] 5 rfl (by decide) rfl rfl (fun r1 u2 H locs hu2 hP hD hS => ?_)
  obtain ⟨hP, hD⟩ := k_left hP hD
  subst hu2
  have hP : va_P D classes (cat [[(h2, .inr (13, mF qm x0Mo y0Mo))], [(qm 61, .inl (kA 0, 4, .inl (upd (upd (upd (upd (fun _ => 0) 0 (-1)) 1 (-1)) 2 (-1)) 3 (-1))))]]) H := hP
  have hD : va_D A (cat [[(h2, .inr (13, mF qm x0Mo y0Mo))], [(qm 61, .inl (kA 0, 4, .inl (upd (upd (upd (upd (fun _ => 0) 0 (-1)) 1 (-1)) 2 (-1)) 3 (-1))))]]) := hD
  refine lv_aload_n (pc := 1177) hx hb d_law_law_1177 rfl (lv_at hl 1 rfl) ?_
  refine lv_aload_n (pc := 1178) hx hb d_law_law_1178 rfl (lv_at hl 3 rfl) ?_
  refine lv_iload_n (pc := 1179) hx hb d_law_law_1179 rfl (lv_at hl 0 rfl) ?_
  refine lv_iconst (pc := 1180) (v := 1) hx hb d_law_law_1180 (by decide) ?_
  refine lv_iadd (pc := 1181) hx hb d_law_law_1181 ?_
  refine k_cst (v := 1) (by decide) ?_
  refine va_sld (pc := 1182) hx hb hX hbl hbA hS (by unfold vp_in; decide) d_law_law_1182 ?_
  refine k_cst (v := nI j) hv1 ?_
  refine lv_aload_n (pc := 1183) hx hb d_law_law_1183 rfl (lv_at hl 3 rfl) ?_
  refine lv_iload_n (pc := 1184) hx hb d_law_law_1184 rfl (lv_at hl 0 rfl) ?_
  refine lv_iconst (pc := 1185) (v := 2) hx hb d_law_law_1185 (by decide) ?_
  refine lv_iadd (pc := 1186) hx hb d_law_law_1186 ?_
  refine k_cst (v := 2) (by decide) ?_
  refine va_sld (pc := 1187) hx hb hX hbl hbA hS (by unfold vp_in; decide) d_law_law_1187 ?_
  refine k_cst (v := 1) hv2 ?_
  refine k_goI (gr := []) (k_rV (pc := 1188) (As := [.int (nI j), .int 1]) (rest := [.int ((-1))]) X (c_Mo_text_z5 l D kA h2 j qm hj H.size) rfl wm_3901 wm_9 wm_3898 wm_3899 wm_3900 2 (by decide +kernel) ⟨Nat.le_of_ble_eq_true rfl, Nat.le_of_ble_eq_true rfl⟩ rfl rfl (va_recv hK hP (ci := 13) (q0 := 0) rfl rfl) (k_pre hN hK hP hD [0, 1] [] 2 rfl (by decide) rfl) rfl hl.1 rfl (Nat.le_of_ble_eq_true rfl) d_law_law_1188 ⟨Nat.le_of_ble_eq_true rfl, Nat.le_of_ble_eq_true rfl⟩) hP hD hS hA [0, 1] [] 2 rfl (by decide) rfl rfl (fun r3 u4 H locs hu4 hP hD hS => ?_)
  obtain ⟨hP, hD⟩ := k_left hP hD
  subst hu4
  have hP : va_P D classes (cat []) H := hP
  have hD : va_D A (cat []) := hD
  refine lv_icmp_eq (pc := 1191) (tgt := 1295) hx hb d_law_law_1191 (by decide) (fun _ => ?_) (fun c1 => absurd (by decide) c1)
  rw [hAe] at hS
  exact law_exit l C0 (Nat.le_of_ble_eq_true rfl) (Nat.le_of_ble_eq_true rfl) hS hl
set_option maxRecDepth 100000 in
set_option maxHeartbeats 4000000 in
/-- DrawingHouse.octet(I)I -/
theorem c_Ho_octet_z1 (l : Launch) (D : va_G) (kA : Nat → ClassId) (a0 : Nat) (v1 : Int32) (a1 : Nat) (a2 : Nat) (a3 : Nat) (a4 : Nat) (a5 : Nat) (a6 : Nat) (a7 : Nat) (a8 : Nat) (a9 : Nat) (a10 : Nat) : Ci l y_Ho_octet z_Ho_octet { frames := 0, cells := 0, slots := 0, locals := 0 } D classes (TY kA) [.ref a0, .int v1] [[(a0, .inr (12, [.ref a1, .ref a2, .ref a3, .ref a4, .ref a5, .ref a6, .ref a7, .int 0, .int ((-1)), .ref a8, .ref a9, .int 0, .int 0, .ref a10, .int 0, .int 0, .null, .null, .null, .null, .null]))]] (fun r (_ : List va_W) => r = (-1)) (fun u => u) 0 0 := by
  intro sz
  refine k_met (cc := b_Ho_octet) (maxL := 2) (ret := (some .int)) (by decide) rfl (Nat.le_of_ble_eq_true rfl) (fun p e s m below meth c ls X hl hB => ?_)
  obtain ⟨hsz, hP, hK, hD0, hN⟩ := hB
  subst hsz
  have hD := hD0.self (sz := s.heap.size)
  generalize hAe : va_A (cat [[(a0, .inr (12, [.ref a1, .ref a2, .ref a3, .ref a4, .ref a5, .ref a6, .ref a7, .int 0, .int ((-1)), .ref a8, .ref a9, .int 0, .int 0, .ref a10, .int 0, .int 0, .null, .null, .null, .null, .null]))]]) s.heap.size = A at hD ⊢
  have hA : ∀ q : Nat, s.heap.size ≤ q → A q := fun q h => by rw [← hAe]; exact Or.inr h
  have hS : va_S A s.heap s.heap [] := va_S.rf
  obtain ⟨hx, hb, hml, hown, hts, hr, hlk, hnm⟩ := id X
  have hl : lv_has ls 2 [(0, .ref a0), (1, .int v1)] := hl
  have hP : va_P D classes (cat [[(a0, .inr (12, [.ref a1, .ref a2, .ref a3, .ref a4, .ref a5, .ref a6, .ref a7, .int 0, .int ((-1)), .ref a8, .ref a9, .int 0, .int 0, .ref a10, .int 0, .int 0, .null, .null, .null, .null, .null]))]]) s.heap := hP
  have hK : va_K D classes (TY kA) s := hK
  refine lv_iload_n (pc := 0) hx hb d_Ho_octet_0 rfl (lv_at hl 1 rfl) ?_
  refine lv_if_lt (pc := 1) (tgt := 21) hx hb d_Ho_octet_1 (by decide) (fun ck1 => ?_) (fun ck1 => ?_)
  · refine lv_iconst (pc := 21) (v := -1) hx hb d_Ho_octet_21 (by decide) ?_
    refine W.widen (k := 0) (n := 0) (Nat.le_of_ble_eq_true rfl) (Nat.le_of_ble_eq_true rfl) ?_
    exact W.iret (v := (-1)) hx hb hr (fun t ht hW => ⟨⟨(-1), [[(a0, .inr (12, [.ref a1, .ref a2, .ref a3, .ref a4, .ref a5, .ref a6, .ref a7, .int 0, .int ((-1)), .ref a8, .ref a9, .int 0, .int 0, .ref a10, .int 0, .int 0, .null, .null, .null, .null, .null]))]], rfl, rfl, by rw [ht]; exact hP, va_K.moved hW.alike hK, hD⟩, hS.F ht⟩) hS.2.2 d_Ho_octet_22
  · refine lv_iload_n (pc := 4) hx hb d_Ho_octet_4 rfl (lv_at hl 1 rfl) ?_
    refine lv_aload_n (pc := 5) hx hb d_Ho_octet_5 rfl (lv_at hl 0 rfl) ?_
    refine k_get (pc := 6) X hK hP 0 rfl rfl i_Ho 11 (by decide) wm_566 rfl rfl d_Ho_octet_6 ?_
    refine lv_icmp_ge (pc := 9) (tgt := 21) hx hb d_Ho_octet_9 (by decide) (fun c1 => ?_) (fun c1 => absurd (Int32.not_lt.mp ck1) c1)
    refine lv_iconst (pc := 21) (v := -1) hx hb d_Ho_octet_21 (by decide) ?_
    refine W.widen (k := 0) (n := 0) (Nat.le_of_ble_eq_true rfl) (Nat.le_of_ble_eq_true rfl) ?_
    exact W.iret (v := (-1)) hx hb hr (fun t ht hW => ⟨⟨(-1), [[(a0, .inr (12, [.ref a1, .ref a2, .ref a3, .ref a4, .ref a5, .ref a6, .ref a7, .int 0, .int ((-1)), .ref a8, .ref a9, .int 0, .int 0, .ref a10, .int 0, .int 0, .null, .null, .null, .null, .null]))]], rfl, rfl, by rw [ht]; exact hP, va_K.moved hW.alike hK, hD⟩, hS.F ht⟩) hS.2.2 d_Ho_octet_22
set_option maxRecDepth 100000 in
set_option maxHeartbeats 4000000 in
/-- DrawingHouseModel.in(III)Z -/
theorem c_Mo_in_z10 (l : Launch) (D : va_G) (kA : Nat → ClassId) (v1 : Int32) : Ci l y_Mo_in z_Mo_in { frames := 0, cells := 0, slots := 0, locals := 0 } D classes (TY kA) [.int v1, .int 0, .int ((-1))] [] (fun r (_ : Unit) => r = 0) (fun u => []) 0 0 := by
  intro sz
  refine k_met (cc := b_Mo_in) (maxL := 3) (ret := (some .boolean)) (by decide) rfl (Nat.le_of_ble_eq_true rfl) (fun p e s m below meth c ls X hl hB => ?_)
  obtain ⟨hsz, hP, hK, hD0, hN⟩ := hB
  subst hsz
  have hD := hD0.self (sz := s.heap.size)
  generalize hAe : va_A (cat []) s.heap.size = A at hD ⊢
  have hA : ∀ q : Nat, s.heap.size ≤ q → A q := fun q h => by rw [← hAe]; exact Or.inr h
  have hS : va_S A s.heap s.heap [] := va_S.rf
  obtain ⟨hx, hb, hml, hown, hts, hr, hlk, hnm⟩ := id X
  have hl : lv_has ls 3 [(0, .int v1), (1, .int 0), (2, .int ((-1)))] := hl
  have hP : va_P D classes (cat []) s.heap := hP
  have hK : va_K D classes (TY kA) s := hK
  refine lv_iload_n (pc := 0) hx hb d_Mo_in_0 rfl (lv_at hl 0 rfl) ?_
  refine lv_iload_n (pc := 1) hx hb d_Mo_in_1 rfl (lv_at hl 1 rfl) ?_
  refine lv_icmp_lt (pc := 2) (tgt := 14) hx hb d_Mo_in_2 (by decide) (fun ck1 => ?_) (fun ck1 => ?_)
  · refine lv_iconst (pc := 14) (v := 0) hx hb d_Mo_in_14 (by decide) ?_
    refine W.widen (k := 0) (n := 0) (Nat.le_of_ble_eq_true rfl) (Nat.le_of_ble_eq_true rfl) ?_
    exact W.zret (v := 0) hx hb hr rfl (fun t ht hW => ⟨⟨0, (), rfl, rfl, by rw [ht]; exact hP, va_K.moved hW.alike hK, hD⟩, hS.F ht⟩) hS.2.2 d_Mo_in_15
  · refine lv_iload_n (pc := 5) hx hb d_Mo_in_5 rfl (lv_at hl 0 rfl) ?_
    refine lv_iload_n (pc := 6) hx hb d_Mo_in_6 rfl (lv_at hl 2 rfl) ?_
    refine lv_icmp_gt (pc := 7) (tgt := 14) hx hb d_Mo_in_7 (by decide) (fun c1 => ?_) (fun c1 => absurd (m1_lt ck1) c1)
    refine lv_iconst (pc := 14) (v := 0) hx hb d_Mo_in_14 (by decide) ?_
    refine W.widen (k := 0) (n := 0) (Nat.le_of_ble_eq_true rfl) (Nat.le_of_ble_eq_true rfl) ?_
    exact W.zret (v := 0) hx hb hr rfl (fun t ht hW => ⟨⟨0, (), rfl, rfl, by rw [ht]; exact hP, va_K.moved hW.alike hK, hD⟩, hS.F ht⟩) hS.2.2 d_Mo_in_15
set_option maxRecDepth 100000 in
set_option maxHeartbeats 4000000 in
/-- DrawingHouseModel.octet(I)I -/
theorem c_Mo_octet_z1 (l : Launch) (D : va_G) (kA : Nat → ClassId) (a0 : Nat) (v1 : Int32) (qm : Nat → Nat) : Ci l y_Mo_octet z_Mo_octet { frames := 1, cells := 0, slots := 0, locals := 22 } D classes (TY kA) [.ref a0, .int v1] [[(a0, .inr (13, mF qm x0Mo y0Mo))]] (fun r (_ : List va_W) => r = (-1)) (fun u => u) 0 0 := by
  intro sz
  refine k_met (cc := b_Mo_octet) (maxL := 2) (ret := (some .int)) (by decide) rfl (Nat.le_of_ble_eq_true rfl) (fun p e s m below meth c ls X hl hB => ?_)
  obtain ⟨hsz, hP, hK, hD0, hN⟩ := hB
  subst hsz
  have hD := hD0.self (sz := s.heap.size)
  generalize hAe : va_A (cat [[(a0, .inr (13, mF qm x0Mo y0Mo))]]) s.heap.size = A at hD ⊢
  have hA : ∀ q : Nat, s.heap.size ≤ q → A q := fun q h => by rw [← hAe]; exact Or.inr h
  have hS : va_S A s.heap s.heap [] := va_S.rf
  obtain ⟨hx, hb, hml, hown, hts, hr, hlk, hnm⟩ := id X
  have hl : lv_has ls 2 [(0, .ref a0), (1, .int v1)] := hl
  have hP : va_P D classes (cat [[(a0, .inr (13, mF qm x0Mo y0Mo))]]) s.heap := hP
  have hK : va_K D classes (TY kA) s := hK
  refine lv_iload_n (pc := 0) hx hb d_Mo_octet_0 rfl (lv_at hl 1 rfl) ?_
  refine lv_iconst (pc := 1) (v := 0) hx hb d_Mo_octet_1 (by decide) ?_
  refine lv_aload_n (pc := 2) hx hb d_Mo_octet_2 rfl (lv_at hl 0 rfl) ?_
  refine k_get (pc := 3) (v := .int 0) X hK hP 0 rfl rfl i_Mo 169 (by decide) wm_2601 rfl rfl d_Mo_octet_3 ?_
  refine lv_iconst (pc := 6) (v := 1) hx hb d_Mo_octet_6 (by decide) ?_
  refine lv_isub (pc := 7) hx hb d_Mo_octet_7 ?_
  refine k_cst (v := (-1)) (by decide) ?_
  refine k_goI (gr := [[(a0, .inr (13, mF qm x0Mo y0Mo))]]) (k_rS (pc := 8) (As := [.int v1, .int 0, .int ((-1))]) (rest := []) X (c_Mo_in_z10 l D kA v1 s.heap.size) rfl wm_2971 wm_9 wm_2969 wm_2970 3 (by decide +kernel) ⟨Nat.le_of_ble_eq_true rfl, Nat.le_of_ble_eq_true rfl⟩ rfl rfl (k_pre hN hK hP hD [] [0] 1 rfl (by decide) rfl) rfl hl.1 rfl (Nat.le_of_ble_eq_true rfl) d_Mo_octet_8 ⟨Nat.le_of_ble_eq_true rfl, Nat.le_of_ble_eq_true rfl⟩) hP hD hS hA [] [0] 1 rfl (by decide) rfl rfl (fun r1 u2 H locs hu2 hP hD hS => ?_)
  subst hu2
  have hP : va_P D classes (cat [[(a0, .inr (13, mF qm x0Mo y0Mo))]]) H := hP
  have hD : va_D A (cat [[(a0, .inr (13, mF qm x0Mo y0Mo))]]) := hD
  refine lv_if_eq (pc := 11) (tgt := 23) hx hb d_Mo_octet_11 (by decide) (fun c1 => ?_) (fun c1 => absurd (by decide) c1)
  refine lv_iconst (pc := 23) (v := -1) hx hb d_Mo_octet_23 (by decide) ?_
  refine W.widen (k := 0) (n := 0) (Nat.le_of_ble_eq_true rfl) (Nat.le_of_ble_eq_true rfl) ?_
  exact W.iret (v := (-1)) hx hb hr (fun t ht hW => ⟨⟨(-1), [[(a0, .inr (13, mF qm x0Mo y0Mo))]], rfl, rfl, by rw [ht]; exact hP, va_K.moved hW.alike hK, hD⟩, hS.F ht⟩) hS.2.2 d_Mo_octet_24
set_option maxRecDepth 100000 in
set_option maxHeartbeats 4000000 in
/-- octet, a fresh house -/
theorem lf_octet_1 {p : Program} {e : Env} {s : State} {m : MethodId} {below : List Frame} {meth : Method} {c : Code} (l : Launch) {b : Nat} {xs : Nat → Int32} (C0 : lw_At p s m meth c b 6 xs) {D : va_G} {kA : Nat → ClassId} (h : Nat) (h2 : Nat) (q : Nat → Nat) (qm : Nat → Nat) (v1 : Int32) (hv1 : xs 1 = v1) {H : Heap} {locs : List Loc} {ls : Array Slot} (hK : va_K D classes (TY kA) s) (hN : nst s) (hP : va_P D classes (cat [[(h, .inr (12, [.ref (q 0), .ref (q 1), .ref (q 2), .ref (q 3), .ref (q 4), .ref (q 5), .ref (q 6), .int 0, .int ((-1)), .ref (q 9), .ref (q 10), .int 0, .int 0, .ref (q 13), .int 0, .int 0, .null, .null, .null, .null, .null]))], [(h2, .inr (13, mF qm x0Mo y0Mo))]]) H) (hD : va_D (fun q : Nat => s.heap.size ≤ q) (cat [[(h, .inr (12, [.ref (q 0), .ref (q 1), .ref (q 2), .ref (q 3), .ref (q 4), .ref (q 5), .ref (q 6), .int 0, .int ((-1)), .ref (q 9), .ref (q 10), .int 0, .int 0, .ref (q 13), .int 0, .int 0, .null, .null, .null, .null, .null]))], [(h2, .inr (13, mF qm x0Mo y0Mo))]])) (hS : va_S (fun q : Nat => s.heap.size ≤ q) s.heap H locs) (hl : lv_has ls 4 [(3, .int 0), (2, .ref h2), (1, .ref h), (0, .ref b)]) : W p l e room_1 s m #[Value.ref b] below meth c H locs 368 365796 (lw_Z below #[Value.ref b] s) (F0 m 1196 ls []) := by
  obtain ⟨hx, hb, hr, hml, hown, hts0, hX, hbl, hlocks, hgv⟩ := id C0
  have hts : ∀ w ∈ lw_g, w.before #[Value.ref b] s = true := fun w h => hts0 w (lw_gt h)
  have X : cx p s m #[Value.ref b] meth c b_law_law 4 ret "DrawingHouseLaw" meth.name := ⟨hx, hb, hml, hown, hts, hr, hlocks, rfl⟩
  obtain ⟨A, hAe⟩ : ∃ A : Nat → Prop, A = fun q : Nat => s.heap.size ≤ q := ⟨_, rfl⟩
  have hA : ∀ q : Nat, s.heap.size ≤ q → A q := fun q h => by rw [hAe]; exact h
  have hbA : ¬ A b := by rw [hAe]; exact Nat.not_le.mpr hbl
  rw [← hAe] at hD hS
  refine lv_aload_n (pc := 1196) hx hb d_law_law_1196 rfl (lv_at hl 2 rfl) ?_
  refine lv_aload_n (pc := 1197) hx hb d_law_law_1197 rfl (lv_at hl 3 rfl) ?_
  refine lv_iload_n (pc := 1198) hx hb d_law_law_1198 rfl (lv_at hl 0 rfl) ?_
  refine lv_iconst (pc := 1199) (v := 1) hx hb d_law_law_1199 (by decide) ?_
  refine lv_iadd (pc := 1200) hx hb d_law_law_1200 ?_
  refine k_cst (v := 1) (by decide) ?_
  refine va_sld (pc := 1201) hx hb hX hbl hbA hS (by unfold vp_in; decide) d_law_law_1201 ?_
  refine k_cst (v := v1) hv1 ?_
  refine k_goI (gr := [[(h2, .inr (13, mF qm x0Mo y0Mo))]]) (k_rV (pc := 1202) (As := [.int v1]) (rest := []) X (c_Ho_octet_z1 l D kA h v1 (q 0) (q 1) (q 2) (q 3) (q 4) (q 5) (q 6) (q 9) (q 10) (q 13) H.size) rfl wm_2382 wm_1 wm_2379 wm_2380 wm_2381 1 (by decide +kernel) ⟨Nat.le_of_ble_eq_true rfl, Nat.le_of_ble_eq_true rfl⟩ rfl rfl (va_recv hK hP (ci := 12) (q0 := 0) rfl rfl) (k_pre hN hK hP hD [0] [1] 2 rfl (by decide) rfl) rfl hl.1 rfl (Nat.le_of_ble_eq_true rfl) d_law_law_1202 ⟨Nat.le_of_ble_eq_true rfl, Nat.le_of_ble_eq_true rfl⟩) hP hD hS hA [0] [1] 2 rfl (by decide) rfl rfl (fun r1 u2 H locs hu2 hP hD hS => ?_)
  obtain ⟨hP, hD⟩ := k_left hP hD
  subst hu2
  have hP : va_P D classes (cat [[(h2, .inr (13, mF qm x0Mo y0Mo))]]) H := hP
  have hD : va_D A (cat [[(h2, .inr (13, mF qm x0Mo y0Mo))]]) := hD
  refine lv_aload_n (pc := 1205) hx hb d_law_law_1205 rfl (lv_at hl 1 rfl) ?_
  refine lv_aload_n (pc := 1206) hx hb d_law_law_1206 rfl (lv_at hl 3 rfl) ?_
  refine lv_iload_n (pc := 1207) hx hb d_law_law_1207 rfl (lv_at hl 0 rfl) ?_
  refine lv_iconst (pc := 1208) (v := 1) hx hb d_law_law_1208 (by decide) ?_
  refine lv_iadd (pc := 1209) hx hb d_law_law_1209 ?_
  refine k_cst (v := 1) (by decide) ?_
  refine va_sld (pc := 1210) hx hb hX hbl hbA hS (by unfold vp_in; decide) d_law_law_1210 ?_
  refine k_cst (v := v1) hv1 ?_
  refine k_goI (gr := []) (k_rV (pc := 1211) (As := [.int v1]) (rest := [.int ((-1))]) X (c_Mo_octet_z1 l D kA h2 v1 qm H.size) rfl wm_3948 wm_9 wm_3945 wm_3946 wm_3947 1 (by decide +kernel) ⟨Nat.le_of_ble_eq_true rfl, Nat.le_of_ble_eq_true rfl⟩ rfl rfl (va_recv hK hP (ci := 13) (q0 := 0) rfl rfl) (k_pre hN hK hP hD [0] [] 1 rfl (by decide) rfl) rfl hl.1 rfl (Nat.le_of_ble_eq_true rfl) d_law_law_1211 ⟨Nat.le_of_ble_eq_true rfl, Nat.le_of_ble_eq_true rfl⟩) hP hD hS hA [0] [] 1 rfl (by decide) rfl rfl (fun r3 u4 H locs hu4 hP hD hS => ?_)
  obtain ⟨hP, hD⟩ := k_left hP hD
  subst hu4
  have hP : va_P D classes (cat []) H := hP
  have hD : va_D A (cat []) := hD
  refine lv_icmp_eq (pc := 1214) (tgt := 1295) hx hb d_law_law_1214 (by decide) (fun _ => ?_) (fun c1 => absurd (by decide) c1)
  rw [hAe] at hS
  exact law_exit l C0 (Nat.le_of_ble_eq_true rfl) (Nat.le_of_ble_eq_true rfl) hS hl
set_option maxRecDepth 100000 in
set_option maxHeartbeats 4000000 in
/-- DrawingHouse.dots(III)I -/
theorem c_Ho_dots_z1 (l : Launch) (D : va_G) (kA : Nat → ClassId) (a0 : Nat) (v1 : Int32) (v2 : Int32) (v3 : Int32) (a1 : Nat) (a2 : Nat) (a3 : Nat) (a4 : Nat) (a5 : Nat) (a6 : Nat) (a7 : Nat) (a8 : Nat) (a9 : Nat) (a10 : Nat) (hg : sp_Ho_isPlace v1 = 0) (hgM : sp_Mo_isPlace v1 = 0) : Ci l y_Ho_dots z_Ho_dots { frames := 2, cells := 0, slots := 0, locals := 41 } D classes (TY kA) [.ref a0, .int v1, .int v2, .int v3] [[(a0, .inr (12, [.ref a1, .ref a2, .ref a3, .ref a4, .ref a5, .ref a6, .ref a7, .int 0, .int ((-1)), .ref a8, .ref a9, .int 0, .int 0, .ref a10, .int 0, .int 0, .null, .null, .null, .null, .null]))]] (fun r (_ : List va_W) => r = (-1)) (fun u => u) 0 0 := by
  intro sz
  refine k_met (cc := b_Ho_dots) (maxL := 8) (ret := (some .int)) (by decide) rfl (Nat.le_of_ble_eq_true rfl) (fun p e s m below meth c ls X hl hB => ?_)
  obtain ⟨hsz, hP, hK, hD0, hN⟩ := hB
  subst hsz
  have hD := hD0.self (sz := s.heap.size)
  generalize hAe : va_A (cat [[(a0, .inr (12, [.ref a1, .ref a2, .ref a3, .ref a4, .ref a5, .ref a6, .ref a7, .int 0, .int ((-1)), .ref a8, .ref a9, .int 0, .int 0, .ref a10, .int 0, .int 0, .null, .null, .null, .null, .null]))]]) s.heap.size = A at hD ⊢
  have hA : ∀ q : Nat, s.heap.size ≤ q → A q := fun q h => by rw [← hAe]; exact Or.inr h
  have hS : va_S A s.heap s.heap [] := va_S.rf
  obtain ⟨hx, hb, hml, hown, hts, hr, hlk, hnm⟩ := id X
  have hl : lv_has ls 8 [(0, .ref a0), (1, .int v1), (2, .int v2), (3, .int v3)] := hl
  have hP : va_P D classes (cat [[(a0, .inr (12, [.ref a1, .ref a2, .ref a3, .ref a4, .ref a5, .ref a6, .ref a7, .int 0, .int ((-1)), .ref a8, .ref a9, .int 0, .int 0, .ref a10, .int 0, .int 0, .null, .null, .null, .null, .null]))]]) s.heap := hP
  have hK : va_K D classes (TY kA) s := hK
  refine lv_aload_n (pc := 0) hx hb d_Ho_dots_0 rfl (lv_at hl 0 rfl) ?_
  refine lv_iload_n (pc := 1) hx hb d_Ho_dots_1 rfl (lv_at hl 1 rfl) ?_
  refine k_goI (gr := [[(a0, .inr (12, [.ref a1, .ref a2, .ref a3, .ref a4, .ref a5, .ref a6, .ref a7, .int 0, .int ((-1)), .ref a8, .ref a9, .int 0, .int 0, .ref a10, .int 0, .int 0, .null, .null, .null, .null, .null]))]]) (k_rV (pc := 2) (As := [.int v1]) (rest := []) X (c_Ho_hasDrawing_z1 l D kA a0 v1 hg hgM s.heap.size) rfl wm_1859 wm_1 wm_1856 wm_1858 wv_8_15 1 (by decide +kernel) ⟨Nat.le_of_ble_eq_true rfl, Nat.le_of_ble_eq_true rfl⟩ rfl rfl (va_recv hK hP (ci := 12) (q0 := 0) rfl rfl) (k_pre hN hK hP hD [] [0] 1 rfl (by decide) rfl) rfl hl.1 rfl (Nat.le_of_ble_eq_true rfl) d_Ho_dots_2 ⟨Nat.le_of_ble_eq_true rfl, Nat.le_of_ble_eq_true rfl⟩) hP hD hS hA [] [0] 1 rfl (by decide) rfl rfl (fun r1 u2 H locs hu2 hP hD hS => ?_)
  subst hu2
  have hP : va_P D classes (cat [[(a0, .inr (12, [.ref a1, .ref a2, .ref a3, .ref a4, .ref a5, .ref a6, .ref a7, .int 0, .int ((-1)), .ref a8, .ref a9, .int 0, .int 0, .ref a10, .int 0, .int 0, .null, .null, .null, .null, .null]))]]) H := hP
  have hD : va_D A (cat [[(a0, .inr (12, [.ref a1, .ref a2, .ref a3, .ref a4, .ref a5, .ref a6, .ref a7, .int 0, .int ((-1)), .ref a8, .ref a9, .int 0, .int 0, .ref a10, .int 0, .int 0, .null, .null, .null, .null, .null]))]]) := hD
  refine lv_if_eq (pc := 5) (tgt := 30) hx hb d_Ho_dots_5 (by decide) (fun c1 => ?_) (fun c1 => absurd (by decide) c1)
  refine lv_iconst (pc := 30) (v := -1) hx hb d_Ho_dots_30 (by decide) ?_
  refine W.widen (k := 0) (n := 0) (Nat.le_of_ble_eq_true rfl) (Nat.le_of_ble_eq_true rfl) ?_
  exact W.iret (v := (-1)) hx hb hr (fun t ht hW => ⟨⟨(-1), [[(a0, .inr (12, [.ref a1, .ref a2, .ref a3, .ref a4, .ref a5, .ref a6, .ref a7, .int 0, .int ((-1)), .ref a8, .ref a9, .int 0, .int 0, .ref a10, .int 0, .int 0, .null, .null, .null, .null, .null]))]], rfl, rfl, by rw [ht]; exact hP, va_K.moved hW.alike hK, hD⟩, hS.F ht⟩) hS.2.2 d_Ho_dots_31
set_option maxRecDepth 100000 in
set_option maxHeartbeats 4000000 in
/-- DrawingHouseModel.dots(III)I -/
theorem c_Mo_dots_z1 (l : Launch) (D : va_G) (kA : Nat → ClassId) (a0 : Nat) (v1 : Int32) (v2 : Int32) (v3 : Int32) (qm : Nat → Nat) (hg : sp_Ho_isPlace v1 = 0) (hgM : sp_Mo_isPlace v1 = 0) : Ci l y_Mo_dots z_Mo_dots { frames := 3, cells := 0, slots := 0, locals := 63 } D classes (TY kA) [.ref a0, .int v1, .int v2, .int v3] [[(a0, .inr (13, mF qm x0Mo y0Mo))]] (fun r (_ : List va_W) => r = (-1)) (fun u => u) 0 0 := by
  intro sz
  refine k_met (cc := b_Mo_dots) (maxL := 6) (ret := (some .int)) (by decide) rfl (Nat.le_of_ble_eq_true rfl) (fun p e s m below meth c ls X hl hB => ?_)
  obtain ⟨hsz, hP, hK, hD0, hN⟩ := hB
  subst hsz
  have hD := hD0.self (sz := s.heap.size)
  generalize hAe : va_A (cat [[(a0, .inr (13, mF qm x0Mo y0Mo))]]) s.heap.size = A at hD ⊢
  have hA : ∀ q : Nat, s.heap.size ≤ q → A q := fun q h => by rw [← hAe]; exact Or.inr h
  have hS : va_S A s.heap s.heap [] := va_S.rf
  obtain ⟨hx, hb, hml, hown, hts, hr, hlk, hnm⟩ := id X
  have hl : lv_has ls 6 [(0, .ref a0), (1, .int v1), (2, .int v2), (3, .int v3)] := hl
  have hP : va_P D classes (cat [[(a0, .inr (13, mF qm x0Mo y0Mo))]]) s.heap := hP
  have hK : va_K D classes (TY kA) s := hK
  refine lv_aload_n (pc := 0) hx hb d_Mo_dots_0 rfl (lv_at hl 0 rfl) ?_
  refine lv_iload_n (pc := 1) hx hb d_Mo_dots_1 rfl (lv_at hl 1 rfl) ?_
  refine k_goI (gr := [[(a0, .inr (13, mF qm x0Mo y0Mo))]]) (k_rV (pc := 2) (As := [.int v1]) (rest := []) X (c_Mo_isDrawn_z1 l D kA a0 v1 hg hgM s.heap.size) rfl wm_3669 wm_9 wm_3666 wm_3668 wv_21_13 1 (by decide +kernel) ⟨Nat.le_of_ble_eq_true rfl, Nat.le_of_ble_eq_true rfl⟩ rfl rfl (va_recv hK hP (ci := 13) (q0 := 0) rfl rfl) (k_pre hN hK hP hD [] [0] 1 rfl (by decide) rfl) rfl hl.1 rfl (Nat.le_of_ble_eq_true rfl) d_Mo_dots_2 ⟨Nat.le_of_ble_eq_true rfl, Nat.le_of_ble_eq_true rfl⟩) hP hD hS hA [] [0] 1 rfl (by decide) rfl rfl (fun r1 u2 H locs hu2 hP hD hS => ?_)
  subst hu2
  have hP : va_P D classes (cat [[(a0, .inr (13, mF qm x0Mo y0Mo))]]) H := hP
  have hD : va_D A (cat [[(a0, .inr (13, mF qm x0Mo y0Mo))]]) := hD
  refine lv_if_eq (pc := 5) (tgt := 28) hx hb d_Mo_dots_5 (by decide) (fun c1 => ?_) (fun c1 => absurd (by decide) c1)
  refine lv_iconst (pc := 28) (v := -1) hx hb d_Mo_dots_28 (by decide) ?_
  refine W.widen (k := 0) (n := 0) (Nat.le_of_ble_eq_true rfl) (Nat.le_of_ble_eq_true rfl) ?_
  exact W.iret (v := (-1)) hx hb hr (fun t ht hW => ⟨⟨(-1), [[(a0, .inr (13, mF qm x0Mo y0Mo))]], rfl, rfl, by rw [ht]; exact hP, va_K.moved hW.alike hK, hD⟩, hS.F ht⟩) hS.2.2 d_Mo_dots_29
set_option maxRecDepth 100000 in
set_option maxHeartbeats 4000000 in
/-- dots, a fresh house -/
theorem lf_dots_1 {p : Program} {e : Env} {s : State} {m : MethodId} {below : List Frame} {meth : Method} {c : Code} (l : Launch) {b : Nat} {xs : Nat → Int32} (C0 : lw_At p s m meth c b 6 xs) {D : va_G} {kA : Nat → ClassId} (h : Nat) (h2 : Nat) (q : Nat → Nat) (qm : Nat → Nat) (v1 : Int32) (v2 : Int32) (v3 : Int32) (hg : sp_Ho_isPlace v1 = 0) (hgM : sp_Mo_isPlace v1 = 0) (hv1 : xs 1 = v1) (hv2 : xs 2 = v2) (hv3 : xs 3 = v3) {H : Heap} {locs : List Loc} {ls : Array Slot} (hK : va_K D classes (TY kA) s) (hN : nst s) (hP : va_P D classes (cat [[(h, .inr (12, [.ref (q 0), .ref (q 1), .ref (q 2), .ref (q 3), .ref (q 4), .ref (q 5), .ref (q 6), .int 0, .int ((-1)), .ref (q 9), .ref (q 10), .int 0, .int 0, .ref (q 13), .int 0, .int 0, .null, .null, .null, .null, .null]))], [(h2, .inr (13, mF qm x0Mo y0Mo))]]) H) (hD : va_D (fun q : Nat => s.heap.size ≤ q) (cat [[(h, .inr (12, [.ref (q 0), .ref (q 1), .ref (q 2), .ref (q 3), .ref (q 4), .ref (q 5), .ref (q 6), .int 0, .int ((-1)), .ref (q 9), .ref (q 10), .int 0, .int 0, .ref (q 13), .int 0, .int 0, .null, .null, .null, .null, .null]))], [(h2, .inr (13, mF qm x0Mo y0Mo))]])) (hS : va_S (fun q : Nat => s.heap.size ≤ q) s.heap H locs) (hl : lv_has ls 4 [(3, .int 0), (2, .ref h2), (1, .ref h), (0, .ref b)]) : W p l e room_1 s m #[Value.ref b] below meth c H locs 368 365796 (lw_Z below #[Value.ref b] s) (F0 m 1219 ls []) := by
  obtain ⟨hx, hb, hr, hml, hown, hts0, hX, hbl, hlocks, hgv⟩ := id C0
  have hts : ∀ w ∈ lw_g, w.before #[Value.ref b] s = true := fun w h => hts0 w (lw_gt h)
  have X : cx p s m #[Value.ref b] meth c b_law_law 4 ret "DrawingHouseLaw" meth.name := ⟨hx, hb, hml, hown, hts, hr, hlocks, rfl⟩
  obtain ⟨A, hAe⟩ : ∃ A : Nat → Prop, A = fun q : Nat => s.heap.size ≤ q := ⟨_, rfl⟩
  have hA : ∀ q : Nat, s.heap.size ≤ q → A q := fun q h => by rw [hAe]; exact h
  have hbA : ¬ A b := by rw [hAe]; exact Nat.not_le.mpr hbl
  rw [← hAe] at hD hS
  refine lv_aload_n (pc := 1219) hx hb d_law_law_1219 rfl (lv_at hl 2 rfl) ?_
  refine lv_aload_n (pc := 1220) hx hb d_law_law_1220 rfl (lv_at hl 3 rfl) ?_
  refine lv_iload_n (pc := 1221) hx hb d_law_law_1221 rfl (lv_at hl 0 rfl) ?_
  refine lv_iconst (pc := 1222) (v := 1) hx hb d_law_law_1222 (by decide) ?_
  refine lv_iadd (pc := 1223) hx hb d_law_law_1223 ?_
  refine k_cst (v := 1) (by decide) ?_
  refine va_sld (pc := 1224) hx hb hX hbl hbA hS (by unfold vp_in; decide) d_law_law_1224 ?_
  refine k_cst (v := v1) hv1 ?_
  refine lv_aload_n (pc := 1225) hx hb d_law_law_1225 rfl (lv_at hl 3 rfl) ?_
  refine lv_iload_n (pc := 1226) hx hb d_law_law_1226 rfl (lv_at hl 0 rfl) ?_
  refine lv_iconst (pc := 1227) (v := 2) hx hb d_law_law_1227 (by decide) ?_
  refine lv_iadd (pc := 1228) hx hb d_law_law_1228 ?_
  refine k_cst (v := 2) (by decide) ?_
  refine va_sld (pc := 1229) hx hb hX hbl hbA hS (by unfold vp_in; decide) d_law_law_1229 ?_
  refine k_cst (v := v2) hv2 ?_
  refine lv_aload_n (pc := 1230) hx hb d_law_law_1230 rfl (lv_at hl 3 rfl) ?_
  refine lv_iload_n (pc := 1231) hx hb d_law_law_1231 rfl (lv_at hl 0 rfl) ?_
  refine lv_iconst (pc := 1232) (v := 3) hx hb d_law_law_1232 (by decide) ?_
  refine lv_iadd (pc := 1233) hx hb d_law_law_1233 ?_
  refine k_cst (v := 3) (by decide) ?_
  refine va_sld (pc := 1234) hx hb hX hbl hbA hS (by unfold vp_in; decide) d_law_law_1234 ?_
  refine k_cst (v := v3) hv3 ?_
  refine k_goI (gr := [[(h2, .inr (13, mF qm x0Mo y0Mo))]]) (k_rV (pc := 1235) (As := [.int v1, .int v2, .int v3]) (rest := []) X (c_Ho_dots_z1 l D kA h v1 v2 v3 (q 0) (q 1) (q 2) (q 3) (q 4) (q 5) (q 6) (q 9) (q 10) (q 13) hg hgM H.size) rfl wm_2386 wm_1 wm_2383 wm_2384 wm_2385 3 (by decide +kernel) ⟨Nat.le_of_ble_eq_true rfl, Nat.le_of_ble_eq_true rfl⟩ rfl rfl (va_recv hK hP (ci := 12) (q0 := 0) rfl rfl) (k_pre hN hK hP hD [0] [1] 2 rfl (by decide) rfl) rfl hl.1 rfl (Nat.le_of_ble_eq_true rfl) d_law_law_1235 ⟨Nat.le_of_ble_eq_true rfl, Nat.le_of_ble_eq_true rfl⟩) hP hD hS hA [0] [1] 2 rfl (by decide) rfl rfl (fun r1 u2 H locs hu2 hP hD hS => ?_)
  obtain ⟨hP, hD⟩ := k_left hP hD
  subst hu2
  have hP : va_P D classes (cat [[(h2, .inr (13, mF qm x0Mo y0Mo))]]) H := hP
  have hD : va_D A (cat [[(h2, .inr (13, mF qm x0Mo y0Mo))]]) := hD
  refine lv_aload_n (pc := 1238) hx hb d_law_law_1238 rfl (lv_at hl 1 rfl) ?_
  refine lv_aload_n (pc := 1239) hx hb d_law_law_1239 rfl (lv_at hl 3 rfl) ?_
  refine lv_iload_n (pc := 1240) hx hb d_law_law_1240 rfl (lv_at hl 0 rfl) ?_
  refine lv_iconst (pc := 1241) (v := 1) hx hb d_law_law_1241 (by decide) ?_
  refine lv_iadd (pc := 1242) hx hb d_law_law_1242 ?_
  refine k_cst (v := 1) (by decide) ?_
  refine va_sld (pc := 1243) hx hb hX hbl hbA hS (by unfold vp_in; decide) d_law_law_1243 ?_
  refine k_cst (v := v1) hv1 ?_
  refine lv_aload_n (pc := 1244) hx hb d_law_law_1244 rfl (lv_at hl 3 rfl) ?_
  refine lv_iload_n (pc := 1245) hx hb d_law_law_1245 rfl (lv_at hl 0 rfl) ?_
  refine lv_iconst (pc := 1246) (v := 2) hx hb d_law_law_1246 (by decide) ?_
  refine lv_iadd (pc := 1247) hx hb d_law_law_1247 ?_
  refine k_cst (v := 2) (by decide) ?_
  refine va_sld (pc := 1248) hx hb hX hbl hbA hS (by unfold vp_in; decide) d_law_law_1248 ?_
  refine k_cst (v := v2) hv2 ?_
  refine lv_aload_n (pc := 1249) hx hb d_law_law_1249 rfl (lv_at hl 3 rfl) ?_
  refine lv_iload_n (pc := 1250) hx hb d_law_law_1250 rfl (lv_at hl 0 rfl) ?_
  refine lv_iconst (pc := 1251) (v := 3) hx hb d_law_law_1251 (by decide) ?_
  refine lv_iadd (pc := 1252) hx hb d_law_law_1252 ?_
  refine k_cst (v := 3) (by decide) ?_
  refine va_sld (pc := 1253) hx hb hX hbl hbA hS (by unfold vp_in; decide) d_law_law_1253 ?_
  refine k_cst (v := v3) hv3 ?_
  refine k_goI (gr := []) (k_rV (pc := 1254) (As := [.int v1, .int v2, .int v3]) (rest := [.int ((-1))]) X (c_Mo_dots_z1 l D kA h2 v1 v2 v3 qm hg hgM H.size) rfl wm_3952 wm_9 wm_3949 wm_3950 wm_3951 3 (by decide +kernel) ⟨Nat.le_of_ble_eq_true rfl, Nat.le_of_ble_eq_true rfl⟩ rfl rfl (va_recv hK hP (ci := 13) (q0 := 0) rfl rfl) (k_pre hN hK hP hD [0] [] 1 rfl (by decide) rfl) rfl hl.1 rfl (Nat.le_of_ble_eq_true rfl) d_law_law_1254 ⟨Nat.le_of_ble_eq_true rfl, Nat.le_of_ble_eq_true rfl⟩) hP hD hS hA [0] [] 1 rfl (by decide) rfl rfl (fun r3 u4 H locs hu4 hP hD hS => ?_)
  obtain ⟨hP, hD⟩ := k_left hP hD
  subst hu4
  have hP : va_P D classes (cat []) H := hP
  have hD : va_D A (cat []) := hD
  refine lv_icmp_eq (pc := 1257) (tgt := 1295) hx hb d_law_law_1257 (by decide) (fun _ => ?_) (fun c1 => absurd (by decide) c1)
  rw [hAe] at hS
  exact law_exit l C0 (Nat.le_of_ble_eq_true rfl) (Nat.le_of_ble_eq_true rfl) hS hl
set_option maxRecDepth 100000 in
set_option maxHeartbeats 4000000 in
/-- DrawingHouse.dots(III)I -/
theorem c_Ho_dots_z2 (l : Launch) (D : va_G) (kA : Nat → ClassId) (a0 : Nat) (j : Nat) (v2 : Int32) (v3 : Int32) (a1 : Nat) (a2 : Nat) (a3 : Nat) (a4 : Nat) (a5 : Nat) (a6 : Nat) (a7 : Nat) (a8 : Nat) (a9 : Nat) (a10 : Nat) (g : Nat → Nat → Nat) (a11 : Nat) (a12 : Nat) (a13 : Nat) (a14 : Nat) (a15 : Nat) (a16 : Nat) (a17 : Nat) (a18 : Nat) (a19 : Nat) (a20 : Nat) (a21 : Nat) (a22 : Nat) (a23 : Nat) (hj : j < 4) : Ci l y_Ho_dots z_Ho_dots { frames := 2, cells := 0, slots := 0, locals := 41 } D classes (TY kA) [.ref a0, .int (nI j), .int v2, .int v3] [[(a0, .inr (12, [.ref a1, .ref a2, .ref a3, .ref a4, .ref a5, .ref a6, .ref a7, .int 0, .int ((-1)), .ref a8, .ref a9, .int 0, .int 0, .ref a10, .int 0, .int 0, .null, .null, .null, .null, .null]))], [(a4, .inl (kA 7, 4, .inr (.inr (.inr (.inr (rr (g 3)))))))], [(g 3 j, .inr (0, [.ref a11, .int ((-1)), .ref a12, .ref a13, .ref a14, .ref a15, .ref a16, .int 0, .int 0, .int 0, .ref a17, .ref a18, .ref a19, .ref a20, .ref a21, .ref a22, .ref a23, .int 0, .int 0, .int 0, .int 0]))]] (fun r (_ : List va_W) => r = (-1)) (fun u => u) 0 0 := by
  intro sz
  refine k_met (cc := b_Ho_dots) (maxL := 8) (ret := (some .int)) (by decide) rfl (Nat.le_of_ble_eq_true rfl) (fun p e s m below meth c ls X hl hB => ?_)
  obtain ⟨hsz, hP, hK, hD0, hN⟩ := hB
  subst hsz
  have hD := hD0.self (sz := s.heap.size)
  generalize hAe : va_A (cat [[(a0, .inr (12, [.ref a1, .ref a2, .ref a3, .ref a4, .ref a5, .ref a6, .ref a7, .int 0, .int ((-1)), .ref a8, .ref a9, .int 0, .int 0, .ref a10, .int 0, .int 0, .null, .null, .null, .null, .null]))], [(a4, .inl (kA 7, 4, .inr (.inr (.inr (.inr (rr (g 3)))))))], [(g 3 j, .inr (0, [.ref a11, .int ((-1)), .ref a12, .ref a13, .ref a14, .ref a15, .ref a16, .int 0, .int 0, .int 0, .ref a17, .ref a18, .ref a19, .ref a20, .ref a21, .ref a22, .ref a23, .int 0, .int 0, .int 0, .int 0]))]]) s.heap.size = A at hD ⊢
  have hA : ∀ q : Nat, s.heap.size ≤ q → A q := fun q h => by rw [← hAe]; exact Or.inr h
  have hS : va_S A s.heap s.heap [] := va_S.rf
  obtain ⟨hx, hb, hml, hown, hts, hr, hlk, hnm⟩ := id X
  have hl : lv_has ls 8 [(0, .ref a0), (1, .int (nI j)), (2, .int v2), (3, .int v3)] := hl
  have hP : va_P D classes (cat [[(a0, .inr (12, [.ref a1, .ref a2, .ref a3, .ref a4, .ref a5, .ref a6, .ref a7, .int 0, .int ((-1)), .ref a8, .ref a9, .int 0, .int 0, .ref a10, .int 0, .int 0, .null, .null, .null, .null, .null]))], [(a4, .inl (kA 7, 4, .inr (.inr (.inr (.inr (rr (g 3)))))))], [(g 3 j, .inr (0, [.ref a11, .int ((-1)), .ref a12, .ref a13, .ref a14, .ref a15, .ref a16, .int 0, .int 0, .int 0, .ref a17, .ref a18, .ref a19, .ref a20, .ref a21, .ref a22, .ref a23, .int 0, .int 0, .int 0, .int 0]))]]) s.heap := hP
  have hK : va_K D classes (TY kA) s := hK
  refine lv_aload_n (pc := 0) hx hb d_Ho_dots_0 rfl (lv_at hl 0 rfl) ?_
  refine lv_iload_n (pc := 1) hx hb d_Ho_dots_1 rfl (lv_at hl 1 rfl) ?_
  refine k_goI (gr := []) (k_rV (pc := 2) (As := [.int (nI j)]) (rest := []) X (c_Ho_hasDrawing_z2 l D kA a0 j a1 a2 a3 a4 a5 a6 a7 a8 a9 a10 g a11 a12 a13 a14 a15 a16 a17 a18 a19 a20 a21 a22 a23 hj s.heap.size) rfl wm_1859 wm_1 wm_1856 wm_1858 wv_8_15 1 (by decide +kernel) ⟨Nat.le_of_ble_eq_true rfl, Nat.le_of_ble_eq_true rfl⟩ rfl rfl (va_recv hK hP (ci := 12) (q0 := 0) rfl rfl) (k_pre hN hK hP hD [0, 1, 2] [] 3 rfl (by decide) rfl) rfl hl.1 rfl (Nat.le_of_ble_eq_true rfl) d_Ho_dots_2 ⟨Nat.le_of_ble_eq_true rfl, Nat.le_of_ble_eq_true rfl⟩) hP hD hS hA [0, 1, 2] [] 3 rfl (by decide) rfl rfl (fun r1 u2 H locs hu2 hP hD hS => ?_)
  subst hu2
  have hP : va_P D classes (cat [[(a0, .inr (12, [.ref a1, .ref a2, .ref a3, .ref a4, .ref a5, .ref a6, .ref a7, .int 0, .int ((-1)), .ref a8, .ref a9, .int 0, .int 0, .ref a10, .int 0, .int 0, .null, .null, .null, .null, .null]))], [(a4, .inl (kA 7, 4, .inr (.inr (.inr (.inr (rr (g 3)))))))], [(g 3 j, .inr (0, [.ref a11, .int ((-1)), .ref a12, .ref a13, .ref a14, .ref a15, .ref a16, .int 0, .int 0, .int 0, .ref a17, .ref a18, .ref a19, .ref a20, .ref a21, .ref a22, .ref a23, .int 0, .int 0, .int 0, .int 0]))]]) H := hP
  have hD : va_D A (cat [[(a0, .inr (12, [.ref a1, .ref a2, .ref a3, .ref a4, .ref a5, .ref a6, .ref a7, .int 0, .int ((-1)), .ref a8, .ref a9, .int 0, .int 0, .ref a10, .int 0, .int 0, .null, .null, .null, .null, .null]))], [(a4, .inl (kA 7, 4, .inr (.inr (.inr (.inr (rr (g 3)))))))], [(g 3 j, .inr (0, [.ref a11, .int ((-1)), .ref a12, .ref a13, .ref a14, .ref a15, .ref a16, .int 0, .int 0, .int 0, .ref a17, .ref a18, .ref a19, .ref a20, .ref a21, .ref a22, .ref a23, .int 0, .int 0, .int 0, .int 0]))]]) := hD
  refine lv_if_eq (pc := 5) (tgt := 30) hx hb d_Ho_dots_5 (by decide) (fun c1 => ?_) (fun c1 => absurd (by decide) c1)
  refine lv_iconst (pc := 30) (v := -1) hx hb d_Ho_dots_30 (by decide) ?_
  refine W.widen (k := 0) (n := 0) (Nat.le_of_ble_eq_true rfl) (Nat.le_of_ble_eq_true rfl) ?_
  exact W.iret (v := (-1)) hx hb hr (fun t ht hW => ⟨⟨(-1), [[(a0, .inr (12, [.ref a1, .ref a2, .ref a3, .ref a4, .ref a5, .ref a6, .ref a7, .int 0, .int ((-1)), .ref a8, .ref a9, .int 0, .int 0, .ref a10, .int 0, .int 0, .null, .null, .null, .null, .null]))], [(a4, .inl (kA 7, 4, .inr (.inr (.inr (.inr (rr (g 3)))))))], [(g 3 j, .inr (0, [.ref a11, .int ((-1)), .ref a12, .ref a13, .ref a14, .ref a15, .ref a16, .int 0, .int 0, .int 0, .ref a17, .ref a18, .ref a19, .ref a20, .ref a21, .ref a22, .ref a23, .int 0, .int 0, .int 0, .int 0]))]], rfl, rfl, by rw [ht]; exact hP, va_K.moved hW.alike hK, hD⟩, hS.F ht⟩) hS.2.2 d_Ho_dots_31
set_option maxRecDepth 100000 in
set_option maxHeartbeats 4000000 in
/-- DrawingHouseModel.dots(III)I -/
theorem c_Mo_dots_z2 (l : Launch) (D : va_G) (kA : Nat → ClassId) (a0 : Nat) (j : Nat) (v2 : Int32) (v3 : Int32) (qm : Nat → Nat) (hj : j < 4) : Ci l y_Mo_dots z_Mo_dots { frames := 3, cells := 0, slots := 0, locals := 63 } D classes (TY kA) [.ref a0, .int (nI j), .int v2, .int v3] [[(a0, .inr (13, mF qm x0Mo y0Mo))], [(qm 61, .inl (kA 0, 4, .inl (upd (upd (upd (upd (fun _ => 0) 0 (-1)) 1 (-1)) 2 (-1)) 3 (-1))))]] (fun r (_ : List va_W) => r = (-1)) (fun u => u) 0 0 := by
  intro sz
  refine k_met (cc := b_Mo_dots) (maxL := 6) (ret := (some .int)) (by decide) rfl (Nat.le_of_ble_eq_true rfl) (fun p e s m below meth c ls X hl hB => ?_)
  obtain ⟨hsz, hP, hK, hD0, hN⟩ := hB
  subst hsz
  have hD := hD0.self (sz := s.heap.size)
  generalize hAe : va_A (cat [[(a0, .inr (13, mF qm x0Mo y0Mo))], [(qm 61, .inl (kA 0, 4, .inl (upd (upd (upd (upd (fun _ => 0) 0 (-1)) 1 (-1)) 2 (-1)) 3 (-1))))]]) s.heap.size = A at hD ⊢
  have hA : ∀ q : Nat, s.heap.size ≤ q → A q := fun q h => by rw [← hAe]; exact Or.inr h
  have hS : va_S A s.heap s.heap [] := va_S.rf
  obtain ⟨hx, hb, hml, hown, hts, hr, hlk, hnm⟩ := id X
  have hl : lv_has ls 6 [(0, .ref a0), (1, .int (nI j)), (2, .int v2), (3, .int v3)] := hl
  have hP : va_P D classes (cat [[(a0, .inr (13, mF qm x0Mo y0Mo))], [(qm 61, .inl (kA 0, 4, .inl (upd (upd (upd (upd (fun _ => 0) 0 (-1)) 1 (-1)) 2 (-1)) 3 (-1))))]]) s.heap := hP
  have hK : va_K D classes (TY kA) s := hK
  refine lv_aload_n (pc := 0) hx hb d_Mo_dots_0 rfl (lv_at hl 0 rfl) ?_
  refine lv_iload_n (pc := 1) hx hb d_Mo_dots_1 rfl (lv_at hl 1 rfl) ?_
  refine k_goI (gr := []) (k_rV (pc := 2) (As := [.int (nI j)]) (rest := []) X (c_Mo_isDrawn_z2 l D kA a0 j qm hj s.heap.size) rfl wm_3669 wm_9 wm_3666 wm_3668 wv_21_13 1 (by decide +kernel) ⟨Nat.le_of_ble_eq_true rfl, Nat.le_of_ble_eq_true rfl⟩ rfl rfl (va_recv hK hP (ci := 13) (q0 := 0) rfl rfl) (k_pre hN hK hP hD [0, 1] [] 2 rfl (by decide) rfl) rfl hl.1 rfl (Nat.le_of_ble_eq_true rfl) d_Mo_dots_2 ⟨Nat.le_of_ble_eq_true rfl, Nat.le_of_ble_eq_true rfl⟩) hP hD hS hA [0, 1] [] 2 rfl (by decide) rfl rfl (fun r1 u2 H locs hu2 hP hD hS => ?_)
  subst hu2
  have hP : va_P D classes (cat [[(a0, .inr (13, mF qm x0Mo y0Mo))], [(qm 61, .inl (kA 0, 4, .inl (upd (upd (upd (upd (fun _ => 0) 0 (-1)) 1 (-1)) 2 (-1)) 3 (-1))))]]) H := hP
  have hD : va_D A (cat [[(a0, .inr (13, mF qm x0Mo y0Mo))], [(qm 61, .inl (kA 0, 4, .inl (upd (upd (upd (upd (fun _ => 0) 0 (-1)) 1 (-1)) 2 (-1)) 3 (-1))))]]) := hD
  refine lv_if_eq (pc := 5) (tgt := 28) hx hb d_Mo_dots_5 (by decide) (fun c1 => ?_) (fun c1 => absurd (by decide) c1)
  refine lv_iconst (pc := 28) (v := -1) hx hb d_Mo_dots_28 (by decide) ?_
  refine W.widen (k := 0) (n := 0) (Nat.le_of_ble_eq_true rfl) (Nat.le_of_ble_eq_true rfl) ?_
  exact W.iret (v := (-1)) hx hb hr (fun t ht hW => ⟨⟨(-1), [[(a0, .inr (13, mF qm x0Mo y0Mo))], [(qm 61, .inl (kA 0, 4, .inl (upd (upd (upd (upd (fun _ => 0) 0 (-1)) 1 (-1)) 2 (-1)) 3 (-1))))]], rfl, rfl, by rw [ht]; exact hP, va_K.moved hW.alike hK, hD⟩, hS.F ht⟩) hS.2.2 d_Mo_dots_29
set_option maxRecDepth 100000 in
set_option maxHeartbeats 4000000 in
/-- dots, a fresh house -/
theorem lf_dots_2 {p : Program} {e : Env} {s : State} {m : MethodId} {below : List Frame} {meth : Method} {c : Code} (l : Launch) {b : Nat} {xs : Nat → Int32} (C0 : lw_At p s m meth c b 6 xs) {D : va_G} {kA : Nat → ClassId} (h : Nat) (h2 : Nat) (q : Nat → Nat) (qd : Nat → Nat) (qm : Nat → Nat) (g : Nat → Nat → Nat) (j : Nat) (v2 : Int32) (v3 : Int32) (hj : j < 4) (hv1 : xs 1 = nI j) (hv2 : xs 2 = v2) (hv3 : xs 3 = v3) {H : Heap} {locs : List Loc} {ls : Array Slot} (hK : va_K D classes (TY kA) s) (hN : nst s) (hP : va_P D classes (cat [[(h, .inr (12, [.ref (q 0), .ref (q 1), .ref (q 2), .ref (q 3), .ref (q 4), .ref (q 5), .ref (q 6), .int 0, .int ((-1)), .ref (q 9), .ref (q 10), .int 0, .int 0, .ref (q 13), .int 0, .int 0, .null, .null, .null, .null, .null]))], [(q 3, .inl (kA 7, 4, .inr (.inr (.inr (.inr (rr (g 3)))))))], [(g 3 j, .inr (0, [.ref (qd 0), .int ((-1)), .ref (qd 2), .ref (qd 3), .ref (qd 4), .ref (qd 5), .ref (qd 6), .int 0, .int 0, .int 0, .ref (qd 10), .ref (qd 11), .ref (qd 12), .ref (qd 13), .ref (qd 14), .ref (qd 15), .ref (qd 16), .int 0, .int 0, .int 0, .int 0]))], [(h2, .inr (13, mF qm x0Mo y0Mo))], [(qm 61, .inl (kA 0, 4, .inl (upd (upd (upd (upd (fun _ => 0) 0 (-1)) 1 (-1)) 2 (-1)) 3 (-1))))]]) H) (hD : va_D (fun q : Nat => s.heap.size ≤ q) (cat [[(h, .inr (12, [.ref (q 0), .ref (q 1), .ref (q 2), .ref (q 3), .ref (q 4), .ref (q 5), .ref (q 6), .int 0, .int ((-1)), .ref (q 9), .ref (q 10), .int 0, .int 0, .ref (q 13), .int 0, .int 0, .null, .null, .null, .null, .null]))], [(q 3, .inl (kA 7, 4, .inr (.inr (.inr (.inr (rr (g 3)))))))], [(g 3 j, .inr (0, [.ref (qd 0), .int ((-1)), .ref (qd 2), .ref (qd 3), .ref (qd 4), .ref (qd 5), .ref (qd 6), .int 0, .int 0, .int 0, .ref (qd 10), .ref (qd 11), .ref (qd 12), .ref (qd 13), .ref (qd 14), .ref (qd 15), .ref (qd 16), .int 0, .int 0, .int 0, .int 0]))], [(h2, .inr (13, mF qm x0Mo y0Mo))], [(qm 61, .inl (kA 0, 4, .inl (upd (upd (upd (upd (fun _ => 0) 0 (-1)) 1 (-1)) 2 (-1)) 3 (-1))))]])) (hS : va_S (fun q : Nat => s.heap.size ≤ q) s.heap H locs) (hl : lv_has ls 4 [(3, .int 0), (2, .ref h2), (1, .ref h), (0, .ref b)]) : W p l e room_1 s m #[Value.ref b] below meth c H locs 368 365796 (lw_Z below #[Value.ref b] s) (F0 m 1219 ls []) := by
  obtain ⟨hx, hb, hr, hml, hown, hts0, hX, hbl, hlocks, hgv⟩ := id C0
  have hts : ∀ w ∈ lw_g, w.before #[Value.ref b] s = true := fun w h => hts0 w (lw_gt h)
  have X : cx p s m #[Value.ref b] meth c b_law_law 4 ret "DrawingHouseLaw" meth.name := ⟨hx, hb, hml, hown, hts, hr, hlocks, rfl⟩
  obtain ⟨A, hAe⟩ : ∃ A : Nat → Prop, A = fun q : Nat => s.heap.size ≤ q := ⟨_, rfl⟩
  have hA : ∀ q : Nat, s.heap.size ≤ q → A q := fun q h => by rw [hAe]; exact h
  have hbA : ¬ A b := by rw [hAe]; exact Nat.not_le.mpr hbl
  rw [← hAe] at hD hS
  refine lv_aload_n (pc := 1219) hx hb d_law_law_1219 rfl (lv_at hl 2 rfl) ?_
  refine lv_aload_n (pc := 1220) hx hb d_law_law_1220 rfl (lv_at hl 3 rfl) ?_
  refine lv_iload_n (pc := 1221) hx hb d_law_law_1221 rfl (lv_at hl 0 rfl) ?_
  refine lv_iconst (pc := 1222) (v := 1) hx hb d_law_law_1222 (by decide) ?_
  refine lv_iadd (pc := 1223) hx hb d_law_law_1223 ?_
  refine k_cst (v := 1) (by decide) ?_
  refine va_sld (pc := 1224) hx hb hX hbl hbA hS (by unfold vp_in; decide) d_law_law_1224 ?_
  refine k_cst (v := nI j) hv1 ?_
  refine lv_aload_n (pc := 1225) hx hb d_law_law_1225 rfl (lv_at hl 3 rfl) ?_
  refine lv_iload_n (pc := 1226) hx hb d_law_law_1226 rfl (lv_at hl 0 rfl) ?_
  refine lv_iconst (pc := 1227) (v := 2) hx hb d_law_law_1227 (by decide) ?_
  refine lv_iadd (pc := 1228) hx hb d_law_law_1228 ?_
  refine k_cst (v := 2) (by decide) ?_
  refine va_sld (pc := 1229) hx hb hX hbl hbA hS (by unfold vp_in; decide) d_law_law_1229 ?_
  refine k_cst (v := v2) hv2 ?_
  refine lv_aload_n (pc := 1230) hx hb d_law_law_1230 rfl (lv_at hl 3 rfl) ?_
  refine lv_iload_n (pc := 1231) hx hb d_law_law_1231 rfl (lv_at hl 0 rfl) ?_
  refine lv_iconst (pc := 1232) (v := 3) hx hb d_law_law_1232 (by decide) ?_
  refine lv_iadd (pc := 1233) hx hb d_law_law_1233 ?_
  refine k_cst (v := 3) (by decide) ?_
  refine va_sld (pc := 1234) hx hb hX hbl hbA hS (by unfold vp_in; decide) d_law_law_1234 ?_
  refine k_cst (v := v3) hv3 ?_
  refine k_goI (gr := [[(h2, .inr (13, mF qm x0Mo y0Mo))], [(qm 61, .inl (kA 0, 4, .inl (upd (upd (upd (upd (fun _ => 0) 0 (-1)) 1 (-1)) 2 (-1)) 3 (-1))))]]) (k_rV (pc := 1235) (As := [.int (nI j), .int v2, .int v3]) (rest := []) X (c_Ho_dots_z2 l D kA h j v2 v3 (q 0) (q 1) (q 2) (q 3) (q 4) (q 5) (q 6) (q 9) (q 10) (q 13) g (qd 0) (qd 2) (qd 3) (qd 4) (qd 5) (qd 6) (qd 10) (qd 11) (qd 12) (qd 13) (qd 14) (qd 15) (qd 16) hj H.size) rfl wm_2386 wm_1 wm_2383 wm_2384 wm_2385 3 (by decide +kernel) ⟨Nat.le_of_ble_eq_true rfl, Nat.le_of_ble_eq_true rfl⟩ rfl rfl (va_recv hK hP (ci := 12) (q0 := 0) rfl rfl) (k_pre hN hK hP hD [0, 1, 2] [3, 4] 5 rfl (by decide) rfl) rfl hl.1 rfl (Nat.le_of_ble_eq_true rfl) d_law_law_1235 ⟨Nat.le_of_ble_eq_true rfl, Nat.le_of_ble_eq_true rfl⟩) hP hD hS hA [0, 1, 2] [3, 4] 5 rfl (by decide) rfl rfl (fun r1 u2 H locs hu2 hP hD hS => ?_)
  obtain ⟨hP, hD⟩ := k_left hP hD
  subst hu2
  have hP : va_P D classes (cat [[(h2, .inr (13, mF qm x0Mo y0Mo))], [(qm 61, .inl (kA 0, 4, .inl (upd (upd (upd (upd (fun _ => 0) 0 (-1)) 1 (-1)) 2 (-1)) 3 (-1))))]]) H := hP
  have hD : va_D A (cat [[(h2, .inr (13, mF qm x0Mo y0Mo))], [(qm 61, .inl (kA 0, 4, .inl (upd (upd (upd (upd (fun _ => 0) 0 (-1)) 1 (-1)) 2 (-1)) 3 (-1))))]]) := hD
  refine lv_aload_n (pc := 1238) hx hb d_law_law_1238 rfl (lv_at hl 1 rfl) ?_
  refine lv_aload_n (pc := 1239) hx hb d_law_law_1239 rfl (lv_at hl 3 rfl) ?_
  refine lv_iload_n (pc := 1240) hx hb d_law_law_1240 rfl (lv_at hl 0 rfl) ?_
  refine lv_iconst (pc := 1241) (v := 1) hx hb d_law_law_1241 (by decide) ?_
  refine lv_iadd (pc := 1242) hx hb d_law_law_1242 ?_
  refine k_cst (v := 1) (by decide) ?_
  refine va_sld (pc := 1243) hx hb hX hbl hbA hS (by unfold vp_in; decide) d_law_law_1243 ?_
  refine k_cst (v := nI j) hv1 ?_
  refine lv_aload_n (pc := 1244) hx hb d_law_law_1244 rfl (lv_at hl 3 rfl) ?_
  refine lv_iload_n (pc := 1245) hx hb d_law_law_1245 rfl (lv_at hl 0 rfl) ?_
  refine lv_iconst (pc := 1246) (v := 2) hx hb d_law_law_1246 (by decide) ?_
  refine lv_iadd (pc := 1247) hx hb d_law_law_1247 ?_
  refine k_cst (v := 2) (by decide) ?_
  refine va_sld (pc := 1248) hx hb hX hbl hbA hS (by unfold vp_in; decide) d_law_law_1248 ?_
  refine k_cst (v := v2) hv2 ?_
  refine lv_aload_n (pc := 1249) hx hb d_law_law_1249 rfl (lv_at hl 3 rfl) ?_
  refine lv_iload_n (pc := 1250) hx hb d_law_law_1250 rfl (lv_at hl 0 rfl) ?_
  refine lv_iconst (pc := 1251) (v := 3) hx hb d_law_law_1251 (by decide) ?_
  refine lv_iadd (pc := 1252) hx hb d_law_law_1252 ?_
  refine k_cst (v := 3) (by decide) ?_
  refine va_sld (pc := 1253) hx hb hX hbl hbA hS (by unfold vp_in; decide) d_law_law_1253 ?_
  refine k_cst (v := v3) hv3 ?_
  refine k_goI (gr := []) (k_rV (pc := 1254) (As := [.int (nI j), .int v2, .int v3]) (rest := [.int ((-1))]) X (c_Mo_dots_z2 l D kA h2 j v2 v3 qm hj H.size) rfl wm_3952 wm_9 wm_3949 wm_3950 wm_3951 3 (by decide +kernel) ⟨Nat.le_of_ble_eq_true rfl, Nat.le_of_ble_eq_true rfl⟩ rfl rfl (va_recv hK hP (ci := 13) (q0 := 0) rfl rfl) (k_pre hN hK hP hD [0, 1] [] 2 rfl (by decide) rfl) rfl hl.1 rfl (Nat.le_of_ble_eq_true rfl) d_law_law_1254 ⟨Nat.le_of_ble_eq_true rfl, Nat.le_of_ble_eq_true rfl⟩) hP hD hS hA [0, 1] [] 2 rfl (by decide) rfl rfl (fun r3 u4 H locs hu4 hP hD hS => ?_)
  obtain ⟨hP, hD⟩ := k_left hP hD
  subst hu4
  have hP : va_P D classes (cat []) H := hP
  have hD : va_D A (cat []) := hD
  refine lv_icmp_eq (pc := 1257) (tgt := 1295) hx hb d_law_law_1257 (by decide) (fun _ => ?_) (fun c1 => absurd (by decide) c1)
  rw [hAe] at hS
  exact law_exit l C0 (Nat.le_of_ble_eq_true rfl) (Nat.le_of_ble_eq_true rfl) hS hl
set_option maxRecDepth 100000 in
set_option maxHeartbeats 4000000 in
/-- DrawingHouse.dot(II)I -/
theorem c_Ho_dot_z1 (l : Launch) (D : va_G) (kA : Nat → ClassId) (a0 : Nat) (v1 : Int32) (v2 : Int32) (a1 : Nat) (a2 : Nat) (a3 : Nat) (a4 : Nat) (a5 : Nat) (a6 : Nat) (a7 : Nat) (a8 : Nat) (a9 : Nat) (a10 : Nat) : Ci l y_Ho_dot z_Ho_dot { frames := 0, cells := 0, slots := 0, locals := 0 } D classes (TY kA) [.ref a0, .int v1, .int v2] [[(a0, .inr (12, [.ref a1, .ref a2, .ref a3, .ref a4, .ref a5, .ref a6, .ref a7, .int 0, .int ((-1)), .ref a8, .ref a9, .int 0, .int 0, .ref a10, .int 0, .int 0, .null, .null, .null, .null, .null]))]] (fun r (_ : List va_W) => r = (-1)) (fun u => u) 0 0 := by
  intro sz
  refine k_met (cc := b_Ho_dot) (maxL := 3) (ret := (some .int)) (by decide) rfl (Nat.le_of_ble_eq_true rfl) (fun p e s m below meth c ls X hl hB => ?_)
  obtain ⟨hsz, hP, hK, hD0, hN⟩ := hB
  subst hsz
  have hD := hD0.self (sz := s.heap.size)
  generalize hAe : va_A (cat [[(a0, .inr (12, [.ref a1, .ref a2, .ref a3, .ref a4, .ref a5, .ref a6, .ref a7, .int 0, .int ((-1)), .ref a8, .ref a9, .int 0, .int 0, .ref a10, .int 0, .int 0, .null, .null, .null, .null, .null]))]]) s.heap.size = A at hD ⊢
  have hA : ∀ q : Nat, s.heap.size ≤ q → A q := fun q h => by rw [← hAe]; exact Or.inr h
  have hS : va_S A s.heap s.heap [] := va_S.rf
  obtain ⟨hx, hb, hml, hown, hts, hr, hlk, hnm⟩ := id X
  have hl : lv_has ls 3 [(0, .ref a0), (1, .int v1), (2, .int v2)] := hl
  have hP : va_P D classes (cat [[(a0, .inr (12, [.ref a1, .ref a2, .ref a3, .ref a4, .ref a5, .ref a6, .ref a7, .int 0, .int ((-1)), .ref a8, .ref a9, .int 0, .int 0, .ref a10, .int 0, .int 0, .null, .null, .null, .null, .null]))]]) s.heap := hP
  have hK : va_K D classes (TY kA) s := hK
  refine lv_iload_n (pc := 0) hx hb d_Ho_dot_0 rfl (lv_at hl 1 rfl) ?_
  refine lv_if_lt (pc := 1) (tgt := 24) hx hb d_Ho_dot_1 (by decide) (fun ck1 => ?_) (fun ck1 => ?_)
  · refine lv_iconst (pc := 24) (v := -1) hx hb d_Ho_dot_24 (by decide) ?_
    refine W.widen (k := 0) (n := 0) (Nat.le_of_ble_eq_true rfl) (Nat.le_of_ble_eq_true rfl) ?_
    exact W.iret (v := (-1)) hx hb hr (fun t ht hW => ⟨⟨(-1), [[(a0, .inr (12, [.ref a1, .ref a2, .ref a3, .ref a4, .ref a5, .ref a6, .ref a7, .int 0, .int ((-1)), .ref a8, .ref a9, .int 0, .int 0, .ref a10, .int 0, .int 0, .null, .null, .null, .null, .null]))]], rfl, rfl, by rw [ht]; exact hP, va_K.moved hW.alike hK, hD⟩, hS.F ht⟩) hS.2.2 d_Ho_dot_25
  · refine lv_iload_n (pc := 4) hx hb d_Ho_dot_4 rfl (lv_at hl 1 rfl) ?_
    refine lv_aload_n (pc := 5) hx hb d_Ho_dot_5 rfl (lv_at hl 0 rfl) ?_
    refine k_get (pc := 6) X hK hP 0 rfl rfl i_Ho 14 (by decide) wm_569 rfl rfl d_Ho_dot_6 ?_
    refine lv_icmp_ge (pc := 9) (tgt := 24) hx hb d_Ho_dot_9 (by decide) (fun c1 => ?_) (fun c1 => absurd (Int32.not_lt.mp ck1) c1)
    refine lv_iconst (pc := 24) (v := -1) hx hb d_Ho_dot_24 (by decide) ?_
    refine W.widen (k := 0) (n := 0) (Nat.le_of_ble_eq_true rfl) (Nat.le_of_ble_eq_true rfl) ?_
    exact W.iret (v := (-1)) hx hb hr (fun t ht hW => ⟨⟨(-1), [[(a0, .inr (12, [.ref a1, .ref a2, .ref a3, .ref a4, .ref a5, .ref a6, .ref a7, .int 0, .int ((-1)), .ref a8, .ref a9, .int 0, .int 0, .ref a10, .int 0, .int 0, .null, .null, .null, .null, .null]))]], rfl, rfl, by rw [ht]; exact hP, va_K.moved hW.alike hK, hD⟩, hS.F ht⟩) hS.2.2 d_Ho_dot_25
set_option maxRecDepth 100000 in
set_option maxHeartbeats 4000000 in
/-- DrawingHouseModel.dot(II)I -/
theorem c_Mo_dot_z1 (l : Launch) (D : va_G) (kA : Nat → ClassId) (a0 : Nat) (v1 : Int32) (v2 : Int32) (qm : Nat → Nat) : Ci l y_Mo_dot z_Mo_dot { frames := 1, cells := 0, slots := 0, locals := 22 } D classes (TY kA) [.ref a0, .int v1, .int v2] [[(a0, .inr (13, mF qm x0Mo y0Mo))]] (fun r (_ : List va_W) => r = (-1)) (fun u => u) 0 0 := by
  intro sz
  refine k_met (cc := b_Mo_dot) (maxL := 3) (ret := (some .int)) (by decide) rfl (Nat.le_of_ble_eq_true rfl) (fun p e s m below meth c ls X hl hB => ?_)
  obtain ⟨hsz, hP, hK, hD0, hN⟩ := hB
  subst hsz
  have hD := hD0.self (sz := s.heap.size)
  generalize hAe : va_A (cat [[(a0, .inr (13, mF qm x0Mo y0Mo))]]) s.heap.size = A at hD ⊢
  have hA : ∀ q : Nat, s.heap.size ≤ q → A q := fun q h => by rw [← hAe]; exact Or.inr h
  have hS : va_S A s.heap s.heap [] := va_S.rf
  obtain ⟨hx, hb, hml, hown, hts, hr, hlk, hnm⟩ := id X
  have hl : lv_has ls 3 [(0, .ref a0), (1, .int v1), (2, .int v2)] := hl
  have hP : va_P D classes (cat [[(a0, .inr (13, mF qm x0Mo y0Mo))]]) s.heap := hP
  have hK : va_K D classes (TY kA) s := hK
  refine lv_iload_n (pc := 0) hx hb d_Mo_dot_0 rfl (lv_at hl 1 rfl) ?_
  refine lv_iconst (pc := 1) (v := 0) hx hb d_Mo_dot_1 (by decide) ?_
  refine lv_aload_n (pc := 2) hx hb d_Mo_dot_2 rfl (lv_at hl 0 rfl) ?_
  refine k_get (pc := 3) (v := .int 0) X hK hP 0 rfl rfl i_Mo 173 (by decide) wm_2605 rfl rfl d_Mo_dot_3 ?_
  refine lv_iconst (pc := 6) (v := 1) hx hb d_Mo_dot_6 (by decide) ?_
  refine lv_isub (pc := 7) hx hb d_Mo_dot_7 ?_
  refine k_cst (v := (-1)) (by decide) ?_
  refine k_goI (gr := [[(a0, .inr (13, mF qm x0Mo y0Mo))]]) (k_rS (pc := 8) (As := [.int v1, .int 0, .int ((-1))]) (rest := []) X (c_Mo_in_z10 l D kA v1 s.heap.size) rfl wm_2971 wm_9 wm_2969 wm_2970 3 (by decide +kernel) ⟨Nat.le_of_ble_eq_true rfl, Nat.le_of_ble_eq_true rfl⟩ rfl rfl (k_pre hN hK hP hD [] [0] 1 rfl (by decide) rfl) rfl hl.1 rfl (Nat.le_of_ble_eq_true rfl) d_Mo_dot_8 ⟨Nat.le_of_ble_eq_true rfl, Nat.le_of_ble_eq_true rfl⟩) hP hD hS hA [] [0] 1 rfl (by decide) rfl rfl (fun r1 u2 H locs hu2 hP hD hS => ?_)
  subst hu2
  have hP : va_P D classes (cat [[(a0, .inr (13, mF qm x0Mo y0Mo))]]) H := hP
  have hD : va_D A (cat [[(a0, .inr (13, mF qm x0Mo y0Mo))]]) := hD
  refine lv_if_eq (pc := 11) (tgt := 42) hx hb d_Mo_dot_11 (by decide) (fun c1 => ?_) (fun c1 => absurd (by decide) c1)
  refine lv_iconst (pc := 42) (v := -1) hx hb d_Mo_dot_42 (by decide) ?_
  refine W.widen (k := 0) (n := 0) (Nat.le_of_ble_eq_true rfl) (Nat.le_of_ble_eq_true rfl) ?_
  exact W.iret (v := (-1)) hx hb hr (fun t ht hW => ⟨⟨(-1), [[(a0, .inr (13, mF qm x0Mo y0Mo))]], rfl, rfl, by rw [ht]; exact hP, va_K.moved hW.alike hK, hD⟩, hS.F ht⟩) hS.2.2 d_Mo_dot_43
set_option maxRecDepth 100000 in
set_option maxHeartbeats 4000000 in
/-- dot, a fresh house -/
theorem lf_dot_1 {p : Program} {e : Env} {s : State} {m : MethodId} {below : List Frame} {meth : Method} {c : Code} (l : Launch) {b : Nat} {xs : Nat → Int32} (C0 : lw_At p s m meth c b 6 xs) {D : va_G} {kA : Nat → ClassId} (h : Nat) (h2 : Nat) (q : Nat → Nat) (qm : Nat → Nat) (v1 : Int32) (v2 : Int32) (hv1 : xs 1 = v1) (hv2 : xs 2 = v2) {H : Heap} {locs : List Loc} {ls : Array Slot} (hK : va_K D classes (TY kA) s) (hN : nst s) (hP : va_P D classes (cat [[(h, .inr (12, [.ref (q 0), .ref (q 1), .ref (q 2), .ref (q 3), .ref (q 4), .ref (q 5), .ref (q 6), .int 0, .int ((-1)), .ref (q 9), .ref (q 10), .int 0, .int 0, .ref (q 13), .int 0, .int 0, .null, .null, .null, .null, .null]))], [(h2, .inr (13, mF qm x0Mo y0Mo))]]) H) (hD : va_D (fun q : Nat => s.heap.size ≤ q) (cat [[(h, .inr (12, [.ref (q 0), .ref (q 1), .ref (q 2), .ref (q 3), .ref (q 4), .ref (q 5), .ref (q 6), .int 0, .int ((-1)), .ref (q 9), .ref (q 10), .int 0, .int 0, .ref (q 13), .int 0, .int 0, .null, .null, .null, .null, .null]))], [(h2, .inr (13, mF qm x0Mo y0Mo))]])) (hS : va_S (fun q : Nat => s.heap.size ≤ q) s.heap H locs) (hl : lv_has ls 4 [(3, .int 0), (2, .ref h2), (1, .ref h), (0, .ref b)]) : W p l e room_1 s m #[Value.ref b] below meth c H locs 368 365796 (lw_Z below #[Value.ref b] s) (F0 m 1262 ls []) := by
  obtain ⟨hx, hb, hr, hml, hown, hts0, hX, hbl, hlocks, hgv⟩ := id C0
  have hts : ∀ w ∈ lw_g, w.before #[Value.ref b] s = true := fun w h => hts0 w (lw_gt h)
  have X : cx p s m #[Value.ref b] meth c b_law_law 4 ret "DrawingHouseLaw" meth.name := ⟨hx, hb, hml, hown, hts, hr, hlocks, rfl⟩
  obtain ⟨A, hAe⟩ : ∃ A : Nat → Prop, A = fun q : Nat => s.heap.size ≤ q := ⟨_, rfl⟩
  have hA : ∀ q : Nat, s.heap.size ≤ q → A q := fun q h => by rw [hAe]; exact h
  have hbA : ¬ A b := by rw [hAe]; exact Nat.not_le.mpr hbl
  rw [← hAe] at hD hS
  refine lv_aload_n (pc := 1262) hx hb d_law_law_1262 rfl (lv_at hl 2 rfl) ?_
  refine lv_aload_n (pc := 1263) hx hb d_law_law_1263 rfl (lv_at hl 3 rfl) ?_
  refine lv_iload_n (pc := 1264) hx hb d_law_law_1264 rfl (lv_at hl 0 rfl) ?_
  refine lv_iconst (pc := 1265) (v := 1) hx hb d_law_law_1265 (by decide) ?_
  refine lv_iadd (pc := 1266) hx hb d_law_law_1266 ?_
  refine k_cst (v := 1) (by decide) ?_
  refine va_sld (pc := 1267) hx hb hX hbl hbA hS (by unfold vp_in; decide) d_law_law_1267 ?_
  refine k_cst (v := v1) hv1 ?_
  refine lv_aload_n (pc := 1268) hx hb d_law_law_1268 rfl (lv_at hl 3 rfl) ?_
  refine lv_iload_n (pc := 1269) hx hb d_law_law_1269 rfl (lv_at hl 0 rfl) ?_
  refine lv_iconst (pc := 1270) (v := 2) hx hb d_law_law_1270 (by decide) ?_
  refine lv_iadd (pc := 1271) hx hb d_law_law_1271 ?_
  refine k_cst (v := 2) (by decide) ?_
  refine va_sld (pc := 1272) hx hb hX hbl hbA hS (by unfold vp_in; decide) d_law_law_1272 ?_
  refine k_cst (v := v2) hv2 ?_
  refine k_goI (gr := [[(h2, .inr (13, mF qm x0Mo y0Mo))]]) (k_rV (pc := 1273) (As := [.int v1, .int v2]) (rest := []) X (c_Ho_dot_z1 l D kA h v1 v2 (q 0) (q 1) (q 2) (q 3) (q 4) (q 5) (q 6) (q 9) (q 10) (q 13) H.size) rfl wm_2408 wm_1 wm_2405 wm_2406 wm_2407 2 (by decide +kernel) ⟨Nat.le_of_ble_eq_true rfl, Nat.le_of_ble_eq_true rfl⟩ rfl rfl (va_recv hK hP (ci := 12) (q0 := 0) rfl rfl) (k_pre hN hK hP hD [0] [1] 2 rfl (by decide) rfl) rfl hl.1 rfl (Nat.le_of_ble_eq_true rfl) d_law_law_1273 ⟨Nat.le_of_ble_eq_true rfl, Nat.le_of_ble_eq_true rfl⟩) hP hD hS hA [0] [1] 2 rfl (by decide) rfl rfl (fun r1 u2 H locs hu2 hP hD hS => ?_)
  obtain ⟨hP, hD⟩ := k_left hP hD
  subst hu2
  have hP : va_P D classes (cat [[(h2, .inr (13, mF qm x0Mo y0Mo))]]) H := hP
  have hD : va_D A (cat [[(h2, .inr (13, mF qm x0Mo y0Mo))]]) := hD
  refine lv_aload_n (pc := 1276) hx hb d_law_law_1276 rfl (lv_at hl 1 rfl) ?_
  refine lv_aload_n (pc := 1277) hx hb d_law_law_1277 rfl (lv_at hl 3 rfl) ?_
  refine lv_iload_n (pc := 1278) hx hb d_law_law_1278 rfl (lv_at hl 0 rfl) ?_
  refine lv_iconst (pc := 1279) (v := 1) hx hb d_law_law_1279 (by decide) ?_
  refine lv_iadd (pc := 1280) hx hb d_law_law_1280 ?_
  refine k_cst (v := 1) (by decide) ?_
  refine va_sld (pc := 1281) hx hb hX hbl hbA hS (by unfold vp_in; decide) d_law_law_1281 ?_
  refine k_cst (v := v1) hv1 ?_
  refine lv_aload_n (pc := 1282) hx hb d_law_law_1282 rfl (lv_at hl 3 rfl) ?_
  refine lv_iload_n (pc := 1283) hx hb d_law_law_1283 rfl (lv_at hl 0 rfl) ?_
  refine lv_iconst (pc := 1284) (v := 2) hx hb d_law_law_1284 (by decide) ?_
  refine lv_iadd (pc := 1285) hx hb d_law_law_1285 ?_
  refine k_cst (v := 2) (by decide) ?_
  refine va_sld (pc := 1286) hx hb hX hbl hbA hS (by unfold vp_in; decide) d_law_law_1286 ?_
  refine k_cst (v := v2) hv2 ?_
  refine k_goI (gr := []) (k_rV (pc := 1287) (As := [.int v1, .int v2]) (rest := [.int ((-1))]) X (c_Mo_dot_z1 l D kA h2 v1 v2 qm H.size) rfl wm_3968 wm_9 wm_3965 wm_3966 wm_3967 2 (by decide +kernel) ⟨Nat.le_of_ble_eq_true rfl, Nat.le_of_ble_eq_true rfl⟩ rfl rfl (va_recv hK hP (ci := 13) (q0 := 0) rfl rfl) (k_pre hN hK hP hD [0] [] 1 rfl (by decide) rfl) rfl hl.1 rfl (Nat.le_of_ble_eq_true rfl) d_law_law_1287 ⟨Nat.le_of_ble_eq_true rfl, Nat.le_of_ble_eq_true rfl⟩) hP hD hS hA [0] [] 1 rfl (by decide) rfl rfl (fun r3 u4 H locs hu4 hP hD hS => ?_)
  obtain ⟨hP, hD⟩ := k_left hP hD
  subst hu4
  have hP : va_P D classes (cat []) H := hP
  have hD : va_D A (cat []) := hD
  refine lv_icmp_eq (pc := 1290) (tgt := 1295) hx hb d_law_law_1290 (by decide) (fun _ => ?_) (fun c1 => absurd (by decide) c1)
  rw [hAe] at hS
  exact law_exit l C0 (Nat.le_of_ble_eq_true rfl) (Nat.le_of_ble_eq_true rfl) hS hl
set_option maxRecDepth 100000 in
set_option maxHeartbeats 8000000 in
/-- shade: the case of the law -/
theorem op_shade {p : Program} {e : Env} {s : State} {m : MethodId} {below : List Frame} {meth : Method} {c : Code} (l : Launch) {b : Nat} {xs : Nat → Int32} (C0 : lw_At p s m meth c b 6 xs) {D : va_G} {kA : Nat → ClassId} (h h2 : Nat) (u1 : Nat → Nat → Nat) (qm : Nat → Nat) (v1 : Int32) (v2 : Int32) (v3 : Int32) (v4 : Int32) (hv1 : xs 1 = v1) (hv2 : xs 2 = v2) (hv3 : xs 3 = v3) (hv4 : xs 4 = v4) {H : Heap} {locs : List Loc} {ls : Array Slot} (hK : va_K D classes (TY kA) s) (hN : nst s) (hpost : u1 50 1 = u1 0 4 ∧ u1 50 3 = u1 0 5 ∧ u1 50 2 = u1 1 4 ∧ u1 50 4 = u1 3 1 ∧ u1 8 0 = u1 50 5 ∧ u1 12 0 = u1 50 9 ∧ u1 16 0 = u1 50 13 ∧ u1 20 0 = u1 50 17) (hP : va_P D classes (cat [cat (sHo kA h u1), cat (sMo kA h2 qm)]) H) (hD : va_D (fun q : Nat => s.heap.size ≤ q) (cat [cat (sHo kA h u1), cat (sMo kA h2 qm)])) (hS : va_S (fun q : Nat => s.heap.size ≤ q) s.heap H locs) (hl : lv_has ls 4 [(3, .int 0), (2, .ref h2), (1, .ref h), (0, .ref b)]) : W p l e room_1 s m #[Value.ref b] below meth c H locs 368 365796 (lw_Z below #[Value.ref b] s) (F0 m 1110 ls []) := by
  rcases place_no v1 with hg | ⟨j, hj, ej⟩
  · have hgM : sp_Mo_isPlace v1 = 0 := by rw [← place_iff]; exact hg
    obtain ⟨q, qg, qf, qn, qd, qr, qs, qe, qp, g, hP, hD⟩ := big (j := 0) (by decide) hpost hP hD
    obtain ⟨hP, hD⟩ := k_drop (sg := bH kA h q qg qf qn qd qr qs qe qp g 0 ++ bM kA h2 qm) (gc := [[(h, .inr (12, [.ref (q 0), .ref (q 1), .ref (q 2), .ref (q 3), .ref (q 4), .ref (q 5), .ref (q 6), .int 0, .int ((-1)), .ref (q 9), .ref (q 10), .int 0, .int 0, .ref (q 13), .int 0, .int 0, .null, .null, .null, .null, .null]))], [(h2, .inr (13, mF qm x0Mo y0Mo))]]) hP hD [1, 2, 3, 4, 5, 6, 7, 8, 9, 10, 11, 12, 13, 14, 15, 16, 17, 18, 19, 20, 21, 22, 23, 24, 25, 26, 27, 28, 29, 30, 31, 32, 33, 34, 35, 36, 37, 38, 39, 40, 41, 42, 43, 44, 45, 46, 47, 48, 49, 50, 51, 52, 53, 54, 55, 56, 57, 58, 59, 60, 61, 62, 63, 64, 65, 66, 67, 68, 69, 70, 71, 72, 73, 74, 75, 76, 77, 78, 79, 80, 81, 82, 83, 84, 85, 86, 87, 88, 89, 90, 91, 92, 93, 94, 95, 96, 97, 98, 100, 101, 102, 103, 104, 105, 106, 107, 108, 109, 110, 111, 112, 113, 114, 115, 116, 117, 118, 119, 120, 121, 122, 123, 124, 125, 126, 127, 128, 129, 130, 131, 132, 133, 134, 135, 136, 137, 138, 139, 140, 141, 142, 143, 144, 145, 146, 147, 148, 149, 150, 151, 152, 153, 154, 155, 156, 157, 158, 159, 160, 161, 162, 163, 164, 165, 166, 167, 168, 169, 170, 171, 172, 173, 174, 175, 176, 177, 178, 179, 180, 181, 182, 183, 184, 185, 186, 187, 188, 189, 190, 191, 192, 193, 194, 195, 196, 197, 198, 199, 200, 201, 202, 203, 204, 205, 206, 207, 208, 209, 210, 211, 212, 213, 214, 215, 216, 217] [0, 99] 218 rfl (by decide +kernel) rfl
    exact lf_shade_1 l C0 h h2 q qm v1 v2 v3 v4 hg hgM hv1 hv2 hv3 hv4 hK hN hP hD hS hl
  · subst ej
    obtain ⟨q, qg, qf, qn, qd, qr, qs, qe, qp, g, hP, hD⟩ := big (j := j) hj hpost hP hD
    obtain ⟨hP, hD⟩ := k_drop (sg := bH kA h q qg qf qn qd qr qs qe qp g j ++ bM kA h2 qm) (gc := [[(h, .inr (12, [.ref (q 0), .ref (q 1), .ref (q 2), .ref (q 3), .ref (q 4), .ref (q 5), .ref (q 6), .int 0, .int ((-1)), .ref (q 9), .ref (q 10), .int 0, .int 0, .ref (q 13), .int 0, .int 0, .null, .null, .null, .null, .null]))], [(q 0, .inl (kA 4, 4, .inr (.inr (.inr (.inr (rr (g 0)))))))], [(g 0 j, .inr (3, [.int 0, .int 0, .int 1, .ref (qg 3), .ref (qg 4), .ref (qg 5), .ref (qg 6), .ref (qg 7), .ref (qg 8), .ref (qg 9), .ref (qg 10), .ref (qg 11), .ref (qg 12), .ref (qg 13), .ref (qg 14), .ref (qg 15), .null, .int 0, .int 0]))], [(h2, .inr (13, mF qm x0Mo y0Mo))], [(qm 3, .inl (kA 0, 4, .inl (fun _ => 0)))], [(qm 2, .inl (kA 0, 66836, .inl all0))]]) hP hD [2, 3, 4, 5, 6, 7, 8, 10, 11, 12, 13, 14, 15, 16, 17, 18, 19, 20, 21, 22, 23, 24, 25, 26, 27, 28, 29, 30, 31, 32, 33, 34, 35, 36, 37, 38, 39, 40, 41, 42, 43, 44, 45, 46, 47, 48, 49, 50, 51, 52, 53, 54, 55, 56, 57, 58, 59, 60, 61, 62, 63, 64, 65, 66, 67, 68, 69, 70, 71, 72, 73, 74, 75, 76, 77, 78, 79, 80, 81, 82, 83, 84, 85, 86, 87, 88, 89, 90, 91, 92, 93, 94, 95, 96, 97, 98, 101, 102, 103, 104, 105, 107, 108, 109, 110, 111, 112, 113, 114, 115, 116, 117, 118, 119, 120, 121, 122, 123, 124, 125, 126, 127, 128, 129, 130, 131, 132, 133, 134, 135, 136, 137, 138, 139, 140, 141, 142, 143, 144, 145, 146, 147, 148, 149, 150, 151, 152, 153, 154, 155, 156, 157, 158, 159, 160, 161, 162, 163, 164, 165, 166, 167, 168, 169, 170, 171, 172, 173, 174, 175, 176, 177, 178, 179, 180, 181, 182, 183, 184, 185, 186, 187, 188, 189, 190, 191, 192, 193, 194, 195, 196, 197, 198, 199, 200, 201, 202, 203, 204, 205, 206, 207, 208, 209, 210, 211, 212, 213, 214, 215, 216, 217] [0, 1, 9, 99, 106, 100] 218 rfl (by decide +kernel) rfl
    exact lf_shade_2 l C0 h h2 q qg qm g j v2 v3 v4 hj hv1 hv2 hv3 hv4 hK hN hP hD hS hl
set_option maxRecDepth 100000 in
set_option maxHeartbeats 8000000 in
/-- text: the case of the law -/
theorem op_text {p : Program} {e : Env} {s : State} {m : MethodId} {below : List Frame} {meth : Method} {c : Code} (l : Launch) {b : Nat} {xs : Nat → Int32} (C0 : lw_At p s m meth c b 6 xs) {D : va_G} {kA : Nat → ClassId} (h h2 : Nat) (u1 : Nat → Nat → Nat) (qm : Nat → Nat) (v1 : Int32) (v2 : Int32) (hv1 : xs 1 = v1) (hv2 : xs 2 = v2) {H : Heap} {locs : List Loc} {ls : Array Slot} (hK : va_K D classes (TY kA) s) (hN : nst s) (hpost : u1 50 1 = u1 0 4 ∧ u1 50 3 = u1 0 5 ∧ u1 50 2 = u1 1 4 ∧ u1 50 4 = u1 3 1 ∧ u1 8 0 = u1 50 5 ∧ u1 12 0 = u1 50 9 ∧ u1 16 0 = u1 50 13 ∧ u1 20 0 = u1 50 17) (hP : va_P D classes (cat [cat (sHo kA h u1), cat (sMo kA h2 qm)]) H) (hD : va_D (fun q : Nat => s.heap.size ≤ q) (cat [cat (sHo kA h u1), cat (sMo kA h2 qm)])) (hS : va_S (fun q : Nat => s.heap.size ≤ q) s.heap H locs) (hl : lv_has ls 4 [(3, .int 0), (2, .ref h2), (1, .ref h), (0, .ref b)]) : W p l e room_1 s m #[Value.ref b] below meth c H locs 368 365796 (lw_Z below #[Value.ref b] s) (F0 m 1163 ls []) := by
  rcases place_no v1 with hg | ⟨j, hj, ej⟩
  · have hgM : sp_Mo_isPlace v1 = 0 := by rw [← place_iff]; exact hg
    obtain ⟨q, qg, qf, qn, qd, qr, qs, qe, qp, g, hP, hD⟩ := big (j := 0) (by decide) hpost hP hD
    obtain ⟨hP, hD⟩ := k_drop (sg := bH kA h q qg qf qn qd qr qs qe qp g 0 ++ bM kA h2 qm) (gc := [[(h, .inr (12, [.ref (q 0), .ref (q 1), .ref (q 2), .ref (q 3), .ref (q 4), .ref (q 5), .ref (q 6), .int 0, .int ((-1)), .ref (q 9), .ref (q 10), .int 0, .int 0, .ref (q 13), .int 0, .int 0, .null, .null, .null, .null, .null]))], [(h2, .inr (13, mF qm x0Mo y0Mo))]]) hP hD [1, 2, 3, 4, 5, 6, 7, 8, 9, 10, 11, 12, 13, 14, 15, 16, 17, 18, 19, 20, 21, 22, 23, 24, 25, 26, 27, 28, 29, 30, 31, 32, 33, 34, 35, 36, 37, 38, 39, 40, 41, 42, 43, 44, 45, 46, 47, 48, 49, 50, 51, 52, 53, 54, 55, 56, 57, 58, 59, 60, 61, 62, 63, 64, 65, 66, 67, 68, 69, 70, 71, 72, 73, 74, 75, 76, 77, 78, 79, 80, 81, 82, 83, 84, 85, 86, 87, 88, 89, 90, 91, 92, 93, 94, 95, 96, 97, 98, 100, 101, 102, 103, 104, 105, 106, 107, 108, 109, 110, 111, 112, 113, 114, 115, 116, 117, 118, 119, 120, 121, 122, 123, 124, 125, 126, 127, 128, 129, 130, 131, 132, 133, 134, 135, 136, 137, 138, 139, 140, 141, 142, 143, 144, 145, 146, 147, 148, 149, 150, 151, 152, 153, 154, 155, 156, 157, 158, 159, 160, 161, 162, 163, 164, 165, 166, 167, 168, 169, 170, 171, 172, 173, 174, 175, 176, 177, 178, 179, 180, 181, 182, 183, 184, 185, 186, 187, 188, 189, 190, 191, 192, 193, 194, 195, 196, 197, 198, 199, 200, 201, 202, 203, 204, 205, 206, 207, 208, 209, 210, 211, 212, 213, 214, 215, 216, 217] [0, 99] 218 rfl (by decide +kernel) rfl
    exact lf_text_1 l C0 h h2 q qm v1 v2 hg hgM hv1 hv2 hK hN hP hD hS hl
  · subst ej
    rcases tri2 v2 with hn2 | ⟨hp2, hb2, hc2⟩ | ee2 | ee2
    · obtain ⟨q, qg, qf, qn, qd, qr, qs, qe, qp, g, hP, hD⟩ := big (j := j) hj hpost hP hD
      obtain ⟨hP, hD⟩ := k_drop (sg := bH kA h q qg qf qn qd qr qs qe qp g j ++ bM kA h2 qm) (gc := [[(h, .inr (12, [.ref (q 0), .ref (q 1), .ref (q 2), .ref (q 3), .ref (q 4), .ref (q 5), .ref (q 6), .int 0, .int ((-1)), .ref (q 9), .ref (q 10), .int 0, .int 0, .ref (q 13), .int 0, .int 0, .null, .null, .null, .null, .null]))], [(h2, .inr (13, mF qm x0Mo y0Mo))]]) hP hD [1, 2, 3, 4, 5, 6, 7, 8, 9, 10, 11, 12, 13, 14, 15, 16, 17, 18, 19, 20, 21, 22, 23, 24, 25, 26, 27, 28, 29, 30, 31, 32, 33, 34, 35, 36, 37, 38, 39, 40, 41, 42, 43, 44, 45, 46, 47, 48, 49, 50, 51, 52, 53, 54, 55, 56, 57, 58, 59, 60, 61, 62, 63, 64, 65, 66, 67, 68, 69, 70, 71, 72, 73, 74, 75, 76, 77, 78, 79, 80, 81, 82, 83, 84, 85, 86, 87, 88, 89, 90, 91, 92, 93, 94, 95, 96, 97, 98, 100, 101, 102, 103, 104, 105, 106, 107, 108, 109, 110, 111, 112, 113, 114, 115, 116, 117, 118, 119, 120, 121, 122, 123, 124, 125, 126, 127, 128, 129, 130, 131, 132, 133, 134, 135, 136, 137, 138, 139, 140, 141, 142, 143, 144, 145, 146, 147, 148, 149, 150, 151, 152, 153, 154, 155, 156, 157, 158, 159, 160, 161, 162, 163, 164, 165, 166, 167, 168, 169, 170, 171, 172, 173, 174, 175, 176, 177, 178, 179, 180, 181, 182, 183, 184, 185, 186, 187, 188, 189, 190, 191, 192, 193, 194, 195, 196, 197, 198, 199, 200, 201, 202, 203, 204, 205, 206, 207, 208, 209, 210, 211, 212, 213, 214, 215, 216, 217] [0, 99] 218 rfl (by decide +kernel) rfl
      exact lf_text_2 l C0 h h2 q qm j v2 hj hn2 hv1 hv2 hK hN hP hD hS hl
    · obtain ⟨q, qg, qf, qn, qd, qr, qs, qe, qp, g, hP, hD⟩ := big (j := j) hj hpost hP hD
      obtain ⟨hP, hD⟩ := k_drop (sg := bH kA h q qg qf qn qd qr qs qe qp g j ++ bM kA h2 qm) (gc := [[(h, .inr (12, [.ref (q 0), .ref (q 1), .ref (q 2), .ref (q 3), .ref (q 4), .ref (q 5), .ref (q 6), .int 0, .int ((-1)), .ref (q 9), .ref (q 10), .int 0, .int 0, .ref (q 13), .int 0, .int 0, .null, .null, .null, .null, .null]))], [(h2, .inr (13, mF qm x0Mo y0Mo))]]) hP hD [1, 2, 3, 4, 5, 6, 7, 8, 9, 10, 11, 12, 13, 14, 15, 16, 17, 18, 19, 20, 21, 22, 23, 24, 25, 26, 27, 28, 29, 30, 31, 32, 33, 34, 35, 36, 37, 38, 39, 40, 41, 42, 43, 44, 45, 46, 47, 48, 49, 50, 51, 52, 53, 54, 55, 56, 57, 58, 59, 60, 61, 62, 63, 64, 65, 66, 67, 68, 69, 70, 71, 72, 73, 74, 75, 76, 77, 78, 79, 80, 81, 82, 83, 84, 85, 86, 87, 88, 89, 90, 91, 92, 93, 94, 95, 96, 97, 98, 100, 101, 102, 103, 104, 105, 106, 107, 108, 109, 110, 111, 112, 113, 114, 115, 116, 117, 118, 119, 120, 121, 122, 123, 124, 125, 126, 127, 128, 129, 130, 131, 132, 133, 134, 135, 136, 137, 138, 139, 140, 141, 142, 143, 144, 145, 146, 147, 148, 149, 150, 151, 152, 153, 154, 155, 156, 157, 158, 159, 160, 161, 162, 163, 164, 165, 166, 167, 168, 169, 170, 171, 172, 173, 174, 175, 176, 177, 178, 179, 180, 181, 182, 183, 184, 185, 186, 187, 188, 189, 190, 191, 192, 193, 194, 195, 196, 197, 198, 199, 200, 201, 202, 203, 204, 205, 206, 207, 208, 209, 210, 211, 212, 213, 214, 215, 216, 217] [0, 99] 218 rfl (by decide +kernel) rfl
      exact lf_text_3 l C0 h h2 q qm j v2 hj hp2 hb2 hc2 hv1 hv2 hK hN hP hD hS hl
    · subst ee2
      obtain ⟨q, qg, qf, qn, qd, qr, qs, qe, qp, g, hP, hD⟩ := big (j := j) hj hpost hP hD
      obtain ⟨hP, hD⟩ := k_drop (sg := bH kA h q qg qf qn qd qr qs qe qp g j ++ bM kA h2 qm) (gc := [[(h, .inr (12, [.ref (q 0), .ref (q 1), .ref (q 2), .ref (q 3), .ref (q 4), .ref (q 5), .ref (q 6), .int 0, .int ((-1)), .ref (q 9), .ref (q 10), .int 0, .int 0, .ref (q 13), .int 0, .int 0, .null, .null, .null, .null, .null]))], [(q 0, .inl (kA 4, 4, .inr (.inr (.inr (.inr (rr (g 0)))))))], [(g 0 j, .inr (3, [.int 0, .int 0, .int 1, .ref (qg 3), .ref (qg 4), .ref (qg 5), .ref (qg 6), .ref (qg 7), .ref (qg 8), .ref (qg 9), .ref (qg 10), .ref (qg 11), .ref (qg 12), .ref (qg 13), .ref (qg 14), .ref (qg 15), .null, .int 0, .int 0]))], [(h2, .inr (13, mF qm x0Mo y0Mo))], [(qm 3, .inl (kA 0, 4, .inl (fun _ => 0)))], [(qm 2, .inl (kA 0, 66836, .inl all0))]]) hP hD [2, 3, 4, 5, 6, 7, 8, 10, 11, 12, 13, 14, 15, 16, 17, 18, 19, 20, 21, 22, 23, 24, 25, 26, 27, 28, 29, 30, 31, 32, 33, 34, 35, 36, 37, 38, 39, 40, 41, 42, 43, 44, 45, 46, 47, 48, 49, 50, 51, 52, 53, 54, 55, 56, 57, 58, 59, 60, 61, 62, 63, 64, 65, 66, 67, 68, 69, 70, 71, 72, 73, 74, 75, 76, 77, 78, 79, 80, 81, 82, 83, 84, 85, 86, 87, 88, 89, 90, 91, 92, 93, 94, 95, 96, 97, 98, 101, 102, 103, 104, 105, 107, 108, 109, 110, 111, 112, 113, 114, 115, 116, 117, 118, 119, 120, 121, 122, 123, 124, 125, 126, 127, 128, 129, 130, 131, 132, 133, 134, 135, 136, 137, 138, 139, 140, 141, 142, 143, 144, 145, 146, 147, 148, 149, 150, 151, 152, 153, 154, 155, 156, 157, 158, 159, 160, 161, 162, 163, 164, 165, 166, 167, 168, 169, 170, 171, 172, 173, 174, 175, 176, 177, 178, 179, 180, 181, 182, 183, 184, 185, 186, 187, 188, 189, 190, 191, 192, 193, 194, 195, 196, 197, 198, 199, 200, 201, 202, 203, 204, 205, 206, 207, 208, 209, 210, 211, 212, 213, 214, 215, 216, 217] [0, 1, 9, 99, 106, 100] 218 rfl (by decide +kernel) rfl
      exact lf_text_4 l C0 h h2 q qg qm g j hj hv1 hv2 hK hN hP hD hS hl
    · subst ee2
      obtain ⟨q, qg, qf, qn, qd, qr, qs, qe, qp, g, hP, hD⟩ := big (j := j) hj hpost hP hD
      obtain ⟨hP, hD⟩ := k_drop (sg := bH kA h q qg qf qn qd qr qs qe qp g j ++ bM kA h2 qm) (gc := [[(h, .inr (12, [.ref (q 0), .ref (q 1), .ref (q 2), .ref (q 3), .ref (q 4), .ref (q 5), .ref (q 6), .int 0, .int ((-1)), .ref (q 9), .ref (q 10), .int 0, .int 0, .ref (q 13), .int 0, .int 0, .null, .null, .null, .null, .null]))], [(q 3, .inl (kA 7, 4, .inr (.inr (.inr (.inr (rr (g 3)))))))], [(g 3 j, .inr (0, [.ref (qd 0), .int ((-1)), .ref (qd 2), .ref (qd 3), .ref (qd 4), .ref (qd 5), .ref (qd 6), .int 0, .int 0, .int 0, .ref (qd 10), .ref (qd 11), .ref (qd 12), .ref (qd 13), .ref (qd 14), .ref (qd 15), .ref (qd 16), .int 0, .int 0, .int 0, .int 0]))], [(h2, .inr (13, mF qm x0Mo y0Mo))], [(qm 61, .inl (kA 0, 4, .inl (upd (upd (upd (upd (fun _ => 0) 0 (-1)) 1 (-1)) 2 (-1)) 3 (-1))))]]) hP hD [1, 2, 3, 5, 6, 7, 8, 9, 10, 11, 12, 13, 14, 15, 16, 17, 18, 19, 20, 21, 22, 23, 24, 25, 26, 27, 28, 29, 30, 31, 32, 33, 34, 35, 36, 37, 38, 39, 40, 41, 42, 43, 44, 45, 47, 48, 49, 50, 51, 52, 53, 54, 55, 56, 57, 58, 59, 60, 61, 62, 63, 64, 65, 66, 67, 68, 69, 70, 71, 72, 73, 74, 75, 76, 77, 78, 79, 80, 81, 82, 83, 84, 85, 86, 87, 88, 89, 90, 91, 92, 93, 94, 95, 96, 97, 98, 100, 101, 102, 103, 104, 105, 106, 107, 108, 109, 110, 111, 112, 113, 114, 115, 116, 117, 118, 119, 120, 121, 122, 123, 124, 125, 126, 127, 128, 129, 130, 131, 132, 133, 134, 135, 136, 137, 138, 140, 141, 142, 143, 144, 145, 146, 147, 148, 149, 150, 151, 152, 153, 154, 155, 156, 157, 158, 159, 160, 161, 162, 163, 164, 165, 166, 167, 168, 169, 170, 171, 172, 173, 174, 175, 176, 177, 178, 179, 180, 181, 182, 183, 184, 185, 186, 187, 188, 189, 190, 191, 192, 193, 194, 195, 196, 197, 198, 199, 200, 201, 202, 203, 204, 205, 206, 207, 208, 209, 210, 211, 212, 213, 214, 215, 216, 217] [0, 4, 46, 99, 139] 218 rfl (by decide +kernel) rfl
      exact lf_text_5 l C0 h h2 q qd qm g j hj hv1 hv2 hK hN hP hD hS hl
set_option maxRecDepth 100000 in
set_option maxHeartbeats 8000000 in
/-- octet: the case of the law -/
theorem op_octet {p : Program} {e : Env} {s : State} {m : MethodId} {below : List Frame} {meth : Method} {c : Code} (l : Launch) {b : Nat} {xs : Nat → Int32} (C0 : lw_At p s m meth c b 6 xs) {D : va_G} {kA : Nat → ClassId} (h h2 : Nat) (u1 : Nat → Nat → Nat) (qm : Nat → Nat) (v1 : Int32) (hv1 : xs 1 = v1) {H : Heap} {locs : List Loc} {ls : Array Slot} (hK : va_K D classes (TY kA) s) (hN : nst s) (hpost : u1 50 1 = u1 0 4 ∧ u1 50 3 = u1 0 5 ∧ u1 50 2 = u1 1 4 ∧ u1 50 4 = u1 3 1 ∧ u1 8 0 = u1 50 5 ∧ u1 12 0 = u1 50 9 ∧ u1 16 0 = u1 50 13 ∧ u1 20 0 = u1 50 17) (hP : va_P D classes (cat [cat (sHo kA h u1), cat (sMo kA h2 qm)]) H) (hD : va_D (fun q : Nat => s.heap.size ≤ q) (cat [cat (sHo kA h u1), cat (sMo kA h2 qm)])) (hS : va_S (fun q : Nat => s.heap.size ≤ q) s.heap H locs) (hl : lv_has ls 4 [(3, .int 0), (2, .ref h2), (1, .ref h), (0, .ref b)]) : W p l e room_1 s m #[Value.ref b] below meth c H locs 368 365796 (lw_Z below #[Value.ref b] s) (F0 m 1196 ls []) := by
  obtain ⟨q, qg, qf, qn, qd, qr, qs, qe, qp, g, hP, hD⟩ := big (j := 0) (by decide) hpost hP hD
  obtain ⟨hP, hD⟩ := k_drop (sg := bH kA h q qg qf qn qd qr qs qe qp g 0 ++ bM kA h2 qm) (gc := [[(h, .inr (12, [.ref (q 0), .ref (q 1), .ref (q 2), .ref (q 3), .ref (q 4), .ref (q 5), .ref (q 6), .int 0, .int ((-1)), .ref (q 9), .ref (q 10), .int 0, .int 0, .ref (q 13), .int 0, .int 0, .null, .null, .null, .null, .null]))], [(h2, .inr (13, mF qm x0Mo y0Mo))]]) hP hD [1, 2, 3, 4, 5, 6, 7, 8, 9, 10, 11, 12, 13, 14, 15, 16, 17, 18, 19, 20, 21, 22, 23, 24, 25, 26, 27, 28, 29, 30, 31, 32, 33, 34, 35, 36, 37, 38, 39, 40, 41, 42, 43, 44, 45, 46, 47, 48, 49, 50, 51, 52, 53, 54, 55, 56, 57, 58, 59, 60, 61, 62, 63, 64, 65, 66, 67, 68, 69, 70, 71, 72, 73, 74, 75, 76, 77, 78, 79, 80, 81, 82, 83, 84, 85, 86, 87, 88, 89, 90, 91, 92, 93, 94, 95, 96, 97, 98, 100, 101, 102, 103, 104, 105, 106, 107, 108, 109, 110, 111, 112, 113, 114, 115, 116, 117, 118, 119, 120, 121, 122, 123, 124, 125, 126, 127, 128, 129, 130, 131, 132, 133, 134, 135, 136, 137, 138, 139, 140, 141, 142, 143, 144, 145, 146, 147, 148, 149, 150, 151, 152, 153, 154, 155, 156, 157, 158, 159, 160, 161, 162, 163, 164, 165, 166, 167, 168, 169, 170, 171, 172, 173, 174, 175, 176, 177, 178, 179, 180, 181, 182, 183, 184, 185, 186, 187, 188, 189, 190, 191, 192, 193, 194, 195, 196, 197, 198, 199, 200, 201, 202, 203, 204, 205, 206, 207, 208, 209, 210, 211, 212, 213, 214, 215, 216, 217] [0, 99] 218 rfl (by decide +kernel) rfl
  exact lf_octet_1 l C0 h h2 q qm v1 hv1 hK hN hP hD hS hl
set_option maxRecDepth 100000 in
set_option maxHeartbeats 8000000 in
/-- dots: the case of the law -/
theorem op_dots {p : Program} {e : Env} {s : State} {m : MethodId} {below : List Frame} {meth : Method} {c : Code} (l : Launch) {b : Nat} {xs : Nat → Int32} (C0 : lw_At p s m meth c b 6 xs) {D : va_G} {kA : Nat → ClassId} (h h2 : Nat) (u1 : Nat → Nat → Nat) (qm : Nat → Nat) (v1 : Int32) (v2 : Int32) (v3 : Int32) (hv1 : xs 1 = v1) (hv2 : xs 2 = v2) (hv3 : xs 3 = v3) {H : Heap} {locs : List Loc} {ls : Array Slot} (hK : va_K D classes (TY kA) s) (hN : nst s) (hpost : u1 50 1 = u1 0 4 ∧ u1 50 3 = u1 0 5 ∧ u1 50 2 = u1 1 4 ∧ u1 50 4 = u1 3 1 ∧ u1 8 0 = u1 50 5 ∧ u1 12 0 = u1 50 9 ∧ u1 16 0 = u1 50 13 ∧ u1 20 0 = u1 50 17) (hP : va_P D classes (cat [cat (sHo kA h u1), cat (sMo kA h2 qm)]) H) (hD : va_D (fun q : Nat => s.heap.size ≤ q) (cat [cat (sHo kA h u1), cat (sMo kA h2 qm)])) (hS : va_S (fun q : Nat => s.heap.size ≤ q) s.heap H locs) (hl : lv_has ls 4 [(3, .int 0), (2, .ref h2), (1, .ref h), (0, .ref b)]) : W p l e room_1 s m #[Value.ref b] below meth c H locs 368 365796 (lw_Z below #[Value.ref b] s) (F0 m 1219 ls []) := by
  rcases place_no v1 with hg | ⟨j, hj, ej⟩
  · have hgM : sp_Mo_isPlace v1 = 0 := by rw [← place_iff]; exact hg
    obtain ⟨q, qg, qf, qn, qd, qr, qs, qe, qp, g, hP, hD⟩ := big (j := 0) (by decide) hpost hP hD
    obtain ⟨hP, hD⟩ := k_drop (sg := bH kA h q qg qf qn qd qr qs qe qp g 0 ++ bM kA h2 qm) (gc := [[(h, .inr (12, [.ref (q 0), .ref (q 1), .ref (q 2), .ref (q 3), .ref (q 4), .ref (q 5), .ref (q 6), .int 0, .int ((-1)), .ref (q 9), .ref (q 10), .int 0, .int 0, .ref (q 13), .int 0, .int 0, .null, .null, .null, .null, .null]))], [(h2, .inr (13, mF qm x0Mo y0Mo))]]) hP hD [1, 2, 3, 4, 5, 6, 7, 8, 9, 10, 11, 12, 13, 14, 15, 16, 17, 18, 19, 20, 21, 22, 23, 24, 25, 26, 27, 28, 29, 30, 31, 32, 33, 34, 35, 36, 37, 38, 39, 40, 41, 42, 43, 44, 45, 46, 47, 48, 49, 50, 51, 52, 53, 54, 55, 56, 57, 58, 59, 60, 61, 62, 63, 64, 65, 66, 67, 68, 69, 70, 71, 72, 73, 74, 75, 76, 77, 78, 79, 80, 81, 82, 83, 84, 85, 86, 87, 88, 89, 90, 91, 92, 93, 94, 95, 96, 97, 98, 100, 101, 102, 103, 104, 105, 106, 107, 108, 109, 110, 111, 112, 113, 114, 115, 116, 117, 118, 119, 120, 121, 122, 123, 124, 125, 126, 127, 128, 129, 130, 131, 132, 133, 134, 135, 136, 137, 138, 139, 140, 141, 142, 143, 144, 145, 146, 147, 148, 149, 150, 151, 152, 153, 154, 155, 156, 157, 158, 159, 160, 161, 162, 163, 164, 165, 166, 167, 168, 169, 170, 171, 172, 173, 174, 175, 176, 177, 178, 179, 180, 181, 182, 183, 184, 185, 186, 187, 188, 189, 190, 191, 192, 193, 194, 195, 196, 197, 198, 199, 200, 201, 202, 203, 204, 205, 206, 207, 208, 209, 210, 211, 212, 213, 214, 215, 216, 217] [0, 99] 218 rfl (by decide +kernel) rfl
    exact lf_dots_1 l C0 h h2 q qm v1 v2 v3 hg hgM hv1 hv2 hv3 hK hN hP hD hS hl
  · subst ej
    obtain ⟨q, qg, qf, qn, qd, qr, qs, qe, qp, g, hP, hD⟩ := big (j := j) hj hpost hP hD
    obtain ⟨hP, hD⟩ := k_drop (sg := bH kA h q qg qf qn qd qr qs qe qp g j ++ bM kA h2 qm) (gc := [[(h, .inr (12, [.ref (q 0), .ref (q 1), .ref (q 2), .ref (q 3), .ref (q 4), .ref (q 5), .ref (q 6), .int 0, .int ((-1)), .ref (q 9), .ref (q 10), .int 0, .int 0, .ref (q 13), .int 0, .int 0, .null, .null, .null, .null, .null]))], [(q 3, .inl (kA 7, 4, .inr (.inr (.inr (.inr (rr (g 3)))))))], [(g 3 j, .inr (0, [.ref (qd 0), .int ((-1)), .ref (qd 2), .ref (qd 3), .ref (qd 4), .ref (qd 5), .ref (qd 6), .int 0, .int 0, .int 0, .ref (qd 10), .ref (qd 11), .ref (qd 12), .ref (qd 13), .ref (qd 14), .ref (qd 15), .ref (qd 16), .int 0, .int 0, .int 0, .int 0]))], [(h2, .inr (13, mF qm x0Mo y0Mo))], [(qm 61, .inl (kA 0, 4, .inl (upd (upd (upd (upd (fun _ => 0) 0 (-1)) 1 (-1)) 2 (-1)) 3 (-1))))]]) hP hD [1, 2, 3, 5, 6, 7, 8, 9, 10, 11, 12, 13, 14, 15, 16, 17, 18, 19, 20, 21, 22, 23, 24, 25, 26, 27, 28, 29, 30, 31, 32, 33, 34, 35, 36, 37, 38, 39, 40, 41, 42, 43, 44, 45, 47, 48, 49, 50, 51, 52, 53, 54, 55, 56, 57, 58, 59, 60, 61, 62, 63, 64, 65, 66, 67, 68, 69, 70, 71, 72, 73, 74, 75, 76, 77, 78, 79, 80, 81, 82, 83, 84, 85, 86, 87, 88, 89, 90, 91, 92, 93, 94, 95, 96, 97, 98, 100, 101, 102, 103, 104, 105, 106, 107, 108, 109, 110, 111, 112, 113, 114, 115, 116, 117, 118, 119, 120, 121, 122, 123, 124, 125, 126, 127, 128, 129, 130, 131, 132, 133, 134, 135, 136, 137, 138, 140, 141, 142, 143, 144, 145, 146, 147, 148, 149, 150, 151, 152, 153, 154, 155, 156, 157, 158, 159, 160, 161, 162, 163, 164, 165, 166, 167, 168, 169, 170, 171, 172, 173, 174, 175, 176, 177, 178, 179, 180, 181, 182, 183, 184, 185, 186, 187, 188, 189, 190, 191, 192, 193, 194, 195, 196, 197, 198, 199, 200, 201, 202, 203, 204, 205, 206, 207, 208, 209, 210, 211, 212, 213, 214, 215, 216, 217] [0, 4, 46, 99, 139] 218 rfl (by decide +kernel) rfl
    exact lf_dots_2 l C0 h h2 q qd qm g j v2 v3 hj hv1 hv2 hv3 hK hN hP hD hS hl
set_option maxRecDepth 100000 in
set_option maxHeartbeats 8000000 in
/-- dot: the case of the law -/
theorem op_dot {p : Program} {e : Env} {s : State} {m : MethodId} {below : List Frame} {meth : Method} {c : Code} (l : Launch) {b : Nat} {xs : Nat → Int32} (C0 : lw_At p s m meth c b 6 xs) {D : va_G} {kA : Nat → ClassId} (h h2 : Nat) (u1 : Nat → Nat → Nat) (qm : Nat → Nat) (v1 : Int32) (v2 : Int32) (hv1 : xs 1 = v1) (hv2 : xs 2 = v2) {H : Heap} {locs : List Loc} {ls : Array Slot} (hK : va_K D classes (TY kA) s) (hN : nst s) (hpost : u1 50 1 = u1 0 4 ∧ u1 50 3 = u1 0 5 ∧ u1 50 2 = u1 1 4 ∧ u1 50 4 = u1 3 1 ∧ u1 8 0 = u1 50 5 ∧ u1 12 0 = u1 50 9 ∧ u1 16 0 = u1 50 13 ∧ u1 20 0 = u1 50 17) (hP : va_P D classes (cat [cat (sHo kA h u1), cat (sMo kA h2 qm)]) H) (hD : va_D (fun q : Nat => s.heap.size ≤ q) (cat [cat (sHo kA h u1), cat (sMo kA h2 qm)])) (hS : va_S (fun q : Nat => s.heap.size ≤ q) s.heap H locs) (hl : lv_has ls 4 [(3, .int 0), (2, .ref h2), (1, .ref h), (0, .ref b)]) : W p l e room_1 s m #[Value.ref b] below meth c H locs 368 365796 (lw_Z below #[Value.ref b] s) (F0 m 1262 ls []) := by
  obtain ⟨q, qg, qf, qn, qd, qr, qs, qe, qp, g, hP, hD⟩ := big (j := 0) (by decide) hpost hP hD
  obtain ⟨hP, hD⟩ := k_drop (sg := bH kA h q qg qf qn qd qr qs qe qp g 0 ++ bM kA h2 qm) (gc := [[(h, .inr (12, [.ref (q 0), .ref (q 1), .ref (q 2), .ref (q 3), .ref (q 4), .ref (q 5), .ref (q 6), .int 0, .int ((-1)), .ref (q 9), .ref (q 10), .int 0, .int 0, .ref (q 13), .int 0, .int 0, .null, .null, .null, .null, .null]))], [(h2, .inr (13, mF qm x0Mo y0Mo))]]) hP hD [1, 2, 3, 4, 5, 6, 7, 8, 9, 10, 11, 12, 13, 14, 15, 16, 17, 18, 19, 20, 21, 22, 23, 24, 25, 26, 27, 28, 29, 30, 31, 32, 33, 34, 35, 36, 37, 38, 39, 40, 41, 42, 43, 44, 45, 46, 47, 48, 49, 50, 51, 52, 53, 54, 55, 56, 57, 58, 59, 60, 61, 62, 63, 64, 65, 66, 67, 68, 69, 70, 71, 72, 73, 74, 75, 76, 77, 78, 79, 80, 81, 82, 83, 84, 85, 86, 87, 88, 89, 90, 91, 92, 93, 94, 95, 96, 97, 98, 100, 101, 102, 103, 104, 105, 106, 107, 108, 109, 110, 111, 112, 113, 114, 115, 116, 117, 118, 119, 120, 121, 122, 123, 124, 125, 126, 127, 128, 129, 130, 131, 132, 133, 134, 135, 136, 137, 138, 139, 140, 141, 142, 143, 144, 145, 146, 147, 148, 149, 150, 151, 152, 153, 154, 155, 156, 157, 158, 159, 160, 161, 162, 163, 164, 165, 166, 167, 168, 169, 170, 171, 172, 173, 174, 175, 176, 177, 178, 179, 180, 181, 182, 183, 184, 185, 186, 187, 188, 189, 190, 191, 192, 193, 194, 195, 196, 197, 198, 199, 200, 201, 202, 203, 204, 205, 206, 207, 208, 209, 210, 211, 212, 213, 214, 215, 216, 217] [0, 99] 218 rfl (by decide +kernel) rfl
  exact lf_dot_1 l C0 h h2 q qm v1 v2 hv1 hv2 hK hN hP hD hS hl
