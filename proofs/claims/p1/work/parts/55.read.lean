theorem wm_203 : (Cond.fieldLink "DrawingHouse" (122 : Nat) "DrawingHouse$Reader" "graph" "LDrawingHouse$Graph;" : Cond) ∈ lw_g := lw_gi (lw_c1 (List.mem_of_getElem? (i := 203) rfl)) rfl
theorem wm_395 : (Cond.fieldLink "DrawingHouse" (407 : Nat) "DrawingHouse$Facts" "known" "Z" : Cond) ∈ lw_g := lw_gi (lw_c2 (List.mem_of_getElem? (i := 155) rfl)) rfl
theorem wm_627 : (Cond.methodLink "DrawingHouseLaw" (18 : Nat) ({ cls := "DrawingHouse", name := "read", desc := "(II)I" } : MethodName) : Cond) ∈ lw_g := lw_gi (lw_c3 (List.mem_of_getElem? (i := 147) rfl)) rfl
theorem wm_628 : (Cond.instanceMethod ({ cls := "DrawingHouse", name := "read", desc := "(II)I" } : MethodName) : Cond) ∈ lw_g := lw_gi (lw_c3 (List.mem_of_getElem? (i := 148) rfl)) rfl
theorem wm_629 : (Cond.selects "DrawingHouse" ({ cls := "DrawingHouse", name := "read", desc := "(II)I" } : MethodName) ({ cls := "DrawingHouse", name := "read", desc := "(II)I" } : MethodName) : Cond) ∈ lw_g := lw_gi (lw_c3 (List.mem_of_getElem? (i := 149) rfl)) rfl
theorem wm_630 : (Cond.code ({ cls := "DrawingHouse", name := "read", desc := "(II)I" } : MethodName) prog_1_method_3_code (4 : Nat) (Option.some ClassFile.FieldType.int) : Cond) ∈ lw_g := lw_gi (lw_c3 (List.mem_of_getElem? (i := 150) rfl)) rfl
theorem wm_634 : (Cond.methodLink "DrawingHouse" (119 : Nat) ({ cls := "DrawingHouse$Reader", name := "readGraph", desc := "(I)Z" } : MethodName) : Cond) ∈ lw_g := lw_gi (lw_c3 (List.mem_of_getElem? (i := 154) rfl)) rfl
theorem wm_635 : (Cond.instanceMethod ({ cls := "DrawingHouse$Reader", name := "readGraph", desc := "(I)Z" } : MethodName) : Cond) ∈ lw_g := lw_gi (lw_c3 (List.mem_of_getElem? (i := 155) rfl)) rfl
theorem wm_636 : (Cond.selects "DrawingHouse$Reader" ({ cls := "DrawingHouse$Reader", name := "readGraph", desc := "(I)Z" } : MethodName) ({ cls := "DrawingHouse$Reader", name := "readGraph", desc := "(I)Z" } : MethodName) : Cond) ∈ lw_g := lw_gi (lw_c3 (List.mem_of_getElem? (i := 156) rfl)) rfl
theorem wm_637 : (Cond.code ({ cls := "DrawingHouse$Reader", name := "readGraph", desc := "(I)Z" } : MethodName) prog_10_method_3_code (3 : Nat) (Option.some ClassFile.FieldType.boolean) : Cond) ∈ lw_g := lw_gi (lw_c3 (List.mem_of_getElem? (i := 157) rfl)) rfl
theorem wm_638 : (Cond.methodLink "DrawingHouse$Reader" (54 : Nat) ({ cls := "DrawingHouse$Graph", name := "clear", desc := "()V" } : MethodName) : Cond) ∈ lw_g := lw_gi (lw_c3 (List.mem_of_getElem? (i := 158) rfl)) rfl
theorem wm_639 : (Cond.instanceMethod ({ cls := "DrawingHouse$Graph", name := "clear", desc := "()V" } : MethodName) : Cond) ∈ lw_g := lw_gi (lw_c3 (List.mem_of_getElem? (i := 159) rfl)) rfl
theorem wm_640 : (Cond.selects "DrawingHouse$Graph" ({ cls := "DrawingHouse$Graph", name := "clear", desc := "()V" } : MethodName) ({ cls := "DrawingHouse$Graph", name := "clear", desc := "()V" } : MethodName) : Cond) ∈ lw_g := lw_gi (lw_c3 (List.mem_of_getElem? (i := 160) rfl)) rfl
theorem wm_641 : (Cond.code ({ cls := "DrawingHouse$Graph", name := "clear", desc := "()V" } : MethodName) prog_5_method_2_code (1 : Nat) (Option.none : Option ClassFile.FieldType) : Cond) ∈ lw_g := lw_gi (lw_c3 (List.mem_of_getElem? (i := 161) rfl)) rfl
theorem wm_642 : (Cond.methodLink "DrawingHouse$Reader" (57 : Nat) ({ cls := "DrawingHouse$Reader", name := "advance", desc := "()V" } : MethodName) : Cond) ∈ lw_g := lw_gi (lw_c3 (List.mem_of_getElem? (i := 162) rfl)) rfl
theorem wm_644 : (Cond.instanceMethod ({ cls := "DrawingHouse$Reader", name := "advance", desc := "()V" } : MethodName) : Cond) ∈ lw_g := lw_gi (lw_c3 (List.mem_of_getElem? (i := 164) rfl)) rfl
theorem wm_645 : (Cond.code ({ cls := "DrawingHouse$Reader", name := "advance", desc := "()V" } : MethodName) prog_10_method_9_code (2 : Nat) (Option.none : Option ClassFile.FieldType) : Cond) ∈ lw_g := lw_gi (lw_c3 (List.mem_of_getElem? (i := 165) rfl)) rfl
theorem wm_748 : (Cond.methodLink "DrawingHouse$Graph" (77 : Nat) ({ cls := "java/lang/System", name := "arraycopy", desc := "(Ljava/lang/Object;ILjava/lang/Object;II)V" } : MethodName) : Cond) ∈ lw_g := lw_gi (lw_c4 (List.mem_of_getElem? (i := 28) rfl)) rfl
theorem wm_778 : (Cond.methodLink "DrawingHouse" (126 : Nat) ({ cls := "DrawingHouse$Graph", name := "copyFrom", desc := "(LDrawingHouse$Graph;)V" } : MethodName) : Cond) ∈ lw_g := lw_gi (lw_c4 (List.mem_of_getElem? (i := 58) rfl)) rfl
theorem wm_779 : (Cond.instanceMethod ({ cls := "DrawingHouse$Graph", name := "copyFrom", desc := "(LDrawingHouse$Graph;)V" } : MethodName) : Cond) ∈ lw_g := lw_gi (lw_c4 (List.mem_of_getElem? (i := 59) rfl)) rfl
theorem wm_780 : (Cond.selects "DrawingHouse$Graph" ({ cls := "DrawingHouse$Graph", name := "copyFrom", desc := "(LDrawingHouse$Graph;)V" } : MethodName) ({ cls := "DrawingHouse$Graph", name := "copyFrom", desc := "(LDrawingHouse$Graph;)V" } : MethodName) : Cond) ∈ lw_g := lw_gi (lw_c4 (List.mem_of_getElem? (i := 60) rfl)) rfl
theorem wm_781 : (Cond.code ({ cls := "DrawingHouse$Graph", name := "copyFrom", desc := "(LDrawingHouse$Graph;)V" } : MethodName) prog_5_method_3_code (2 : Nat) (Option.none : Option ClassFile.FieldType) : Cond) ∈ lw_g := lw_gi (lw_c4 (List.mem_of_getElem? (i := 61) rfl)) rfl
theorem wm_782 : (Cond.methodLink "DrawingHouse$Graph" (83 : Nat) ({ cls := "DrawingHouse$Graph", name := "relink", desc := "()V" } : MethodName) : Cond) ∈ lw_g := lw_gi (lw_c4 (List.mem_of_getElem? (i := 62) rfl)) rfl
theorem wm_784 : (Cond.instanceMethod ({ cls := "DrawingHouse$Graph", name := "relink", desc := "()V" } : MethodName) : Cond) ∈ lw_g := lw_gi (lw_c4 (List.mem_of_getElem? (i := 64) rfl)) rfl
theorem wm_785 : (Cond.code ({ cls := "DrawingHouse$Graph", name := "relink", desc := "()V" } : MethodName) prog_5_method_17_code (2 : Nat) (Option.none : Option ClassFile.FieldType) : Cond) ∈ lw_g := lw_gi (lw_c4 (List.mem_of_getElem? (i := 65) rfl)) rfl
theorem wm_786 : (Cond.methodLink "DrawingHouse" (129 : Nat) ({ cls := "DrawingHouse", name := "forget", desc := "(I)V" } : MethodName) : Cond) ∈ lw_g := lw_gi (lw_c4 (List.mem_of_getElem? (i := 66) rfl)) rfl
theorem wm_788 : (Cond.instanceMethod ({ cls := "DrawingHouse", name := "forget", desc := "(I)V" } : MethodName) : Cond) ∈ lw_g := lw_gi (lw_c4 (List.mem_of_getElem? (i := 68) rfl)) rfl
theorem wm_789 : (Cond.code ({ cls := "DrawingHouse", name := "forget", desc := "(I)V" } : MethodName) prog_1_method_32_code (2 : Nat) (Option.none : Option ClassFile.FieldType) : Cond) ∈ lw_g := lw_gi (lw_c4 (List.mem_of_getElem? (i := 69) rfl)) rfl
theorem wm_790 : (Cond.methodLink "DrawingHouse" (411 : Nat) ({ cls := "DrawingHouse$Net", name := "forget", desc := "()V" } : MethodName) : Cond) ∈ lw_g := lw_gi (lw_c4 (List.mem_of_getElem? (i := 70) rfl)) rfl
theorem wm_791 : (Cond.instanceMethod ({ cls := "DrawingHouse$Net", name := "forget", desc := "()V" } : MethodName) : Cond) ∈ lw_g := lw_gi (lw_c4 (List.mem_of_getElem? (i := 71) rfl)) rfl
theorem wm_792 : (Cond.selects "DrawingHouse$Net" ({ cls := "DrawingHouse$Net", name := "forget", desc := "()V" } : MethodName) ({ cls := "DrawingHouse$Net", name := "forget", desc := "()V" } : MethodName) : Cond) ∈ lw_g := lw_gi (lw_c4 (List.mem_of_getElem? (i := 72) rfl)) rfl
theorem wm_793 : (Cond.code ({ cls := "DrawingHouse$Net", name := "forget", desc := "()V" } : MethodName) prog_7_method_2_code (1 : Nat) (Option.none : Option ClassFile.FieldType) : Cond) ∈ lw_g := lw_gi (lw_c4 (List.mem_of_getElem? (i := 73) rfl)) rfl
theorem wm_794 : (Cond.methodLink "DrawingHouse" (413 : Nat) ({ cls := "DrawingHouse$Drawing", name := "wipe", desc := "()V" } : MethodName) : Cond) ∈ lw_g := lw_gi (lw_c4 (List.mem_of_getElem? (i := 74) rfl)) rfl
theorem wm_795 : (Cond.instanceMethod ({ cls := "DrawingHouse$Drawing", name := "wipe", desc := "()V" } : MethodName) : Cond) ∈ lw_g := lw_gi (lw_c4 (List.mem_of_getElem? (i := 75) rfl)) rfl
theorem wm_796 : (Cond.selects "DrawingHouse$Drawing" ({ cls := "DrawingHouse$Drawing", name := "wipe", desc := "()V" } : MethodName) ({ cls := "DrawingHouse$Drawing", name := "wipe", desc := "()V" } : MethodName) : Cond) ∈ lw_g := lw_gi (lw_c4 (List.mem_of_getElem? (i := 76) rfl)) rfl
theorem wm_797 : (Cond.code ({ cls := "DrawingHouse$Drawing", name := "wipe", desc := "()V" } : MethodName) prog_2_method_2_code (1 : Nat) (Option.none : Option ClassFile.FieldType) : Cond) ∈ lw_g := lw_gi (lw_c4 (List.mem_of_getElem? (i := 77) rfl)) rfl
theorem wm_798 : (Cond.methodLink "DrawingHouse$Drawing" (78 : Nat) ({ cls := "java/util/Arrays", name := "fill", desc := "([II)V" } : MethodName) : Cond) ∈ lw_g := lw_gi (lw_c4 (List.mem_of_getElem? (i := 78) rfl)) rfl
theorem wm_2443 : (Cond.fieldLink "DrawingHouseModel" (419 : Nat) "DrawingHouseModel" "limit" "I" : Cond) ∈ lw_g := lw_gi (lw_c11 (List.mem_of_getElem? (i := 43) rfl)) rfl
theorem wm_2444 : (Cond.fieldLink "DrawingHouseModel" (422 : Nat) "DrawingHouseModel" "pos" "I" : Cond) ∈ lw_g := lw_gi (lw_c11 (List.mem_of_getElem? (i := 44) rfl)) rfl
theorem wm_2445 : (Cond.fieldLink "DrawingHouseModel" (434 : Nat) "DrawingHouseModel" "kind" "I" : Cond) ∈ lw_g := lw_gi (lw_c11 (List.mem_of_getElem? (i := 45) rfl)) rfl
theorem wm_2446 : (Cond.fieldLink "DrawingHouseModel" (428 : Nat) "DrawingHouseModel" "place" "I" : Cond) ∈ lw_g := lw_gi (lw_c11 (List.mem_of_getElem? (i := 46) rfl)) rfl
theorem wm_2447 : (Cond.fieldLink "DrawingHouseModel" (437 : Nat) "DrawingHouseModel" "value" "I" : Cond) ∈ lw_g := lw_gi (lw_c11 (List.mem_of_getElem? (i := 47) rfl)) rfl
theorem wm_2448 : (Cond.fieldLink "DrawingHouseModel" (431 : Nat) "DrawingHouseModel" "from" "I" : Cond) ∈ lw_g := lw_gi (lw_c11 (List.mem_of_getElem? (i := 48) rfl)) rfl
theorem wm_2972 : (Cond.methodLink "DrawingHouseLaw" (22 : Nat) ({ cls := "DrawingHouseModel", name := "read", desc := "(II)I" } : MethodName) : Cond) ∈ lw_g := lw_gi (lw_c13 (List.mem_of_getElem? (i := 92) rfl)) rfl
theorem wm_2973 : (Cond.instanceMethod ({ cls := "DrawingHouseModel", name := "read", desc := "(II)I" } : MethodName) : Cond) ∈ lw_g := lw_gi (lw_c13 (List.mem_of_getElem? (i := 93) rfl)) rfl
theorem wm_2974 : (Cond.selects "DrawingHouseModel" ({ cls := "DrawingHouseModel", name := "read", desc := "(II)I" } : MethodName) ({ cls := "DrawingHouseModel", name := "read", desc := "(II)I" } : MethodName) : Cond) ∈ lw_g := lw_gi (lw_c13 (List.mem_of_getElem? (i := 94) rfl)) rfl
theorem wm_2975 : (Cond.code ({ cls := "DrawingHouseModel", name := "read", desc := "(II)I" } : MethodName) prog_15_method_41_code (4 : Nat) (Option.some ClassFile.FieldType.int) : Cond) ∈ lw_g := lw_gi (lw_c13 (List.mem_of_getElem? (i := 95) rfl)) rfl
theorem wm_2979 : (Cond.methodLink "DrawingHouseModel" (460 : Nat) ({ cls := "DrawingHouseModel", name := "next", desc := "()V" } : MethodName) : Cond) ∈ lw_g := lw_gi (lw_c13 (List.mem_of_getElem? (i := 99) rfl)) rfl
theorem wm_2981 : (Cond.instanceMethod ({ cls := "DrawingHouseModel", name := "next", desc := "()V" } : MethodName) : Cond) ∈ lw_g := lw_gi (lw_c13 (List.mem_of_getElem? (i := 101) rfl)) rfl
theorem wm_2982 : (Cond.code ({ cls := "DrawingHouseModel", name := "next", desc := "()V" } : MethodName) prog_15_method_28_code (3 : Nat) (Option.none : Option ClassFile.FieldType) : Cond) ∈ lw_g := lw_gi (lw_c13 (List.mem_of_getElem? (i := 102) rfl)) rfl
theorem wm_2983 : (Cond.methodLink "DrawingHouseModel" (425 : Nat) ({ cls := "DrawingHouseModel", name := "byteAt", desc := "(I)I" } : MethodName) : Cond) ∈ lw_g := lw_gi (lw_c13 (List.mem_of_getElem? (i := 103) rfl)) rfl
theorem wm_2985 : (Cond.instanceMethod ({ cls := "DrawingHouseModel", name := "byteAt", desc := "(I)I" } : MethodName) : Cond) ∈ lw_g := lw_gi (lw_c13 (List.mem_of_getElem? (i := 105) rfl)) rfl
theorem wm_2986 : (Cond.code ({ cls := "DrawingHouseModel", name := "byteAt", desc := "(I)I" } : MethodName) prog_15_method_25_code (2 : Nat) (Option.some ClassFile.FieldType.int) : Cond) ∈ lw_g := lw_gi (lw_c13 (List.mem_of_getElem? (i := 106) rfl)) rfl
theorem wm_3080 : (Cond.methodLink "DrawingHouseModel" (524 : Nat) ({ cls := "DrawingHouseModel", name := "changed", desc := "(I)V" } : MethodName) : Cond) ∈ lw_g := lw_gi (lw_c13 (List.mem_of_getElem? (i := 200) rfl)) rfl
theorem wm_3082 : (Cond.instanceMethod ({ cls := "DrawingHouseModel", name := "changed", desc := "(I)V" } : MethodName) : Cond) ∈ lw_g := lw_gi (lw_c13 (List.mem_of_getElem? (i := 202) rfl)) rfl
theorem wm_3083 : (Cond.code ({ cls := "DrawingHouseModel", name := "changed", desc := "(I)V" } : MethodName) prog_15_method_42_code (3 : Nat) (Option.none : Option ClassFile.FieldType) : Cond) ∈ lw_g := lw_gi (lw_c13 (List.mem_of_getElem? (i := 203) rfl)) rfl
theorem wv_1_0 : (Cond.selects "DrawingHouse$Reader" ⟨"DrawingHouse$Reader", "advance", "()V"⟩ ⟨"DrawingHouse$Reader", "advance", "()V"⟩ : Cond) ∈ lw_g := lw_gi (List.mem_append_left _ (List.mem_map.mpr ⟨_, lw_v1 (List.mem_of_getElem? (i := 0) rfl), rfl⟩)) rfl
theorem wv_1_12 : (Cond.selects "DrawingHouse$Graph" ⟨"DrawingHouse$Graph", "relink", "()V"⟩ ⟨"DrawingHouse$Graph", "relink", "()V"⟩ : Cond) ∈ lw_g := lw_gi (List.mem_append_left _ (List.mem_map.mpr ⟨_, lw_v1 (List.mem_of_getElem? (i := 1) rfl), rfl⟩)) rfl
theorem wv_1_13 : (Cond.selects "DrawingHouse" ⟨"DrawingHouse", "forget", "(I)V"⟩ ⟨"DrawingHouse", "forget", "(I)V"⟩ : Cond) ∈ lw_g := lw_gi (List.mem_append_left _ (List.mem_map.mpr ⟨_, lw_v1 (List.mem_of_getElem? (i := 2) rfl), rfl⟩)) rfl
theorem wv_12_11 : (Cond.selects "DrawingHouseModel" ⟨"DrawingHouseModel", "next", "()V"⟩ ⟨"DrawingHouseModel", "next", "()V"⟩ : Cond) ∈ lw_g := lw_gi (List.mem_append_left _ (List.mem_map.mpr ⟨_, lw_v2 (List.mem_of_getElem? (i := 9) rfl), rfl⟩)) rfl
theorem wv_12_12 : (Cond.selects "DrawingHouseModel" ⟨"DrawingHouseModel", "byteAt", "(I)I"⟩ ⟨"DrawingHouseModel", "byteAt", "(I)I"⟩ : Cond) ∈ lw_g := lw_gi (List.mem_append_left _ (List.mem_map.mpr ⟨_, lw_v2 (List.mem_of_getElem? (i := 10) rfl), rfl⟩)) rfl
theorem wv_14_1 : (Cond.selects "DrawingHouseModel" ⟨"DrawingHouseModel", "changed", "(I)V"⟩ ⟨"DrawingHouseModel", "changed", "(I)V"⟩ : Cond) ∈ lw_g := lw_gi (List.mem_append_left _ (List.mem_map.mpr ⟨_, lw_v2 (List.mem_of_getElem? (i := 14) rfl), rfl⟩)) rfl
abbrev b_Ho_read : ByteArray := prog_1_method_3_code
def y_Ho_read : MethodName := ⟨"DrawingHouse", "read", "(II)I"⟩
abbrev z_Ho_read : List Cond := Cond.code y_Ho_read b_Ho_read 4 (some .int) :: lw_g
theorem d_Ho_read_0 : decode b_Ho_read 0 = .ok (.iload_n 1, 1) := by decide +kernel
theorem d_Ho_read_1 : decode b_Ho_read 1 = .ok (.invokestatic 115, 3) := by decide +kernel
theorem d_Ho_read_4 : decode b_Ho_read 4 = .ok (.ifCond .eq 18, 3) := by decide +kernel
theorem d_Ho_read_7 : decode b_Ho_read 7 = .ok (.iload_n 2, 1) := by decide +kernel
theorem d_Ho_read_8 : decode b_Ho_read 8 = .ok (.ifCond .lt 14, 3) := by decide +kernel
theorem d_Ho_read_11 : decode b_Ho_read 11 = .ok (.iload_n 2, 1) := by decide +kernel
theorem d_Ho_read_12 : decode b_Ho_read 12 = .ok (.aload_n 0, 1) := by decide +kernel
theorem d_Ho_read_13 : decode b_Ho_read 13 = .ok (.getfield 38, 3) := by decide +kernel
theorem d_Ho_read_16 : decode b_Ho_read 16 = .ok (.getfield 108, 3) := by decide +kernel
theorem d_Ho_read_19 : decode b_Ho_read 19 = .ok (.if_icmp .le 6, 3) := by decide +kernel
theorem d_Ho_read_22 : decode b_Ho_read 22 = .ok (.bipush (-2), 2) := by decide +kernel
theorem d_Ho_read_24 : decode b_Ho_read 24 = .ok (.ireturn, 1) := by decide +kernel
theorem d_Ho_read_25 : decode b_Ho_read 25 = .ok (.aload_n 0, 1) := by decide +kernel
theorem d_Ho_read_26 : decode b_Ho_read 26 = .ok (.getfield 38, 3) := by decide +kernel
theorem d_Ho_read_29 : decode b_Ho_read 29 = .ok (.iload_n 2, 1) := by decide +kernel
theorem d_Ho_read_30 : decode b_Ho_read 30 = .ok (.invokevirtual 119, 3) := by decide +kernel
theorem d_Ho_read_33 : decode b_Ho_read 33 = .ok (.istore_n 3, 1) := by decide +kernel
theorem d_Ho_read_34 : decode b_Ho_read 34 = .ok (.aload_n 0, 1) := by decide +kernel
theorem d_Ho_read_35 : decode b_Ho_read 35 = .ok (.getfield 38, 3) := by decide +kernel
theorem d_Ho_read_38 : decode b_Ho_read 38 = .ok (.iconst 0, 1) := by decide +kernel
theorem d_Ho_read_39 : decode b_Ho_read 39 = .ok (.putfield 108, 3) := by decide +kernel
theorem d_Ho_read_42 : decode b_Ho_read 42 = .ok (.iload_n 3, 1) := by decide +kernel
theorem d_Ho_read_43 : decode b_Ho_read 43 = .ok (.ifCond .ne 5, 3) := by decide +kernel
theorem d_Ho_read_48 : decode b_Ho_read 48 = .ok (.aload_n 0, 1) := by decide +kernel
theorem d_Ho_read_49 : decode b_Ho_read 49 = .ok (.getfield 13, 3) := by decide +kernel
theorem d_Ho_read_52 : decode b_Ho_read 52 = .ok (.iload_n 1, 1) := by decide +kernel
theorem d_Ho_read_53 : decode b_Ho_read 53 = .ok (.aaload, 1) := by decide +kernel
theorem d_Ho_read_54 : decode b_Ho_read 54 = .ok (.aload_n 0, 1) := by decide +kernel
theorem d_Ho_read_55 : decode b_Ho_read 55 = .ok (.getfield 38, 3) := by decide +kernel
theorem d_Ho_read_58 : decode b_Ho_read 58 = .ok (.getfield 122, 3) := by decide +kernel
theorem d_Ho_read_61 : decode b_Ho_read 61 = .ok (.invokevirtual 126, 3) := by decide +kernel
theorem d_Ho_read_64 : decode b_Ho_read 64 = .ok (.aload_n 0, 1) := by decide +kernel
theorem d_Ho_read_65 : decode b_Ho_read 65 = .ok (.iload_n 1, 1) := by decide +kernel
theorem d_Ho_read_66 : decode b_Ho_read 66 = .ok (.invokevirtual 129, 3) := by decide +kernel
theorem d_Ho_read_69 : decode b_Ho_read 69 = .ok (.aload_n 0, 1) := by decide +kernel
theorem d_Ho_read_70 : decode b_Ho_read 70 = .ok (.getfield 13, 3) := by decide +kernel
theorem d_Ho_read_73 : decode b_Ho_read 73 = .ok (.iload_n 1, 1) := by decide +kernel
theorem d_Ho_read_74 : decode b_Ho_read 74 = .ok (.aaload, 1) := by decide +kernel
theorem d_Ho_read_75 : decode b_Ho_read 75 = .ok (.getfield 132, 3) := by decide +kernel
theorem d_Ho_read_78 : decode b_Ho_read 78 = .ok (.ireturn, 1) := by decide +kernel
abbrev b_Mo_read : ByteArray := prog_15_method_41_code
def y_Mo_read : MethodName := ⟨"DrawingHouseModel", "read", "(II)I"⟩
abbrev z_Mo_read : List Cond := Cond.code y_Mo_read b_Mo_read 4 (some .int) :: lw_g
theorem d_Mo_read_0 : decode b_Mo_read 0 = .ok (.iload_n 1, 1) := by decide +kernel
theorem d_Mo_read_1 : decode b_Mo_read 1 = .ok (.invokestatic 521, 3) := by decide +kernel
theorem d_Mo_read_4 : decode b_Mo_read 4 = .ok (.ifCond .eq 15, 3) := by decide +kernel
theorem d_Mo_read_7 : decode b_Mo_read 7 = .ok (.iload_n 2, 1) := by decide +kernel
theorem d_Mo_read_8 : decode b_Mo_read 8 = .ok (.ifCond .lt 11, 3) := by decide +kernel
theorem d_Mo_read_11 : decode b_Mo_read 11 = .ok (.iload_n 2, 1) := by decide +kernel
theorem d_Mo_read_12 : decode b_Mo_read 12 = .ok (.aload_n 0, 1) := by decide +kernel
theorem d_Mo_read_13 : decode b_Mo_read 13 = .ok (.getfield 383, 3) := by decide +kernel
theorem d_Mo_read_16 : decode b_Mo_read 16 = .ok (.if_icmp .le 6, 3) := by decide +kernel
theorem d_Mo_read_19 : decode b_Mo_read 19 = .ok (.bipush (-2), 2) := by decide +kernel
theorem d_Mo_read_21 : decode b_Mo_read 21 = .ok (.ireturn, 1) := by decide +kernel
theorem d_Mo_read_22 : decode b_Mo_read 22 = .ok (.aload_n 0, 1) := by decide +kernel
theorem d_Mo_read_23 : decode b_Mo_read 23 = .ok (.iconst 0, 1) := by decide +kernel
theorem d_Mo_read_24 : decode b_Mo_read 24 = .ok (.putfield 383, 3) := by decide +kernel
theorem d_Mo_read_27 : decode b_Mo_read 27 = .ok (.aload_n 0, 1) := by decide +kernel
theorem d_Mo_read_28 : decode b_Mo_read 28 = .ok (.iconst 1, 1) := by decide +kernel
theorem d_Mo_read_29 : decode b_Mo_read 29 = .ok (.putfield 409, 3) := by decide +kernel
theorem d_Mo_read_32 : decode b_Mo_read 32 = .ok (.aload_n 0, 1) := by decide +kernel
theorem d_Mo_read_33 : decode b_Mo_read 33 = .ok (.iconst 0, 1) := by decide +kernel
theorem d_Mo_read_34 : decode b_Mo_read 34 = .ok (.putfield 413, 3) := by decide +kernel
theorem d_Mo_read_37 : decode b_Mo_read 37 = .ok (.aload_n 0, 1) := by decide +kernel
theorem d_Mo_read_38 : decode b_Mo_read 38 = .ok (.iload_n 2, 1) := by decide +kernel
theorem d_Mo_read_39 : decode b_Mo_read 39 = .ok (.putfield 419, 3) := by decide +kernel
theorem d_Mo_read_42 : decode b_Mo_read 42 = .ok (.aload_n 0, 1) := by decide +kernel
theorem d_Mo_read_43 : decode b_Mo_read 43 = .ok (.iconst 0, 1) := by decide +kernel
theorem d_Mo_read_44 : decode b_Mo_read 44 = .ok (.putfield 422, 3) := by decide +kernel
theorem d_Mo_read_47 : decode b_Mo_read 47 = .ok (.aload_n 0, 1) := by decide +kernel
theorem d_Mo_read_48 : decode b_Mo_read 48 = .ok (.iload_n 1, 1) := by decide +kernel
theorem d_Mo_read_49 : decode b_Mo_read 49 = .ok (.iconst 0, 1) := by decide +kernel
theorem d_Mo_read_50 : decode b_Mo_read 50 = .ok (.invokestatic 372, 3) := by decide +kernel
theorem d_Mo_read_53 : decode b_Mo_read 53 = .ok (.putfield 391, 3) := by decide +kernel
theorem d_Mo_read_56 : decode b_Mo_read 56 = .ok (.iconst 0, 1) := by decide +kernel
theorem d_Mo_read_57 : decode b_Mo_read 57 = .ok (.istore_n 3, 1) := by decide +kernel
theorem d_Mo_read_58 : decode b_Mo_read 58 = .ok (.iload_n 3, 1) := by decide +kernel
theorem d_Mo_read_59 : decode b_Mo_read 59 = .ok (.sipush 539, 3) := by decide +kernel
theorem d_Mo_read_62 : decode b_Mo_read 62 = .ok (.if_icmp .ge 26, 3) := by decide +kernel
theorem d_Mo_read_65 : decode b_Mo_read 65 = .ok (.aload_n 0, 1) := by decide +kernel
theorem d_Mo_read_66 : decode b_Mo_read 66 = .ok (.getfield 26, 3) := by decide +kernel
theorem d_Mo_read_69 : decode b_Mo_read 69 = .ok (.iload_n 3, 1) := by decide +kernel
theorem d_Mo_read_70 : decode b_Mo_read 70 = .ok (.aload_n 0, 1) := by decide +kernel
theorem d_Mo_read_71 : decode b_Mo_read 71 = .ok (.getfield 16, 3) := by decide +kernel
theorem d_Mo_read_74 : decode b_Mo_read 74 = .ok (.aload_n 0, 1) := by decide +kernel
theorem d_Mo_read_75 : decode b_Mo_read 75 = .ok (.getfield 391, 3) := by decide +kernel
theorem d_Mo_read_78 : decode b_Mo_read 78 = .ok (.iload_n 3, 1) := by decide +kernel
theorem d_Mo_read_79 : decode b_Mo_read 79 = .ok (.iadd, 1) := by decide +kernel
theorem d_Mo_read_80 : decode b_Mo_read 80 = .ok (.iaload, 1) := by decide +kernel
theorem d_Mo_read_81 : decode b_Mo_read 81 = .ok (.iastore, 1) := by decide +kernel
theorem d_Mo_read_82 : decode b_Mo_read 82 = .ok (.iinc 3 1, 3) := by decide +kernel
theorem d_Mo_read_85 : decode b_Mo_read 85 = .ok (.goto (-27), 3) := by decide +kernel
theorem d_Mo_read_88 : decode b_Mo_read 88 = .ok (.aload_n 0, 1) := by decide +kernel
theorem d_Mo_read_89 : decode b_Mo_read 89 = .ok (.aload_n 0, 1) := by decide +kernel
theorem d_Mo_read_90 : decode b_Mo_read 90 = .ok (.getfield 391, 3) := by decide +kernel
theorem d_Mo_read_93 : decode b_Mo_read 93 = .ok (.invokevirtual 376, 3) := by decide +kernel
theorem d_Mo_read_96 : decode b_Mo_read 96 = .ok (.aload_n 0, 1) := by decide +kernel
theorem d_Mo_read_97 : decode b_Mo_read 97 = .ok (.invokevirtual 460, 3) := by decide +kernel
theorem d_Mo_read_100 : decode b_Mo_read 100 = .ok (.aload_n 0, 1) := by decide +kernel
theorem d_Mo_read_101 : decode b_Mo_read 101 = .ok (.getfield 413, 3) := by decide +kernel
theorem d_Mo_read_104 : decode b_Mo_read 104 = .ok (.ifCond .ne 19, 3) := by decide +kernel
theorem d_Mo_read_107 : decode b_Mo_read 107 = .ok (.aload_n 0, 1) := by decide +kernel
theorem d_Mo_read_108 : decode b_Mo_read 108 = .ok (.getfield 434, 3) := by decide +kernel
theorem d_Mo_read_111 : decode b_Mo_read 111 = .ok (.ifCond .eq 12, 3) := by decide +kernel
theorem d_Mo_read_123 : decode b_Mo_read 123 = .ok (.aload_n 0, 1) := by decide +kernel
theorem d_Mo_read_124 : decode b_Mo_read 124 = .ok (.getfield 413, 3) := by decide +kernel
theorem d_Mo_read_127 : decode b_Mo_read 127 = .ok (.ifCond .le 37, 3) := by decide +kernel
theorem d_Mo_read_164 : decode b_Mo_read 164 = .ok (.aload_n 0, 1) := by decide +kernel
theorem d_Mo_read_165 : decode b_Mo_read 165 = .ok (.getfield 20, 3) := by decide +kernel
theorem d_Mo_read_168 : decode b_Mo_read 168 = .ok (.iload_n 1, 1) := by decide +kernel
theorem d_Mo_read_169 : decode b_Mo_read 169 = .ok (.iconst 0, 1) := by decide +kernel
theorem d_Mo_read_170 : decode b_Mo_read 170 = .ok (.iastore, 1) := by decide +kernel
theorem d_Mo_read_171 : decode b_Mo_read 171 = .ok (.aload_n 0, 1) := by decide +kernel
theorem d_Mo_read_172 : decode b_Mo_read 172 = .ok (.getfield 23, 3) := by decide +kernel
theorem d_Mo_read_175 : decode b_Mo_read 175 = .ok (.iload_n 1, 1) := by decide +kernel
theorem d_Mo_read_176 : decode b_Mo_read 176 = .ok (.iconst 0, 1) := by decide +kernel
theorem d_Mo_read_177 : decode b_Mo_read 177 = .ok (.iastore, 1) := by decide +kernel
theorem d_Mo_read_178 : decode b_Mo_read 178 = .ok (.aload_n 0, 1) := by decide +kernel
theorem d_Mo_read_179 : decode b_Mo_read 179 = .ok (.iload_n 1, 1) := by decide +kernel
theorem d_Mo_read_180 : decode b_Mo_read 180 = .ok (.invokevirtual 524, 3) := by decide +kernel
theorem d_Mo_read_183 : decode b_Mo_read 183 = .ok (.aload_n 0, 1) := by decide +kernel
theorem d_Mo_read_184 : decode b_Mo_read 184 = .ok (.invokevirtual 475, 3) := by decide +kernel
theorem d_Mo_read_187 : decode b_Mo_read 187 = .ok (.ireturn, 1) := by decide +kernel
abbrev b_Gr_clear : ByteArray := prog_5_method_2_code
def y_Gr_clear : MethodName := ⟨"DrawingHouse$Graph", "clear", "()V"⟩
abbrev z_Gr_clear : List Cond := Cond.code y_Gr_clear b_Gr_clear 1 none :: lw_g
theorem d_Gr_clear_0 : decode b_Gr_clear 0 = .ok (.aload_n 0, 1) := by decide +kernel
theorem d_Gr_clear_1 : decode b_Gr_clear 1 = .ok (.iconst 0, 1) := by decide +kernel
theorem d_Gr_clear_2 : decode b_Gr_clear 2 = .ok (.putfield 9, 3) := by decide +kernel
theorem d_Gr_clear_5 : decode b_Gr_clear 5 = .ok (.aload_n 0, 1) := by decide +kernel
theorem d_Gr_clear_6 : decode b_Gr_clear 6 = .ok (.iconst 0, 1) := by decide +kernel
theorem d_Gr_clear_7 : decode b_Gr_clear 7 = .ok (.putfield 15, 3) := by decide +kernel
theorem d_Gr_clear_10 : decode b_Gr_clear 10 = .ok (.aload_n 0, 1) := by decide +kernel
theorem d_Gr_clear_11 : decode b_Gr_clear 11 = .ok (.iconst 1, 1) := by decide +kernel
theorem d_Gr_clear_12 : decode b_Gr_clear 12 = .ok (.putfield 18, 3) := by decide +kernel
theorem d_Gr_clear_15 : decode b_Gr_clear 15 = .ok (.aload_n 0, 1) := by decide +kernel
theorem d_Gr_clear_16 : decode b_Gr_clear 16 = .ok (.iconst 0, 1) := by decide +kernel
theorem d_Gr_clear_17 : decode b_Gr_clear 17 = .ok (.putfield 65, 3) := by decide +kernel
theorem d_Gr_clear_20 : decode b_Gr_clear 20 = .ok (.aload_n 0, 1) := by decide +kernel
theorem d_Gr_clear_21 : decode b_Gr_clear 21 = .ok (.iconst 0, 1) := by decide +kernel
theorem d_Gr_clear_22 : decode b_Gr_clear 22 = .ok (.putfield 68, 3) := by decide +kernel
theorem d_Gr_clear_25 : decode b_Gr_clear 25 = .ok (.aload_n 0, 1) := by decide +kernel
theorem d_Gr_clear_26 : decode b_Gr_clear 26 = .ok (.getfield 56, 3) := by decide +kernel
theorem d_Gr_clear_29 : decode b_Gr_clear 29 = .ok (.iconst 0, 1) := by decide +kernel
theorem d_Gr_clear_30 : decode b_Gr_clear 30 = .ok (.invokestatic 71, 3) := by decide +kernel
theorem d_Gr_clear_33 : decode b_Gr_clear 33 = .ok (.aload_n 0, 1) := by decide +kernel
theorem d_Gr_clear_34 : decode b_Gr_clear 34 = .ok (.getfield 59, 3) := by decide +kernel
theorem d_Gr_clear_37 : decode b_Gr_clear 37 = .ok (.iconst (-1), 1) := by decide +kernel
theorem d_Gr_clear_38 : decode b_Gr_clear 38 = .ok (.invokestatic 71, 3) := by decide +kernel
theorem d_Gr_clear_41 : decode b_Gr_clear 41 = .ok (.return_, 1) := by decide +kernel
abbrev b_Re_advance : ByteArray := prog_10_method_9_code
def y_Re_advance : MethodName := ⟨"DrawingHouse$Reader", "advance", "()V"⟩
abbrev z_Re_advance : List Cond := Cond.code y_Re_advance b_Re_advance 2 none :: lw_g
theorem d_Re_advance_0 : decode b_Re_advance 0 = .ok (.aload_n 0, 1) := by decide +kernel
theorem d_Re_advance_1 : decode b_Re_advance 1 = .ok (.getfield 35, 3) := by decide +kernel
theorem d_Re_advance_4 : decode b_Re_advance 4 = .ok (.aload_n 0, 1) := by decide +kernel
theorem d_Re_advance_5 : decode b_Re_advance 5 = .ok (.getfield 32, 3) := by decide +kernel
theorem d_Re_advance_8 : decode b_Re_advance 8 = .ok (.if_icmp .ge 44, 3) := by decide +kernel
theorem d_Re_advance_52 : decode b_Re_advance 52 = .ok (.aload_n 0, 1) := by decide +kernel
theorem d_Re_advance_53 : decode b_Re_advance 53 = .ok (.aload_n 0, 1) := by decide +kernel
theorem d_Re_advance_54 : decode b_Re_advance 54 = .ok (.getfield 35, 3) := by decide +kernel
theorem d_Re_advance_57 : decode b_Re_advance 57 = .ok (.putfield 41, 3) := by decide +kernel
theorem d_Re_advance_60 : decode b_Re_advance 60 = .ok (.aload_n 0, 1) := by decide +kernel
theorem d_Re_advance_61 : decode b_Re_advance 61 = .ok (.getfield 35, 3) := by decide +kernel
theorem d_Re_advance_64 : decode b_Re_advance 64 = .ok (.aload_n 0, 1) := by decide +kernel
theorem d_Re_advance_65 : decode b_Re_advance 65 = .ok (.getfield 32, 3) := by decide +kernel
theorem d_Re_advance_68 : decode b_Re_advance 68 = .ok (.if_icmp .lt 9, 3) := by decide +kernel
theorem d_Re_advance_71 : decode b_Re_advance 71 = .ok (.aload_n 0, 1) := by decide +kernel
theorem d_Re_advance_72 : decode b_Re_advance 72 = .ok (.iconst 0, 1) := by decide +kernel
theorem d_Re_advance_73 : decode b_Re_advance 73 = .ok (.putfield 38, 3) := by decide +kernel
theorem d_Re_advance_76 : decode b_Re_advance 76 = .ok (.return_, 1) := by decide +kernel
abbrev b_Re_readGraph : ByteArray := prog_10_method_3_code
def y_Re_readGraph : MethodName := ⟨"DrawingHouse$Reader", "readGraph", "(I)Z"⟩
abbrev z_Re_readGraph : List Cond := Cond.code y_Re_readGraph b_Re_readGraph 3 (some .boolean) :: lw_g
theorem d_Re_readGraph_0 : decode b_Re_readGraph 0 = .ok (.aload_n 0, 1) := by decide +kernel
theorem d_Re_readGraph_1 : decode b_Re_readGraph 1 = .ok (.getfield 28, 3) := by decide +kernel
theorem d_Re_readGraph_4 : decode b_Re_readGraph 4 = .ok (.invokevirtual 54, 3) := by decide +kernel
theorem d_Re_readGraph_7 : decode b_Re_readGraph 7 = .ok (.aload_n 0, 1) := by decide +kernel
theorem d_Re_readGraph_8 : decode b_Re_readGraph 8 = .ok (.iload_n 1, 1) := by decide +kernel
theorem d_Re_readGraph_9 : decode b_Re_readGraph 9 = .ok (.putfield 32, 3) := by decide +kernel
theorem d_Re_readGraph_12 : decode b_Re_readGraph 12 = .ok (.aload_n 0, 1) := by decide +kernel
theorem d_Re_readGraph_13 : decode b_Re_readGraph 13 = .ok (.iconst 0, 1) := by decide +kernel
theorem d_Re_readGraph_14 : decode b_Re_readGraph 14 = .ok (.putfield 35, 3) := by decide +kernel
theorem d_Re_readGraph_17 : decode b_Re_readGraph 17 = .ok (.aload_n 0, 1) := by decide +kernel
theorem d_Re_readGraph_18 : decode b_Re_readGraph 18 = .ok (.iconst 0, 1) := by decide +kernel
theorem d_Re_readGraph_19 : decode b_Re_readGraph 19 = .ok (.putfield 51, 3) := by decide +kernel
theorem d_Re_readGraph_22 : decode b_Re_readGraph 22 = .ok (.aload_n 0, 1) := by decide +kernel
theorem d_Re_readGraph_23 : decode b_Re_readGraph 23 = .ok (.getfield 47, 3) := by decide +kernel
theorem d_Re_readGraph_26 : decode b_Re_readGraph 26 = .ok (.iconst 0, 1) := by decide +kernel
theorem d_Re_readGraph_27 : decode b_Re_readGraph 27 = .ok (.iconst 0, 1) := by decide +kernel
theorem d_Re_readGraph_28 : decode b_Re_readGraph 28 = .ok (.iastore, 1) := by decide +kernel
theorem d_Re_readGraph_29 : decode b_Re_readGraph 29 = .ok (.aload_n 0, 1) := by decide +kernel
theorem d_Re_readGraph_30 : decode b_Re_readGraph 30 = .ok (.iconst 0, 1) := by decide +kernel
theorem d_Re_readGraph_31 : decode b_Re_readGraph 31 = .ok (.putfield 19, 3) := by decide +kernel
theorem d_Re_readGraph_34 : decode b_Re_readGraph 34 = .ok (.aload_n 0, 1) := by decide +kernel
theorem d_Re_readGraph_35 : decode b_Re_readGraph 35 = .ok (.iconst (-1), 1) := by decide +kernel
theorem d_Re_readGraph_36 : decode b_Re_readGraph 36 = .ok (.putfield 22, 3) := by decide +kernel
theorem d_Re_readGraph_39 : decode b_Re_readGraph 39 = .ok (.iconst 0, 1) := by decide +kernel
theorem d_Re_readGraph_40 : decode b_Re_readGraph 40 = .ok (.istore_n 2, 1) := by decide +kernel
theorem d_Re_readGraph_41 : decode b_Re_readGraph 41 = .ok (.iload_n 2, 1) := by decide +kernel
theorem d_Re_readGraph_42 : decode b_Re_readGraph 42 = .ok (.iload_n 1, 1) := by decide +kernel
theorem d_Re_readGraph_43 : decode b_Re_readGraph 43 = .ok (.if_icmp .gt 38, 3) := by decide +kernel
theorem d_Re_readGraph_46 : decode b_Re_readGraph 46 = .ok (.aload_n 0, 1) := by decide +kernel
theorem d_Re_readGraph_47 : decode b_Re_readGraph 47 = .ok (.invokevirtual 57, 3) := by decide +kernel
theorem d_Re_readGraph_50 : decode b_Re_readGraph 50 = .ok (.aload_n 0, 1) := by decide +kernel
theorem d_Re_readGraph_51 : decode b_Re_readGraph 51 = .ok (.getfield 38, 3) := by decide +kernel
theorem d_Re_readGraph_54 : decode b_Re_readGraph 54 = .ok (.ifCond .ne 12, 3) := by decide +kernel
theorem d_Re_readGraph_57 : decode b_Re_readGraph 57 = .ok (.aload_n 0, 1) := by decide +kernel
theorem d_Re_readGraph_58 : decode b_Re_readGraph 58 = .ok (.getfield 51, 3) := by decide +kernel
theorem d_Re_readGraph_61 : decode b_Re_readGraph 61 = .ok (.ifCond .ne 5, 3) := by decide +kernel
theorem d_Re_readGraph_64 : decode b_Re_readGraph 64 = .ok (.iconst 1, 1) := by decide +kernel
theorem d_Re_readGraph_65 : decode b_Re_readGraph 65 = .ok (.ireturn, 1) := by decide +kernel
abbrev b_Gr_relink : ByteArray := prog_5_method_17_code
def y_Gr_relink : MethodName := ⟨"DrawingHouse$Graph", "relink", "()V"⟩
abbrev z_Gr_relink : List Cond := Cond.code y_Gr_relink b_Gr_relink 2 none :: lw_g
theorem d_Gr_relink_0 : decode b_Gr_relink 0 = .ok (.aload_n 0, 1) := by decide +kernel
theorem d_Gr_relink_1 : decode b_Gr_relink 1 = .ok (.getfield 56, 3) := by decide +kernel
theorem d_Gr_relink_4 : decode b_Gr_relink 4 = .ok (.iconst 0, 1) := by decide +kernel
theorem d_Gr_relink_5 : decode b_Gr_relink 5 = .ok (.invokestatic 71, 3) := by decide +kernel
theorem d_Gr_relink_8 : decode b_Gr_relink 8 = .ok (.aload_n 0, 1) := by decide +kernel
theorem d_Gr_relink_9 : decode b_Gr_relink 9 = .ok (.getfield 59, 3) := by decide +kernel
theorem d_Gr_relink_12 : decode b_Gr_relink 12 = .ok (.iconst (-1), 1) := by decide +kernel
theorem d_Gr_relink_13 : decode b_Gr_relink 13 = .ok (.invokestatic 71, 3) := by decide +kernel
theorem d_Gr_relink_16 : decode b_Gr_relink 16 = .ok (.iconst 0, 1) := by decide +kernel
theorem d_Gr_relink_17 : decode b_Gr_relink 17 = .ok (.istore_n 1, 1) := by decide +kernel
theorem d_Gr_relink_18 : decode b_Gr_relink 18 = .ok (.iload_n 1, 1) := by decide +kernel
theorem d_Gr_relink_19 : decode b_Gr_relink 19 = .ok (.aload_n 0, 1) := by decide +kernel
theorem d_Gr_relink_20 : decode b_Gr_relink 20 = .ok (.getfield 15, 3) := by decide +kernel
theorem d_Gr_relink_23 : decode b_Gr_relink 23 = .ok (.if_icmp .ge 14, 3) := by decide +kernel
theorem d_Gr_relink_37 : decode b_Gr_relink 37 = .ok (.return_, 1) := by decide +kernel
abbrev b_Gr_copyFrom : ByteArray := prog_5_method_3_code
def y_Gr_copyFrom : MethodName := ⟨"DrawingHouse$Graph", "copyFrom", "(LDrawingHouse$Graph;)V"⟩
abbrev z_Gr_copyFrom : List Cond := Cond.code y_Gr_copyFrom b_Gr_copyFrom 2 none :: lw_g
theorem d_Gr_copyFrom_0 : decode b_Gr_copyFrom 0 = .ok (.aload_n 0, 1) := by decide +kernel
theorem d_Gr_copyFrom_1 : decode b_Gr_copyFrom 1 = .ok (.aload_n 1, 1) := by decide +kernel
theorem d_Gr_copyFrom_2 : decode b_Gr_copyFrom 2 = .ok (.getfield 9, 3) := by decide +kernel
theorem d_Gr_copyFrom_5 : decode b_Gr_copyFrom 5 = .ok (.putfield 9, 3) := by decide +kernel
theorem d_Gr_copyFrom_8 : decode b_Gr_copyFrom 8 = .ok (.aload_n 0, 1) := by decide +kernel
theorem d_Gr_copyFrom_9 : decode b_Gr_copyFrom 9 = .ok (.aload_n 1, 1) := by decide +kernel
theorem d_Gr_copyFrom_10 : decode b_Gr_copyFrom 10 = .ok (.getfield 15, 3) := by decide +kernel
theorem d_Gr_copyFrom_13 : decode b_Gr_copyFrom 13 = .ok (.putfield 15, 3) := by decide +kernel
theorem d_Gr_copyFrom_16 : decode b_Gr_copyFrom 16 = .ok (.aload_n 0, 1) := by decide +kernel
theorem d_Gr_copyFrom_17 : decode b_Gr_copyFrom 17 = .ok (.aload_n 1, 1) := by decide +kernel
theorem d_Gr_copyFrom_18 : decode b_Gr_copyFrom 18 = .ok (.getfield 18, 3) := by decide +kernel
theorem d_Gr_copyFrom_21 : decode b_Gr_copyFrom 21 = .ok (.putfield 18, 3) := by decide +kernel
theorem d_Gr_copyFrom_24 : decode b_Gr_copyFrom 24 = .ok (.aload_n 0, 1) := by decide +kernel
theorem d_Gr_copyFrom_25 : decode b_Gr_copyFrom 25 = .ok (.iconst 0, 1) := by decide +kernel
theorem d_Gr_copyFrom_26 : decode b_Gr_copyFrom 26 = .ok (.putfield 65, 3) := by decide +kernel
theorem d_Gr_copyFrom_29 : decode b_Gr_copyFrom 29 = .ok (.aload_n 0, 1) := by decide +kernel
theorem d_Gr_copyFrom_30 : decode b_Gr_copyFrom 30 = .ok (.iconst 0, 1) := by decide +kernel
theorem d_Gr_copyFrom_31 : decode b_Gr_copyFrom 31 = .ok (.putfield 68, 3) := by decide +kernel
theorem d_Gr_copyFrom_34 : decode b_Gr_copyFrom 34 = .ok (.aload_n 1, 1) := by decide +kernel
theorem d_Gr_copyFrom_35 : decode b_Gr_copyFrom 35 = .ok (.getfield 21, 3) := by decide +kernel
theorem d_Gr_copyFrom_38 : decode b_Gr_copyFrom 38 = .ok (.iconst 0, 1) := by decide +kernel
theorem d_Gr_copyFrom_39 : decode b_Gr_copyFrom 39 = .ok (.aload_n 0, 1) := by decide +kernel
theorem d_Gr_copyFrom_40 : decode b_Gr_copyFrom 40 = .ok (.getfield 21, 3) := by decide +kernel
theorem d_Gr_copyFrom_43 : decode b_Gr_copyFrom 43 = .ok (.iconst 0, 1) := by decide +kernel
theorem d_Gr_copyFrom_44 : decode b_Gr_copyFrom 44 = .ok (.aload_n 0, 1) := by decide +kernel
theorem d_Gr_copyFrom_45 : decode b_Gr_copyFrom 45 = .ok (.getfield 21, 3) := by decide +kernel
theorem d_Gr_copyFrom_48 : decode b_Gr_copyFrom 48 = .ok (.arraylength, 1) := by decide +kernel
theorem d_Gr_copyFrom_49 : decode b_Gr_copyFrom 49 = .ok (.invokestatic 77, 3) := by decide +kernel
theorem d_Gr_copyFrom_52 : decode b_Gr_copyFrom 52 = .ok (.aload_n 1, 1) := by decide +kernel
theorem d_Gr_copyFrom_53 : decode b_Gr_copyFrom 53 = .ok (.getfield 25, 3) := by decide +kernel
theorem d_Gr_copyFrom_56 : decode b_Gr_copyFrom 56 = .ok (.iconst 0, 1) := by decide +kernel
theorem d_Gr_copyFrom_57 : decode b_Gr_copyFrom 57 = .ok (.aload_n 0, 1) := by decide +kernel
theorem d_Gr_copyFrom_58 : decode b_Gr_copyFrom 58 = .ok (.getfield 25, 3) := by decide +kernel
theorem d_Gr_copyFrom_61 : decode b_Gr_copyFrom 61 = .ok (.iconst 0, 1) := by decide +kernel
theorem d_Gr_copyFrom_62 : decode b_Gr_copyFrom 62 = .ok (.bipush 24, 2) := by decide +kernel
theorem d_Gr_copyFrom_64 : decode b_Gr_copyFrom 64 = .ok (.invokestatic 77, 3) := by decide +kernel
theorem d_Gr_copyFrom_67 : decode b_Gr_copyFrom 67 = .ok (.aload_n 1, 1) := by decide +kernel
theorem d_Gr_copyFrom_68 : decode b_Gr_copyFrom 68 = .ok (.getfield 29, 3) := by decide +kernel
theorem d_Gr_copyFrom_71 : decode b_Gr_copyFrom 71 = .ok (.iconst 0, 1) := by decide +kernel
theorem d_Gr_copyFrom_72 : decode b_Gr_copyFrom 72 = .ok (.aload_n 0, 1) := by decide +kernel
theorem d_Gr_copyFrom_73 : decode b_Gr_copyFrom 73 = .ok (.getfield 29, 3) := by decide +kernel
theorem d_Gr_copyFrom_76 : decode b_Gr_copyFrom 76 = .ok (.iconst 0, 1) := by decide +kernel
theorem d_Gr_copyFrom_77 : decode b_Gr_copyFrom 77 = .ok (.bipush 24, 2) := by decide +kernel
theorem d_Gr_copyFrom_79 : decode b_Gr_copyFrom 79 = .ok (.invokestatic 77, 3) := by decide +kernel
theorem d_Gr_copyFrom_82 : decode b_Gr_copyFrom 82 = .ok (.aload_n 1, 1) := by decide +kernel
theorem d_Gr_copyFrom_83 : decode b_Gr_copyFrom 83 = .ok (.getfield 32, 3) := by decide +kernel
theorem d_Gr_copyFrom_86 : decode b_Gr_copyFrom 86 = .ok (.iconst 0, 1) := by decide +kernel
theorem d_Gr_copyFrom_87 : decode b_Gr_copyFrom 87 = .ok (.aload_n 0, 1) := by decide +kernel
theorem d_Gr_copyFrom_88 : decode b_Gr_copyFrom 88 = .ok (.getfield 32, 3) := by decide +kernel
theorem d_Gr_copyFrom_91 : decode b_Gr_copyFrom 91 = .ok (.iconst 0, 1) := by decide +kernel
theorem d_Gr_copyFrom_92 : decode b_Gr_copyFrom 92 = .ok (.bipush 24, 2) := by decide +kernel
theorem d_Gr_copyFrom_94 : decode b_Gr_copyFrom 94 = .ok (.invokestatic 77, 3) := by decide +kernel
theorem d_Gr_copyFrom_97 : decode b_Gr_copyFrom 97 = .ok (.aload_n 1, 1) := by decide +kernel
theorem d_Gr_copyFrom_98 : decode b_Gr_copyFrom 98 = .ok (.getfield 35, 3) := by decide +kernel
theorem d_Gr_copyFrom_101 : decode b_Gr_copyFrom 101 = .ok (.iconst 0, 1) := by decide +kernel
theorem d_Gr_copyFrom_102 : decode b_Gr_copyFrom 102 = .ok (.aload_n 0, 1) := by decide +kernel
theorem d_Gr_copyFrom_103 : decode b_Gr_copyFrom 103 = .ok (.getfield 35, 3) := by decide +kernel
theorem d_Gr_copyFrom_106 : decode b_Gr_copyFrom 106 = .ok (.iconst 0, 1) := by decide +kernel
theorem d_Gr_copyFrom_107 : decode b_Gr_copyFrom 107 = .ok (.bipush 48, 2) := by decide +kernel
theorem d_Gr_copyFrom_109 : decode b_Gr_copyFrom 109 = .ok (.invokestatic 77, 3) := by decide +kernel
theorem d_Gr_copyFrom_112 : decode b_Gr_copyFrom 112 = .ok (.aload_n 1, 1) := by decide +kernel
theorem d_Gr_copyFrom_113 : decode b_Gr_copyFrom 113 = .ok (.getfield 38, 3) := by decide +kernel
theorem d_Gr_copyFrom_116 : decode b_Gr_copyFrom 116 = .ok (.iconst 0, 1) := by decide +kernel
theorem d_Gr_copyFrom_117 : decode b_Gr_copyFrom 117 = .ok (.aload_n 0, 1) := by decide +kernel
theorem d_Gr_copyFrom_118 : decode b_Gr_copyFrom 118 = .ok (.getfield 38, 3) := by decide +kernel
theorem d_Gr_copyFrom_121 : decode b_Gr_copyFrom 121 = .ok (.iconst 0, 1) := by decide +kernel
theorem d_Gr_copyFrom_122 : decode b_Gr_copyFrom 122 = .ok (.bipush 48, 2) := by decide +kernel
theorem d_Gr_copyFrom_124 : decode b_Gr_copyFrom 124 = .ok (.invokestatic 77, 3) := by decide +kernel
theorem d_Gr_copyFrom_127 : decode b_Gr_copyFrom 127 = .ok (.aload_n 1, 1) := by decide +kernel
theorem d_Gr_copyFrom_128 : decode b_Gr_copyFrom 128 = .ok (.getfield 41, 3) := by decide +kernel
theorem d_Gr_copyFrom_131 : decode b_Gr_copyFrom 131 = .ok (.iconst 0, 1) := by decide +kernel
theorem d_Gr_copyFrom_132 : decode b_Gr_copyFrom 132 = .ok (.aload_n 0, 1) := by decide +kernel
theorem d_Gr_copyFrom_133 : decode b_Gr_copyFrom 133 = .ok (.getfield 41, 3) := by decide +kernel
theorem d_Gr_copyFrom_136 : decode b_Gr_copyFrom 136 = .ok (.iconst 0, 1) := by decide +kernel
theorem d_Gr_copyFrom_137 : decode b_Gr_copyFrom 137 = .ok (.bipush 48, 2) := by decide +kernel
theorem d_Gr_copyFrom_139 : decode b_Gr_copyFrom 139 = .ok (.invokestatic 77, 3) := by decide +kernel
theorem d_Gr_copyFrom_142 : decode b_Gr_copyFrom 142 = .ok (.aload_n 1, 1) := by decide +kernel
theorem d_Gr_copyFrom_143 : decode b_Gr_copyFrom 143 = .ok (.getfield 44, 3) := by decide +kernel
theorem d_Gr_copyFrom_146 : decode b_Gr_copyFrom 146 = .ok (.iconst 0, 1) := by decide +kernel
theorem d_Gr_copyFrom_147 : decode b_Gr_copyFrom 147 = .ok (.aload_n 0, 1) := by decide +kernel
theorem d_Gr_copyFrom_148 : decode b_Gr_copyFrom 148 = .ok (.getfield 44, 3) := by decide +kernel
theorem d_Gr_copyFrom_151 : decode b_Gr_copyFrom 151 = .ok (.iconst 0, 1) := by decide +kernel
theorem d_Gr_copyFrom_152 : decode b_Gr_copyFrom 152 = .ok (.bipush 48, 2) := by decide +kernel
theorem d_Gr_copyFrom_154 : decode b_Gr_copyFrom 154 = .ok (.invokestatic 77, 3) := by decide +kernel
theorem d_Gr_copyFrom_157 : decode b_Gr_copyFrom 157 = .ok (.aload_n 1, 1) := by decide +kernel
theorem d_Gr_copyFrom_158 : decode b_Gr_copyFrom 158 = .ok (.getfield 47, 3) := by decide +kernel
theorem d_Gr_copyFrom_161 : decode b_Gr_copyFrom 161 = .ok (.iconst 0, 1) := by decide +kernel
theorem d_Gr_copyFrom_162 : decode b_Gr_copyFrom 162 = .ok (.aload_n 0, 1) := by decide +kernel
theorem d_Gr_copyFrom_163 : decode b_Gr_copyFrom 163 = .ok (.getfield 47, 3) := by decide +kernel
theorem d_Gr_copyFrom_166 : decode b_Gr_copyFrom 166 = .ok (.iconst 0, 1) := by decide +kernel
theorem d_Gr_copyFrom_167 : decode b_Gr_copyFrom 167 = .ok (.bipush 8, 2) := by decide +kernel
theorem d_Gr_copyFrom_169 : decode b_Gr_copyFrom 169 = .ok (.invokestatic 77, 3) := by decide +kernel
theorem d_Gr_copyFrom_172 : decode b_Gr_copyFrom 172 = .ok (.aload_n 1, 1) := by decide +kernel
theorem d_Gr_copyFrom_173 : decode b_Gr_copyFrom 173 = .ok (.getfield 50, 3) := by decide +kernel
theorem d_Gr_copyFrom_176 : decode b_Gr_copyFrom 176 = .ok (.iconst 0, 1) := by decide +kernel
theorem d_Gr_copyFrom_177 : decode b_Gr_copyFrom 177 = .ok (.aload_n 0, 1) := by decide +kernel
theorem d_Gr_copyFrom_178 : decode b_Gr_copyFrom 178 = .ok (.getfield 50, 3) := by decide +kernel
theorem d_Gr_copyFrom_181 : decode b_Gr_copyFrom 181 = .ok (.iconst 0, 1) := by decide +kernel
theorem d_Gr_copyFrom_182 : decode b_Gr_copyFrom 182 = .ok (.aload_n 0, 1) := by decide +kernel
theorem d_Gr_copyFrom_183 : decode b_Gr_copyFrom 183 = .ok (.getfield 50, 3) := by decide +kernel
theorem d_Gr_copyFrom_186 : decode b_Gr_copyFrom 186 = .ok (.arraylength, 1) := by decide +kernel
theorem d_Gr_copyFrom_187 : decode b_Gr_copyFrom 187 = .ok (.invokestatic 77, 3) := by decide +kernel
theorem d_Gr_copyFrom_190 : decode b_Gr_copyFrom 190 = .ok (.aload_n 1, 1) := by decide +kernel
theorem d_Gr_copyFrom_191 : decode b_Gr_copyFrom 191 = .ok (.getfield 53, 3) := by decide +kernel
theorem d_Gr_copyFrom_194 : decode b_Gr_copyFrom 194 = .ok (.iconst 0, 1) := by decide +kernel
theorem d_Gr_copyFrom_195 : decode b_Gr_copyFrom 195 = .ok (.aload_n 0, 1) := by decide +kernel
theorem d_Gr_copyFrom_196 : decode b_Gr_copyFrom 196 = .ok (.getfield 53, 3) := by decide +kernel
theorem d_Gr_copyFrom_199 : decode b_Gr_copyFrom 199 = .ok (.iconst 0, 1) := by decide +kernel
theorem d_Gr_copyFrom_200 : decode b_Gr_copyFrom 200 = .ok (.bipush 8, 2) := by decide +kernel
theorem d_Gr_copyFrom_202 : decode b_Gr_copyFrom 202 = .ok (.invokestatic 77, 3) := by decide +kernel
theorem d_Gr_copyFrom_205 : decode b_Gr_copyFrom 205 = .ok (.aload_n 0, 1) := by decide +kernel
theorem d_Gr_copyFrom_206 : decode b_Gr_copyFrom 206 = .ok (.invokevirtual 83, 3) := by decide +kernel
theorem d_Gr_copyFrom_209 : decode b_Gr_copyFrom 209 = .ok (.return_, 1) := by decide +kernel
abbrev b_Ne_forget : ByteArray := prog_7_method_2_code
def y_Ne_forget : MethodName := ⟨"DrawingHouse$Net", "forget", "()V"⟩
abbrev z_Ne_forget : List Cond := Cond.code y_Ne_forget b_Ne_forget 1 none :: lw_g
theorem d_Ne_forget_0 : decode b_Ne_forget 0 = .ok (.aload_n 0, 1) := by decide +kernel
theorem d_Ne_forget_1 : decode b_Ne_forget 1 = .ok (.iconst (-1), 1) := by decide +kernel
theorem d_Ne_forget_2 : decode b_Ne_forget 2 = .ok (.putfield 9, 3) := by decide +kernel
theorem d_Ne_forget_5 : decode b_Ne_forget 5 = .ok (.aload_n 0, 1) := by decide +kernel
theorem d_Ne_forget_6 : decode b_Ne_forget 6 = .ok (.iconst (-1), 1) := by decide +kernel
theorem d_Ne_forget_7 : decode b_Ne_forget 7 = .ok (.putfield 15, 3) := by decide +kernel
theorem d_Ne_forget_10 : decode b_Ne_forget 10 = .ok (.aload_n 0, 1) := by decide +kernel
theorem d_Ne_forget_11 : decode b_Ne_forget 11 = .ok (.iconst (-1), 1) := by decide +kernel
theorem d_Ne_forget_12 : decode b_Ne_forget 12 = .ok (.putfield 18, 3) := by decide +kernel
theorem d_Ne_forget_15 : decode b_Ne_forget 15 = .ok (.aload_n 0, 1) := by decide +kernel
theorem d_Ne_forget_16 : decode b_Ne_forget 16 = .ok (.iconst 0, 1) := by decide +kernel
theorem d_Ne_forget_17 : decode b_Ne_forget 17 = .ok (.putfield 21, 3) := by decide +kernel
theorem d_Ne_forget_20 : decode b_Ne_forget 20 = .ok (.return_, 1) := by decide +kernel
abbrev b_Dr_wipe : ByteArray := prog_2_method_2_code
def y_Dr_wipe : MethodName := ⟨"DrawingHouse$Drawing", "wipe", "()V"⟩
abbrev z_Dr_wipe : List Cond := Cond.code y_Dr_wipe b_Dr_wipe 1 none :: lw_g
theorem d_Dr_wipe_0 : decode b_Dr_wipe 0 = .ok (.aload_n 0, 1) := by decide +kernel
theorem d_Dr_wipe_1 : decode b_Dr_wipe 1 = .ok (.iconst (-1), 1) := by decide +kernel
theorem d_Dr_wipe_2 : decode b_Dr_wipe 2 = .ok (.putfield 9, 3) := by decide +kernel
theorem d_Dr_wipe_5 : decode b_Dr_wipe 5 = .ok (.aload_n 0, 1) := by decide +kernel
theorem d_Dr_wipe_6 : decode b_Dr_wipe 6 = .ok (.getfield 53, 3) := by decide +kernel
theorem d_Dr_wipe_9 : decode b_Dr_wipe 9 = .ok (.iconst 0, 1) := by decide +kernel
theorem d_Dr_wipe_10 : decode b_Dr_wipe 10 = .ok (.invokestatic 78, 3) := by decide +kernel
theorem d_Dr_wipe_13 : decode b_Dr_wipe 13 = .ok (.return_, 1) := by decide +kernel
abbrev b_Ho_forget : ByteArray := prog_1_method_32_code
def y_Ho_forget : MethodName := ⟨"DrawingHouse", "forget", "(I)V"⟩
abbrev z_Ho_forget : List Cond := Cond.code y_Ho_forget b_Ho_forget 2 none :: lw_g
theorem d_Ho_forget_0 : decode b_Ho_forget 0 = .ok (.aload_n 0, 1) := by decide +kernel
theorem d_Ho_forget_1 : decode b_Ho_forget 1 = .ok (.getfield 19, 3) := by decide +kernel
theorem d_Ho_forget_4 : decode b_Ho_forget 4 = .ok (.iload_n 1, 1) := by decide +kernel
theorem d_Ho_forget_5 : decode b_Ho_forget 5 = .ok (.aaload, 1) := by decide +kernel
theorem d_Ho_forget_6 : decode b_Ho_forget 6 = .ok (.iconst 0, 1) := by decide +kernel
theorem d_Ho_forget_7 : decode b_Ho_forget 7 = .ok (.putfield 407, 3) := by decide +kernel
theorem d_Ho_forget_10 : decode b_Ho_forget 10 = .ok (.aload_n 0, 1) := by decide +kernel
theorem d_Ho_forget_11 : decode b_Ho_forget 11 = .ok (.getfield 25, 3) := by decide +kernel
theorem d_Ho_forget_14 : decode b_Ho_forget 14 = .ok (.iload_n 1, 1) := by decide +kernel
theorem d_Ho_forget_15 : decode b_Ho_forget 15 = .ok (.aaload, 1) := by decide +kernel
theorem d_Ho_forget_16 : decode b_Ho_forget 16 = .ok (.invokevirtual 411, 3) := by decide +kernel
theorem d_Ho_forget_19 : decode b_Ho_forget 19 = .ok (.aload_n 0, 1) := by decide +kernel
theorem d_Ho_forget_20 : decode b_Ho_forget 20 = .ok (.getfield 31, 3) := by decide +kernel
theorem d_Ho_forget_23 : decode b_Ho_forget 23 = .ok (.iload_n 1, 1) := by decide +kernel
theorem d_Ho_forget_24 : decode b_Ho_forget 24 = .ok (.aaload, 1) := by decide +kernel
theorem d_Ho_forget_25 : decode b_Ho_forget 25 = .ok (.invokevirtual 413, 3) := by decide +kernel
theorem d_Ho_forget_28 : decode b_Ho_forget 28 = .ok (.return_, 1) := by decide +kernel
abbrev b_Mo_byteAt : ByteArray := prog_15_method_25_code
def y_Mo_byteAt : MethodName := ⟨"DrawingHouseModel", "byteAt", "(I)I"⟩
abbrev z_Mo_byteAt : List Cond := Cond.code y_Mo_byteAt b_Mo_byteAt 2 (some .int) :: lw_g
theorem d_Mo_byteAt_0 : decode b_Mo_byteAt 0 = .ok (.iload_n 1, 1) := by decide +kernel
theorem d_Mo_byteAt_1 : decode b_Mo_byteAt 1 = .ok (.aload_n 0, 1) := by decide +kernel
theorem d_Mo_byteAt_2 : decode b_Mo_byteAt 2 = .ok (.getfield 419, 3) := by decide +kernel
theorem d_Mo_byteAt_5 : decode b_Mo_byteAt 5 = .ok (.if_icmp .ge 16, 3) := by decide +kernel
theorem d_Mo_byteAt_21 : decode b_Mo_byteAt 21 = .ok (.iconst (-1), 1) := by decide +kernel
theorem d_Mo_byteAt_22 : decode b_Mo_byteAt 22 = .ok (.ireturn, 1) := by decide +kernel
abbrev b_Mo_next : ByteArray := prog_15_method_28_code
def y_Mo_next : MethodName := ⟨"DrawingHouseModel", "next", "()V"⟩
abbrev z_Mo_next : List Cond := Cond.code y_Mo_next b_Mo_next 3 none :: lw_g
theorem d_Mo_next_0 : decode b_Mo_next 0 = .ok (.aload_n 0, 1) := by decide +kernel
theorem d_Mo_next_1 : decode b_Mo_next 1 = .ok (.aload_n 0, 1) := by decide +kernel
theorem d_Mo_next_2 : decode b_Mo_next 2 = .ok (.getfield 422, 3) := by decide +kernel
theorem d_Mo_next_5 : decode b_Mo_next 5 = .ok (.invokevirtual 425, 3) := by decide +kernel
theorem d_Mo_next_8 : decode b_Mo_next 8 = .ok (.bipush 32, 2) := by decide +kernel
theorem d_Mo_next_10 : decode b_Mo_next 10 = .ok (.if_icmp .eq 16, 3) := by decide +kernel
theorem d_Mo_next_13 : decode b_Mo_next 13 = .ok (.aload_n 0, 1) := by decide +kernel
theorem d_Mo_next_14 : decode b_Mo_next 14 = .ok (.aload_n 0, 1) := by decide +kernel
theorem d_Mo_next_15 : decode b_Mo_next 15 = .ok (.getfield 422, 3) := by decide +kernel
theorem d_Mo_next_18 : decode b_Mo_next 18 = .ok (.invokevirtual 425, 3) := by decide +kernel
theorem d_Mo_next_21 : decode b_Mo_next 21 = .ok (.bipush 10, 2) := by decide +kernel
theorem d_Mo_next_23 : decode b_Mo_next 23 = .ok (.if_icmp .ne 16, 3) := by decide +kernel
theorem d_Mo_next_39 : decode b_Mo_next 39 = .ok (.aload_n 0, 1) := by decide +kernel
theorem d_Mo_next_40 : decode b_Mo_next 40 = .ok (.aload_n 0, 1) := by decide +kernel
theorem d_Mo_next_41 : decode b_Mo_next 41 = .ok (.getfield 422, 3) := by decide +kernel
theorem d_Mo_next_44 : decode b_Mo_next 44 = .ok (.putfield 428, 3) := by decide +kernel
theorem d_Mo_next_47 : decode b_Mo_next 47 = .ok (.aload_n 0, 1) := by decide +kernel
theorem d_Mo_next_48 : decode b_Mo_next 48 = .ok (.aload_n 0, 1) := by decide +kernel
theorem d_Mo_next_49 : decode b_Mo_next 49 = .ok (.getfield 422, 3) := by decide +kernel
theorem d_Mo_next_52 : decode b_Mo_next 52 = .ok (.putfield 431, 3) := by decide +kernel
theorem d_Mo_next_55 : decode b_Mo_next 55 = .ok (.aload_n 0, 1) := by decide +kernel
theorem d_Mo_next_56 : decode b_Mo_next 56 = .ok (.aload_n 0, 1) := by decide +kernel
theorem d_Mo_next_57 : decode b_Mo_next 57 = .ok (.getfield 422, 3) := by decide +kernel
theorem d_Mo_next_60 : decode b_Mo_next 60 = .ok (.invokevirtual 425, 3) := by decide +kernel
theorem d_Mo_next_63 : decode b_Mo_next 63 = .ok (.istore_n 1, 1) := by decide +kernel
theorem d_Mo_next_64 : decode b_Mo_next 64 = .ok (.aload_n 0, 1) := by decide +kernel
theorem d_Mo_next_65 : decode b_Mo_next 65 = .ok (.iconst 4, 1) := by decide +kernel
theorem d_Mo_next_66 : decode b_Mo_next 66 = .ok (.putfield 434, 3) := by decide +kernel
theorem d_Mo_next_69 : decode b_Mo_next 69 = .ok (.aload_n 0, 1) := by decide +kernel
theorem d_Mo_next_70 : decode b_Mo_next 70 = .ok (.iload_n 1, 1) := by decide +kernel
theorem d_Mo_next_71 : decode b_Mo_next 71 = .ok (.putfield 437, 3) := by decide +kernel
theorem d_Mo_next_74 : decode b_Mo_next 74 = .ok (.iload_n 1, 1) := by decide +kernel
theorem d_Mo_next_75 : decode b_Mo_next 75 = .ok (.ifCond .ge 11, 3) := by decide +kernel
theorem d_Mo_next_78 : decode b_Mo_next 78 = .ok (.aload_n 0, 1) := by decide +kernel
theorem d_Mo_next_79 : decode b_Mo_next 79 = .ok (.iconst 0, 1) := by decide +kernel
theorem d_Mo_next_80 : decode b_Mo_next 80 = .ok (.putfield 434, 3) := by decide +kernel
theorem d_Mo_next_83 : decode b_Mo_next 83 = .ok (.goto 271, 3) := by decide +kernel
theorem d_Mo_next_354 : decode b_Mo_next 354 = .ok (.return_, 1) := by decide +kernel
abbrev b_Mo_changed : ByteArray := prog_15_method_42_code
def y_Mo_changed : MethodName := ⟨"DrawingHouseModel", "changed", "(I)V"⟩
abbrev z_Mo_changed : List Cond := Cond.code y_Mo_changed b_Mo_changed 3 none :: lw_g
theorem d_Mo_changed_0 : decode b_Mo_changed 0 = .ok (.aload_n 0, 1) := by decide +kernel
theorem d_Mo_changed_1 : decode b_Mo_changed 1 = .ok (.getfield 120, 3) := by decide +kernel
theorem d_Mo_changed_4 : decode b_Mo_changed 4 = .ok (.iload_n 1, 1) := by decide +kernel
theorem d_Mo_changed_5 : decode b_Mo_changed 5 = .ok (.iconst (-1), 1) := by decide +kernel
theorem d_Mo_changed_6 : decode b_Mo_changed 6 = .ok (.iastore, 1) := by decide +kernel
theorem d_Mo_changed_7 : decode b_Mo_changed 7 = .ok (.iconst 0, 1) := by decide +kernel
theorem d_Mo_changed_8 : decode b_Mo_changed 8 = .ok (.istore_n 2, 1) := by decide +kernel
theorem d_Mo_changed_9 : decode b_Mo_changed 9 = .ok (.iload_n 2, 1) := by decide +kernel
theorem d_Mo_changed_10 : decode b_Mo_changed 10 = .ok (.sipush 216, 3) := by decide +kernel
theorem d_Mo_changed_13 : decode b_Mo_changed 13 = .ok (.if_icmp .ge 22, 3) := by decide +kernel
theorem d_Mo_changed_16 : decode b_Mo_changed 16 = .ok (.aload_n 0, 1) := by decide +kernel
theorem d_Mo_changed_17 : decode b_Mo_changed 17 = .ok (.getfield 156, 3) := by decide +kernel
theorem d_Mo_changed_20 : decode b_Mo_changed 20 = .ok (.sipush 216, 3) := by decide +kernel
theorem d_Mo_changed_23 : decode b_Mo_changed 23 = .ok (.iload_n 1, 1) := by decide +kernel
theorem d_Mo_changed_24 : decode b_Mo_changed 24 = .ok (.imul, 1) := by decide +kernel
theorem d_Mo_changed_25 : decode b_Mo_changed 25 = .ok (.iload_n 2, 1) := by decide +kernel
theorem d_Mo_changed_26 : decode b_Mo_changed 26 = .ok (.iadd, 1) := by decide +kernel
theorem d_Mo_changed_27 : decode b_Mo_changed 27 = .ok (.iconst 0, 1) := by decide +kernel
theorem d_Mo_changed_28 : decode b_Mo_changed 28 = .ok (.iastore, 1) := by decide +kernel
theorem d_Mo_changed_29 : decode b_Mo_changed 29 = .ok (.iinc 2 1, 3) := by decide +kernel
theorem d_Mo_changed_32 : decode b_Mo_changed 32 = .ok (.goto (-23), 3) := by decide +kernel
theorem d_Mo_changed_35 : decode b_Mo_changed 35 = .ok (.return_, 1) := by decide +kernel
theorem d_law_law_223 : decode b_law_law 223 = .ok (.aload_n 1, 1) := by decide +kernel
theorem d_law_law_224 : decode b_law_law 224 = .ok (.aload_n 0, 1) := by decide +kernel
theorem d_law_law_225 : decode b_law_law 225 = .ok (.iload_n 3, 1) := by decide +kernel
theorem d_law_law_226 : decode b_law_law 226 = .ok (.iconst 1, 1) := by decide +kernel
theorem d_law_law_227 : decode b_law_law 227 = .ok (.iadd, 1) := by decide +kernel
theorem d_law_law_228 : decode b_law_law 228 = .ok (.iaload, 1) := by decide +kernel
theorem d_law_law_229 : decode b_law_law 229 = .ok (.aload_n 0, 1) := by decide +kernel
theorem d_law_law_230 : decode b_law_law 230 = .ok (.iload_n 3, 1) := by decide +kernel
theorem d_law_law_231 : decode b_law_law 231 = .ok (.iconst 2, 1) := by decide +kernel
theorem d_law_law_232 : decode b_law_law 232 = .ok (.iadd, 1) := by decide +kernel
theorem d_law_law_233 : decode b_law_law 233 = .ok (.iaload, 1) := by decide +kernel
theorem d_law_law_234 : decode b_law_law 234 = .ok (.invokevirtual 18, 3) := by decide +kernel
theorem d_law_law_237 : decode b_law_law 237 = .ok (.aload_n 2, 1) := by decide +kernel
theorem d_law_law_238 : decode b_law_law 238 = .ok (.aload_n 0, 1) := by decide +kernel
theorem d_law_law_239 : decode b_law_law 239 = .ok (.iload_n 3, 1) := by decide +kernel
theorem d_law_law_240 : decode b_law_law 240 = .ok (.iconst 1, 1) := by decide +kernel
theorem d_law_law_241 : decode b_law_law 241 = .ok (.iadd, 1) := by decide +kernel
theorem d_law_law_242 : decode b_law_law 242 = .ok (.iaload, 1) := by decide +kernel
theorem d_law_law_243 : decode b_law_law 243 = .ok (.aload_n 0, 1) := by decide +kernel
theorem d_law_law_244 : decode b_law_law 244 = .ok (.iload_n 3, 1) := by decide +kernel
theorem d_law_law_245 : decode b_law_law 245 = .ok (.iconst 2, 1) := by decide +kernel
theorem d_law_law_246 : decode b_law_law 246 = .ok (.iadd, 1) := by decide +kernel
theorem d_law_law_247 : decode b_law_law 247 = .ok (.iaload, 1) := by decide +kernel
theorem d_law_law_248 : decode b_law_law 248 = .ok (.invokevirtual 22, 3) := by decide +kernel
theorem d_law_law_251 : decode b_law_law 251 = .ok (.if_icmp .eq 1044, 3) := by decide +kernel
set_option maxRecDepth 100000 in
set_option maxHeartbeats 4000000 in
/-- DrawingHouse.read(II)I -/
theorem c_Ho_read_z1 (l : Launch) (D : va_G) (kA : Nat → ClassId) (a0 : Nat) (v1 : Int32) (v2 : Int32) (hg : sp_Ho_isPlace v1 = 0) (hgM : sp_Mo_isPlace v1 = 0) : Ci l y_Ho_read z_Ho_read { frames := 1, cells := 0, slots := 0, locals := 20 } D classes (TY kA) [.ref a0, .int v1, .int v2] [] (fun r (_ : List va_W) => r = (-2)) (fun u => u) 0 0 := by
  intro sz
  refine k_met (cc := b_Ho_read) (maxL := 4) (ret := (some .int)) (by decide) rfl (Nat.le_of_ble_eq_true rfl) (fun p e s m below meth c ls X hl hB => ?_)
  obtain ⟨hsz, hP, hK, hD0, hN⟩ := hB
  subst hsz
  have hD := hD0.self (sz := s.heap.size)
  generalize hAe : va_A (cat []) s.heap.size = A at hD ⊢
  have hA : ∀ q : Nat, s.heap.size ≤ q → A q := fun q h => by rw [← hAe]; exact Or.inr h
  have hS : va_S A s.heap s.heap [] := va_S.rf
  obtain ⟨hx, hb, hml, hown, hts, hr, hlk, hnm⟩ := id X
  have hl : lv_has ls 4 [(0, .ref a0), (1, .int v1), (2, .int v2)] := hl
  have hP : va_P D classes (cat []) s.heap := hP
  have hK : va_K D classes (TY kA) s := hK
  refine lv_iload_n (pc := 0) hx hb d_Ho_read_0 rfl (lv_at hl 1 rfl) ?_
  refine k_goI (gr := []) (k_rS (pc := 1) (As := [.int v1]) (rest := []) X (c_Ho_isPlace l D kA v1 s.heap.size) rfl wm_633 wm_1 wm_631 wm_632 1 (by decide +kernel) ⟨Nat.le_of_ble_eq_true rfl, Nat.le_of_ble_eq_true rfl⟩ rfl rfl (k_pre hN hK hP hD [] [] 0 rfl (by decide) rfl) rfl hl.1 rfl (Nat.le_of_ble_eq_true rfl) d_Ho_read_1 ⟨Nat.le_of_ble_eq_true rfl, Nat.le_of_ble_eq_true rfl⟩) hP hD hS hA [] [] 0 rfl (by decide) rfl rfl (fun r1 u2 H locs hu2 hP hD hS => ?_)
  subst hu2
  have hP : va_P D classes (cat []) H := hP
  have hD : va_D A (cat []) := hD
  refine lv_if_eq (pc := 4) (tgt := 22) hx hb d_Ho_read_4 (by decide) (fun c1 => ?_) (fun c1 => absurd (hg) c1)
  refine lv_bipush (pc := 22) (v := -2) hx hb d_Ho_read_22 (by decide) ?_
  refine W.widen (k := 0) (n := 0) (Nat.le_of_ble_eq_true rfl) (Nat.le_of_ble_eq_true rfl) ?_
  exact W.iret (v := (-2)) hx hb hr (fun t ht hW => ⟨⟨(-2), [], rfl, rfl, by rw [ht]; exact hP, va_K.moved hW.alike hK, hD⟩, hS.F ht⟩) hS.2.2 d_Ho_read_24
set_option maxRecDepth 100000 in
set_option maxHeartbeats 4000000 in
/-- DrawingHouseModel.read(II)I -/
theorem c_Mo_read_z1 (l : Launch) (D : va_G) (kA : Nat → ClassId) (a0 : Nat) (v1 : Int32) (v2 : Int32) (hg : sp_Ho_isPlace v1 = 0) (hgM : sp_Mo_isPlace v1 = 0) : Ci l y_Mo_read z_Mo_read { frames := 2, cells := 0, slots := 0, locals := 42 } D classes (TY kA) [.ref a0, .int v1, .int v2] [] (fun r (_ : List va_W) => r = (-2)) (fun u => u) 0 0 := by
  intro sz
  refine k_met (cc := b_Mo_read) (maxL := 4) (ret := (some .int)) (by decide) rfl (Nat.le_of_ble_eq_true rfl) (fun p e s m below meth c ls X hl hB => ?_)
  obtain ⟨hsz, hP, hK, hD0, hN⟩ := hB
  subst hsz
  have hD := hD0.self (sz := s.heap.size)
  generalize hAe : va_A (cat []) s.heap.size = A at hD ⊢
  have hA : ∀ q : Nat, s.heap.size ≤ q → A q := fun q h => by rw [← hAe]; exact Or.inr h
  have hS : va_S A s.heap s.heap [] := va_S.rf
  obtain ⟨hx, hb, hml, hown, hts, hr, hlk, hnm⟩ := id X
  have hl : lv_has ls 4 [(0, .ref a0), (1, .int v1), (2, .int v2)] := hl
  have hP : va_P D classes (cat []) s.heap := hP
  have hK : va_K D classes (TY kA) s := hK
  refine lv_iload_n (pc := 0) hx hb d_Mo_read_0 rfl (lv_at hl 1 rfl) ?_
  refine k_goI (gr := []) (k_rS (pc := 1) (As := [.int v1]) (rest := []) X (c_Mo_isPlace l D kA v1 s.heap.size) rfl wm_2978 wm_9 wm_2976 wm_2977 1 (by decide +kernel) ⟨Nat.le_of_ble_eq_true rfl, Nat.le_of_ble_eq_true rfl⟩ rfl rfl (k_pre hN hK hP hD [] [] 0 rfl (by decide) rfl) rfl hl.1 rfl (Nat.le_of_ble_eq_true rfl) d_Mo_read_1 ⟨Nat.le_of_ble_eq_true rfl, Nat.le_of_ble_eq_true rfl⟩) hP hD hS hA [] [] 0 rfl (by decide) rfl rfl (fun r1 u2 H locs hu2 hP hD hS => ?_)
  subst hu2
  have hP : va_P D classes (cat []) H := hP
  have hD : va_D A (cat []) := hD
  refine lv_if_eq (pc := 4) (tgt := 19) hx hb d_Mo_read_4 (by decide) (fun c1 => ?_) (fun c1 => absurd (hgM) c1)
  refine lv_bipush (pc := 19) (v := -2) hx hb d_Mo_read_19 (by decide) ?_
  refine W.widen (k := 0) (n := 0) (Nat.le_of_ble_eq_true rfl) (Nat.le_of_ble_eq_true rfl) ?_
  exact W.iret (v := (-2)) hx hb hr (fun t ht hW => ⟨⟨(-2), [], rfl, rfl, by rw [ht]; exact hP, va_K.moved hW.alike hK, hD⟩, hS.F ht⟩) hS.2.2 d_Mo_read_21
set_option maxRecDepth 100000 in
set_option maxHeartbeats 4000000 in
/-- read, a fresh house -/
theorem lf_read_1 {p : Program} {e : Env} {s : State} {m : MethodId} {below : List Frame} {meth : Method} {c : Code} (l : Launch) {b : Nat} {xs : Nat → Int32} (C0 : lw_At p s m meth c b 6 xs) {D : va_G} {kA : Nat → ClassId} (h : Nat) (h2 : Nat) (q : Nat → Nat) (qm : Nat → Nat) (v1 : Int32) (v2 : Int32) (hg : sp_Ho_isPlace v1 = 0) (hgM : sp_Mo_isPlace v1 = 0) (hv1 : xs 1 = v1) (hv2 : xs 2 = v2) {H : Heap} {locs : List Loc} {ls : Array Slot} (hK : va_K D classes (TY kA) s) (hN : nst s) (hP : va_P D classes (cat [[(h, .inr (12, [.ref (q 0), .ref (q 1), .ref (q 2), .ref (q 3), .ref (q 4), .ref (q 5), .ref (q 6), .int 0, .int ((-1)), .ref (q 9), .ref (q 10), .int 0, .int 0, .ref (q 13), .int 0, .int 0, .null, .null, .null, .null, .null]))], [(h2, .inr (13, mF qm x0Mo y0Mo))]]) H) (hD : va_D (fun q : Nat => s.heap.size ≤ q) (cat [[(h, .inr (12, [.ref (q 0), .ref (q 1), .ref (q 2), .ref (q 3), .ref (q 4), .ref (q 5), .ref (q 6), .int 0, .int ((-1)), .ref (q 9), .ref (q 10), .int 0, .int 0, .ref (q 13), .int 0, .int 0, .null, .null, .null, .null, .null]))], [(h2, .inr (13, mF qm x0Mo y0Mo))]])) (hS : va_S (fun q : Nat => s.heap.size ≤ q) s.heap H locs) (hl : lv_has ls 4 [(3, .int 0), (2, .ref h2), (1, .ref h), (0, .ref b)]) : W p l e room_1 s m #[Value.ref b] below meth c H locs 368 365796 (lw_Z below #[Value.ref b] s) (F0 m 223 ls []) := by
  obtain ⟨hx, hb, hr, hml, hown, hts0, hX, hbl, hlocks, hgv⟩ := id C0
  have hts : ∀ w ∈ lw_g, w.before #[Value.ref b] s = true := fun w h => hts0 w (lw_gt h)
  have X : cx p s m #[Value.ref b] meth c b_law_law 4 ret "DrawingHouseLaw" meth.name := ⟨hx, hb, hml, hown, hts, hr, hlocks, rfl⟩
  obtain ⟨A, hAe⟩ : ∃ A : Nat → Prop, A = fun q : Nat => s.heap.size ≤ q := ⟨_, rfl⟩
  have hA : ∀ q : Nat, s.heap.size ≤ q → A q := fun q h => by rw [hAe]; exact h
  have hbA : ¬ A b := by rw [hAe]; exact Nat.not_le.mpr hbl
  rw [← hAe] at hD hS
  refine lv_aload_n (pc := 223) hx hb d_law_law_223 rfl (lv_at hl 2 rfl) ?_
  refine lv_aload_n (pc := 224) hx hb d_law_law_224 rfl (lv_at hl 3 rfl) ?_
  refine lv_iload_n (pc := 225) hx hb d_law_law_225 rfl (lv_at hl 0 rfl) ?_
  refine lv_iconst (pc := 226) (v := 1) hx hb d_law_law_226 (by decide) ?_
  refine lv_iadd (pc := 227) hx hb d_law_law_227 ?_
  refine k_cst (v := 1) (by decide) ?_
  refine va_sld (pc := 228) hx hb hX hbl hbA hS (by unfold vp_in; decide) d_law_law_228 ?_
  refine k_cst (v := v1) hv1 ?_
  refine lv_aload_n (pc := 229) hx hb d_law_law_229 rfl (lv_at hl 3 rfl) ?_
  refine lv_iload_n (pc := 230) hx hb d_law_law_230 rfl (lv_at hl 0 rfl) ?_
  refine lv_iconst (pc := 231) (v := 2) hx hb d_law_law_231 (by decide) ?_
  refine lv_iadd (pc := 232) hx hb d_law_law_232 ?_
  refine k_cst (v := 2) (by decide) ?_
  refine va_sld (pc := 233) hx hb hX hbl hbA hS (by unfold vp_in; decide) d_law_law_233 ?_
  refine k_cst (v := v2) hv2 ?_
  refine k_goI (gr := [[(h, .inr (12, [.ref (q 0), .ref (q 1), .ref (q 2), .ref (q 3), .ref (q 4), .ref (q 5), .ref (q 6), .int 0, .int ((-1)), .ref (q 9), .ref (q 10), .int 0, .int 0, .ref (q 13), .int 0, .int 0, .null, .null, .null, .null, .null]))], [(h2, .inr (13, mF qm x0Mo y0Mo))]]) (k_rV (pc := 234) (As := [.int v1, .int v2]) (rest := []) X (c_Ho_read_z1 l D kA h v1 v2 hg hgM H.size) rfl wm_630 wm_1 wm_627 wm_628 wm_629 2 (by decide +kernel) ⟨Nat.le_of_ble_eq_true rfl, Nat.le_of_ble_eq_true rfl⟩ rfl rfl (va_recv hK hP (ci := 12) (q0 := 0) rfl rfl) (k_pre hN hK hP hD [] [0, 1] 2 rfl (by decide) rfl) rfl hl.1 rfl (Nat.le_of_ble_eq_true rfl) d_law_law_234 ⟨Nat.le_of_ble_eq_true rfl, Nat.le_of_ble_eq_true rfl⟩) hP hD hS hA [] [0, 1] 2 rfl (by decide) rfl rfl (fun r1 u2 H locs hu2 hP hD hS => ?_)
  obtain ⟨hP, hD⟩ := k_left hP hD
  subst hu2
  have hP : va_P D classes (cat [[(h, .inr (12, [.ref (q 0), .ref (q 1), .ref (q 2), .ref (q 3), .ref (q 4), .ref (q 5), .ref (q 6), .int 0, .int ((-1)), .ref (q 9), .ref (q 10), .int 0, .int 0, .ref (q 13), .int 0, .int 0, .null, .null, .null, .null, .null]))], [(h2, .inr (13, mF qm x0Mo y0Mo))]]) H := hP
  have hD : va_D A (cat [[(h, .inr (12, [.ref (q 0), .ref (q 1), .ref (q 2), .ref (q 3), .ref (q 4), .ref (q 5), .ref (q 6), .int 0, .int ((-1)), .ref (q 9), .ref (q 10), .int 0, .int 0, .ref (q 13), .int 0, .int 0, .null, .null, .null, .null, .null]))], [(h2, .inr (13, mF qm x0Mo y0Mo))]]) := hD
  refine lv_aload_n (pc := 237) hx hb d_law_law_237 rfl (lv_at hl 1 rfl) ?_
  refine lv_aload_n (pc := 238) hx hb d_law_law_238 rfl (lv_at hl 3 rfl) ?_
  refine lv_iload_n (pc := 239) hx hb d_law_law_239 rfl (lv_at hl 0 rfl) ?_
  refine lv_iconst (pc := 240) (v := 1) hx hb d_law_law_240 (by decide) ?_
  refine lv_iadd (pc := 241) hx hb d_law_law_241 ?_
  refine k_cst (v := 1) (by decide) ?_
  refine va_sld (pc := 242) hx hb hX hbl hbA hS (by unfold vp_in; decide) d_law_law_242 ?_
  refine k_cst (v := v1) hv1 ?_
  refine lv_aload_n (pc := 243) hx hb d_law_law_243 rfl (lv_at hl 3 rfl) ?_
  refine lv_iload_n (pc := 244) hx hb d_law_law_244 rfl (lv_at hl 0 rfl) ?_
  refine lv_iconst (pc := 245) (v := 2) hx hb d_law_law_245 (by decide) ?_
  refine lv_iadd (pc := 246) hx hb d_law_law_246 ?_
  refine k_cst (v := 2) (by decide) ?_
  refine va_sld (pc := 247) hx hb hX hbl hbA hS (by unfold vp_in; decide) d_law_law_247 ?_
  refine k_cst (v := v2) hv2 ?_
  refine k_goI (gr := [[(h, .inr (12, [.ref (q 0), .ref (q 1), .ref (q 2), .ref (q 3), .ref (q 4), .ref (q 5), .ref (q 6), .int 0, .int ((-1)), .ref (q 9), .ref (q 10), .int 0, .int 0, .ref (q 13), .int 0, .int 0, .null, .null, .null, .null, .null]))], [(h2, .inr (13, mF qm x0Mo y0Mo))]]) (k_rV (pc := 248) (As := [.int v1, .int v2]) (rest := [.int ((-2))]) X (c_Mo_read_z1 l D kA h2 v1 v2 hg hgM H.size) rfl wm_2975 wm_9 wm_2972 wm_2973 wm_2974 2 (by decide +kernel) ⟨Nat.le_of_ble_eq_true rfl, Nat.le_of_ble_eq_true rfl⟩ rfl rfl (va_recv hK hP (ci := 13) (q0 := 1) rfl rfl) (k_pre hN hK hP hD [] [0, 1] 2 rfl (by decide) rfl) rfl hl.1 rfl (Nat.le_of_ble_eq_true rfl) d_law_law_248 ⟨Nat.le_of_ble_eq_true rfl, Nat.le_of_ble_eq_true rfl⟩) hP hD hS hA [] [0, 1] 2 rfl (by decide) rfl rfl (fun r3 u4 H locs hu4 hP hD hS => ?_)
  obtain ⟨hP, hD⟩ := k_left hP hD
  subst hu4
  have hP : va_P D classes (cat [[(h, .inr (12, [.ref (q 0), .ref (q 1), .ref (q 2), .ref (q 3), .ref (q 4), .ref (q 5), .ref (q 6), .int 0, .int ((-1)), .ref (q 9), .ref (q 10), .int 0, .int 0, .ref (q 13), .int 0, .int 0, .null, .null, .null, .null, .null]))], [(h2, .inr (13, mF qm x0Mo y0Mo))]]) H := hP
  have hD : va_D A (cat [[(h, .inr (12, [.ref (q 0), .ref (q 1), .ref (q 2), .ref (q 3), .ref (q 4), .ref (q 5), .ref (q 6), .int 0, .int ((-1)), .ref (q 9), .ref (q 10), .int 0, .int 0, .ref (q 13), .int 0, .int 0, .null, .null, .null, .null, .null]))], [(h2, .inr (13, mF qm x0Mo y0Mo))]]) := hD
  refine lv_icmp_eq (pc := 251) (tgt := 1295) hx hb d_law_law_251 (by decide) (fun _ => ?_) (fun c1 => absurd (by decide) c1)
  rw [hAe] at hS
  exact law_exit l C0 (Nat.le_of_ble_eq_true rfl) (Nat.le_of_ble_eq_true rfl) hS hl
set_option maxRecDepth 100000 in
set_option maxHeartbeats 4000000 in
/-- DrawingHouse.read(II)I -/
theorem c_Ho_read_z2 (l : Launch) (D : va_G) (kA : Nat → ClassId) (a0 : Nat) (j : Nat) (v2 : Int32) (hj : j < 4) (hn2 : v2 < 0) : Ci l y_Ho_read z_Ho_read { frames := 1, cells := 0, slots := 0, locals := 20 } D classes (TY kA) [.ref a0, .int (nI j), .int v2] [] (fun r (_ : List va_W) => r = (-2)) (fun u => u) 0 0 := by
  intro sz
  refine k_met (cc := b_Ho_read) (maxL := 4) (ret := (some .int)) (by decide) rfl (Nat.le_of_ble_eq_true rfl) (fun p e s m below meth c ls X hl hB => ?_)
  obtain ⟨hsz, hP, hK, hD0, hN⟩ := hB
  subst hsz
  have hD := hD0.self (sz := s.heap.size)
  generalize hAe : va_A (cat []) s.heap.size = A at hD ⊢
  have hA : ∀ q : Nat, s.heap.size ≤ q → A q := fun q h => by rw [← hAe]; exact Or.inr h
  have hS : va_S A s.heap s.heap [] := va_S.rf
  obtain ⟨hx, hb, hml, hown, hts, hr, hlk, hnm⟩ := id X
  have hl : lv_has ls 4 [(0, .ref a0), (1, .int (nI j)), (2, .int v2)] := hl
  have hP : va_P D classes (cat []) s.heap := hP
  have hK : va_K D classes (TY kA) s := hK
  refine lv_iload_n (pc := 0) hx hb d_Ho_read_0 rfl (lv_at hl 1 rfl) ?_
  refine k_goI (gr := []) (k_rS (pc := 1) (As := [.int (nI j)]) (rest := []) X (c_Ho_isPlace l D kA (nI j) s.heap.size) rfl wm_633 wm_1 wm_631 wm_632 1 (by decide +kernel) ⟨Nat.le_of_ble_eq_true rfl, Nat.le_of_ble_eq_true rfl⟩ rfl rfl (k_pre hN hK hP hD [] [] 0 rfl (by decide) rfl) rfl hl.1 rfl (Nat.le_of_ble_eq_true rfl) d_Ho_read_1 ⟨Nat.le_of_ble_eq_true rfl, Nat.le_of_ble_eq_true rfl⟩) hP hD hS hA [] [] 0 rfl (by decide) rfl rfl (fun r1 u2 H locs hu2 hP hD hS => ?_)
  subst hu2
  refine k_cst (v := 1) (place_ok hj) ?_
  have hP : va_P D classes (cat []) H := hP
  have hD : va_D A (cat []) := hD
  refine lv_if_eq (pc := 4) (tgt := 22) hx hb d_Ho_read_4 (by decide) (fun c1 => absurd c1 (by decide)) (fun c1 => ?_)
  refine lv_iload_n (pc := 7) hx hb d_Ho_read_7 rfl (lv_at hl 2 rfl) ?_
  refine lv_if_lt (pc := 8) (tgt := 22) hx hb d_Ho_read_8 (by decide) (fun c1 => ?_) (fun c1 => absurd (hn2) c1)
  refine lv_bipush (pc := 22) (v := -2) hx hb d_Ho_read_22 (by decide) ?_
  refine W.widen (k := 0) (n := 0) (Nat.le_of_ble_eq_true rfl) (Nat.le_of_ble_eq_true rfl) ?_
  exact W.iret (v := (-2)) hx hb hr (fun t ht hW => ⟨⟨(-2), [], rfl, rfl, by rw [ht]; exact hP, va_K.moved hW.alike hK, hD⟩, hS.F ht⟩) hS.2.2 d_Ho_read_24
set_option maxRecDepth 100000 in
set_option maxHeartbeats 4000000 in
/-- DrawingHouseModel.read(II)I -/
theorem c_Mo_read_z2 (l : Launch) (D : va_G) (kA : Nat → ClassId) (a0 : Nat) (j : Nat) (v2 : Int32) (hj : j < 4) (hn2 : v2 < 0) : Ci l y_Mo_read z_Mo_read { frames := 2, cells := 0, slots := 0, locals := 42 } D classes (TY kA) [.ref a0, .int (nI j), .int v2] [] (fun r (_ : List va_W) => r = (-2)) (fun u => u) 0 0 := by
  intro sz
  refine k_met (cc := b_Mo_read) (maxL := 4) (ret := (some .int)) (by decide) rfl (Nat.le_of_ble_eq_true rfl) (fun p e s m below meth c ls X hl hB => ?_)
  obtain ⟨hsz, hP, hK, hD0, hN⟩ := hB
  subst hsz
  have hD := hD0.self (sz := s.heap.size)
  generalize hAe : va_A (cat []) s.heap.size = A at hD ⊢
  have hA : ∀ q : Nat, s.heap.size ≤ q → A q := fun q h => by rw [← hAe]; exact Or.inr h
  have hS : va_S A s.heap s.heap [] := va_S.rf
  obtain ⟨hx, hb, hml, hown, hts, hr, hlk, hnm⟩ := id X
  have hl : lv_has ls 4 [(0, .ref a0), (1, .int (nI j)), (2, .int v2)] := hl
  have hP : va_P D classes (cat []) s.heap := hP
  have hK : va_K D classes (TY kA) s := hK
  refine lv_iload_n (pc := 0) hx hb d_Mo_read_0 rfl (lv_at hl 1 rfl) ?_
  refine k_goI (gr := []) (k_rS (pc := 1) (As := [.int (nI j)]) (rest := []) X (c_Mo_isPlace l D kA (nI j) s.heap.size) rfl wm_2978 wm_9 wm_2976 wm_2977 1 (by decide +kernel) ⟨Nat.le_of_ble_eq_true rfl, Nat.le_of_ble_eq_true rfl⟩ rfl rfl (k_pre hN hK hP hD [] [] 0 rfl (by decide) rfl) rfl hl.1 rfl (Nat.le_of_ble_eq_true rfl) d_Mo_read_1 ⟨Nat.le_of_ble_eq_true rfl, Nat.le_of_ble_eq_true rfl⟩) hP hD hS hA [] [] 0 rfl (by decide) rfl rfl (fun r1 u2 H locs hu2 hP hD hS => ?_)
  subst hu2
  refine k_cst (v := 1) (placeM_ok hj) ?_
  have hP : va_P D classes (cat []) H := hP
  have hD : va_D A (cat []) := hD
  refine lv_if_eq (pc := 4) (tgt := 19) hx hb d_Mo_read_4 (by decide) (fun c1 => absurd c1 (by decide)) (fun c1 => ?_)
  refine lv_iload_n (pc := 7) hx hb d_Mo_read_7 rfl (lv_at hl 2 rfl) ?_
  refine lv_if_lt (pc := 8) (tgt := 19) hx hb d_Mo_read_8 (by decide) (fun c1 => ?_) (fun c1 => absurd (hn2) c1)
  refine lv_bipush (pc := 19) (v := -2) hx hb d_Mo_read_19 (by decide) ?_
  refine W.widen (k := 0) (n := 0) (Nat.le_of_ble_eq_true rfl) (Nat.le_of_ble_eq_true rfl) ?_
  exact W.iret (v := (-2)) hx hb hr (fun t ht hW => ⟨⟨(-2), [], rfl, rfl, by rw [ht]; exact hP, va_K.moved hW.alike hK, hD⟩, hS.F ht⟩) hS.2.2 d_Mo_read_21
set_option maxRecDepth 100000 in
set_option maxHeartbeats 4000000 in
/-- read, a fresh house -/
theorem lf_read_2 {p : Program} {e : Env} {s : State} {m : MethodId} {below : List Frame} {meth : Method} {c : Code} (l : Launch) {b : Nat} {xs : Nat → Int32} (C0 : lw_At p s m meth c b 6 xs) {D : va_G} {kA : Nat → ClassId} (h : Nat) (h2 : Nat) (q : Nat → Nat) (qm : Nat → Nat) (j : Nat) (v2 : Int32) (hj : j < 4) (hn2 : v2 < 0) (hv1 : xs 1 = nI j) (hv2 : xs 2 = v2) {H : Heap} {locs : List Loc} {ls : Array Slot} (hK : va_K D classes (TY kA) s) (hN : nst s) (hP : va_P D classes (cat [[(h, .inr (12, [.ref (q 0), .ref (q 1), .ref (q 2), .ref (q 3), .ref (q 4), .ref (q 5), .ref (q 6), .int 0, .int ((-1)), .ref (q 9), .ref (q 10), .int 0, .int 0, .ref (q 13), .int 0, .int 0, .null, .null, .null, .null, .null]))], [(h2, .inr (13, mF qm x0Mo y0Mo))]]) H) (hD : va_D (fun q : Nat => s.heap.size ≤ q) (cat [[(h, .inr (12, [.ref (q 0), .ref (q 1), .ref (q 2), .ref (q 3), .ref (q 4), .ref (q 5), .ref (q 6), .int 0, .int ((-1)), .ref (q 9), .ref (q 10), .int 0, .int 0, .ref (q 13), .int 0, .int 0, .null, .null, .null, .null, .null]))], [(h2, .inr (13, mF qm x0Mo y0Mo))]])) (hS : va_S (fun q : Nat => s.heap.size ≤ q) s.heap H locs) (hl : lv_has ls 4 [(3, .int 0), (2, .ref h2), (1, .ref h), (0, .ref b)]) : W p l e room_1 s m #[Value.ref b] below meth c H locs 368 365796 (lw_Z below #[Value.ref b] s) (F0 m 223 ls []) := by
  obtain ⟨hx, hb, hr, hml, hown, hts0, hX, hbl, hlocks, hgv⟩ := id C0
  have hts : ∀ w ∈ lw_g, w.before #[Value.ref b] s = true := fun w h => hts0 w (lw_gt h)
  have X : cx p s m #[Value.ref b] meth c b_law_law 4 ret "DrawingHouseLaw" meth.name := ⟨hx, hb, hml, hown, hts, hr, hlocks, rfl⟩
  obtain ⟨A, hAe⟩ : ∃ A : Nat → Prop, A = fun q : Nat => s.heap.size ≤ q := ⟨_, rfl⟩
  have hA : ∀ q : Nat, s.heap.size ≤ q → A q := fun q h => by rw [hAe]; exact h
  have hbA : ¬ A b := by rw [hAe]; exact Nat.not_le.mpr hbl
  rw [← hAe] at hD hS
  refine lv_aload_n (pc := 223) hx hb d_law_law_223 rfl (lv_at hl 2 rfl) ?_
  refine lv_aload_n (pc := 224) hx hb d_law_law_224 rfl (lv_at hl 3 rfl) ?_
  refine lv_iload_n (pc := 225) hx hb d_law_law_225 rfl (lv_at hl 0 rfl) ?_
  refine lv_iconst (pc := 226) (v := 1) hx hb d_law_law_226 (by decide) ?_
  refine lv_iadd (pc := 227) hx hb d_law_law_227 ?_
  refine k_cst (v := 1) (by decide) ?_
  refine va_sld (pc := 228) hx hb hX hbl hbA hS (by unfold vp_in; decide) d_law_law_228 ?_
  refine k_cst (v := nI j) hv1 ?_
  refine lv_aload_n (pc := 229) hx hb d_law_law_229 rfl (lv_at hl 3 rfl) ?_
  refine lv_iload_n (pc := 230) hx hb d_law_law_230 rfl (lv_at hl 0 rfl) ?_
  refine lv_iconst (pc := 231) (v := 2) hx hb d_law_law_231 (by decide) ?_
  refine lv_iadd (pc := 232) hx hb d_law_law_232 ?_
  refine k_cst (v := 2) (by decide) ?_
  refine va_sld (pc := 233) hx hb hX hbl hbA hS (by unfold vp_in; decide) d_law_law_233 ?_
  refine k_cst (v := v2) hv2 ?_
  refine k_goI (gr := [[(h, .inr (12, [.ref (q 0), .ref (q 1), .ref (q 2), .ref (q 3), .ref (q 4), .ref (q 5), .ref (q 6), .int 0, .int ((-1)), .ref (q 9), .ref (q 10), .int 0, .int 0, .ref (q 13), .int 0, .int 0, .null, .null, .null, .null, .null]))], [(h2, .inr (13, mF qm x0Mo y0Mo))]]) (k_rV (pc := 234) (As := [.int (nI j), .int v2]) (rest := []) X (c_Ho_read_z2 l D kA h j v2 hj hn2 H.size) rfl wm_630 wm_1 wm_627 wm_628 wm_629 2 (by decide +kernel) ⟨Nat.le_of_ble_eq_true rfl, Nat.le_of_ble_eq_true rfl⟩ rfl rfl (va_recv hK hP (ci := 12) (q0 := 0) rfl rfl) (k_pre hN hK hP hD [] [0, 1] 2 rfl (by decide) rfl) rfl hl.1 rfl (Nat.le_of_ble_eq_true rfl) d_law_law_234 ⟨Nat.le_of_ble_eq_true rfl, Nat.le_of_ble_eq_true rfl⟩) hP hD hS hA [] [0, 1] 2 rfl (by decide) rfl rfl (fun r1 u2 H locs hu2 hP hD hS => ?_)
  obtain ⟨hP, hD⟩ := k_left hP hD
  subst hu2
  have hP : va_P D classes (cat [[(h, .inr (12, [.ref (q 0), .ref (q 1), .ref (q 2), .ref (q 3), .ref (q 4), .ref (q 5), .ref (q 6), .int 0, .int ((-1)), .ref (q 9), .ref (q 10), .int 0, .int 0, .ref (q 13), .int 0, .int 0, .null, .null, .null, .null, .null]))], [(h2, .inr (13, mF qm x0Mo y0Mo))]]) H := hP
  have hD : va_D A (cat [[(h, .inr (12, [.ref (q 0), .ref (q 1), .ref (q 2), .ref (q 3), .ref (q 4), .ref (q 5), .ref (q 6), .int 0, .int ((-1)), .ref (q 9), .ref (q 10), .int 0, .int 0, .ref (q 13), .int 0, .int 0, .null, .null, .null, .null, .null]))], [(h2, .inr (13, mF qm x0Mo y0Mo))]]) := hD
  refine lv_aload_n (pc := 237) hx hb d_law_law_237 rfl (lv_at hl 1 rfl) ?_
  refine lv_aload_n (pc := 238) hx hb d_law_law_238 rfl (lv_at hl 3 rfl) ?_
  refine lv_iload_n (pc := 239) hx hb d_law_law_239 rfl (lv_at hl 0 rfl) ?_
  refine lv_iconst (pc := 240) (v := 1) hx hb d_law_law_240 (by decide) ?_
  refine lv_iadd (pc := 241) hx hb d_law_law_241 ?_
  refine k_cst (v := 1) (by decide) ?_
  refine va_sld (pc := 242) hx hb hX hbl hbA hS (by unfold vp_in; decide) d_law_law_242 ?_
  refine k_cst (v := nI j) hv1 ?_
  refine lv_aload_n (pc := 243) hx hb d_law_law_243 rfl (lv_at hl 3 rfl) ?_
  refine lv_iload_n (pc := 244) hx hb d_law_law_244 rfl (lv_at hl 0 rfl) ?_
  refine lv_iconst (pc := 245) (v := 2) hx hb d_law_law_245 (by decide) ?_
  refine lv_iadd (pc := 246) hx hb d_law_law_246 ?_
  refine k_cst (v := 2) (by decide) ?_
  refine va_sld (pc := 247) hx hb hX hbl hbA hS (by unfold vp_in; decide) d_law_law_247 ?_
  refine k_cst (v := v2) hv2 ?_
  refine k_goI (gr := [[(h, .inr (12, [.ref (q 0), .ref (q 1), .ref (q 2), .ref (q 3), .ref (q 4), .ref (q 5), .ref (q 6), .int 0, .int ((-1)), .ref (q 9), .ref (q 10), .int 0, .int 0, .ref (q 13), .int 0, .int 0, .null, .null, .null, .null, .null]))], [(h2, .inr (13, mF qm x0Mo y0Mo))]]) (k_rV (pc := 248) (As := [.int (nI j), .int v2]) (rest := [.int ((-2))]) X (c_Mo_read_z2 l D kA h2 j v2 hj hn2 H.size) rfl wm_2975 wm_9 wm_2972 wm_2973 wm_2974 2 (by decide +kernel) ⟨Nat.le_of_ble_eq_true rfl, Nat.le_of_ble_eq_true rfl⟩ rfl rfl (va_recv hK hP (ci := 13) (q0 := 1) rfl rfl) (k_pre hN hK hP hD [] [0, 1] 2 rfl (by decide) rfl) rfl hl.1 rfl (Nat.le_of_ble_eq_true rfl) d_law_law_248 ⟨Nat.le_of_ble_eq_true rfl, Nat.le_of_ble_eq_true rfl⟩) hP hD hS hA [] [0, 1] 2 rfl (by decide) rfl rfl (fun r3 u4 H locs hu4 hP hD hS => ?_)
  obtain ⟨hP, hD⟩ := k_left hP hD
  subst hu4
  have hP : va_P D classes (cat [[(h, .inr (12, [.ref (q 0), .ref (q 1), .ref (q 2), .ref (q 3), .ref (q 4), .ref (q 5), .ref (q 6), .int 0, .int ((-1)), .ref (q 9), .ref (q 10), .int 0, .int 0, .ref (q 13), .int 0, .int 0, .null, .null, .null, .null, .null]))], [(h2, .inr (13, mF qm x0Mo y0Mo))]]) H := hP
  have hD : va_D A (cat [[(h, .inr (12, [.ref (q 0), .ref (q 1), .ref (q 2), .ref (q 3), .ref (q 4), .ref (q 5), .ref (q 6), .int 0, .int ((-1)), .ref (q 9), .ref (q 10), .int 0, .int 0, .ref (q 13), .int 0, .int 0, .null, .null, .null, .null, .null]))], [(h2, .inr (13, mF qm x0Mo y0Mo))]]) := hD
  refine lv_icmp_eq (pc := 251) (tgt := 1295) hx hb d_law_law_251 (by decide) (fun _ => ?_) (fun c1 => absurd (by decide) c1)
  rw [hAe] at hS
  exact law_exit l C0 (Nat.le_of_ble_eq_true rfl) (Nat.le_of_ble_eq_true rfl) hS hl
set_option maxRecDepth 100000 in
set_option maxHeartbeats 4000000 in
/-- DrawingHouse.read(II)I -/
theorem c_Ho_read_z3 (l : Launch) (D : va_G) (kA : Nat → ClassId) (a0 : Nat) (j : Nat) (v2 : Int32) (a1 : Nat) (a2 : Nat) (a3 : Nat) (a4 : Nat) (a5 : Nat) (a6 : Nat) (a7 : Nat) (a8 : Nat) (a9 : Nat) (a10 : Nat) (a11 : Nat) (a12 : Nat) (a13 : Nat) (hj : j < 4) (hp2 : ¬ v2 < 0) (hb2 : 1 ≤ v2) (hc2 : 0 < v2) : Ci l y_Ho_read z_Ho_read { frames := 1, cells := 0, slots := 0, locals := 20 } D classes (TY kA) [.ref a0, .int (nI j), .int v2] [[(a0, .inr (12, [.ref a1, .ref a2, .ref a3, .ref a4, .ref a5, .ref a6, .ref a7, .int 0, .int ((-1)), .ref a8, .ref a9, .int 0, .int 0, .ref a10, .int 0, .int 0, .null, .null, .null, .null, .null]))], [(a5, .inr (8, [.ref a11, .int 0, .int ((-1)), .int ((-1)), .ref a12, .int 0, .int 0, .int 0, .int 0, .int 0, .ref a13, .int 0]))]] (fun r (_ : List va_W) => r = (-2)) (fun u => u) 0 0 := by
  intro sz
  refine k_met (cc := b_Ho_read) (maxL := 4) (ret := (some .int)) (by decide) rfl (Nat.le_of_ble_eq_true rfl) (fun p e s m below meth c ls X hl hB => ?_)
  obtain ⟨hsz, hP, hK, hD0, hN⟩ := hB
  subst hsz
  have hD := hD0.self (sz := s.heap.size)
  generalize hAe : va_A (cat [[(a0, .inr (12, [.ref a1, .ref a2, .ref a3, .ref a4, .ref a5, .ref a6, .ref a7, .int 0, .int ((-1)), .ref a8, .ref a9, .int 0, .int 0, .ref a10, .int 0, .int 0, .null, .null, .null, .null, .null]))], [(a5, .inr (8, [.ref a11, .int 0, .int ((-1)), .int ((-1)), .ref a12, .int 0, .int 0, .int 0, .int 0, .int 0, .ref a13, .int 0]))]]) s.heap.size = A at hD ⊢
  have hA : ∀ q : Nat, s.heap.size ≤ q → A q := fun q h => by rw [← hAe]; exact Or.inr h
  have hS : va_S A s.heap s.heap [] := va_S.rf
  obtain ⟨hx, hb, hml, hown, hts, hr, hlk, hnm⟩ := id X
  have hl : lv_has ls 4 [(0, .ref a0), (1, .int (nI j)), (2, .int v2)] := hl
  have hP : va_P D classes (cat [[(a0, .inr (12, [.ref a1, .ref a2, .ref a3, .ref a4, .ref a5, .ref a6, .ref a7, .int 0, .int ((-1)), .ref a8, .ref a9, .int 0, .int 0, .ref a10, .int 0, .int 0, .null, .null, .null, .null, .null]))], [(a5, .inr (8, [.ref a11, .int 0, .int ((-1)), .int ((-1)), .ref a12, .int 0, .int 0, .int 0, .int 0, .int 0, .ref a13, .int 0]))]]) s.heap := hP
  have hK : va_K D classes (TY kA) s := hK
  refine lv_iload_n (pc := 0) hx hb d_Ho_read_0 rfl (lv_at hl 1 rfl) ?_
  refine k_goI (gr := [[(a0, .inr (12, [.ref a1, .ref a2, .ref a3, .ref a4, .ref a5, .ref a6, .ref a7, .int 0, .int ((-1)), .ref a8, .ref a9, .int 0, .int 0, .ref a10, .int 0, .int 0, .null, .null, .null, .null, .null]))], [(a5, .inr (8, [.ref a11, .int 0, .int ((-1)), .int ((-1)), .ref a12, .int 0, .int 0, .int 0, .int 0, .int 0, .ref a13, .int 0]))]]) (k_rS (pc := 1) (As := [.int (nI j)]) (rest := []) X (c_Ho_isPlace l D kA (nI j) s.heap.size) rfl wm_633 wm_1 wm_631 wm_632 1 (by decide +kernel) ⟨Nat.le_of_ble_eq_true rfl, Nat.le_of_ble_eq_true rfl⟩ rfl rfl (k_pre hN hK hP hD [] [0, 1] 2 rfl (by decide) rfl) rfl hl.1 rfl (Nat.le_of_ble_eq_true rfl) d_Ho_read_1 ⟨Nat.le_of_ble_eq_true rfl, Nat.le_of_ble_eq_true rfl⟩) hP hD hS hA [] [0, 1] 2 rfl (by decide) rfl rfl (fun r1 u2 H locs hu2 hP hD hS => ?_)
  subst hu2
  refine k_cst (v := 1) (place_ok hj) ?_
  have hP : va_P D classes (cat [[(a0, .inr (12, [.ref a1, .ref a2, .ref a3, .ref a4, .ref a5, .ref a6, .ref a7, .int 0, .int ((-1)), .ref a8, .ref a9, .int 0, .int 0, .ref a10, .int 0, .int 0, .null, .null, .null, .null, .null]))], [(a5, .inr (8, [.ref a11, .int 0, .int ((-1)), .int ((-1)), .ref a12, .int 0, .int 0, .int 0, .int 0, .int 0, .ref a13, .int 0]))]]) H := hP
  have hD : va_D A (cat [[(a0, .inr (12, [.ref a1, .ref a2, .ref a3, .ref a4, .ref a5, .ref a6, .ref a7, .int 0, .int ((-1)), .ref a8, .ref a9, .int 0, .int 0, .ref a10, .int 0, .int 0, .null, .null, .null, .null, .null]))], [(a5, .inr (8, [.ref a11, .int 0, .int ((-1)), .int ((-1)), .ref a12, .int 0, .int 0, .int 0, .int 0, .int 0, .ref a13, .int 0]))]]) := hD
  refine lv_if_eq (pc := 4) (tgt := 22) hx hb d_Ho_read_4 (by decide) (fun c1 => absurd c1 (by decide)) (fun c1 => ?_)
  refine lv_iload_n (pc := 7) hx hb d_Ho_read_7 rfl (lv_at hl 2 rfl) ?_
  refine lv_if_lt (pc := 8) (tgt := 22) hx hb d_Ho_read_8 (by decide) (fun c1 => absurd c1 (hp2)) (fun c1 => ?_)
  refine lv_iload_n (pc := 11) hx hb d_Ho_read_11 rfl (lv_at hl 2 rfl) ?_
  refine lv_aload_n (pc := 12) hx hb d_Ho_read_12 rfl (lv_at hl 0 rfl) ?_
  refine k_get (pc := 13) X hK hP 0 rfl rfl i_Ho 4 (by decide) wm_559 rfl rfl d_Ho_read_13 ?_
  refine k_get (pc := 16) X hK hP 1 rfl rfl i_Re 1 (by decide) wm_197 rfl rfl d_Ho_read_16 ?_
  refine lv_icmp_le (pc := 19) (tgt := 25) hx hb d_Ho_read_19 (by decide) (fun c1 => absurd c1 (Int32.not_le.mpr hc2)) (fun c1 => ?_)
  refine lv_bipush (pc := 22) (v := -2) hx hb d_Ho_read_22 (by decide) ?_
  refine W.widen (k := 0) (n := 0) (Nat.le_of_ble_eq_true rfl) (Nat.le_of_ble_eq_true rfl) ?_
  exact W.iret (v := (-2)) hx hb hr (fun t ht hW => ⟨⟨(-2), [[(a0, .inr (12, [.ref a1, .ref a2, .ref a3, .ref a4, .ref a5, .ref a6, .ref a7, .int 0, .int ((-1)), .ref a8, .ref a9, .int 0, .int 0, .ref a10, .int 0, .int 0, .null, .null, .null, .null, .null]))], [(a5, .inr (8, [.ref a11, .int 0, .int ((-1)), .int ((-1)), .ref a12, .int 0, .int 0, .int 0, .int 0, .int 0, .ref a13, .int 0]))]], rfl, rfl, by rw [ht]; exact hP, va_K.moved hW.alike hK, hD⟩, hS.F ht⟩) hS.2.2 d_Ho_read_24
set_option maxRecDepth 100000 in
set_option maxHeartbeats 4000000 in
/-- DrawingHouseModel.read(II)I -/
theorem c_Mo_read_z3 (l : Launch) (D : va_G) (kA : Nat → ClassId) (a0 : Nat) (j : Nat) (v2 : Int32) (qm : Nat → Nat) (hj : j < 4) (hp2 : ¬ v2 < 0) (hb2 : 1 ≤ v2) (hc2 : 0 < v2) : Ci l y_Mo_read z_Mo_read { frames := 2, cells := 0, slots := 0, locals := 42 } D classes (TY kA) [.ref a0, .int (nI j), .int v2] [[(a0, .inr (13, mF qm x0Mo y0Mo))]] (fun r (_ : List va_W) => r = (-2)) (fun u => u) 0 0 := by
  intro sz
  refine k_met (cc := b_Mo_read) (maxL := 4) (ret := (some .int)) (by decide) rfl (Nat.le_of_ble_eq_true rfl) (fun p e s m below meth c ls X hl hB => ?_)
  obtain ⟨hsz, hP, hK, hD0, hN⟩ := hB
  subst hsz
  have hD := hD0.self (sz := s.heap.size)
  generalize hAe : va_A (cat [[(a0, .inr (13, mF qm x0Mo y0Mo))]]) s.heap.size = A at hD ⊢
  have hA : ∀ q : Nat, s.heap.size ≤ q → A q := fun q h => by rw [← hAe]; exact Or.inr h
  have hS : va_S A s.heap s.heap [] := va_S.rf
  obtain ⟨hx, hb, hml, hown, hts, hr, hlk, hnm⟩ := id X
  have hl : lv_has ls 4 [(0, .ref a0), (1, .int (nI j)), (2, .int v2)] := hl
  have hP : va_P D classes (cat [[(a0, .inr (13, mF qm x0Mo y0Mo))]]) s.heap := hP
  have hK : va_K D classes (TY kA) s := hK
  refine lv_iload_n (pc := 0) hx hb d_Mo_read_0 rfl (lv_at hl 1 rfl) ?_
  refine k_goI (gr := [[(a0, .inr (13, mF qm x0Mo y0Mo))]]) (k_rS (pc := 1) (As := [.int (nI j)]) (rest := []) X (c_Mo_isPlace l D kA (nI j) s.heap.size) rfl wm_2978 wm_9 wm_2976 wm_2977 1 (by decide +kernel) ⟨Nat.le_of_ble_eq_true rfl, Nat.le_of_ble_eq_true rfl⟩ rfl rfl (k_pre hN hK hP hD [] [0] 1 rfl (by decide) rfl) rfl hl.1 rfl (Nat.le_of_ble_eq_true rfl) d_Mo_read_1 ⟨Nat.le_of_ble_eq_true rfl, Nat.le_of_ble_eq_true rfl⟩) hP hD hS hA [] [0] 1 rfl (by decide) rfl rfl (fun r1 u2 H locs hu2 hP hD hS => ?_)
  subst hu2
  refine k_cst (v := 1) (placeM_ok hj) ?_
  have hP : va_P D classes (cat [[(a0, .inr (13, mF qm x0Mo y0Mo))]]) H := hP
  have hD : va_D A (cat [[(a0, .inr (13, mF qm x0Mo y0Mo))]]) := hD
  refine lv_if_eq (pc := 4) (tgt := 19) hx hb d_Mo_read_4 (by decide) (fun c1 => absurd c1 (by decide)) (fun c1 => ?_)
  refine lv_iload_n (pc := 7) hx hb d_Mo_read_7 rfl (lv_at hl 2 rfl) ?_
  refine lv_if_lt (pc := 8) (tgt := 19) hx hb d_Mo_read_8 (by decide) (fun c1 => absurd c1 (hp2)) (fun c1 => ?_)
  refine lv_iload_n (pc := 11) hx hb d_Mo_read_11 rfl (lv_at hl 2 rfl) ?_
  refine lv_aload_n (pc := 12) hx hb d_Mo_read_12 rfl (lv_at hl 0 rfl) ?_
  refine k_get (pc := 13) (v := .int 0) X hK hP 0 rfl rfl i_Mo 0 (by decide) wm_2433 rfl rfl d_Mo_read_13 ?_
  refine lv_icmp_le (pc := 16) (tgt := 22) hx hb d_Mo_read_16 (by decide) (fun c1 => absurd c1 (Int32.not_le.mpr hc2)) (fun c1 => ?_)
  refine lv_bipush (pc := 19) (v := -2) hx hb d_Mo_read_19 (by decide) ?_
  refine W.widen (k := 0) (n := 0) (Nat.le_of_ble_eq_true rfl) (Nat.le_of_ble_eq_true rfl) ?_
  exact W.iret (v := (-2)) hx hb hr (fun t ht hW => ⟨⟨(-2), [[(a0, .inr (13, mF qm x0Mo y0Mo))]], rfl, rfl, by rw [ht]; exact hP, va_K.moved hW.alike hK, hD⟩, hS.F ht⟩) hS.2.2 d_Mo_read_21
set_option maxRecDepth 100000 in
set_option maxHeartbeats 4000000 in
/-- read, a fresh house -/
theorem lf_read_3 {p : Program} {e : Env} {s : State} {m : MethodId} {below : List Frame} {meth : Method} {c : Code} (l : Launch) {b : Nat} {xs : Nat → Int32} (C0 : lw_At p s m meth c b 6 xs) {D : va_G} {kA : Nat → ClassId} (h : Nat) (h2 : Nat) (q : Nat → Nat) (qr : Nat → Nat) (qm : Nat → Nat) (j : Nat) (v2 : Int32) (hj : j < 4) (hp2 : ¬ v2 < 0) (hb2 : 1 ≤ v2) (hc2 : 0 < v2) (hv1 : xs 1 = nI j) (hv2 : xs 2 = v2) {H : Heap} {locs : List Loc} {ls : Array Slot} (hK : va_K D classes (TY kA) s) (hN : nst s) (hP : va_P D classes (cat [[(h, .inr (12, [.ref (q 0), .ref (q 1), .ref (q 2), .ref (q 3), .ref (q 4), .ref (q 5), .ref (q 6), .int 0, .int ((-1)), .ref (q 9), .ref (q 10), .int 0, .int 0, .ref (q 13), .int 0, .int 0, .null, .null, .null, .null, .null]))], [(q 4, .inr (8, [.ref (qr 0), .int 0, .int ((-1)), .int ((-1)), .ref (qr 4), .int 0, .int 0, .int 0, .int 0, .int 0, .ref (qr 10), .int 0]))], [(h2, .inr (13, mF qm x0Mo y0Mo))]]) H) (hD : va_D (fun q : Nat => s.heap.size ≤ q) (cat [[(h, .inr (12, [.ref (q 0), .ref (q 1), .ref (q 2), .ref (q 3), .ref (q 4), .ref (q 5), .ref (q 6), .int 0, .int ((-1)), .ref (q 9), .ref (q 10), .int 0, .int 0, .ref (q 13), .int 0, .int 0, .null, .null, .null, .null, .null]))], [(q 4, .inr (8, [.ref (qr 0), .int 0, .int ((-1)), .int ((-1)), .ref (qr 4), .int 0, .int 0, .int 0, .int 0, .int 0, .ref (qr 10), .int 0]))], [(h2, .inr (13, mF qm x0Mo y0Mo))]])) (hS : va_S (fun q : Nat => s.heap.size ≤ q) s.heap H locs) (hl : lv_has ls 4 [(3, .int 0), (2, .ref h2), (1, .ref h), (0, .ref b)]) : W p l e room_1 s m #[Value.ref b] below meth c H locs 368 365796 (lw_Z below #[Value.ref b] s) (F0 m 223 ls []) := by
  obtain ⟨hx, hb, hr, hml, hown, hts0, hX, hbl, hlocks, hgv⟩ := id C0
  have hts : ∀ w ∈ lw_g, w.before #[Value.ref b] s = true := fun w h => hts0 w (lw_gt h)
  have X : cx p s m #[Value.ref b] meth c b_law_law 4 ret "DrawingHouseLaw" meth.name := ⟨hx, hb, hml, hown, hts, hr, hlocks, rfl⟩
  obtain ⟨A, hAe⟩ : ∃ A : Nat → Prop, A = fun q : Nat => s.heap.size ≤ q := ⟨_, rfl⟩
  have hA : ∀ q : Nat, s.heap.size ≤ q → A q := fun q h => by rw [hAe]; exact h
  have hbA : ¬ A b := by rw [hAe]; exact Nat.not_le.mpr hbl
  rw [← hAe] at hD hS
  refine lv_aload_n (pc := 223) hx hb d_law_law_223 rfl (lv_at hl 2 rfl) ?_
  refine lv_aload_n (pc := 224) hx hb d_law_law_224 rfl (lv_at hl 3 rfl) ?_
  refine lv_iload_n (pc := 225) hx hb d_law_law_225 rfl (lv_at hl 0 rfl) ?_
  refine lv_iconst (pc := 226) (v := 1) hx hb d_law_law_226 (by decide) ?_
  refine lv_iadd (pc := 227) hx hb d_law_law_227 ?_
  refine k_cst (v := 1) (by decide) ?_
  refine va_sld (pc := 228) hx hb hX hbl hbA hS (by unfold vp_in; decide) d_law_law_228 ?_
  refine k_cst (v := nI j) hv1 ?_
  refine lv_aload_n (pc := 229) hx hb d_law_law_229 rfl (lv_at hl 3 rfl) ?_
  refine lv_iload_n (pc := 230) hx hb d_law_law_230 rfl (lv_at hl 0 rfl) ?_
  refine lv_iconst (pc := 231) (v := 2) hx hb d_law_law_231 (by decide) ?_
  refine lv_iadd (pc := 232) hx hb d_law_law_232 ?_
  refine k_cst (v := 2) (by decide) ?_
  refine va_sld (pc := 233) hx hb hX hbl hbA hS (by unfold vp_in; decide) d_law_law_233 ?_
  refine k_cst (v := v2) hv2 ?_
  refine k_goI (gr := [[(h2, .inr (13, mF qm x0Mo y0Mo))]]) (k_rV (pc := 234) (As := [.int (nI j), .int v2]) (rest := []) X (c_Ho_read_z3 l D kA h j v2 (q 0) (q 1) (q 2) (q 3) (q 4) (q 5) (q 6) (q 9) (q 10) (q 13) (qr 0) (qr 4) (qr 10) hj hp2 hb2 hc2 H.size) rfl wm_630 wm_1 wm_627 wm_628 wm_629 2 (by decide +kernel) ⟨Nat.le_of_ble_eq_true rfl, Nat.le_of_ble_eq_true rfl⟩ rfl rfl (va_recv hK hP (ci := 12) (q0 := 0) rfl rfl) (k_pre hN hK hP hD [0, 1] [2] 3 rfl (by decide) rfl) rfl hl.1 rfl (Nat.le_of_ble_eq_true rfl) d_law_law_234 ⟨Nat.le_of_ble_eq_true rfl, Nat.le_of_ble_eq_true rfl⟩) hP hD hS hA [0, 1] [2] 3 rfl (by decide) rfl rfl (fun r1 u2 H locs hu2 hP hD hS => ?_)
  obtain ⟨hP, hD⟩ := k_left hP hD
  subst hu2
  have hP : va_P D classes (cat [[(h2, .inr (13, mF qm x0Mo y0Mo))]]) H := hP
  have hD : va_D A (cat [[(h2, .inr (13, mF qm x0Mo y0Mo))]]) := hD
  refine lv_aload_n (pc := 237) hx hb d_law_law_237 rfl (lv_at hl 1 rfl) ?_
  refine lv_aload_n (pc := 238) hx hb d_law_law_238 rfl (lv_at hl 3 rfl) ?_
  refine lv_iload_n (pc := 239) hx hb d_law_law_239 rfl (lv_at hl 0 rfl) ?_
  refine lv_iconst (pc := 240) (v := 1) hx hb d_law_law_240 (by decide) ?_
  refine lv_iadd (pc := 241) hx hb d_law_law_241 ?_
  refine k_cst (v := 1) (by decide) ?_
  refine va_sld (pc := 242) hx hb hX hbl hbA hS (by unfold vp_in; decide) d_law_law_242 ?_
  refine k_cst (v := nI j) hv1 ?_
  refine lv_aload_n (pc := 243) hx hb d_law_law_243 rfl (lv_at hl 3 rfl) ?_
  refine lv_iload_n (pc := 244) hx hb d_law_law_244 rfl (lv_at hl 0 rfl) ?_
  refine lv_iconst (pc := 245) (v := 2) hx hb d_law_law_245 (by decide) ?_
  refine lv_iadd (pc := 246) hx hb d_law_law_246 ?_
  refine k_cst (v := 2) (by decide) ?_
  refine va_sld (pc := 247) hx hb hX hbl hbA hS (by unfold vp_in; decide) d_law_law_247 ?_
  refine k_cst (v := v2) hv2 ?_
  refine k_goI (gr := []) (k_rV (pc := 248) (As := [.int (nI j), .int v2]) (rest := [.int ((-2))]) X (c_Mo_read_z3 l D kA h2 j v2 qm hj hp2 hb2 hc2 H.size) rfl wm_2975 wm_9 wm_2972 wm_2973 wm_2974 2 (by decide +kernel) ⟨Nat.le_of_ble_eq_true rfl, Nat.le_of_ble_eq_true rfl⟩ rfl rfl (va_recv hK hP (ci := 13) (q0 := 0) rfl rfl) (k_pre hN hK hP hD [0] [] 1 rfl (by decide) rfl) rfl hl.1 rfl (Nat.le_of_ble_eq_true rfl) d_law_law_248 ⟨Nat.le_of_ble_eq_true rfl, Nat.le_of_ble_eq_true rfl⟩) hP hD hS hA [0] [] 1 rfl (by decide) rfl rfl (fun r3 u4 H locs hu4 hP hD hS => ?_)
  obtain ⟨hP, hD⟩ := k_left hP hD
  subst hu4
  have hP : va_P D classes (cat []) H := hP
  have hD : va_D A (cat []) := hD
  refine lv_icmp_eq (pc := 251) (tgt := 1295) hx hb d_law_law_251 (by decide) (fun _ => ?_) (fun c1 => absurd (by decide) c1)
  rw [hAe] at hS
  exact law_exit l C0 (Nat.le_of_ble_eq_true rfl) (Nat.le_of_ble_eq_true rfl) hS hl
set_option maxRecDepth 100000 in
set_option maxHeartbeats 4000000 in
/-- DrawingHouse$Graph.clear()V -/
theorem c_Gr_clear_z1 (l : Launch) (D : va_G) (kA : Nat → ClassId) (a0 : Nat) (a1 : Nat) (a2 : Nat) (a3 : Nat) (a4 : Nat) (a5 : Nat) (a6 : Nat) (a7 : Nat) (a8 : Nat) (a9 : Nat) (a10 : Nat) (a11 : Nat) (a12 : Nat) (a13 : Nat) (f0 : Nat → Int32) (f1 : Nat → Int32) : Cv l y_Gr_clear z_Gr_clear { frames := 1, cells := 0, slots := 0, locals := 23 } D classes (TY kA) [.ref a0] [[(a0, .inr (3, [.int 0, .int 0, .int 1, .ref a1, .ref a2, .ref a3, .ref a4, .ref a5, .ref a6, .ref a7, .ref a8, .ref a9, .ref a10, .ref a11, .ref a12, .ref a13, .null, .int 0, .int 0]))], [(a12, .inl (kA 0, 24, .inl f0))], [(a13, .inl (kA 0, 576, .inl f1))]] (fun _ : Unit => True) (fun u => [[(a0, .inr (3, [.int 0, .int 0, .int 1, .ref a1, .ref a2, .ref a3, .ref a4, .ref a5, .ref a6, .ref a7, .ref a8, .ref a9, .ref a10, .ref a11, .ref a12, .ref a13, .null, .int 0, .int 0]))], [(a12, .inl (kA 0, 24, .inl (fl f0 24 0)))], [(a13, .inl (kA 0, 576, .inl (fl f1 576 (-1))))]]) 0 0 := by
  intro sz
  refine k_met (cc := b_Gr_clear) (maxL := 1) (ret := none) (by decide) rfl (Nat.le_of_ble_eq_true rfl) (fun p e s m below meth c ls X hl hB => ?_)
  obtain ⟨hsz, hP, hK, hD0, hN⟩ := hB
  subst hsz
  have hD := hD0.self (sz := s.heap.size)
  generalize hAe : va_A (cat [[(a0, .inr (3, [.int 0, .int 0, .int 1, .ref a1, .ref a2, .ref a3, .ref a4, .ref a5, .ref a6, .ref a7, .ref a8, .ref a9, .ref a10, .ref a11, .ref a12, .ref a13, .null, .int 0, .int 0]))], [(a12, .inl (kA 0, 24, .inl f0))], [(a13, .inl (kA 0, 576, .inl f1))]]) s.heap.size = A at hD ⊢
  have hA : ∀ q : Nat, s.heap.size ≤ q → A q := fun q h => by rw [← hAe]; exact Or.inr h
  have hS : va_S A s.heap s.heap [] := va_S.rf
  obtain ⟨hx, hb, hml, hown, hts, hr, hlk, hnm⟩ := id X
  have hl : lv_has ls 1 [(0, .ref a0)] := hl
  have hP : va_P D classes (cat [[(a0, .inr (3, [.int 0, .int 0, .int 1, .ref a1, .ref a2, .ref a3, .ref a4, .ref a5, .ref a6, .ref a7, .ref a8, .ref a9, .ref a10, .ref a11, .ref a12, .ref a13, .null, .int 0, .int 0]))], [(a12, .inl (kA 0, 24, .inl f0))], [(a13, .inl (kA 0, 576, .inl f1))]]) s.heap := hP
  have hK : va_K D classes (TY kA) s := hK
  refine lv_aload_n (pc := 0) hx hb d_Gr_clear_0 rfl (lv_at hl 0 rfl) ?_
  refine lv_iconst (pc := 1) (v := 0) hx hb d_Gr_clear_1 (by decide) ?_
  refine k_put (pc := 2) X hK hP hD hS 0 rfl rfl i_Gr t_Gr t_Gr_ok n_Gr 0 (by decide) wm_56 rfl (Or.inl rfl) rfl rfl (Nat.le_of_ble_eq_true rfl) d_Gr_clear_2 (fun H locs hP hD hS => ?_)
  have hP : va_P D classes (cat [[(a0, .inr (3, [.int 0, .int 0, .int 1, .ref a1, .ref a2, .ref a3, .ref a4, .ref a5, .ref a6, .ref a7, .ref a8, .ref a9, .ref a10, .ref a11, .ref a12, .ref a13, .null, .int 0, .int 0]))], [(a12, .inl (kA 0, 24, .inl f0))], [(a13, .inl (kA 0, 576, .inl f1))]]) H := hP
  have hD : va_D A (cat [[(a0, .inr (3, [.int 0, .int 0, .int 1, .ref a1, .ref a2, .ref a3, .ref a4, .ref a5, .ref a6, .ref a7, .ref a8, .ref a9, .ref a10, .ref a11, .ref a12, .ref a13, .null, .int 0, .int 0]))], [(a12, .inl (kA 0, 24, .inl f0))], [(a13, .inl (kA 0, 576, .inl f1))]]) := hD
  refine lv_aload_n (pc := 5) hx hb d_Gr_clear_5 rfl (lv_at hl 0 rfl) ?_
  refine lv_iconst (pc := 6) (v := 0) hx hb d_Gr_clear_6 (by decide) ?_
  refine k_put (pc := 7) X hK hP hD hS 0 rfl rfl i_Gr t_Gr t_Gr_ok n_Gr 1 (by decide) wm_68 rfl (Or.inl rfl) rfl rfl (Nat.le_of_ble_eq_true rfl) d_Gr_clear_7 (fun H locs hP hD hS => ?_)
  have hP : va_P D classes (cat [[(a0, .inr (3, [.int 0, .int 0, .int 1, .ref a1, .ref a2, .ref a3, .ref a4, .ref a5, .ref a6, .ref a7, .ref a8, .ref a9, .ref a10, .ref a11, .ref a12, .ref a13, .null, .int 0, .int 0]))], [(a12, .inl (kA 0, 24, .inl f0))], [(a13, .inl (kA 0, 576, .inl f1))]]) H := hP
  have hD : va_D A (cat [[(a0, .inr (3, [.int 0, .int 0, .int 1, .ref a1, .ref a2, .ref a3, .ref a4, .ref a5, .ref a6, .ref a7, .ref a8, .ref a9, .ref a10, .ref a11, .ref a12, .ref a13, .null, .int 0, .int 0]))], [(a12, .inl (kA 0, 24, .inl f0))], [(a13, .inl (kA 0, 576, .inl f1))]]) := hD
  refine lv_aload_n (pc := 10) hx hb d_Gr_clear_10 rfl (lv_at hl 0 rfl) ?_
  refine lv_iconst (pc := 11) (v := 1) hx hb d_Gr_clear_11 (by decide) ?_
  refine k_put (pc := 12) X hK hP hD hS 0 rfl rfl i_Gr t_Gr t_Gr_ok n_Gr 2 (by decide) wm_79 rfl (Or.inl rfl) rfl rfl (Nat.le_of_ble_eq_true rfl) d_Gr_clear_12 (fun H locs hP hD hS => ?_)
  have hP : va_P D classes (cat [[(a0, .inr (3, [.int 0, .int 0, .int 1, .ref a1, .ref a2, .ref a3, .ref a4, .ref a5, .ref a6, .ref a7, .ref a8, .ref a9, .ref a10, .ref a11, .ref a12, .ref a13, .null, .int 0, .int 0]))], [(a12, .inl (kA 0, 24, .inl f0))], [(a13, .inl (kA 0, 576, .inl f1))]]) H := hP
  have hD : va_D A (cat [[(a0, .inr (3, [.int 0, .int 0, .int 1, .ref a1, .ref a2, .ref a3, .ref a4, .ref a5, .ref a6, .ref a7, .ref a8, .ref a9, .ref a10, .ref a11, .ref a12, .ref a13, .null, .int 0, .int 0]))], [(a12, .inl (kA 0, 24, .inl f0))], [(a13, .inl (kA 0, 576, .inl f1))]]) := hD
  refine lv_aload_n (pc := 15) hx hb d_Gr_clear_15 rfl (lv_at hl 0 rfl) ?_
  refine lv_iconst (pc := 16) (v := 0) hx hb d_Gr_clear_16 (by decide) ?_
  refine k_put (pc := 17) X hK hP hD hS 0 rfl rfl i_Gr t_Gr t_Gr_ok n_Gr 17 (by decide) wm_149 rfl (Or.inl rfl) rfl rfl (Nat.le_of_ble_eq_true rfl) d_Gr_clear_17 (fun H locs hP hD hS => ?_)
  have hP : va_P D classes (cat [[(a0, .inr (3, [.int 0, .int 0, .int 1, .ref a1, .ref a2, .ref a3, .ref a4, .ref a5, .ref a6, .ref a7, .ref a8, .ref a9, .ref a10, .ref a11, .ref a12, .ref a13, .null, .int 0, .int 0]))], [(a12, .inl (kA 0, 24, .inl f0))], [(a13, .inl (kA 0, 576, .inl f1))]]) H := hP
  have hD : va_D A (cat [[(a0, .inr (3, [.int 0, .int 0, .int 1, .ref a1, .ref a2, .ref a3, .ref a4, .ref a5, .ref a6, .ref a7, .ref a8, .ref a9, .ref a10, .ref a11, .ref a12, .ref a13, .null, .int 0, .int 0]))], [(a12, .inl (kA 0, 24, .inl f0))], [(a13, .inl (kA 0, 576, .inl f1))]]) := hD
  refine lv_aload_n (pc := 20) hx hb d_Gr_clear_20 rfl (lv_at hl 0 rfl) ?_
  refine lv_iconst (pc := 21) (v := 0) hx hb d_Gr_clear_21 (by decide) ?_
  refine k_put (pc := 22) X hK hP hD hS 0 rfl rfl i_Gr t_Gr t_Gr_ok n_Gr 18 (by decide) wm_151 rfl (Or.inl rfl) rfl rfl (Nat.le_of_ble_eq_true rfl) d_Gr_clear_22 (fun H locs hP hD hS => ?_)
  have hP : va_P D classes (cat [[(a0, .inr (3, [.int 0, .int 0, .int 1, .ref a1, .ref a2, .ref a3, .ref a4, .ref a5, .ref a6, .ref a7, .ref a8, .ref a9, .ref a10, .ref a11, .ref a12, .ref a13, .null, .int 0, .int 0]))], [(a12, .inl (kA 0, 24, .inl f0))], [(a13, .inl (kA 0, 576, .inl f1))]]) H := hP
  have hD : va_D A (cat [[(a0, .inr (3, [.int 0, .int 0, .int 1, .ref a1, .ref a2, .ref a3, .ref a4, .ref a5, .ref a6, .ref a7, .ref a8, .ref a9, .ref a10, .ref a11, .ref a12, .ref a13, .null, .int 0, .int 0]))], [(a12, .inl (kA 0, 24, .inl f0))], [(a13, .inl (kA 0, 576, .inl f1))]]) := hD
  refine lv_aload_n (pc := 25) hx hb d_Gr_clear_25 rfl (lv_at hl 0 rfl) ?_
  refine k_get (pc := 26) X hK hP 0 rfl rfl i_Gr 14 (by decide) wm_140 rfl rfl d_Gr_clear_26 ?_
  refine lv_iconst (pc := 29) (v := 0) hx hb d_Gr_clear_29 (by decide) ?_
  refine k_goV (gr := [[(a0, .inr (3, [.int 0, .int 0, .int 1, .ref a1, .ref a2, .ref a3, .ref a4, .ref a5, .ref a6, .ref a7, .ref a8, .ref a9, .ref a10, .ref a11, .ref a12, .ref a13, .null, .int 0, .int 0]))], [(a13, .inl (kA 0, 576, .inl f1))]]) (k_rS (pc := 30) (As := [.ref a12, .int 0]) (rest := []) X (c_fillI l D (TY kA) 0 (kA 0) rfl a12 24 (by decide) f0 0 H.size) rfl wm_55 wm_4 wm_53 wm_54 2 (by decide +kernel) ⟨Nat.le_of_ble_eq_true rfl, Nat.le_of_ble_eq_true rfl⟩ rfl rfl (k_pre hN hK hP hD [1] [0, 2] 3 rfl (by decide) rfl) rfl hl.1 rfl (Nat.le_of_ble_eq_true rfl) d_Gr_clear_30 ⟨Nat.le_of_ble_eq_true rfl, Nat.le_of_ble_eq_true rfl⟩) hP hD hS hA [1] [0, 2] 3 rfl (by decide) rfl rfl (fun u1 H locs hu1 hP hD hS => ?_)
  have hP : va_P D classes (cat [[(a0, .inr (3, [.int 0, .int 0, .int 1, .ref a1, .ref a2, .ref a3, .ref a4, .ref a5, .ref a6, .ref a7, .ref a8, .ref a9, .ref a10, .ref a11, .ref a12, .ref a13, .null, .int 0, .int 0]))], [(a13, .inl (kA 0, 576, .inl f1))], [(a12, .inl (kA 0, 24, .inl (fl f0 24 0)))]]) H := hP
  have hD : va_D A (cat [[(a0, .inr (3, [.int 0, .int 0, .int 1, .ref a1, .ref a2, .ref a3, .ref a4, .ref a5, .ref a6, .ref a7, .ref a8, .ref a9, .ref a10, .ref a11, .ref a12, .ref a13, .null, .int 0, .int 0]))], [(a13, .inl (kA 0, 576, .inl f1))], [(a12, .inl (kA 0, 24, .inl (fl f0 24 0)))]]) := hD
  refine lv_aload_n (pc := 33) hx hb d_Gr_clear_33 rfl (lv_at hl 0 rfl) ?_
  refine k_get (pc := 34) X hK hP 0 rfl rfl i_Gr 15 (by decide) wm_147 rfl rfl d_Gr_clear_34 ?_
  refine lv_iconst (pc := 37) (v := -1) hx hb d_Gr_clear_37 (by decide) ?_
  refine k_goV (gr := [[(a0, .inr (3, [.int 0, .int 0, .int 1, .ref a1, .ref a2, .ref a3, .ref a4, .ref a5, .ref a6, .ref a7, .ref a8, .ref a9, .ref a10, .ref a11, .ref a12, .ref a13, .null, .int 0, .int 0]))], [(a12, .inl (kA 0, 24, .inl (fl f0 24 0)))]]) (k_rS (pc := 38) (As := [.ref a13, .int ((-1))]) (rest := []) X (c_fillI l D (TY kA) 0 (kA 0) rfl a13 576 (by decide) f1 (-1) H.size) rfl wm_55 wm_4 wm_53 wm_54 2 (by decide +kernel) ⟨Nat.le_of_ble_eq_true rfl, Nat.le_of_ble_eq_true rfl⟩ rfl rfl (k_pre hN hK hP hD [1] [0, 2] 3 rfl (by decide) rfl) rfl hl.1 rfl (Nat.le_of_ble_eq_true rfl) d_Gr_clear_38 ⟨Nat.le_of_ble_eq_true rfl, Nat.le_of_ble_eq_true rfl⟩) hP hD hS hA [1] [0, 2] 3 rfl (by decide) rfl rfl (fun u2 H locs hu2 hP hD hS => ?_)
  have hP : va_P D classes (cat [[(a0, .inr (3, [.int 0, .int 0, .int 1, .ref a1, .ref a2, .ref a3, .ref a4, .ref a5, .ref a6, .ref a7, .ref a8, .ref a9, .ref a10, .ref a11, .ref a12, .ref a13, .null, .int 0, .int 0]))], [(a12, .inl (kA 0, 24, .inl (fl f0 24 0)))], [(a13, .inl (kA 0, 576, .inl (fl f1 576 (-1))))]]) H := hP
  have hD : va_D A (cat [[(a0, .inr (3, [.int 0, .int 0, .int 1, .ref a1, .ref a2, .ref a3, .ref a4, .ref a5, .ref a6, .ref a7, .ref a8, .ref a9, .ref a10, .ref a11, .ref a12, .ref a13, .null, .int 0, .int 0]))], [(a12, .inl (kA 0, 24, .inl (fl f0 24 0)))], [(a13, .inl (kA 0, 576, .inl (fl f1 576 (-1))))]]) := hD
  refine W.widen (k := 0) (n := 0) (Nat.le_of_ble_eq_true rfl) (Nat.le_of_ble_eq_true rfl) ?_
  exact W.vret hx hb hr (fun t ht hW => ⟨⟨(), rfl, trivial, by rw [ht]; exact hP, va_K.moved hW.alike hK, hD⟩, hS.F ht⟩) hS.2.2 d_Gr_clear_41
set_option maxRecDepth 100000 in
set_option maxHeartbeats 4000000 in
/-- DrawingHouse$Reader.advance()V -/
theorem c_Re_advance_z1 (l : Launch) (D : va_G) (kA : Nat → ClassId) (a0 : Nat) (a1 : Nat) (a2 : Nat) (a3 : Nat) : Cv l y_Re_advance z_Re_advance { frames := 0, cells := 0, slots := 0, locals := 0 } D classes (TY kA) [.ref a0] [[(a0, .inr (8, [.ref a1, .int 0, .int 0, .int ((-1)), .ref a2, .int 0, .int 0, .int 0, .int 0, .int 0, .ref a3, .int 0]))]] (fun _ : Unit => True) (fun u => [[(a0, .inr (8, [.ref a1, .int 0, .int 0, .int ((-1)), .ref a2, .int 0, .int 0, .int 0, .int 0, .int 0, .ref a3, .int 0]))]]) 0 0 := by
  intro sz
  refine k_met (cc := b_Re_advance) (maxL := 2) (ret := none) (by decide) rfl (Nat.le_of_ble_eq_true rfl) (fun p e s m below meth c ls X hl hB => ?_)
  obtain ⟨hsz, hP, hK, hD0, hN⟩ := hB
  subst hsz
  have hD := hD0.self (sz := s.heap.size)
  generalize hAe : va_A (cat [[(a0, .inr (8, [.ref a1, .int 0, .int 0, .int ((-1)), .ref a2, .int 0, .int 0, .int 0, .int 0, .int 0, .ref a3, .int 0]))]]) s.heap.size = A at hD ⊢
  have hA : ∀ q : Nat, s.heap.size ≤ q → A q := fun q h => by rw [← hAe]; exact Or.inr h
  have hS : va_S A s.heap s.heap [] := va_S.rf
  obtain ⟨hx, hb, hml, hown, hts, hr, hlk, hnm⟩ := id X
  have hl : lv_has ls 2 [(0, .ref a0)] := hl
  have hP : va_P D classes (cat [[(a0, .inr (8, [.ref a1, .int 0, .int 0, .int ((-1)), .ref a2, .int 0, .int 0, .int 0, .int 0, .int 0, .ref a3, .int 0]))]]) s.heap := hP
  have hK : va_K D classes (TY kA) s := hK
  refine lv_aload_n (pc := 0) hx hb d_Re_advance_0 rfl (lv_at hl 0 rfl) ?_
  refine k_get (pc := 1) X hK hP 0 rfl rfl i_Re 6 (by decide) wm_205 rfl rfl d_Re_advance_1 ?_
  refine lv_aload_n (pc := 4) hx hb d_Re_advance_4 rfl (lv_at hl 0 rfl) ?_
  refine k_get (pc := 5) X hK hP 0 rfl rfl i_Re 5 (by decide) wm_204 rfl rfl d_Re_advance_5 ?_
  refine lv_icmp_ge (pc := 8) (tgt := 52) hx hb d_Re_advance_8 (by decide) (fun _ => ?_) (fun c1 => absurd (by decide) c1)
  refine lv_aload_n (pc := 52) hx hb d_Re_advance_52 rfl (lv_at hl 0 rfl) ?_
  refine lv_aload_n (pc := 53) hx hb d_Re_advance_53 rfl (lv_at hl 0 rfl) ?_
  refine k_get (pc := 54) X hK hP 0 rfl rfl i_Re 6 (by decide) wm_205 rfl rfl d_Re_advance_54 ?_
  refine k_put (pc := 57) X hK hP hD hS 0 rfl rfl i_Re t_Re t_Re_ok n_Re 8 (by decide) wm_207 rfl (Or.inl rfl) rfl rfl (Nat.le_of_ble_eq_true rfl) d_Re_advance_57 (fun H locs hP hD hS => ?_)
  have hP : va_P D classes (cat [[(a0, .inr (8, [.ref a1, .int 0, .int 0, .int ((-1)), .ref a2, .int 0, .int 0, .int 0, .int 0, .int 0, .ref a3, .int 0]))]]) H := hP
  have hD : va_D A (cat [[(a0, .inr (8, [.ref a1, .int 0, .int 0, .int ((-1)), .ref a2, .int 0, .int 0, .int 0, .int 0, .int 0, .ref a3, .int 0]))]]) := hD
  refine lv_aload_n (pc := 60) hx hb d_Re_advance_60 rfl (lv_at hl 0 rfl) ?_
  refine k_get (pc := 61) X hK hP 0 rfl rfl i_Re 6 (by decide) wm_205 rfl rfl d_Re_advance_61 ?_
  refine lv_aload_n (pc := 64) hx hb d_Re_advance_64 rfl (lv_at hl 0 rfl) ?_
  refine k_get (pc := 65) X hK hP 0 rfl rfl i_Re 5 (by decide) wm_204 rfl rfl d_Re_advance_65 ?_
  refine lv_icmp_lt (pc := 68) (tgt := 77) hx hb d_Re_advance_68 (by decide) (fun c1 => absurd c1 (by decide)) (fun _ => ?_)
  refine lv_aload_n (pc := 71) hx hb d_Re_advance_71 rfl (lv_at hl 0 rfl) ?_
  refine lv_iconst (pc := 72) (v := 0) hx hb d_Re_advance_72 (by decide) ?_
  refine k_put (pc := 73) X hK hP hD hS 0 rfl rfl i_Re t_Re t_Re_ok n_Re 7 (by decide) wm_206 rfl (Or.inl rfl) rfl rfl (Nat.le_of_ble_eq_true rfl) d_Re_advance_73 (fun H locs hP hD hS => ?_)
  have hP : va_P D classes (cat [[(a0, .inr (8, [.ref a1, .int 0, .int 0, .int ((-1)), .ref a2, .int 0, .int 0, .int 0, .int 0, .int 0, .ref a3, .int 0]))]]) H := hP
  have hD : va_D A (cat [[(a0, .inr (8, [.ref a1, .int 0, .int 0, .int ((-1)), .ref a2, .int 0, .int 0, .int 0, .int 0, .int 0, .ref a3, .int 0]))]]) := hD
  refine W.widen (k := 0) (n := 0) (Nat.le_of_ble_eq_true rfl) (Nat.le_of_ble_eq_true rfl) ?_
  exact W.vret hx hb hr (fun t ht hW => ⟨⟨(), rfl, trivial, by rw [ht]; exact hP, va_K.moved hW.alike hK, hD⟩, hS.F ht⟩) hS.2.2 d_Re_advance_76
set_option maxRecDepth 100000 in
set_option maxHeartbeats 4000000 in
/-- DrawingHouse$Reader.readGraph(I)Z -/
theorem c_Re_readGraph_z1 (l : Launch) (D : va_G) (kA : Nat → ClassId) (a0 : Nat) (a1 : Nat) (a2 : Nat) (a3 : Nat) (a4 : Nat) (a5 : Nat) (a6 : Nat) (a7 : Nat) (a8 : Nat) (a9 : Nat) (a10 : Nat) (a11 : Nat) (a12 : Nat) (a13 : Nat) (a14 : Nat) (a15 : Nat) (a16 : Nat) (f0 : Nat → Int32) (f1 : Nat → Int32) (f2 : Nat → Int32) : Ci l y_Re_readGraph z_Re_readGraph { frames := 2, cells := 0, slots := 0, locals := 43 } D classes (TY kA) [.ref a0, .int 0] [[(a0, .inr (8, [.ref a1, .int 0, .int ((-1)), .int ((-1)), .ref a2, .int 0, .int 0, .int 0, .int 0, .int 0, .ref a3, .int 0]))], [(a2, .inr (3, [.int 0, .int 0, .int 1, .ref a4, .ref a5, .ref a6, .ref a7, .ref a8, .ref a9, .ref a10, .ref a11, .ref a12, .ref a13, .ref a14, .ref a15, .ref a16, .null, .int 0, .int 0]))], [(a15, .inl (kA 0, 24, .inl f0))], [(a16, .inl (kA 0, 576, .inl f1))], [(a3, .inl (kA 0, 5, .inl f2))]] (fun r (_ : Unit) => r = 1) (fun u => [[(a0, .inr (8, [.ref a1, .int 0, .int 0, .int ((-1)), .ref a2, .int 0, .int 0, .int 0, .int 0, .int 0, .ref a3, .int 0]))], [(a2, .inr (3, [.int 0, .int 0, .int 1, .ref a4, .ref a5, .ref a6, .ref a7, .ref a8, .ref a9, .ref a10, .ref a11, .ref a12, .ref a13, .ref a14, .ref a15, .ref a16, .null, .int 0, .int 0]))], [(a15, .inl (kA 0, 24, .inl (fl f0 24 0)))], [(a16, .inl (kA 0, 576, .inl (fl f1 576 (-1))))], [(a3, .inl (kA 0, 5, .inl (upd (f2) 0 0)))]]) 0 0 := by
  intro sz
  refine k_met (cc := b_Re_readGraph) (maxL := 3) (ret := (some .boolean)) (by decide) rfl (Nat.le_of_ble_eq_true rfl) (fun p e s m below meth c ls X hl hB => ?_)
  obtain ⟨hsz, hP, hK, hD0, hN⟩ := hB
  subst hsz
  have hD := hD0.self (sz := s.heap.size)
  generalize hAe : va_A (cat [[(a0, .inr (8, [.ref a1, .int 0, .int ((-1)), .int ((-1)), .ref a2, .int 0, .int 0, .int 0, .int 0, .int 0, .ref a3, .int 0]))], [(a2, .inr (3, [.int 0, .int 0, .int 1, .ref a4, .ref a5, .ref a6, .ref a7, .ref a8, .ref a9, .ref a10, .ref a11, .ref a12, .ref a13, .ref a14, .ref a15, .ref a16, .null, .int 0, .int 0]))], [(a15, .inl (kA 0, 24, .inl f0))], [(a16, .inl (kA 0, 576, .inl f1))], [(a3, .inl (kA 0, 5, .inl f2))]]) s.heap.size = A at hD ⊢
  have hA : ∀ q : Nat, s.heap.size ≤ q → A q := fun q h => by rw [← hAe]; exact Or.inr h
  have hS : va_S A s.heap s.heap [] := va_S.rf
  obtain ⟨hx, hb, hml, hown, hts, hr, hlk, hnm⟩ := id X
  have hl : lv_has ls 3 [(0, .ref a0), (1, .int 0)] := hl
  have hP : va_P D classes (cat [[(a0, .inr (8, [.ref a1, .int 0, .int ((-1)), .int ((-1)), .ref a2, .int 0, .int 0, .int 0, .int 0, .int 0, .ref a3, .int 0]))], [(a2, .inr (3, [.int 0, .int 0, .int 1, .ref a4, .ref a5, .ref a6, .ref a7, .ref a8, .ref a9, .ref a10, .ref a11, .ref a12, .ref a13, .ref a14, .ref a15, .ref a16, .null, .int 0, .int 0]))], [(a15, .inl (kA 0, 24, .inl f0))], [(a16, .inl (kA 0, 576, .inl f1))], [(a3, .inl (kA 0, 5, .inl f2))]]) s.heap := hP
  have hK : va_K D classes (TY kA) s := hK
  refine lv_aload_n (pc := 0) hx hb d_Re_readGraph_0 rfl (lv_at hl 0 rfl) ?_
  refine k_get (pc := 1) X hK hP 0 rfl rfl i_Re 4 (by decide) wm_202 rfl rfl d_Re_readGraph_1 ?_
  refine k_goV (gr := [[(a0, .inr (8, [.ref a1, .int 0, .int ((-1)), .int ((-1)), .ref a2, .int 0, .int 0, .int 0, .int 0, .int 0, .ref a3, .int 0]))], [(a3, .inl (kA 0, 5, .inl f2))]]) (k_rV (pc := 4) (As := []) (rest := []) X (c_Gr_clear_z1 l D kA a2 a4 a5 a6 a7 a8 a9 a10 a11 a12 a13 a14 a15 a16 f0 f1 s.heap.size) rfl wm_641 wm_3 wm_638 wm_639 wm_640 0 (by decide +kernel) ⟨Nat.le_of_ble_eq_true rfl, Nat.le_of_ble_eq_true rfl⟩ rfl rfl (va_recv hK hP (ci := 3) (q0 := 1) rfl rfl) (k_pre hN hK hP hD [1, 2, 3] [0, 4] 5 rfl (by decide) rfl) rfl hl.1 rfl (Nat.le_of_ble_eq_true rfl) d_Re_readGraph_4 ⟨Nat.le_of_ble_eq_true rfl, Nat.le_of_ble_eq_true rfl⟩) hP hD hS hA [1, 2, 3] [0, 4] 5 rfl (by decide) rfl rfl (fun u1 H locs hu1 hP hD hS => ?_)
  have hP : va_P D classes (cat [[(a0, .inr (8, [.ref a1, .int 0, .int ((-1)), .int ((-1)), .ref a2, .int 0, .int 0, .int 0, .int 0, .int 0, .ref a3, .int 0]))], [(a3, .inl (kA 0, 5, .inl f2))], [(a2, .inr (3, [.int 0, .int 0, .int 1, .ref a4, .ref a5, .ref a6, .ref a7, .ref a8, .ref a9, .ref a10, .ref a11, .ref a12, .ref a13, .ref a14, .ref a15, .ref a16, .null, .int 0, .int 0]))], [(a15, .inl (kA 0, 24, .inl (fl f0 24 0)))], [(a16, .inl (kA 0, 576, .inl (fl f1 576 (-1))))]]) H := hP
  have hD : va_D A (cat [[(a0, .inr (8, [.ref a1, .int 0, .int ((-1)), .int ((-1)), .ref a2, .int 0, .int 0, .int 0, .int 0, .int 0, .ref a3, .int 0]))], [(a3, .inl (kA 0, 5, .inl f2))], [(a2, .inr (3, [.int 0, .int 0, .int 1, .ref a4, .ref a5, .ref a6, .ref a7, .ref a8, .ref a9, .ref a10, .ref a11, .ref a12, .ref a13, .ref a14, .ref a15, .ref a16, .null, .int 0, .int 0]))], [(a15, .inl (kA 0, 24, .inl (fl f0 24 0)))], [(a16, .inl (kA 0, 576, .inl (fl f1 576 (-1))))]]) := hD
  refine lv_aload_n (pc := 7) hx hb d_Re_readGraph_7 rfl (lv_at hl 0 rfl) ?_
  refine lv_iload_n (pc := 8) hx hb d_Re_readGraph_8 rfl (lv_at hl 1 rfl) ?_
  refine k_put (pc := 9) X hK hP hD hS 0 rfl rfl i_Re t_Re t_Re_ok n_Re 5 (by decide) wm_204 rfl (Or.inl rfl) rfl rfl (Nat.le_of_ble_eq_true rfl) d_Re_readGraph_9 (fun H locs hP hD hS => ?_)
  have hP : va_P D classes (cat [[(a0, .inr (8, [.ref a1, .int 0, .int ((-1)), .int ((-1)), .ref a2, .int 0, .int 0, .int 0, .int 0, .int 0, .ref a3, .int 0]))], [(a3, .inl (kA 0, 5, .inl f2))], [(a2, .inr (3, [.int 0, .int 0, .int 1, .ref a4, .ref a5, .ref a6, .ref a7, .ref a8, .ref a9, .ref a10, .ref a11, .ref a12, .ref a13, .ref a14, .ref a15, .ref a16, .null, .int 0, .int 0]))], [(a15, .inl (kA 0, 24, .inl (fl f0 24 0)))], [(a16, .inl (kA 0, 576, .inl (fl f1 576 (-1))))]]) H := hP
  have hD : va_D A (cat [[(a0, .inr (8, [.ref a1, .int 0, .int ((-1)), .int ((-1)), .ref a2, .int 0, .int 0, .int 0, .int 0, .int 0, .ref a3, .int 0]))], [(a3, .inl (kA 0, 5, .inl f2))], [(a2, .inr (3, [.int 0, .int 0, .int 1, .ref a4, .ref a5, .ref a6, .ref a7, .ref a8, .ref a9, .ref a10, .ref a11, .ref a12, .ref a13, .ref a14, .ref a15, .ref a16, .null, .int 0, .int 0]))], [(a15, .inl (kA 0, 24, .inl (fl f0 24 0)))], [(a16, .inl (kA 0, 576, .inl (fl f1 576 (-1))))]]) := hD
  refine lv_aload_n (pc := 12) hx hb d_Re_readGraph_12 rfl (lv_at hl 0 rfl) ?_
  refine lv_iconst (pc := 13) (v := 0) hx hb d_Re_readGraph_13 (by decide) ?_
  refine k_put (pc := 14) X hK hP hD hS 0 rfl rfl i_Re t_Re t_Re_ok n_Re 6 (by decide) wm_205 rfl (Or.inl rfl) rfl rfl (Nat.le_of_ble_eq_true rfl) d_Re_readGraph_14 (fun H locs hP hD hS => ?_)
  have hP : va_P D classes (cat [[(a0, .inr (8, [.ref a1, .int 0, .int ((-1)), .int ((-1)), .ref a2, .int 0, .int 0, .int 0, .int 0, .int 0, .ref a3, .int 0]))], [(a3, .inl (kA 0, 5, .inl f2))], [(a2, .inr (3, [.int 0, .int 0, .int 1, .ref a4, .ref a5, .ref a6, .ref a7, .ref a8, .ref a9, .ref a10, .ref a11, .ref a12, .ref a13, .ref a14, .ref a15, .ref a16, .null, .int 0, .int 0]))], [(a15, .inl (kA 0, 24, .inl (fl f0 24 0)))], [(a16, .inl (kA 0, 576, .inl (fl f1 576 (-1))))]]) H := hP
  have hD : va_D A (cat [[(a0, .inr (8, [.ref a1, .int 0, .int ((-1)), .int ((-1)), .ref a2, .int 0, .int 0, .int 0, .int 0, .int 0, .ref a3, .int 0]))], [(a3, .inl (kA 0, 5, .inl f2))], [(a2, .inr (3, [.int 0, .int 0, .int 1, .ref a4, .ref a5, .ref a6, .ref a7, .ref a8, .ref a9, .ref a10, .ref a11, .ref a12, .ref a13, .ref a14, .ref a15, .ref a16, .null, .int 0, .int 0]))], [(a15, .inl (kA 0, 24, .inl (fl f0 24 0)))], [(a16, .inl (kA 0, 576, .inl (fl f1 576 (-1))))]]) := hD
  refine lv_aload_n (pc := 17) hx hb d_Re_readGraph_17 rfl (lv_at hl 0 rfl) ?_
  refine lv_iconst (pc := 18) (v := 0) hx hb d_Re_readGraph_18 (by decide) ?_
  refine k_put (pc := 19) X hK hP hD hS 0 rfl rfl i_Re t_Re t_Re_ok n_Re 11 (by decide) wm_210 rfl (Or.inl rfl) rfl rfl (Nat.le_of_ble_eq_true rfl) d_Re_readGraph_19 (fun H locs hP hD hS => ?_)
  have hP : va_P D classes (cat [[(a0, .inr (8, [.ref a1, .int 0, .int ((-1)), .int ((-1)), .ref a2, .int 0, .int 0, .int 0, .int 0, .int 0, .ref a3, .int 0]))], [(a3, .inl (kA 0, 5, .inl f2))], [(a2, .inr (3, [.int 0, .int 0, .int 1, .ref a4, .ref a5, .ref a6, .ref a7, .ref a8, .ref a9, .ref a10, .ref a11, .ref a12, .ref a13, .ref a14, .ref a15, .ref a16, .null, .int 0, .int 0]))], [(a15, .inl (kA 0, 24, .inl (fl f0 24 0)))], [(a16, .inl (kA 0, 576, .inl (fl f1 576 (-1))))]]) H := hP
  have hD : va_D A (cat [[(a0, .inr (8, [.ref a1, .int 0, .int ((-1)), .int ((-1)), .ref a2, .int 0, .int 0, .int 0, .int 0, .int 0, .ref a3, .int 0]))], [(a3, .inl (kA 0, 5, .inl f2))], [(a2, .inr (3, [.int 0, .int 0, .int 1, .ref a4, .ref a5, .ref a6, .ref a7, .ref a8, .ref a9, .ref a10, .ref a11, .ref a12, .ref a13, .ref a14, .ref a15, .ref a16, .null, .int 0, .int 0]))], [(a15, .inl (kA 0, 24, .inl (fl f0 24 0)))], [(a16, .inl (kA 0, 576, .inl (fl f1 576 (-1))))]]) := hD
  refine lv_aload_n (pc := 22) hx hb d_Re_readGraph_22 rfl (lv_at hl 0 rfl) ?_
  refine k_get (pc := 23) X hK hP 0 rfl rfl i_Re 10 (by decide) wm_209 rfl rfl d_Re_readGraph_23 ?_
  refine lv_iconst (pc := 26) (v := 0) hx hb d_Re_readGraph_26 (by decide) ?_
  refine lv_iconst (pc := 27) (v := 0) hx hb d_Re_readGraph_27 (by decide) ?_
  refine va_iast (pc := 28) hx hb hK hP hD hS 1 0 rfl rfl (by unfold vp_in; decide) d_Re_readGraph_28 (fun H locs hP hD hS => ?_)
  have hP : va_P D classes (cat [[(a0, .inr (8, [.ref a1, .int 0, .int ((-1)), .int ((-1)), .ref a2, .int 0, .int 0, .int 0, .int 0, .int 0, .ref a3, .int 0]))], [(a3, .inl (kA 0, 5, .inl (upd (f2) 0 0)))], [(a2, .inr (3, [.int 0, .int 0, .int 1, .ref a4, .ref a5, .ref a6, .ref a7, .ref a8, .ref a9, .ref a10, .ref a11, .ref a12, .ref a13, .ref a14, .ref a15, .ref a16, .null, .int 0, .int 0]))], [(a15, .inl (kA 0, 24, .inl (fl f0 24 0)))], [(a16, .inl (kA 0, 576, .inl (fl f1 576 (-1))))]]) H := hP
  have hD : va_D A (cat [[(a0, .inr (8, [.ref a1, .int 0, .int ((-1)), .int ((-1)), .ref a2, .int 0, .int 0, .int 0, .int 0, .int 0, .ref a3, .int 0]))], [(a3, .inl (kA 0, 5, .inl (upd (f2) 0 0)))], [(a2, .inr (3, [.int 0, .int 0, .int 1, .ref a4, .ref a5, .ref a6, .ref a7, .ref a8, .ref a9, .ref a10, .ref a11, .ref a12, .ref a13, .ref a14, .ref a15, .ref a16, .null, .int 0, .int 0]))], [(a15, .inl (kA 0, 24, .inl (fl f0 24 0)))], [(a16, .inl (kA 0, 576, .inl (fl f1 576 (-1))))]]) := hD
  refine lv_aload_n (pc := 29) hx hb d_Re_readGraph_29 rfl (lv_at hl 0 rfl) ?_
  refine lv_iconst (pc := 30) (v := 0) hx hb d_Re_readGraph_30 (by decide) ?_
  refine k_put (pc := 31) X hK hP hD hS 0 rfl rfl i_Re t_Re t_Re_ok n_Re 2 (by decide) wm_198 rfl (Or.inl rfl) rfl rfl (Nat.le_of_ble_eq_true rfl) d_Re_readGraph_31 (fun H locs hP hD hS => ?_)
  have hP : va_P D classes (cat [[(a0, .inr (8, [.ref a1, .int 0, .int 0, .int ((-1)), .ref a2, .int 0, .int 0, .int 0, .int 0, .int 0, .ref a3, .int 0]))], [(a3, .inl (kA 0, 5, .inl (upd (f2) 0 0)))], [(a2, .inr (3, [.int 0, .int 0, .int 1, .ref a4, .ref a5, .ref a6, .ref a7, .ref a8, .ref a9, .ref a10, .ref a11, .ref a12, .ref a13, .ref a14, .ref a15, .ref a16, .null, .int 0, .int 0]))], [(a15, .inl (kA 0, 24, .inl (fl f0 24 0)))], [(a16, .inl (kA 0, 576, .inl (fl f1 576 (-1))))]]) H := hP
  have hD : va_D A (cat [[(a0, .inr (8, [.ref a1, .int 0, .int 0, .int ((-1)), .ref a2, .int 0, .int 0, .int 0, .int 0, .int 0, .ref a3, .int 0]))], [(a3, .inl (kA 0, 5, .inl (upd (f2) 0 0)))], [(a2, .inr (3, [.int 0, .int 0, .int 1, .ref a4, .ref a5, .ref a6, .ref a7, .ref a8, .ref a9, .ref a10, .ref a11, .ref a12, .ref a13, .ref a14, .ref a15, .ref a16, .null, .int 0, .int 0]))], [(a15, .inl (kA 0, 24, .inl (fl f0 24 0)))], [(a16, .inl (kA 0, 576, .inl (fl f1 576 (-1))))]]) := hD
  refine lv_aload_n (pc := 34) hx hb d_Re_readGraph_34 rfl (lv_at hl 0 rfl) ?_
  refine lv_iconst (pc := 35) (v := -1) hx hb d_Re_readGraph_35 (by decide) ?_
  refine k_put (pc := 36) X hK hP hD hS 0 rfl rfl i_Re t_Re t_Re_ok n_Re 3 (by decide) wm_200 rfl (Or.inl rfl) rfl rfl (Nat.le_of_ble_eq_true rfl) d_Re_readGraph_36 (fun H locs hP hD hS => ?_)
  have hP : va_P D classes (cat [[(a0, .inr (8, [.ref a1, .int 0, .int 0, .int ((-1)), .ref a2, .int 0, .int 0, .int 0, .int 0, .int 0, .ref a3, .int 0]))], [(a3, .inl (kA 0, 5, .inl (upd (f2) 0 0)))], [(a2, .inr (3, [.int 0, .int 0, .int 1, .ref a4, .ref a5, .ref a6, .ref a7, .ref a8, .ref a9, .ref a10, .ref a11, .ref a12, .ref a13, .ref a14, .ref a15, .ref a16, .null, .int 0, .int 0]))], [(a15, .inl (kA 0, 24, .inl (fl f0 24 0)))], [(a16, .inl (kA 0, 576, .inl (fl f1 576 (-1))))]]) H := hP
  have hD : va_D A (cat [[(a0, .inr (8, [.ref a1, .int 0, .int 0, .int ((-1)), .ref a2, .int 0, .int 0, .int 0, .int 0, .int 0, .ref a3, .int 0]))], [(a3, .inl (kA 0, 5, .inl (upd (f2) 0 0)))], [(a2, .inr (3, [.int 0, .int 0, .int 1, .ref a4, .ref a5, .ref a6, .ref a7, .ref a8, .ref a9, .ref a10, .ref a11, .ref a12, .ref a13, .ref a14, .ref a15, .ref a16, .null, .int 0, .int 0]))], [(a15, .inl (kA 0, 24, .inl (fl f0 24 0)))], [(a16, .inl (kA 0, 576, .inl (fl f1 576 (-1))))]]) := hD
  refine lv_iconst (pc := 39) (v := 0) hx hb d_Re_readGraph_39 (by decide) ?_
  refine lv_istore_n (pc := 40) (lv' := [(2, .int 0), (0, .ref a0), (1, .int 0)]) hx hb d_Re_readGraph_40 rfl hl (by decide) rfl (fun ls hl => ?_)
  refine lv_iload_n (pc := 41) hx hb d_Re_readGraph_41 rfl (lv_at hl 0 rfl) ?_
  refine lv_iload_n (pc := 42) hx hb d_Re_readGraph_42 rfl (lv_at hl 2 rfl) ?_
  refine lv_icmp_gt (pc := 43) (tgt := 81) hx hb d_Re_readGraph_43 (by decide) (fun c1 => absurd c1 (by decide)) (fun _ => ?_)
  refine lv_aload_n (pc := 46) hx hb d_Re_readGraph_46 rfl (lv_at hl 1 rfl) ?_
  refine k_goV (gr := [[(a3, .inl (kA 0, 5, .inl (upd (f2) 0 0)))], [(a2, .inr (3, [.int 0, .int 0, .int 1, .ref a4, .ref a5, .ref a6, .ref a7, .ref a8, .ref a9, .ref a10, .ref a11, .ref a12, .ref a13, .ref a14, .ref a15, .ref a16, .null, .int 0, .int 0]))], [(a15, .inl (kA 0, 24, .inl (fl f0 24 0)))], [(a16, .inl (kA 0, 576, .inl (fl f1 576 (-1))))]]) (k_rV (pc := 47) (As := []) (rest := []) X (c_Re_advance_z1 l D kA a0 a1 a2 a3 H.size) rfl wm_645 wm_2 wm_642 wm_644 wv_1_0 0 (by decide +kernel) ⟨Nat.le_of_ble_eq_true rfl, Nat.le_of_ble_eq_true rfl⟩ rfl rfl (va_recv hK hP (ci := 8) (q0 := 0) rfl rfl) (k_pre hN hK hP hD [0] [1, 2, 3, 4] 5 rfl (by decide) rfl) rfl hl.1 rfl (Nat.le_of_ble_eq_true rfl) d_Re_readGraph_47 ⟨Nat.le_of_ble_eq_true rfl, Nat.le_of_ble_eq_true rfl⟩) hP hD hS hA [0] [1, 2, 3, 4] 5 rfl (by decide) rfl rfl (fun u2 H locs hu2 hP hD hS => ?_)
  have hP : va_P D classes (cat [[(a3, .inl (kA 0, 5, .inl (upd (f2) 0 0)))], [(a2, .inr (3, [.int 0, .int 0, .int 1, .ref a4, .ref a5, .ref a6, .ref a7, .ref a8, .ref a9, .ref a10, .ref a11, .ref a12, .ref a13, .ref a14, .ref a15, .ref a16, .null, .int 0, .int 0]))], [(a15, .inl (kA 0, 24, .inl (fl f0 24 0)))], [(a16, .inl (kA 0, 576, .inl (fl f1 576 (-1))))], [(a0, .inr (8, [.ref a1, .int 0, .int 0, .int ((-1)), .ref a2, .int 0, .int 0, .int 0, .int 0, .int 0, .ref a3, .int 0]))]]) H := hP
  have hD : va_D A (cat [[(a3, .inl (kA 0, 5, .inl (upd (f2) 0 0)))], [(a2, .inr (3, [.int 0, .int 0, .int 1, .ref a4, .ref a5, .ref a6, .ref a7, .ref a8, .ref a9, .ref a10, .ref a11, .ref a12, .ref a13, .ref a14, .ref a15, .ref a16, .null, .int 0, .int 0]))], [(a15, .inl (kA 0, 24, .inl (fl f0 24 0)))], [(a16, .inl (kA 0, 576, .inl (fl f1 576 (-1))))], [(a0, .inr (8, [.ref a1, .int 0, .int 0, .int ((-1)), .ref a2, .int 0, .int 0, .int 0, .int 0, .int 0, .ref a3, .int 0]))]]) := hD
  refine lv_aload_n (pc := 50) hx hb d_Re_readGraph_50 rfl (lv_at hl 1 rfl) ?_
  refine k_get (pc := 51) X hK hP 4 rfl rfl i_Re 7 (by decide) wm_206 rfl rfl d_Re_readGraph_51 ?_
  refine lv_if_ne (pc := 54) (tgt := 66) hx hb d_Re_readGraph_54 (by decide) (fun c1 => absurd (by decide) c1) (fun c1 => ?_)
  refine lv_aload_n (pc := 57) hx hb d_Re_readGraph_57 rfl (lv_at hl 1 rfl) ?_
  refine k_get (pc := 58) X hK hP 4 rfl rfl i_Re 11 (by decide) wm_210 rfl rfl d_Re_readGraph_58 ?_
  refine lv_if_ne (pc := 61) (tgt := 66) hx hb d_Re_readGraph_61 (by decide) (fun c1 => absurd (by decide) c1) (fun c1 => ?_)
  refine lv_iconst (pc := 64) (v := 1) hx hb d_Re_readGraph_64 (by decide) ?_
  obtain ⟨hP, hD⟩ := k_ord (gc := [[(a0, .inr (8, [.ref a1, .int 0, .int 0, .int ((-1)), .ref a2, .int 0, .int 0, .int 0, .int 0, .int 0, .ref a3, .int 0]))], [(a2, .inr (3, [.int 0, .int 0, .int 1, .ref a4, .ref a5, .ref a6, .ref a7, .ref a8, .ref a9, .ref a10, .ref a11, .ref a12, .ref a13, .ref a14, .ref a15, .ref a16, .null, .int 0, .int 0]))], [(a15, .inl (kA 0, 24, .inl (fl f0 24 0)))], [(a16, .inl (kA 0, 576, .inl (fl f1 576 (-1))))], [(a3, .inl (kA 0, 5, .inl (upd (f2) 0 0)))]]) hP hD [4, 1, 2, 3, 0] 5 rfl (by decide) rfl
  refine W.widen (k := 0) (n := 0) (Nat.le_of_ble_eq_true rfl) (Nat.le_of_ble_eq_true rfl) ?_
  exact W.zret (v := 1) hx hb hr rfl (fun t ht hW => ⟨⟨1, (), rfl, rfl, by rw [ht]; exact hP, va_K.moved hW.alike hK, hD⟩, hS.F ht⟩) hS.2.2 d_Re_readGraph_65
set_option maxRecDepth 100000 in
set_option maxHeartbeats 4000000 in
/-- DrawingHouse$Graph.relink()V -/
theorem c_Gr_relink_z1 (l : Launch) (D : va_G) (kA : Nat → ClassId) (g : Nat → Nat → Nat) (j : Nat) (a0 : Nat) (a1 : Nat) (a2 : Nat) (a3 : Nat) (a4 : Nat) (a5 : Nat) (a6 : Nat) (a7 : Nat) (a8 : Nat) (a9 : Nat) (a10 : Nat) (a11 : Nat) (a12 : Nat) (f0 : Nat → Int32) (f1 : Nat → Int32) (hj : j < 4) : Cv l y_Gr_relink z_Gr_relink { frames := 1, cells := 0, slots := 0, locals := 23 } D classes (TY kA) [.ref (g 0 j)] [[(g 0 j, .inr (3, [.int 0, .int 0, .int 1, .ref a0, .ref a1, .ref a2, .ref a3, .ref a4, .ref a5, .ref a6, .ref a7, .ref a8, .ref a9, .ref a10, .ref a11, .ref a12, .null, .int 0, .int 0]))], [(a11, .inl (kA 0, 24, .inl f0))], [(a12, .inl (kA 0, 576, .inl f1))]] (fun _ : Unit => True) (fun u => [[(g 0 j, .inr (3, [.int 0, .int 0, .int 1, .ref a0, .ref a1, .ref a2, .ref a3, .ref a4, .ref a5, .ref a6, .ref a7, .ref a8, .ref a9, .ref a10, .ref a11, .ref a12, .null, .int 0, .int 0]))], [(a11, .inl (kA 0, 24, .inl (fl f0 24 0)))], [(a12, .inl (kA 0, 576, .inl (fl f1 576 (-1))))]]) 0 0 := by
  intro sz
  refine k_met (cc := b_Gr_relink) (maxL := 2) (ret := none) (by decide) rfl (Nat.le_of_ble_eq_true rfl) (fun p e s m below meth c ls X hl hB => ?_)
  obtain ⟨hsz, hP, hK, hD0, hN⟩ := hB
  subst hsz
  have hD := hD0.self (sz := s.heap.size)
  generalize hAe : va_A (cat [[(g 0 j, .inr (3, [.int 0, .int 0, .int 1, .ref a0, .ref a1, .ref a2, .ref a3, .ref a4, .ref a5, .ref a6, .ref a7, .ref a8, .ref a9, .ref a10, .ref a11, .ref a12, .null, .int 0, .int 0]))], [(a11, .inl (kA 0, 24, .inl f0))], [(a12, .inl (kA 0, 576, .inl f1))]]) s.heap.size = A at hD ⊢
  have hA : ∀ q : Nat, s.heap.size ≤ q → A q := fun q h => by rw [← hAe]; exact Or.inr h
  have hS : va_S A s.heap s.heap [] := va_S.rf
  obtain ⟨hx, hb, hml, hown, hts, hr, hlk, hnm⟩ := id X
  have hl : lv_has ls 2 [(0, .ref (g 0 j))] := hl
  have hP : va_P D classes (cat [[(g 0 j, .inr (3, [.int 0, .int 0, .int 1, .ref a0, .ref a1, .ref a2, .ref a3, .ref a4, .ref a5, .ref a6, .ref a7, .ref a8, .ref a9, .ref a10, .ref a11, .ref a12, .null, .int 0, .int 0]))], [(a11, .inl (kA 0, 24, .inl f0))], [(a12, .inl (kA 0, 576, .inl f1))]]) s.heap := hP
  have hK : va_K D classes (TY kA) s := hK
  refine lv_aload_n (pc := 0) hx hb d_Gr_relink_0 rfl (lv_at hl 0 rfl) ?_
  refine k_get (pc := 1) X hK hP 0 rfl rfl i_Gr 14 (by decide) wm_140 rfl rfl d_Gr_relink_1 ?_
  refine lv_iconst (pc := 4) (v := 0) hx hb d_Gr_relink_4 (by decide) ?_
  refine k_goV (gr := [[(g 0 j, .inr (3, [.int 0, .int 0, .int 1, .ref a0, .ref a1, .ref a2, .ref a3, .ref a4, .ref a5, .ref a6, .ref a7, .ref a8, .ref a9, .ref a10, .ref a11, .ref a12, .null, .int 0, .int 0]))], [(a12, .inl (kA 0, 576, .inl f1))]]) (k_rS (pc := 5) (As := [.ref a11, .int 0]) (rest := []) X (c_fillI l D (TY kA) 0 (kA 0) rfl a11 24 (by decide) f0 0 s.heap.size) rfl wm_55 wm_4 wm_53 wm_54 2 (by decide +kernel) ⟨Nat.le_of_ble_eq_true rfl, Nat.le_of_ble_eq_true rfl⟩ rfl rfl (k_pre hN hK hP hD [1] [0, 2] 3 rfl (by decide) rfl) rfl hl.1 rfl (Nat.le_of_ble_eq_true rfl) d_Gr_relink_5 ⟨Nat.le_of_ble_eq_true rfl, Nat.le_of_ble_eq_true rfl⟩) hP hD hS hA [1] [0, 2] 3 rfl (by decide) rfl rfl (fun u1 H locs hu1 hP hD hS => ?_)
  have hP : va_P D classes (cat [[(g 0 j, .inr (3, [.int 0, .int 0, .int 1, .ref a0, .ref a1, .ref a2, .ref a3, .ref a4, .ref a5, .ref a6, .ref a7, .ref a8, .ref a9, .ref a10, .ref a11, .ref a12, .null, .int 0, .int 0]))], [(a12, .inl (kA 0, 576, .inl f1))], [(a11, .inl (kA 0, 24, .inl (fl f0 24 0)))]]) H := hP
  have hD : va_D A (cat [[(g 0 j, .inr (3, [.int 0, .int 0, .int 1, .ref a0, .ref a1, .ref a2, .ref a3, .ref a4, .ref a5, .ref a6, .ref a7, .ref a8, .ref a9, .ref a10, .ref a11, .ref a12, .null, .int 0, .int 0]))], [(a12, .inl (kA 0, 576, .inl f1))], [(a11, .inl (kA 0, 24, .inl (fl f0 24 0)))]]) := hD
  refine lv_aload_n (pc := 8) hx hb d_Gr_relink_8 rfl (lv_at hl 0 rfl) ?_
  refine k_get (pc := 9) X hK hP 0 rfl rfl i_Gr 15 (by decide) wm_147 rfl rfl d_Gr_relink_9 ?_
  refine lv_iconst (pc := 12) (v := -1) hx hb d_Gr_relink_12 (by decide) ?_
  refine k_goV (gr := [[(g 0 j, .inr (3, [.int 0, .int 0, .int 1, .ref a0, .ref a1, .ref a2, .ref a3, .ref a4, .ref a5, .ref a6, .ref a7, .ref a8, .ref a9, .ref a10, .ref a11, .ref a12, .null, .int 0, .int 0]))], [(a11, .inl (kA 0, 24, .inl (fl f0 24 0)))]]) (k_rS (pc := 13) (As := [.ref a12, .int ((-1))]) (rest := []) X (c_fillI l D (TY kA) 0 (kA 0) rfl a12 576 (by decide) f1 (-1) H.size) rfl wm_55 wm_4 wm_53 wm_54 2 (by decide +kernel) ⟨Nat.le_of_ble_eq_true rfl, Nat.le_of_ble_eq_true rfl⟩ rfl rfl (k_pre hN hK hP hD [1] [0, 2] 3 rfl (by decide) rfl) rfl hl.1 rfl (Nat.le_of_ble_eq_true rfl) d_Gr_relink_13 ⟨Nat.le_of_ble_eq_true rfl, Nat.le_of_ble_eq_true rfl⟩) hP hD hS hA [1] [0, 2] 3 rfl (by decide) rfl rfl (fun u2 H locs hu2 hP hD hS => ?_)
  have hP : va_P D classes (cat [[(g 0 j, .inr (3, [.int 0, .int 0, .int 1, .ref a0, .ref a1, .ref a2, .ref a3, .ref a4, .ref a5, .ref a6, .ref a7, .ref a8, .ref a9, .ref a10, .ref a11, .ref a12, .null, .int 0, .int 0]))], [(a11, .inl (kA 0, 24, .inl (fl f0 24 0)))], [(a12, .inl (kA 0, 576, .inl (fl f1 576 (-1))))]]) H := hP
  have hD : va_D A (cat [[(g 0 j, .inr (3, [.int 0, .int 0, .int 1, .ref a0, .ref a1, .ref a2, .ref a3, .ref a4, .ref a5, .ref a6, .ref a7, .ref a8, .ref a9, .ref a10, .ref a11, .ref a12, .null, .int 0, .int 0]))], [(a11, .inl (kA 0, 24, .inl (fl f0 24 0)))], [(a12, .inl (kA 0, 576, .inl (fl f1 576 (-1))))]]) := hD
  refine lv_iconst (pc := 16) (v := 0) hx hb d_Gr_relink_16 (by decide) ?_
  refine lv_istore_n (pc := 17) (lv' := [(1, .int 0), (0, .ref (g 0 j))]) hx hb d_Gr_relink_17 rfl hl (by decide) rfl (fun ls hl => ?_)
  refine lv_iload_n (pc := 18) hx hb d_Gr_relink_18 rfl (lv_at hl 0 rfl) ?_
  refine lv_aload_n (pc := 19) hx hb d_Gr_relink_19 rfl (lv_at hl 1 rfl) ?_
  refine k_get (pc := 20) X hK hP 0 rfl rfl i_Gr 1 (by decide) wm_68 rfl rfl d_Gr_relink_20 ?_
  refine lv_icmp_ge (pc := 23) (tgt := 37) hx hb d_Gr_relink_23 (by decide) (fun _ => ?_) (fun c1 => absurd (by decide) c1)
  refine W.widen (k := 0) (n := 0) (Nat.le_of_ble_eq_true rfl) (Nat.le_of_ble_eq_true rfl) ?_
  exact W.vret hx hb hr (fun t ht hW => ⟨⟨(), rfl, trivial, by rw [ht]; exact hP, va_K.moved hW.alike hK, hD⟩, hS.F ht⟩) hS.2.2 d_Gr_relink_37
set_option maxRecDepth 100000 in
set_option maxHeartbeats 4000000 in
/-- DrawingHouse$Graph.copyFrom(LDrawingHouse$Graph;)V -/
theorem c_Gr_copyFrom_z1 (l : Launch) (D : va_G) (kA : Nat → ClassId) (g : Nat → Nat → Nat) (j : Nat) (a0 : Nat) (a1 : Nat) (a2 : Nat) (a3 : Nat) (a4 : Nat) (a5 : Nat) (a6 : Nat) (a7 : Nat) (a8 : Nat) (a9 : Nat) (a10 : Nat) (a11 : Nat) (a12 : Nat) (a13 : Nat) (a14 : Nat) (a15 : Nat) (a16 : Nat) (a17 : Nat) (a18 : Nat) (a19 : Nat) (a20 : Nat) (a21 : Nat) (a22 : Nat) (a23 : Nat) (a24 : Nat) (a25 : Nat) (a26 : Nat) (f0 : Nat → Int32) (f1 : Nat → Int32) (f2 : Nat → Int32) (f3 : Nat → Int32) (f4 : Nat → Int32) (f5 : Nat → Int32) (f6 : Nat → Int32) (f7 : Nat → Int32) (f8 : Nat → Int32) (f9 : Nat → Int32) (f10 : Nat → Int32) (f11 : Nat → Int32) (f12 : Nat → Int32) (f13 : Nat → Int32) (f14 : Nat → Int32) (f15 : Nat → Int32) (f16 : Nat → Int32) (f17 : Nat → Int32) (f18 : Nat → Int32) (f19 : Nat → Int32) (f20 : Nat → Int32) (f21 : Nat → Int32) (hj : j < 4) : Cv l y_Gr_copyFrom z_Gr_copyFrom { frames := 2, cells := 0, slots := 0, locals := 44 } D classes (TY kA) [.ref (g 0 j), .ref a0] [[(a0, .inr (3, [.int 0, .int 0, .int 1, .ref a1, .ref a2, .ref a3, .ref a4, .ref a5, .ref a6, .ref a7, .ref a8, .ref a9, .ref a10, .ref a11, .ref a12, .ref a13, .null, .int 0, .int 0]))], [(g 0 j, .inr (3, [.int 0, .int 0, .int 1, .ref a14, .ref a15, .ref a16, .ref a17, .ref a18, .ref a19, .ref a20, .ref a21, .ref a22, .ref a23, .ref a24, .ref a25, .ref a26, .null, .int 0, .int 0]))], [(a14, .inl (kA 1, 192, .inl f0))], [(a1, .inl (kA 1, 192, .inl (fun _ => 0)))], [(a2, .inl (kA 0, 24, .inl f1))], [(a15, .inl (kA 0, 24, .inl f2))], [(a3, .inl (kA 0, 24, .inl f3))], [(a16, .inl (kA 0, 24, .inl f4))], [(a4, .inl (kA 0, 24, .inl f5))], [(a17, .inl (kA 0, 24, .inl f6))], [(a5, .inl (kA 0, 48, .inl f7))], [(a18, .inl (kA 0, 48, .inl f8))], [(a6, .inl (kA 0, 48, .inl f9))], [(a19, .inl (kA 0, 48, .inl f10))], [(a7, .inl (kA 0, 48, .inl f11))], [(a20, .inl (kA 0, 48, .inl f12))], [(a8, .inl (kA 0, 48, .inl f13))], [(a21, .inl (kA 0, 48, .inl f14))], [(a9, .inl (kA 0, 8, .inl f15))], [(a22, .inl (kA 0, 8, .inl f16))], [(a23, .inl (kA 1, 64, .inl f17))], [(a10, .inl (kA 1, 64, .inl (fun _ => 0)))], [(a11, .inl (kA 0, 8, .inl f18))], [(a24, .inl (kA 0, 8, .inl f19))], [(a25, .inl (kA 0, 24, .inl f20))], [(a26, .inl (kA 0, 576, .inl f21))]] (fun _ : Unit => True) (fun u => [[(a0, .inr (3, [.int 0, .int 0, .int 1, .ref a1, .ref a2, .ref a3, .ref a4, .ref a5, .ref a6, .ref a7, .ref a8, .ref a9, .ref a10, .ref a11, .ref a12, .ref a13, .null, .int 0, .int 0]))], [(g 0 j, .inr (3, [.int 0, .int 0, .int 1, .ref a14, .ref a15, .ref a16, .ref a17, .ref a18, .ref a19, .ref a20, .ref a21, .ref a22, .ref a23, .ref a24, .ref a25, .ref a26, .null, .int 0, .int 0]))], [(a14, .inl (kA 1, 192, .inl (va_cpy (fun _ => 0) f0 0 0 192)))], [(a1, .inl (kA 1, 192, .inl (fun _ => 0)))], [(a2, .inl (kA 0, 24, .inl f1))], [(a15, .inl (kA 0, 24, .inl (va_cpy f1 f2 0 0 24)))], [(a3, .inl (kA 0, 24, .inl f3))], [(a16, .inl (kA 0, 24, .inl (va_cpy f3 f4 0 0 24)))], [(a4, .inl (kA 0, 24, .inl f5))], [(a17, .inl (kA 0, 24, .inl (va_cpy f5 f6 0 0 24)))], [(a5, .inl (kA 0, 48, .inl f7))], [(a18, .inl (kA 0, 48, .inl (va_cpy f7 f8 0 0 48)))], [(a6, .inl (kA 0, 48, .inl f9))], [(a19, .inl (kA 0, 48, .inl (va_cpy f9 f10 0 0 48)))], [(a7, .inl (kA 0, 48, .inl f11))], [(a20, .inl (kA 0, 48, .inl (va_cpy f11 f12 0 0 48)))], [(a8, .inl (kA 0, 48, .inl f13))], [(a21, .inl (kA 0, 48, .inl (va_cpy f13 f14 0 0 48)))], [(a9, .inl (kA 0, 8, .inl f15))], [(a22, .inl (kA 0, 8, .inl (va_cpy f15 f16 0 0 8)))], [(a23, .inl (kA 1, 64, .inl (va_cpy (fun _ => 0) f17 0 0 64)))], [(a10, .inl (kA 1, 64, .inl (fun _ => 0)))], [(a11, .inl (kA 0, 8, .inl f18))], [(a24, .inl (kA 0, 8, .inl (va_cpy f18 f19 0 0 8)))], [(a25, .inl (kA 0, 24, .inl (fl f20 24 0)))], [(a26, .inl (kA 0, 576, .inl (fl f21 576 (-1))))]]) 0 0 := by
  intro sz
  refine k_met (cc := b_Gr_copyFrom) (maxL := 2) (ret := none) (by decide) rfl (Nat.le_of_ble_eq_true rfl) (fun p e s m below meth c ls X hl hB => ?_)
  obtain ⟨hsz, hP, hK, hD0, hN⟩ := hB
  subst hsz
  have hD := hD0.self (sz := s.heap.size)
  generalize hAe : va_A (cat [[(a0, .inr (3, [.int 0, .int 0, .int 1, .ref a1, .ref a2, .ref a3, .ref a4, .ref a5, .ref a6, .ref a7, .ref a8, .ref a9, .ref a10, .ref a11, .ref a12, .ref a13, .null, .int 0, .int 0]))], [(g 0 j, .inr (3, [.int 0, .int 0, .int 1, .ref a14, .ref a15, .ref a16, .ref a17, .ref a18, .ref a19, .ref a20, .ref a21, .ref a22, .ref a23, .ref a24, .ref a25, .ref a26, .null, .int 0, .int 0]))], [(a14, .inl (kA 1, 192, .inl f0))], [(a1, .inl (kA 1, 192, .inl (fun _ => 0)))], [(a2, .inl (kA 0, 24, .inl f1))], [(a15, .inl (kA 0, 24, .inl f2))], [(a3, .inl (kA 0, 24, .inl f3))], [(a16, .inl (kA 0, 24, .inl f4))], [(a4, .inl (kA 0, 24, .inl f5))], [(a17, .inl (kA 0, 24, .inl f6))], [(a5, .inl (kA 0, 48, .inl f7))], [(a18, .inl (kA 0, 48, .inl f8))], [(a6, .inl (kA 0, 48, .inl f9))], [(a19, .inl (kA 0, 48, .inl f10))], [(a7, .inl (kA 0, 48, .inl f11))], [(a20, .inl (kA 0, 48, .inl f12))], [(a8, .inl (kA 0, 48, .inl f13))], [(a21, .inl (kA 0, 48, .inl f14))], [(a9, .inl (kA 0, 8, .inl f15))], [(a22, .inl (kA 0, 8, .inl f16))], [(a23, .inl (kA 1, 64, .inl f17))], [(a10, .inl (kA 1, 64, .inl (fun _ => 0)))], [(a11, .inl (kA 0, 8, .inl f18))], [(a24, .inl (kA 0, 8, .inl f19))], [(a25, .inl (kA 0, 24, .inl f20))], [(a26, .inl (kA 0, 576, .inl f21))]]) s.heap.size = A at hD ⊢
  have hA : ∀ q : Nat, s.heap.size ≤ q → A q := fun q h => by rw [← hAe]; exact Or.inr h
  have hS : va_S A s.heap s.heap [] := va_S.rf
  obtain ⟨hx, hb, hml, hown, hts, hr, hlk, hnm⟩ := id X
  have hl : lv_has ls 2 [(0, .ref (g 0 j)), (1, .ref a0)] := hl
  have hP : va_P D classes (cat [[(a0, .inr (3, [.int 0, .int 0, .int 1, .ref a1, .ref a2, .ref a3, .ref a4, .ref a5, .ref a6, .ref a7, .ref a8, .ref a9, .ref a10, .ref a11, .ref a12, .ref a13, .null, .int 0, .int 0]))], [(g 0 j, .inr (3, [.int 0, .int 0, .int 1, .ref a14, .ref a15, .ref a16, .ref a17, .ref a18, .ref a19, .ref a20, .ref a21, .ref a22, .ref a23, .ref a24, .ref a25, .ref a26, .null, .int 0, .int 0]))], [(a14, .inl (kA 1, 192, .inl f0))], [(a1, .inl (kA 1, 192, .inl (fun _ => 0)))], [(a2, .inl (kA 0, 24, .inl f1))], [(a15, .inl (kA 0, 24, .inl f2))], [(a3, .inl (kA 0, 24, .inl f3))], [(a16, .inl (kA 0, 24, .inl f4))], [(a4, .inl (kA 0, 24, .inl f5))], [(a17, .inl (kA 0, 24, .inl f6))], [(a5, .inl (kA 0, 48, .inl f7))], [(a18, .inl (kA 0, 48, .inl f8))], [(a6, .inl (kA 0, 48, .inl f9))], [(a19, .inl (kA 0, 48, .inl f10))], [(a7, .inl (kA 0, 48, .inl f11))], [(a20, .inl (kA 0, 48, .inl f12))], [(a8, .inl (kA 0, 48, .inl f13))], [(a21, .inl (kA 0, 48, .inl f14))], [(a9, .inl (kA 0, 8, .inl f15))], [(a22, .inl (kA 0, 8, .inl f16))], [(a23, .inl (kA 1, 64, .inl f17))], [(a10, .inl (kA 1, 64, .inl (fun _ => 0)))], [(a11, .inl (kA 0, 8, .inl f18))], [(a24, .inl (kA 0, 8, .inl f19))], [(a25, .inl (kA 0, 24, .inl f20))], [(a26, .inl (kA 0, 576, .inl f21))]]) s.heap := hP
  have hK : va_K D classes (TY kA) s := hK
  refine lv_aload_n (pc := 0) hx hb d_Gr_copyFrom_0 rfl (lv_at hl 0 rfl) ?_
  refine lv_aload_n (pc := 1) hx hb d_Gr_copyFrom_1 rfl (lv_at hl 1 rfl) ?_
  refine k_get (pc := 2) X hK hP 0 rfl rfl i_Gr 0 (by decide) wm_56 rfl rfl d_Gr_copyFrom_2 ?_
  refine k_put (pc := 5) X hK hP hD hS 1 rfl rfl i_Gr t_Gr t_Gr_ok n_Gr 0 (by decide) wm_56 rfl (Or.inl rfl) rfl rfl (Nat.le_of_ble_eq_true rfl) d_Gr_copyFrom_5 (fun H locs hP hD hS => ?_)
  have hP : va_P D classes (cat [[(a0, .inr (3, [.int 0, .int 0, .int 1, .ref a1, .ref a2, .ref a3, .ref a4, .ref a5, .ref a6, .ref a7, .ref a8, .ref a9, .ref a10, .ref a11, .ref a12, .ref a13, .null, .int 0, .int 0]))], [(g 0 j, .inr (3, [.int 0, .int 0, .int 1, .ref a14, .ref a15, .ref a16, .ref a17, .ref a18, .ref a19, .ref a20, .ref a21, .ref a22, .ref a23, .ref a24, .ref a25, .ref a26, .null, .int 0, .int 0]))], [(a14, .inl (kA 1, 192, .inl f0))], [(a1, .inl (kA 1, 192, .inl (fun _ => 0)))], [(a2, .inl (kA 0, 24, .inl f1))], [(a15, .inl (kA 0, 24, .inl f2))], [(a3, .inl (kA 0, 24, .inl f3))], [(a16, .inl (kA 0, 24, .inl f4))], [(a4, .inl (kA 0, 24, .inl f5))], [(a17, .inl (kA 0, 24, .inl f6))], [(a5, .inl (kA 0, 48, .inl f7))], [(a18, .inl (kA 0, 48, .inl f8))], [(a6, .inl (kA 0, 48, .inl f9))], [(a19, .inl (kA 0, 48, .inl f10))], [(a7, .inl (kA 0, 48, .inl f11))], [(a20, .inl (kA 0, 48, .inl f12))], [(a8, .inl (kA 0, 48, .inl f13))], [(a21, .inl (kA 0, 48, .inl f14))], [(a9, .inl (kA 0, 8, .inl f15))], [(a22, .inl (kA 0, 8, .inl f16))], [(a23, .inl (kA 1, 64, .inl f17))], [(a10, .inl (kA 1, 64, .inl (fun _ => 0)))], [(a11, .inl (kA 0, 8, .inl f18))], [(a24, .inl (kA 0, 8, .inl f19))], [(a25, .inl (kA 0, 24, .inl f20))], [(a26, .inl (kA 0, 576, .inl f21))]]) H := hP
  have hD : va_D A (cat [[(a0, .inr (3, [.int 0, .int 0, .int 1, .ref a1, .ref a2, .ref a3, .ref a4, .ref a5, .ref a6, .ref a7, .ref a8, .ref a9, .ref a10, .ref a11, .ref a12, .ref a13, .null, .int 0, .int 0]))], [(g 0 j, .inr (3, [.int 0, .int 0, .int 1, .ref a14, .ref a15, .ref a16, .ref a17, .ref a18, .ref a19, .ref a20, .ref a21, .ref a22, .ref a23, .ref a24, .ref a25, .ref a26, .null, .int 0, .int 0]))], [(a14, .inl (kA 1, 192, .inl f0))], [(a1, .inl (kA 1, 192, .inl (fun _ => 0)))], [(a2, .inl (kA 0, 24, .inl f1))], [(a15, .inl (kA 0, 24, .inl f2))], [(a3, .inl (kA 0, 24, .inl f3))], [(a16, .inl (kA 0, 24, .inl f4))], [(a4, .inl (kA 0, 24, .inl f5))], [(a17, .inl (kA 0, 24, .inl f6))], [(a5, .inl (kA 0, 48, .inl f7))], [(a18, .inl (kA 0, 48, .inl f8))], [(a6, .inl (kA 0, 48, .inl f9))], [(a19, .inl (kA 0, 48, .inl f10))], [(a7, .inl (kA 0, 48, .inl f11))], [(a20, .inl (kA 0, 48, .inl f12))], [(a8, .inl (kA 0, 48, .inl f13))], [(a21, .inl (kA 0, 48, .inl f14))], [(a9, .inl (kA 0, 8, .inl f15))], [(a22, .inl (kA 0, 8, .inl f16))], [(a23, .inl (kA 1, 64, .inl f17))], [(a10, .inl (kA 1, 64, .inl (fun _ => 0)))], [(a11, .inl (kA 0, 8, .inl f18))], [(a24, .inl (kA 0, 8, .inl f19))], [(a25, .inl (kA 0, 24, .inl f20))], [(a26, .inl (kA 0, 576, .inl f21))]]) := hD
  refine lv_aload_n (pc := 8) hx hb d_Gr_copyFrom_8 rfl (lv_at hl 0 rfl) ?_
  refine lv_aload_n (pc := 9) hx hb d_Gr_copyFrom_9 rfl (lv_at hl 1 rfl) ?_
  refine k_get (pc := 10) X hK hP 0 rfl rfl i_Gr 1 (by decide) wm_68 rfl rfl d_Gr_copyFrom_10 ?_
  refine k_put (pc := 13) X hK hP hD hS 1 rfl rfl i_Gr t_Gr t_Gr_ok n_Gr 1 (by decide) wm_68 rfl (Or.inl rfl) rfl rfl (Nat.le_of_ble_eq_true rfl) d_Gr_copyFrom_13 (fun H locs hP hD hS => ?_)
  have hP : va_P D classes (cat [[(a0, .inr (3, [.int 0, .int 0, .int 1, .ref a1, .ref a2, .ref a3, .ref a4, .ref a5, .ref a6, .ref a7, .ref a8, .ref a9, .ref a10, .ref a11, .ref a12, .ref a13, .null, .int 0, .int 0]))], [(g 0 j, .inr (3, [.int 0, .int 0, .int 1, .ref a14, .ref a15, .ref a16, .ref a17, .ref a18, .ref a19, .ref a20, .ref a21, .ref a22, .ref a23, .ref a24, .ref a25, .ref a26, .null, .int 0, .int 0]))], [(a14, .inl (kA 1, 192, .inl f0))], [(a1, .inl (kA 1, 192, .inl (fun _ => 0)))], [(a2, .inl (kA 0, 24, .inl f1))], [(a15, .inl (kA 0, 24, .inl f2))], [(a3, .inl (kA 0, 24, .inl f3))], [(a16, .inl (kA 0, 24, .inl f4))], [(a4, .inl (kA 0, 24, .inl f5))], [(a17, .inl (kA 0, 24, .inl f6))], [(a5, .inl (kA 0, 48, .inl f7))], [(a18, .inl (kA 0, 48, .inl f8))], [(a6, .inl (kA 0, 48, .inl f9))], [(a19, .inl (kA 0, 48, .inl f10))], [(a7, .inl (kA 0, 48, .inl f11))], [(a20, .inl (kA 0, 48, .inl f12))], [(a8, .inl (kA 0, 48, .inl f13))], [(a21, .inl (kA 0, 48, .inl f14))], [(a9, .inl (kA 0, 8, .inl f15))], [(a22, .inl (kA 0, 8, .inl f16))], [(a23, .inl (kA 1, 64, .inl f17))], [(a10, .inl (kA 1, 64, .inl (fun _ => 0)))], [(a11, .inl (kA 0, 8, .inl f18))], [(a24, .inl (kA 0, 8, .inl f19))], [(a25, .inl (kA 0, 24, .inl f20))], [(a26, .inl (kA 0, 576, .inl f21))]]) H := hP
  have hD : va_D A (cat [[(a0, .inr (3, [.int 0, .int 0, .int 1, .ref a1, .ref a2, .ref a3, .ref a4, .ref a5, .ref a6, .ref a7, .ref a8, .ref a9, .ref a10, .ref a11, .ref a12, .ref a13, .null, .int 0, .int 0]))], [(g 0 j, .inr (3, [.int 0, .int 0, .int 1, .ref a14, .ref a15, .ref a16, .ref a17, .ref a18, .ref a19, .ref a20, .ref a21, .ref a22, .ref a23, .ref a24, .ref a25, .ref a26, .null, .int 0, .int 0]))], [(a14, .inl (kA 1, 192, .inl f0))], [(a1, .inl (kA 1, 192, .inl (fun _ => 0)))], [(a2, .inl (kA 0, 24, .inl f1))], [(a15, .inl (kA 0, 24, .inl f2))], [(a3, .inl (kA 0, 24, .inl f3))], [(a16, .inl (kA 0, 24, .inl f4))], [(a4, .inl (kA 0, 24, .inl f5))], [(a17, .inl (kA 0, 24, .inl f6))], [(a5, .inl (kA 0, 48, .inl f7))], [(a18, .inl (kA 0, 48, .inl f8))], [(a6, .inl (kA 0, 48, .inl f9))], [(a19, .inl (kA 0, 48, .inl f10))], [(a7, .inl (kA 0, 48, .inl f11))], [(a20, .inl (kA 0, 48, .inl f12))], [(a8, .inl (kA 0, 48, .inl f13))], [(a21, .inl (kA 0, 48, .inl f14))], [(a9, .inl (kA 0, 8, .inl f15))], [(a22, .inl (kA 0, 8, .inl f16))], [(a23, .inl (kA 1, 64, .inl f17))], [(a10, .inl (kA 1, 64, .inl (fun _ => 0)))], [(a11, .inl (kA 0, 8, .inl f18))], [(a24, .inl (kA 0, 8, .inl f19))], [(a25, .inl (kA 0, 24, .inl f20))], [(a26, .inl (kA 0, 576, .inl f21))]]) := hD
  refine lv_aload_n (pc := 16) hx hb d_Gr_copyFrom_16 rfl (lv_at hl 0 rfl) ?_
  refine lv_aload_n (pc := 17) hx hb d_Gr_copyFrom_17 rfl (lv_at hl 1 rfl) ?_
  refine k_get (pc := 18) X hK hP 0 rfl rfl i_Gr 2 (by decide) wm_79 rfl rfl d_Gr_copyFrom_18 ?_
  refine k_put (pc := 21) X hK hP hD hS 1 rfl rfl i_Gr t_Gr t_Gr_ok n_Gr 2 (by decide) wm_79 rfl (Or.inl rfl) rfl rfl (Nat.le_of_ble_eq_true rfl) d_Gr_copyFrom_21 (fun H locs hP hD hS => ?_)
  have hP : va_P D classes (cat [[(a0, .inr (3, [.int 0, .int 0, .int 1, .ref a1, .ref a2, .ref a3, .ref a4, .ref a5, .ref a6, .ref a7, .ref a8, .ref a9, .ref a10, .ref a11, .ref a12, .ref a13, .null, .int 0, .int 0]))], [(g 0 j, .inr (3, [.int 0, .int 0, .int 1, .ref a14, .ref a15, .ref a16, .ref a17, .ref a18, .ref a19, .ref a20, .ref a21, .ref a22, .ref a23, .ref a24, .ref a25, .ref a26, .null, .int 0, .int 0]))], [(a14, .inl (kA 1, 192, .inl f0))], [(a1, .inl (kA 1, 192, .inl (fun _ => 0)))], [(a2, .inl (kA 0, 24, .inl f1))], [(a15, .inl (kA 0, 24, .inl f2))], [(a3, .inl (kA 0, 24, .inl f3))], [(a16, .inl (kA 0, 24, .inl f4))], [(a4, .inl (kA 0, 24, .inl f5))], [(a17, .inl (kA 0, 24, .inl f6))], [(a5, .inl (kA 0, 48, .inl f7))], [(a18, .inl (kA 0, 48, .inl f8))], [(a6, .inl (kA 0, 48, .inl f9))], [(a19, .inl (kA 0, 48, .inl f10))], [(a7, .inl (kA 0, 48, .inl f11))], [(a20, .inl (kA 0, 48, .inl f12))], [(a8, .inl (kA 0, 48, .inl f13))], [(a21, .inl (kA 0, 48, .inl f14))], [(a9, .inl (kA 0, 8, .inl f15))], [(a22, .inl (kA 0, 8, .inl f16))], [(a23, .inl (kA 1, 64, .inl f17))], [(a10, .inl (kA 1, 64, .inl (fun _ => 0)))], [(a11, .inl (kA 0, 8, .inl f18))], [(a24, .inl (kA 0, 8, .inl f19))], [(a25, .inl (kA 0, 24, .inl f20))], [(a26, .inl (kA 0, 576, .inl f21))]]) H := hP
  have hD : va_D A (cat [[(a0, .inr (3, [.int 0, .int 0, .int 1, .ref a1, .ref a2, .ref a3, .ref a4, .ref a5, .ref a6, .ref a7, .ref a8, .ref a9, .ref a10, .ref a11, .ref a12, .ref a13, .null, .int 0, .int 0]))], [(g 0 j, .inr (3, [.int 0, .int 0, .int 1, .ref a14, .ref a15, .ref a16, .ref a17, .ref a18, .ref a19, .ref a20, .ref a21, .ref a22, .ref a23, .ref a24, .ref a25, .ref a26, .null, .int 0, .int 0]))], [(a14, .inl (kA 1, 192, .inl f0))], [(a1, .inl (kA 1, 192, .inl (fun _ => 0)))], [(a2, .inl (kA 0, 24, .inl f1))], [(a15, .inl (kA 0, 24, .inl f2))], [(a3, .inl (kA 0, 24, .inl f3))], [(a16, .inl (kA 0, 24, .inl f4))], [(a4, .inl (kA 0, 24, .inl f5))], [(a17, .inl (kA 0, 24, .inl f6))], [(a5, .inl (kA 0, 48, .inl f7))], [(a18, .inl (kA 0, 48, .inl f8))], [(a6, .inl (kA 0, 48, .inl f9))], [(a19, .inl (kA 0, 48, .inl f10))], [(a7, .inl (kA 0, 48, .inl f11))], [(a20, .inl (kA 0, 48, .inl f12))], [(a8, .inl (kA 0, 48, .inl f13))], [(a21, .inl (kA 0, 48, .inl f14))], [(a9, .inl (kA 0, 8, .inl f15))], [(a22, .inl (kA 0, 8, .inl f16))], [(a23, .inl (kA 1, 64, .inl f17))], [(a10, .inl (kA 1, 64, .inl (fun _ => 0)))], [(a11, .inl (kA 0, 8, .inl f18))], [(a24, .inl (kA 0, 8, .inl f19))], [(a25, .inl (kA 0, 24, .inl f20))], [(a26, .inl (kA 0, 576, .inl f21))]]) := hD
  refine lv_aload_n (pc := 24) hx hb d_Gr_copyFrom_24 rfl (lv_at hl 0 rfl) ?_
  refine lv_iconst (pc := 25) (v := 0) hx hb d_Gr_copyFrom_25 (by decide) ?_
  refine k_put (pc := 26) X hK hP hD hS 1 rfl rfl i_Gr t_Gr t_Gr_ok n_Gr 17 (by decide) wm_149 rfl (Or.inl rfl) rfl rfl (Nat.le_of_ble_eq_true rfl) d_Gr_copyFrom_26 (fun H locs hP hD hS => ?_)
  have hP : va_P D classes (cat [[(a0, .inr (3, [.int 0, .int 0, .int 1, .ref a1, .ref a2, .ref a3, .ref a4, .ref a5, .ref a6, .ref a7, .ref a8, .ref a9, .ref a10, .ref a11, .ref a12, .ref a13, .null, .int 0, .int 0]))], [(g 0 j, .inr (3, [.int 0, .int 0, .int 1, .ref a14, .ref a15, .ref a16, .ref a17, .ref a18, .ref a19, .ref a20, .ref a21, .ref a22, .ref a23, .ref a24, .ref a25, .ref a26, .null, .int 0, .int 0]))], [(a14, .inl (kA 1, 192, .inl f0))], [(a1, .inl (kA 1, 192, .inl (fun _ => 0)))], [(a2, .inl (kA 0, 24, .inl f1))], [(a15, .inl (kA 0, 24, .inl f2))], [(a3, .inl (kA 0, 24, .inl f3))], [(a16, .inl (kA 0, 24, .inl f4))], [(a4, .inl (kA 0, 24, .inl f5))], [(a17, .inl (kA 0, 24, .inl f6))], [(a5, .inl (kA 0, 48, .inl f7))], [(a18, .inl (kA 0, 48, .inl f8))], [(a6, .inl (kA 0, 48, .inl f9))], [(a19, .inl (kA 0, 48, .inl f10))], [(a7, .inl (kA 0, 48, .inl f11))], [(a20, .inl (kA 0, 48, .inl f12))], [(a8, .inl (kA 0, 48, .inl f13))], [(a21, .inl (kA 0, 48, .inl f14))], [(a9, .inl (kA 0, 8, .inl f15))], [(a22, .inl (kA 0, 8, .inl f16))], [(a23, .inl (kA 1, 64, .inl f17))], [(a10, .inl (kA 1, 64, .inl (fun _ => 0)))], [(a11, .inl (kA 0, 8, .inl f18))], [(a24, .inl (kA 0, 8, .inl f19))], [(a25, .inl (kA 0, 24, .inl f20))], [(a26, .inl (kA 0, 576, .inl f21))]]) H := hP
  have hD : va_D A (cat [[(a0, .inr (3, [.int 0, .int 0, .int 1, .ref a1, .ref a2, .ref a3, .ref a4, .ref a5, .ref a6, .ref a7, .ref a8, .ref a9, .ref a10, .ref a11, .ref a12, .ref a13, .null, .int 0, .int 0]))], [(g 0 j, .inr (3, [.int 0, .int 0, .int 1, .ref a14, .ref a15, .ref a16, .ref a17, .ref a18, .ref a19, .ref a20, .ref a21, .ref a22, .ref a23, .ref a24, .ref a25, .ref a26, .null, .int 0, .int 0]))], [(a14, .inl (kA 1, 192, .inl f0))], [(a1, .inl (kA 1, 192, .inl (fun _ => 0)))], [(a2, .inl (kA 0, 24, .inl f1))], [(a15, .inl (kA 0, 24, .inl f2))], [(a3, .inl (kA 0, 24, .inl f3))], [(a16, .inl (kA 0, 24, .inl f4))], [(a4, .inl (kA 0, 24, .inl f5))], [(a17, .inl (kA 0, 24, .inl f6))], [(a5, .inl (kA 0, 48, .inl f7))], [(a18, .inl (kA 0, 48, .inl f8))], [(a6, .inl (kA 0, 48, .inl f9))], [(a19, .inl (kA 0, 48, .inl f10))], [(a7, .inl (kA 0, 48, .inl f11))], [(a20, .inl (kA 0, 48, .inl f12))], [(a8, .inl (kA 0, 48, .inl f13))], [(a21, .inl (kA 0, 48, .inl f14))], [(a9, .inl (kA 0, 8, .inl f15))], [(a22, .inl (kA 0, 8, .inl f16))], [(a23, .inl (kA 1, 64, .inl f17))], [(a10, .inl (kA 1, 64, .inl (fun _ => 0)))], [(a11, .inl (kA 0, 8, .inl f18))], [(a24, .inl (kA 0, 8, .inl f19))], [(a25, .inl (kA 0, 24, .inl f20))], [(a26, .inl (kA 0, 576, .inl f21))]]) := hD
  refine lv_aload_n (pc := 29) hx hb d_Gr_copyFrom_29 rfl (lv_at hl 0 rfl) ?_
  refine lv_iconst (pc := 30) (v := 0) hx hb d_Gr_copyFrom_30 (by decide) ?_
  refine k_put (pc := 31) X hK hP hD hS 1 rfl rfl i_Gr t_Gr t_Gr_ok n_Gr 18 (by decide) wm_151 rfl (Or.inl rfl) rfl rfl (Nat.le_of_ble_eq_true rfl) d_Gr_copyFrom_31 (fun H locs hP hD hS => ?_)
  have hP : va_P D classes (cat [[(a0, .inr (3, [.int 0, .int 0, .int 1, .ref a1, .ref a2, .ref a3, .ref a4, .ref a5, .ref a6, .ref a7, .ref a8, .ref a9, .ref a10, .ref a11, .ref a12, .ref a13, .null, .int 0, .int 0]))], [(g 0 j, .inr (3, [.int 0, .int 0, .int 1, .ref a14, .ref a15, .ref a16, .ref a17, .ref a18, .ref a19, .ref a20, .ref a21, .ref a22, .ref a23, .ref a24, .ref a25, .ref a26, .null, .int 0, .int 0]))], [(a14, .inl (kA 1, 192, .inl f0))], [(a1, .inl (kA 1, 192, .inl (fun _ => 0)))], [(a2, .inl (kA 0, 24, .inl f1))], [(a15, .inl (kA 0, 24, .inl f2))], [(a3, .inl (kA 0, 24, .inl f3))], [(a16, .inl (kA 0, 24, .inl f4))], [(a4, .inl (kA 0, 24, .inl f5))], [(a17, .inl (kA 0, 24, .inl f6))], [(a5, .inl (kA 0, 48, .inl f7))], [(a18, .inl (kA 0, 48, .inl f8))], [(a6, .inl (kA 0, 48, .inl f9))], [(a19, .inl (kA 0, 48, .inl f10))], [(a7, .inl (kA 0, 48, .inl f11))], [(a20, .inl (kA 0, 48, .inl f12))], [(a8, .inl (kA 0, 48, .inl f13))], [(a21, .inl (kA 0, 48, .inl f14))], [(a9, .inl (kA 0, 8, .inl f15))], [(a22, .inl (kA 0, 8, .inl f16))], [(a23, .inl (kA 1, 64, .inl f17))], [(a10, .inl (kA 1, 64, .inl (fun _ => 0)))], [(a11, .inl (kA 0, 8, .inl f18))], [(a24, .inl (kA 0, 8, .inl f19))], [(a25, .inl (kA 0, 24, .inl f20))], [(a26, .inl (kA 0, 576, .inl f21))]]) H := hP
  have hD : va_D A (cat [[(a0, .inr (3, [.int 0, .int 0, .int 1, .ref a1, .ref a2, .ref a3, .ref a4, .ref a5, .ref a6, .ref a7, .ref a8, .ref a9, .ref a10, .ref a11, .ref a12, .ref a13, .null, .int 0, .int 0]))], [(g 0 j, .inr (3, [.int 0, .int 0, .int 1, .ref a14, .ref a15, .ref a16, .ref a17, .ref a18, .ref a19, .ref a20, .ref a21, .ref a22, .ref a23, .ref a24, .ref a25, .ref a26, .null, .int 0, .int 0]))], [(a14, .inl (kA 1, 192, .inl f0))], [(a1, .inl (kA 1, 192, .inl (fun _ => 0)))], [(a2, .inl (kA 0, 24, .inl f1))], [(a15, .inl (kA 0, 24, .inl f2))], [(a3, .inl (kA 0, 24, .inl f3))], [(a16, .inl (kA 0, 24, .inl f4))], [(a4, .inl (kA 0, 24, .inl f5))], [(a17, .inl (kA 0, 24, .inl f6))], [(a5, .inl (kA 0, 48, .inl f7))], [(a18, .inl (kA 0, 48, .inl f8))], [(a6, .inl (kA 0, 48, .inl f9))], [(a19, .inl (kA 0, 48, .inl f10))], [(a7, .inl (kA 0, 48, .inl f11))], [(a20, .inl (kA 0, 48, .inl f12))], [(a8, .inl (kA 0, 48, .inl f13))], [(a21, .inl (kA 0, 48, .inl f14))], [(a9, .inl (kA 0, 8, .inl f15))], [(a22, .inl (kA 0, 8, .inl f16))], [(a23, .inl (kA 1, 64, .inl f17))], [(a10, .inl (kA 1, 64, .inl (fun _ => 0)))], [(a11, .inl (kA 0, 8, .inl f18))], [(a24, .inl (kA 0, 8, .inl f19))], [(a25, .inl (kA 0, 24, .inl f20))], [(a26, .inl (kA 0, 576, .inl f21))]]) := hD
  refine lv_aload_n (pc := 34) hx hb d_Gr_copyFrom_34 rfl (lv_at hl 1 rfl) ?_
  refine k_get (pc := 35) X hK hP 0 rfl rfl i_Gr 3 (by decide) wm_83 rfl rfl d_Gr_copyFrom_35 ?_
  refine lv_iconst (pc := 38) (v := 0) hx hb d_Gr_copyFrom_38 (by decide) ?_
  refine lv_aload_n (pc := 39) hx hb d_Gr_copyFrom_39 rfl (lv_at hl 0 rfl) ?_
  refine k_get (pc := 40) X hK hP 1 rfl rfl i_Gr 3 (by decide) wm_83 rfl rfl d_Gr_copyFrom_40 ?_
  refine lv_iconst (pc := 43) (v := 0) hx hb d_Gr_copyFrom_43 (by decide) ?_
  refine lv_aload_n (pc := 44) hx hb d_Gr_copyFrom_44 rfl (lv_at hl 0 rfl) ?_
  refine k_get (pc := 45) X hK hP 1 rfl rfl i_Gr 3 (by decide) wm_83 rfl rfl d_Gr_copyFrom_45 ?_
  refine va_alen (pc := 48) (v := 192) hx hb hK hP 2 1 rfl rfl (by rfl) d_Gr_copyFrom_48 ?_
  refine k_cpy (pc := 49) hx hb (hml.trans hl.1.symm) hown (hts _ wm_748) (hts _ wm_750) (hts _ wm_749) (hts _ wm_15) hK hP hD hS 3 2 1 1 rfl rfl rfl rfl rfl 0 0 192 (by decide) (by decide) (by decide) (by decide) (by decide) (by decide) (Nat.le_of_ble_eq_true rfl) (Nat.le_of_ble_eq_true rfl) (fun i hi => rfl) (Nat.le_of_ble_eq_true rfl) (ac_room (Nat.le_of_ble_eq_true rfl)) d_Gr_copyFrom_49 (fun H locs hP hD hS => ?_)
  have hP : va_P D classes (cat [[(a0, .inr (3, [.int 0, .int 0, .int 1, .ref a1, .ref a2, .ref a3, .ref a4, .ref a5, .ref a6, .ref a7, .ref a8, .ref a9, .ref a10, .ref a11, .ref a12, .ref a13, .null, .int 0, .int 0]))], [(g 0 j, .inr (3, [.int 0, .int 0, .int 1, .ref a14, .ref a15, .ref a16, .ref a17, .ref a18, .ref a19, .ref a20, .ref a21, .ref a22, .ref a23, .ref a24, .ref a25, .ref a26, .null, .int 0, .int 0]))], [(a14, .inl (kA 1, 192, .inl (va_cpy (fun _ => 0) f0 0 0 192)))], [(a1, .inl (kA 1, 192, .inl (fun _ => 0)))], [(a2, .inl (kA 0, 24, .inl f1))], [(a15, .inl (kA 0, 24, .inl f2))], [(a3, .inl (kA 0, 24, .inl f3))], [(a16, .inl (kA 0, 24, .inl f4))], [(a4, .inl (kA 0, 24, .inl f5))], [(a17, .inl (kA 0, 24, .inl f6))], [(a5, .inl (kA 0, 48, .inl f7))], [(a18, .inl (kA 0, 48, .inl f8))], [(a6, .inl (kA 0, 48, .inl f9))], [(a19, .inl (kA 0, 48, .inl f10))], [(a7, .inl (kA 0, 48, .inl f11))], [(a20, .inl (kA 0, 48, .inl f12))], [(a8, .inl (kA 0, 48, .inl f13))], [(a21, .inl (kA 0, 48, .inl f14))], [(a9, .inl (kA 0, 8, .inl f15))], [(a22, .inl (kA 0, 8, .inl f16))], [(a23, .inl (kA 1, 64, .inl f17))], [(a10, .inl (kA 1, 64, .inl (fun _ => 0)))], [(a11, .inl (kA 0, 8, .inl f18))], [(a24, .inl (kA 0, 8, .inl f19))], [(a25, .inl (kA 0, 24, .inl f20))], [(a26, .inl (kA 0, 576, .inl f21))]]) H := hP
  have hD : va_D A (cat [[(a0, .inr (3, [.int 0, .int 0, .int 1, .ref a1, .ref a2, .ref a3, .ref a4, .ref a5, .ref a6, .ref a7, .ref a8, .ref a9, .ref a10, .ref a11, .ref a12, .ref a13, .null, .int 0, .int 0]))], [(g 0 j, .inr (3, [.int 0, .int 0, .int 1, .ref a14, .ref a15, .ref a16, .ref a17, .ref a18, .ref a19, .ref a20, .ref a21, .ref a22, .ref a23, .ref a24, .ref a25, .ref a26, .null, .int 0, .int 0]))], [(a14, .inl (kA 1, 192, .inl (va_cpy (fun _ => 0) f0 0 0 192)))], [(a1, .inl (kA 1, 192, .inl (fun _ => 0)))], [(a2, .inl (kA 0, 24, .inl f1))], [(a15, .inl (kA 0, 24, .inl f2))], [(a3, .inl (kA 0, 24, .inl f3))], [(a16, .inl (kA 0, 24, .inl f4))], [(a4, .inl (kA 0, 24, .inl f5))], [(a17, .inl (kA 0, 24, .inl f6))], [(a5, .inl (kA 0, 48, .inl f7))], [(a18, .inl (kA 0, 48, .inl f8))], [(a6, .inl (kA 0, 48, .inl f9))], [(a19, .inl (kA 0, 48, .inl f10))], [(a7, .inl (kA 0, 48, .inl f11))], [(a20, .inl (kA 0, 48, .inl f12))], [(a8, .inl (kA 0, 48, .inl f13))], [(a21, .inl (kA 0, 48, .inl f14))], [(a9, .inl (kA 0, 8, .inl f15))], [(a22, .inl (kA 0, 8, .inl f16))], [(a23, .inl (kA 1, 64, .inl f17))], [(a10, .inl (kA 1, 64, .inl (fun _ => 0)))], [(a11, .inl (kA 0, 8, .inl f18))], [(a24, .inl (kA 0, 8, .inl f19))], [(a25, .inl (kA 0, 24, .inl f20))], [(a26, .inl (kA 0, 576, .inl f21))]]) := hD
  refine lv_aload_n (pc := 52) hx hb d_Gr_copyFrom_52 rfl (lv_at hl 1 rfl) ?_
  refine k_get (pc := 53) X hK hP 0 rfl rfl i_Gr 4 (by decide) wm_85 rfl rfl d_Gr_copyFrom_53 ?_
  refine lv_iconst (pc := 56) (v := 0) hx hb d_Gr_copyFrom_56 (by decide) ?_
  refine lv_aload_n (pc := 57) hx hb d_Gr_copyFrom_57 rfl (lv_at hl 0 rfl) ?_
  refine k_get (pc := 58) X hK hP 1 rfl rfl i_Gr 4 (by decide) wm_85 rfl rfl d_Gr_copyFrom_58 ?_
  refine lv_iconst (pc := 61) (v := 0) hx hb d_Gr_copyFrom_61 (by decide) ?_
  refine lv_bipush (pc := 62) (v := 24) hx hb d_Gr_copyFrom_62 (by decide) ?_
  refine k_cpy (pc := 64) hx hb (hml.trans hl.1.symm) hown (hts _ wm_748) (hts _ wm_750) (hts _ wm_749) (hts _ wm_15) hK hP hD hS 4 5 0 0 rfl rfl rfl rfl rfl 0 0 24 (by decide) (by decide) (by decide) (by decide) (by decide) (by decide) (Nat.le_of_ble_eq_true rfl) (Nat.le_of_ble_eq_true rfl) (fun i hi => rfl) (Nat.le_of_ble_eq_true rfl) (ac_room (Nat.le_of_ble_eq_true rfl)) d_Gr_copyFrom_64 (fun H locs hP hD hS => ?_)
  have hP : va_P D classes (cat [[(a0, .inr (3, [.int 0, .int 0, .int 1, .ref a1, .ref a2, .ref a3, .ref a4, .ref a5, .ref a6, .ref a7, .ref a8, .ref a9, .ref a10, .ref a11, .ref a12, .ref a13, .null, .int 0, .int 0]))], [(g 0 j, .inr (3, [.int 0, .int 0, .int 1, .ref a14, .ref a15, .ref a16, .ref a17, .ref a18, .ref a19, .ref a20, .ref a21, .ref a22, .ref a23, .ref a24, .ref a25, .ref a26, .null, .int 0, .int 0]))], [(a14, .inl (kA 1, 192, .inl (va_cpy (fun _ => 0) f0 0 0 192)))], [(a1, .inl (kA 1, 192, .inl (fun _ => 0)))], [(a2, .inl (kA 0, 24, .inl f1))], [(a15, .inl (kA 0, 24, .inl (va_cpy f1 f2 0 0 24)))], [(a3, .inl (kA 0, 24, .inl f3))], [(a16, .inl (kA 0, 24, .inl f4))], [(a4, .inl (kA 0, 24, .inl f5))], [(a17, .inl (kA 0, 24, .inl f6))], [(a5, .inl (kA 0, 48, .inl f7))], [(a18, .inl (kA 0, 48, .inl f8))], [(a6, .inl (kA 0, 48, .inl f9))], [(a19, .inl (kA 0, 48, .inl f10))], [(a7, .inl (kA 0, 48, .inl f11))], [(a20, .inl (kA 0, 48, .inl f12))], [(a8, .inl (kA 0, 48, .inl f13))], [(a21, .inl (kA 0, 48, .inl f14))], [(a9, .inl (kA 0, 8, .inl f15))], [(a22, .inl (kA 0, 8, .inl f16))], [(a23, .inl (kA 1, 64, .inl f17))], [(a10, .inl (kA 1, 64, .inl (fun _ => 0)))], [(a11, .inl (kA 0, 8, .inl f18))], [(a24, .inl (kA 0, 8, .inl f19))], [(a25, .inl (kA 0, 24, .inl f20))], [(a26, .inl (kA 0, 576, .inl f21))]]) H := hP
  have hD : va_D A (cat [[(a0, .inr (3, [.int 0, .int 0, .int 1, .ref a1, .ref a2, .ref a3, .ref a4, .ref a5, .ref a6, .ref a7, .ref a8, .ref a9, .ref a10, .ref a11, .ref a12, .ref a13, .null, .int 0, .int 0]))], [(g 0 j, .inr (3, [.int 0, .int 0, .int 1, .ref a14, .ref a15, .ref a16, .ref a17, .ref a18, .ref a19, .ref a20, .ref a21, .ref a22, .ref a23, .ref a24, .ref a25, .ref a26, .null, .int 0, .int 0]))], [(a14, .inl (kA 1, 192, .inl (va_cpy (fun _ => 0) f0 0 0 192)))], [(a1, .inl (kA 1, 192, .inl (fun _ => 0)))], [(a2, .inl (kA 0, 24, .inl f1))], [(a15, .inl (kA 0, 24, .inl (va_cpy f1 f2 0 0 24)))], [(a3, .inl (kA 0, 24, .inl f3))], [(a16, .inl (kA 0, 24, .inl f4))], [(a4, .inl (kA 0, 24, .inl f5))], [(a17, .inl (kA 0, 24, .inl f6))], [(a5, .inl (kA 0, 48, .inl f7))], [(a18, .inl (kA 0, 48, .inl f8))], [(a6, .inl (kA 0, 48, .inl f9))], [(a19, .inl (kA 0, 48, .inl f10))], [(a7, .inl (kA 0, 48, .inl f11))], [(a20, .inl (kA 0, 48, .inl f12))], [(a8, .inl (kA 0, 48, .inl f13))], [(a21, .inl (kA 0, 48, .inl f14))], [(a9, .inl (kA 0, 8, .inl f15))], [(a22, .inl (kA 0, 8, .inl f16))], [(a23, .inl (kA 1, 64, .inl f17))], [(a10, .inl (kA 1, 64, .inl (fun _ => 0)))], [(a11, .inl (kA 0, 8, .inl f18))], [(a24, .inl (kA 0, 8, .inl f19))], [(a25, .inl (kA 0, 24, .inl f20))], [(a26, .inl (kA 0, 576, .inl f21))]]) := hD
  refine lv_aload_n (pc := 67) hx hb d_Gr_copyFrom_67 rfl (lv_at hl 1 rfl) ?_
  refine k_get (pc := 68) X hK hP 0 rfl rfl i_Gr 5 (by decide) wm_87 rfl rfl d_Gr_copyFrom_68 ?_
  refine lv_iconst (pc := 71) (v := 0) hx hb d_Gr_copyFrom_71 (by decide) ?_
  refine lv_aload_n (pc := 72) hx hb d_Gr_copyFrom_72 rfl (lv_at hl 0 rfl) ?_
  refine k_get (pc := 73) X hK hP 1 rfl rfl i_Gr 5 (by decide) wm_87 rfl rfl d_Gr_copyFrom_73 ?_
  refine lv_iconst (pc := 76) (v := 0) hx hb d_Gr_copyFrom_76 (by decide) ?_
  refine lv_bipush (pc := 77) (v := 24) hx hb d_Gr_copyFrom_77 (by decide) ?_
  refine k_cpy (pc := 79) hx hb (hml.trans hl.1.symm) hown (hts _ wm_748) (hts _ wm_750) (hts _ wm_749) (hts _ wm_15) hK hP hD hS 6 7 0 0 rfl rfl rfl rfl rfl 0 0 24 (by decide) (by decide) (by decide) (by decide) (by decide) (by decide) (Nat.le_of_ble_eq_true rfl) (Nat.le_of_ble_eq_true rfl) (fun i hi => rfl) (Nat.le_of_ble_eq_true rfl) (ac_room (Nat.le_of_ble_eq_true rfl)) d_Gr_copyFrom_79 (fun H locs hP hD hS => ?_)
  have hP : va_P D classes (cat [[(a0, .inr (3, [.int 0, .int 0, .int 1, .ref a1, .ref a2, .ref a3, .ref a4, .ref a5, .ref a6, .ref a7, .ref a8, .ref a9, .ref a10, .ref a11, .ref a12, .ref a13, .null, .int 0, .int 0]))], [(g 0 j, .inr (3, [.int 0, .int 0, .int 1, .ref a14, .ref a15, .ref a16, .ref a17, .ref a18, .ref a19, .ref a20, .ref a21, .ref a22, .ref a23, .ref a24, .ref a25, .ref a26, .null, .int 0, .int 0]))], [(a14, .inl (kA 1, 192, .inl (va_cpy (fun _ => 0) f0 0 0 192)))], [(a1, .inl (kA 1, 192, .inl (fun _ => 0)))], [(a2, .inl (kA 0, 24, .inl f1))], [(a15, .inl (kA 0, 24, .inl (va_cpy f1 f2 0 0 24)))], [(a3, .inl (kA 0, 24, .inl f3))], [(a16, .inl (kA 0, 24, .inl (va_cpy f3 f4 0 0 24)))], [(a4, .inl (kA 0, 24, .inl f5))], [(a17, .inl (kA 0, 24, .inl f6))], [(a5, .inl (kA 0, 48, .inl f7))], [(a18, .inl (kA 0, 48, .inl f8))], [(a6, .inl (kA 0, 48, .inl f9))], [(a19, .inl (kA 0, 48, .inl f10))], [(a7, .inl (kA 0, 48, .inl f11))], [(a20, .inl (kA 0, 48, .inl f12))], [(a8, .inl (kA 0, 48, .inl f13))], [(a21, .inl (kA 0, 48, .inl f14))], [(a9, .inl (kA 0, 8, .inl f15))], [(a22, .inl (kA 0, 8, .inl f16))], [(a23, .inl (kA 1, 64, .inl f17))], [(a10, .inl (kA 1, 64, .inl (fun _ => 0)))], [(a11, .inl (kA 0, 8, .inl f18))], [(a24, .inl (kA 0, 8, .inl f19))], [(a25, .inl (kA 0, 24, .inl f20))], [(a26, .inl (kA 0, 576, .inl f21))]]) H := hP
  have hD : va_D A (cat [[(a0, .inr (3, [.int 0, .int 0, .int 1, .ref a1, .ref a2, .ref a3, .ref a4, .ref a5, .ref a6, .ref a7, .ref a8, .ref a9, .ref a10, .ref a11, .ref a12, .ref a13, .null, .int 0, .int 0]))], [(g 0 j, .inr (3, [.int 0, .int 0, .int 1, .ref a14, .ref a15, .ref a16, .ref a17, .ref a18, .ref a19, .ref a20, .ref a21, .ref a22, .ref a23, .ref a24, .ref a25, .ref a26, .null, .int 0, .int 0]))], [(a14, .inl (kA 1, 192, .inl (va_cpy (fun _ => 0) f0 0 0 192)))], [(a1, .inl (kA 1, 192, .inl (fun _ => 0)))], [(a2, .inl (kA 0, 24, .inl f1))], [(a15, .inl (kA 0, 24, .inl (va_cpy f1 f2 0 0 24)))], [(a3, .inl (kA 0, 24, .inl f3))], [(a16, .inl (kA 0, 24, .inl (va_cpy f3 f4 0 0 24)))], [(a4, .inl (kA 0, 24, .inl f5))], [(a17, .inl (kA 0, 24, .inl f6))], [(a5, .inl (kA 0, 48, .inl f7))], [(a18, .inl (kA 0, 48, .inl f8))], [(a6, .inl (kA 0, 48, .inl f9))], [(a19, .inl (kA 0, 48, .inl f10))], [(a7, .inl (kA 0, 48, .inl f11))], [(a20, .inl (kA 0, 48, .inl f12))], [(a8, .inl (kA 0, 48, .inl f13))], [(a21, .inl (kA 0, 48, .inl f14))], [(a9, .inl (kA 0, 8, .inl f15))], [(a22, .inl (kA 0, 8, .inl f16))], [(a23, .inl (kA 1, 64, .inl f17))], [(a10, .inl (kA 1, 64, .inl (fun _ => 0)))], [(a11, .inl (kA 0, 8, .inl f18))], [(a24, .inl (kA 0, 8, .inl f19))], [(a25, .inl (kA 0, 24, .inl f20))], [(a26, .inl (kA 0, 576, .inl f21))]]) := hD
  refine lv_aload_n (pc := 82) hx hb d_Gr_copyFrom_82 rfl (lv_at hl 1 rfl) ?_
  refine k_get (pc := 83) X hK hP 0 rfl rfl i_Gr 6 (by decide) wm_92 rfl rfl d_Gr_copyFrom_83 ?_
  refine lv_iconst (pc := 86) (v := 0) hx hb d_Gr_copyFrom_86 (by decide) ?_
  refine lv_aload_n (pc := 87) hx hb d_Gr_copyFrom_87 rfl (lv_at hl 0 rfl) ?_
  refine k_get (pc := 88) X hK hP 1 rfl rfl i_Gr 6 (by decide) wm_92 rfl rfl d_Gr_copyFrom_88 ?_
  refine lv_iconst (pc := 91) (v := 0) hx hb d_Gr_copyFrom_91 (by decide) ?_
  refine lv_bipush (pc := 92) (v := 24) hx hb d_Gr_copyFrom_92 (by decide) ?_
  refine k_cpy (pc := 94) hx hb (hml.trans hl.1.symm) hown (hts _ wm_748) (hts _ wm_750) (hts _ wm_749) (hts _ wm_15) hK hP hD hS 8 9 0 0 rfl rfl rfl rfl rfl 0 0 24 (by decide) (by decide) (by decide) (by decide) (by decide) (by decide) (Nat.le_of_ble_eq_true rfl) (Nat.le_of_ble_eq_true rfl) (fun i hi => rfl) (Nat.le_of_ble_eq_true rfl) (ac_room (Nat.le_of_ble_eq_true rfl)) d_Gr_copyFrom_94 (fun H locs hP hD hS => ?_)
  have hP : va_P D classes (cat [[(a0, .inr (3, [.int 0, .int 0, .int 1, .ref a1, .ref a2, .ref a3, .ref a4, .ref a5, .ref a6, .ref a7, .ref a8, .ref a9, .ref a10, .ref a11, .ref a12, .ref a13, .null, .int 0, .int 0]))], [(g 0 j, .inr (3, [.int 0, .int 0, .int 1, .ref a14, .ref a15, .ref a16, .ref a17, .ref a18, .ref a19, .ref a20, .ref a21, .ref a22, .ref a23, .ref a24, .ref a25, .ref a26, .null, .int 0, .int 0]))], [(a14, .inl (kA 1, 192, .inl (va_cpy (fun _ => 0) f0 0 0 192)))], [(a1, .inl (kA 1, 192, .inl (fun _ => 0)))], [(a2, .inl (kA 0, 24, .inl f1))], [(a15, .inl (kA 0, 24, .inl (va_cpy f1 f2 0 0 24)))], [(a3, .inl (kA 0, 24, .inl f3))], [(a16, .inl (kA 0, 24, .inl (va_cpy f3 f4 0 0 24)))], [(a4, .inl (kA 0, 24, .inl f5))], [(a17, .inl (kA 0, 24, .inl (va_cpy f5 f6 0 0 24)))], [(a5, .inl (kA 0, 48, .inl f7))], [(a18, .inl (kA 0, 48, .inl f8))], [(a6, .inl (kA 0, 48, .inl f9))], [(a19, .inl (kA 0, 48, .inl f10))], [(a7, .inl (kA 0, 48, .inl f11))], [(a20, .inl (kA 0, 48, .inl f12))], [(a8, .inl (kA 0, 48, .inl f13))], [(a21, .inl (kA 0, 48, .inl f14))], [(a9, .inl (kA 0, 8, .inl f15))], [(a22, .inl (kA 0, 8, .inl f16))], [(a23, .inl (kA 1, 64, .inl f17))], [(a10, .inl (kA 1, 64, .inl (fun _ => 0)))], [(a11, .inl (kA 0, 8, .inl f18))], [(a24, .inl (kA 0, 8, .inl f19))], [(a25, .inl (kA 0, 24, .inl f20))], [(a26, .inl (kA 0, 576, .inl f21))]]) H := hP
  have hD : va_D A (cat [[(a0, .inr (3, [.int 0, .int 0, .int 1, .ref a1, .ref a2, .ref a3, .ref a4, .ref a5, .ref a6, .ref a7, .ref a8, .ref a9, .ref a10, .ref a11, .ref a12, .ref a13, .null, .int 0, .int 0]))], [(g 0 j, .inr (3, [.int 0, .int 0, .int 1, .ref a14, .ref a15, .ref a16, .ref a17, .ref a18, .ref a19, .ref a20, .ref a21, .ref a22, .ref a23, .ref a24, .ref a25, .ref a26, .null, .int 0, .int 0]))], [(a14, .inl (kA 1, 192, .inl (va_cpy (fun _ => 0) f0 0 0 192)))], [(a1, .inl (kA 1, 192, .inl (fun _ => 0)))], [(a2, .inl (kA 0, 24, .inl f1))], [(a15, .inl (kA 0, 24, .inl (va_cpy f1 f2 0 0 24)))], [(a3, .inl (kA 0, 24, .inl f3))], [(a16, .inl (kA 0, 24, .inl (va_cpy f3 f4 0 0 24)))], [(a4, .inl (kA 0, 24, .inl f5))], [(a17, .inl (kA 0, 24, .inl (va_cpy f5 f6 0 0 24)))], [(a5, .inl (kA 0, 48, .inl f7))], [(a18, .inl (kA 0, 48, .inl f8))], [(a6, .inl (kA 0, 48, .inl f9))], [(a19, .inl (kA 0, 48, .inl f10))], [(a7, .inl (kA 0, 48, .inl f11))], [(a20, .inl (kA 0, 48, .inl f12))], [(a8, .inl (kA 0, 48, .inl f13))], [(a21, .inl (kA 0, 48, .inl f14))], [(a9, .inl (kA 0, 8, .inl f15))], [(a22, .inl (kA 0, 8, .inl f16))], [(a23, .inl (kA 1, 64, .inl f17))], [(a10, .inl (kA 1, 64, .inl (fun _ => 0)))], [(a11, .inl (kA 0, 8, .inl f18))], [(a24, .inl (kA 0, 8, .inl f19))], [(a25, .inl (kA 0, 24, .inl f20))], [(a26, .inl (kA 0, 576, .inl f21))]]) := hD
  refine lv_aload_n (pc := 97) hx hb d_Gr_copyFrom_97 rfl (lv_at hl 1 rfl) ?_
  refine k_get (pc := 98) X hK hP 0 rfl rfl i_Gr 7 (by decide) wm_96 rfl rfl d_Gr_copyFrom_98 ?_
  refine lv_iconst (pc := 101) (v := 0) hx hb d_Gr_copyFrom_101 (by decide) ?_
  refine lv_aload_n (pc := 102) hx hb d_Gr_copyFrom_102 rfl (lv_at hl 0 rfl) ?_
  refine k_get (pc := 103) X hK hP 1 rfl rfl i_Gr 7 (by decide) wm_96 rfl rfl d_Gr_copyFrom_103 ?_
  refine lv_iconst (pc := 106) (v := 0) hx hb d_Gr_copyFrom_106 (by decide) ?_
  refine lv_bipush (pc := 107) (v := 48) hx hb d_Gr_copyFrom_107 (by decide) ?_
  refine k_cpy (pc := 109) hx hb (hml.trans hl.1.symm) hown (hts _ wm_748) (hts _ wm_750) (hts _ wm_749) (hts _ wm_15) hK hP hD hS 10 11 0 0 rfl rfl rfl rfl rfl 0 0 48 (by decide) (by decide) (by decide) (by decide) (by decide) (by decide) (Nat.le_of_ble_eq_true rfl) (Nat.le_of_ble_eq_true rfl) (fun i hi => rfl) (Nat.le_of_ble_eq_true rfl) (ac_room (Nat.le_of_ble_eq_true rfl)) d_Gr_copyFrom_109 (fun H locs hP hD hS => ?_)
  have hP : va_P D classes (cat [[(a0, .inr (3, [.int 0, .int 0, .int 1, .ref a1, .ref a2, .ref a3, .ref a4, .ref a5, .ref a6, .ref a7, .ref a8, .ref a9, .ref a10, .ref a11, .ref a12, .ref a13, .null, .int 0, .int 0]))], [(g 0 j, .inr (3, [.int 0, .int 0, .int 1, .ref a14, .ref a15, .ref a16, .ref a17, .ref a18, .ref a19, .ref a20, .ref a21, .ref a22, .ref a23, .ref a24, .ref a25, .ref a26, .null, .int 0, .int 0]))], [(a14, .inl (kA 1, 192, .inl (va_cpy (fun _ => 0) f0 0 0 192)))], [(a1, .inl (kA 1, 192, .inl (fun _ => 0)))], [(a2, .inl (kA 0, 24, .inl f1))], [(a15, .inl (kA 0, 24, .inl (va_cpy f1 f2 0 0 24)))], [(a3, .inl (kA 0, 24, .inl f3))], [(a16, .inl (kA 0, 24, .inl (va_cpy f3 f4 0 0 24)))], [(a4, .inl (kA 0, 24, .inl f5))], [(a17, .inl (kA 0, 24, .inl (va_cpy f5 f6 0 0 24)))], [(a5, .inl (kA 0, 48, .inl f7))], [(a18, .inl (kA 0, 48, .inl (va_cpy f7 f8 0 0 48)))], [(a6, .inl (kA 0, 48, .inl f9))], [(a19, .inl (kA 0, 48, .inl f10))], [(a7, .inl (kA 0, 48, .inl f11))], [(a20, .inl (kA 0, 48, .inl f12))], [(a8, .inl (kA 0, 48, .inl f13))], [(a21, .inl (kA 0, 48, .inl f14))], [(a9, .inl (kA 0, 8, .inl f15))], [(a22, .inl (kA 0, 8, .inl f16))], [(a23, .inl (kA 1, 64, .inl f17))], [(a10, .inl (kA 1, 64, .inl (fun _ => 0)))], [(a11, .inl (kA 0, 8, .inl f18))], [(a24, .inl (kA 0, 8, .inl f19))], [(a25, .inl (kA 0, 24, .inl f20))], [(a26, .inl (kA 0, 576, .inl f21))]]) H := hP
  have hD : va_D A (cat [[(a0, .inr (3, [.int 0, .int 0, .int 1, .ref a1, .ref a2, .ref a3, .ref a4, .ref a5, .ref a6, .ref a7, .ref a8, .ref a9, .ref a10, .ref a11, .ref a12, .ref a13, .null, .int 0, .int 0]))], [(g 0 j, .inr (3, [.int 0, .int 0, .int 1, .ref a14, .ref a15, .ref a16, .ref a17, .ref a18, .ref a19, .ref a20, .ref a21, .ref a22, .ref a23, .ref a24, .ref a25, .ref a26, .null, .int 0, .int 0]))], [(a14, .inl (kA 1, 192, .inl (va_cpy (fun _ => 0) f0 0 0 192)))], [(a1, .inl (kA 1, 192, .inl (fun _ => 0)))], [(a2, .inl (kA 0, 24, .inl f1))], [(a15, .inl (kA 0, 24, .inl (va_cpy f1 f2 0 0 24)))], [(a3, .inl (kA 0, 24, .inl f3))], [(a16, .inl (kA 0, 24, .inl (va_cpy f3 f4 0 0 24)))], [(a4, .inl (kA 0, 24, .inl f5))], [(a17, .inl (kA 0, 24, .inl (va_cpy f5 f6 0 0 24)))], [(a5, .inl (kA 0, 48, .inl f7))], [(a18, .inl (kA 0, 48, .inl (va_cpy f7 f8 0 0 48)))], [(a6, .inl (kA 0, 48, .inl f9))], [(a19, .inl (kA 0, 48, .inl f10))], [(a7, .inl (kA 0, 48, .inl f11))], [(a20, .inl (kA 0, 48, .inl f12))], [(a8, .inl (kA 0, 48, .inl f13))], [(a21, .inl (kA 0, 48, .inl f14))], [(a9, .inl (kA 0, 8, .inl f15))], [(a22, .inl (kA 0, 8, .inl f16))], [(a23, .inl (kA 1, 64, .inl f17))], [(a10, .inl (kA 1, 64, .inl (fun _ => 0)))], [(a11, .inl (kA 0, 8, .inl f18))], [(a24, .inl (kA 0, 8, .inl f19))], [(a25, .inl (kA 0, 24, .inl f20))], [(a26, .inl (kA 0, 576, .inl f21))]]) := hD
  refine lv_aload_n (pc := 112) hx hb d_Gr_copyFrom_112 rfl (lv_at hl 1 rfl) ?_
  refine k_get (pc := 113) X hK hP 0 rfl rfl i_Gr 8 (by decide) wm_107 rfl rfl d_Gr_copyFrom_113 ?_
  refine lv_iconst (pc := 116) (v := 0) hx hb d_Gr_copyFrom_116 (by decide) ?_
  refine lv_aload_n (pc := 117) hx hb d_Gr_copyFrom_117 rfl (lv_at hl 0 rfl) ?_
  refine k_get (pc := 118) X hK hP 1 rfl rfl i_Gr 8 (by decide) wm_107 rfl rfl d_Gr_copyFrom_118 ?_
  refine lv_iconst (pc := 121) (v := 0) hx hb d_Gr_copyFrom_121 (by decide) ?_
  refine lv_bipush (pc := 122) (v := 48) hx hb d_Gr_copyFrom_122 (by decide) ?_
  refine k_cpy (pc := 124) hx hb (hml.trans hl.1.symm) hown (hts _ wm_748) (hts _ wm_750) (hts _ wm_749) (hts _ wm_15) hK hP hD hS 12 13 0 0 rfl rfl rfl rfl rfl 0 0 48 (by decide) (by decide) (by decide) (by decide) (by decide) (by decide) (Nat.le_of_ble_eq_true rfl) (Nat.le_of_ble_eq_true rfl) (fun i hi => rfl) (Nat.le_of_ble_eq_true rfl) (ac_room (Nat.le_of_ble_eq_true rfl)) d_Gr_copyFrom_124 (fun H locs hP hD hS => ?_)
  have hP : va_P D classes (cat [[(a0, .inr (3, [.int 0, .int 0, .int 1, .ref a1, .ref a2, .ref a3, .ref a4, .ref a5, .ref a6, .ref a7, .ref a8, .ref a9, .ref a10, .ref a11, .ref a12, .ref a13, .null, .int 0, .int 0]))], [(g 0 j, .inr (3, [.int 0, .int 0, .int 1, .ref a14, .ref a15, .ref a16, .ref a17, .ref a18, .ref a19, .ref a20, .ref a21, .ref a22, .ref a23, .ref a24, .ref a25, .ref a26, .null, .int 0, .int 0]))], [(a14, .inl (kA 1, 192, .inl (va_cpy (fun _ => 0) f0 0 0 192)))], [(a1, .inl (kA 1, 192, .inl (fun _ => 0)))], [(a2, .inl (kA 0, 24, .inl f1))], [(a15, .inl (kA 0, 24, .inl (va_cpy f1 f2 0 0 24)))], [(a3, .inl (kA 0, 24, .inl f3))], [(a16, .inl (kA 0, 24, .inl (va_cpy f3 f4 0 0 24)))], [(a4, .inl (kA 0, 24, .inl f5))], [(a17, .inl (kA 0, 24, .inl (va_cpy f5 f6 0 0 24)))], [(a5, .inl (kA 0, 48, .inl f7))], [(a18, .inl (kA 0, 48, .inl (va_cpy f7 f8 0 0 48)))], [(a6, .inl (kA 0, 48, .inl f9))], [(a19, .inl (kA 0, 48, .inl (va_cpy f9 f10 0 0 48)))], [(a7, .inl (kA 0, 48, .inl f11))], [(a20, .inl (kA 0, 48, .inl f12))], [(a8, .inl (kA 0, 48, .inl f13))], [(a21, .inl (kA 0, 48, .inl f14))], [(a9, .inl (kA 0, 8, .inl f15))], [(a22, .inl (kA 0, 8, .inl f16))], [(a23, .inl (kA 1, 64, .inl f17))], [(a10, .inl (kA 1, 64, .inl (fun _ => 0)))], [(a11, .inl (kA 0, 8, .inl f18))], [(a24, .inl (kA 0, 8, .inl f19))], [(a25, .inl (kA 0, 24, .inl f20))], [(a26, .inl (kA 0, 576, .inl f21))]]) H := hP
  have hD : va_D A (cat [[(a0, .inr (3, [.int 0, .int 0, .int 1, .ref a1, .ref a2, .ref a3, .ref a4, .ref a5, .ref a6, .ref a7, .ref a8, .ref a9, .ref a10, .ref a11, .ref a12, .ref a13, .null, .int 0, .int 0]))], [(g 0 j, .inr (3, [.int 0, .int 0, .int 1, .ref a14, .ref a15, .ref a16, .ref a17, .ref a18, .ref a19, .ref a20, .ref a21, .ref a22, .ref a23, .ref a24, .ref a25, .ref a26, .null, .int 0, .int 0]))], [(a14, .inl (kA 1, 192, .inl (va_cpy (fun _ => 0) f0 0 0 192)))], [(a1, .inl (kA 1, 192, .inl (fun _ => 0)))], [(a2, .inl (kA 0, 24, .inl f1))], [(a15, .inl (kA 0, 24, .inl (va_cpy f1 f2 0 0 24)))], [(a3, .inl (kA 0, 24, .inl f3))], [(a16, .inl (kA 0, 24, .inl (va_cpy f3 f4 0 0 24)))], [(a4, .inl (kA 0, 24, .inl f5))], [(a17, .inl (kA 0, 24, .inl (va_cpy f5 f6 0 0 24)))], [(a5, .inl (kA 0, 48, .inl f7))], [(a18, .inl (kA 0, 48, .inl (va_cpy f7 f8 0 0 48)))], [(a6, .inl (kA 0, 48, .inl f9))], [(a19, .inl (kA 0, 48, .inl (va_cpy f9 f10 0 0 48)))], [(a7, .inl (kA 0, 48, .inl f11))], [(a20, .inl (kA 0, 48, .inl f12))], [(a8, .inl (kA 0, 48, .inl f13))], [(a21, .inl (kA 0, 48, .inl f14))], [(a9, .inl (kA 0, 8, .inl f15))], [(a22, .inl (kA 0, 8, .inl f16))], [(a23, .inl (kA 1, 64, .inl f17))], [(a10, .inl (kA 1, 64, .inl (fun _ => 0)))], [(a11, .inl (kA 0, 8, .inl f18))], [(a24, .inl (kA 0, 8, .inl f19))], [(a25, .inl (kA 0, 24, .inl f20))], [(a26, .inl (kA 0, 576, .inl f21))]]) := hD
  refine lv_aload_n (pc := 127) hx hb d_Gr_copyFrom_127 rfl (lv_at hl 1 rfl) ?_
  refine k_get (pc := 128) X hK hP 0 rfl rfl i_Gr 9 (by decide) wm_118 rfl rfl d_Gr_copyFrom_128 ?_
  refine lv_iconst (pc := 131) (v := 0) hx hb d_Gr_copyFrom_131 (by decide) ?_
  refine lv_aload_n (pc := 132) hx hb d_Gr_copyFrom_132 rfl (lv_at hl 0 rfl) ?_
  refine k_get (pc := 133) X hK hP 1 rfl rfl i_Gr 9 (by decide) wm_118 rfl rfl d_Gr_copyFrom_133 ?_
  refine lv_iconst (pc := 136) (v := 0) hx hb d_Gr_copyFrom_136 (by decide) ?_
  refine lv_bipush (pc := 137) (v := 48) hx hb d_Gr_copyFrom_137 (by decide) ?_
  refine k_cpy (pc := 139) hx hb (hml.trans hl.1.symm) hown (hts _ wm_748) (hts _ wm_750) (hts _ wm_749) (hts _ wm_15) hK hP hD hS 14 15 0 0 rfl rfl rfl rfl rfl 0 0 48 (by decide) (by decide) (by decide) (by decide) (by decide) (by decide) (Nat.le_of_ble_eq_true rfl) (Nat.le_of_ble_eq_true rfl) (fun i hi => rfl) (Nat.le_of_ble_eq_true rfl) (ac_room (Nat.le_of_ble_eq_true rfl)) d_Gr_copyFrom_139 (fun H locs hP hD hS => ?_)
  have hP : va_P D classes (cat [[(a0, .inr (3, [.int 0, .int 0, .int 1, .ref a1, .ref a2, .ref a3, .ref a4, .ref a5, .ref a6, .ref a7, .ref a8, .ref a9, .ref a10, .ref a11, .ref a12, .ref a13, .null, .int 0, .int 0]))], [(g 0 j, .inr (3, [.int 0, .int 0, .int 1, .ref a14, .ref a15, .ref a16, .ref a17, .ref a18, .ref a19, .ref a20, .ref a21, .ref a22, .ref a23, .ref a24, .ref a25, .ref a26, .null, .int 0, .int 0]))], [(a14, .inl (kA 1, 192, .inl (va_cpy (fun _ => 0) f0 0 0 192)))], [(a1, .inl (kA 1, 192, .inl (fun _ => 0)))], [(a2, .inl (kA 0, 24, .inl f1))], [(a15, .inl (kA 0, 24, .inl (va_cpy f1 f2 0 0 24)))], [(a3, .inl (kA 0, 24, .inl f3))], [(a16, .inl (kA 0, 24, .inl (va_cpy f3 f4 0 0 24)))], [(a4, .inl (kA 0, 24, .inl f5))], [(a17, .inl (kA 0, 24, .inl (va_cpy f5 f6 0 0 24)))], [(a5, .inl (kA 0, 48, .inl f7))], [(a18, .inl (kA 0, 48, .inl (va_cpy f7 f8 0 0 48)))], [(a6, .inl (kA 0, 48, .inl f9))], [(a19, .inl (kA 0, 48, .inl (va_cpy f9 f10 0 0 48)))], [(a7, .inl (kA 0, 48, .inl f11))], [(a20, .inl (kA 0, 48, .inl (va_cpy f11 f12 0 0 48)))], [(a8, .inl (kA 0, 48, .inl f13))], [(a21, .inl (kA 0, 48, .inl f14))], [(a9, .inl (kA 0, 8, .inl f15))], [(a22, .inl (kA 0, 8, .inl f16))], [(a23, .inl (kA 1, 64, .inl f17))], [(a10, .inl (kA 1, 64, .inl (fun _ => 0)))], [(a11, .inl (kA 0, 8, .inl f18))], [(a24, .inl (kA 0, 8, .inl f19))], [(a25, .inl (kA 0, 24, .inl f20))], [(a26, .inl (kA 0, 576, .inl f21))]]) H := hP
  have hD : va_D A (cat [[(a0, .inr (3, [.int 0, .int 0, .int 1, .ref a1, .ref a2, .ref a3, .ref a4, .ref a5, .ref a6, .ref a7, .ref a8, .ref a9, .ref a10, .ref a11, .ref a12, .ref a13, .null, .int 0, .int 0]))], [(g 0 j, .inr (3, [.int 0, .int 0, .int 1, .ref a14, .ref a15, .ref a16, .ref a17, .ref a18, .ref a19, .ref a20, .ref a21, .ref a22, .ref a23, .ref a24, .ref a25, .ref a26, .null, .int 0, .int 0]))], [(a14, .inl (kA 1, 192, .inl (va_cpy (fun _ => 0) f0 0 0 192)))], [(a1, .inl (kA 1, 192, .inl (fun _ => 0)))], [(a2, .inl (kA 0, 24, .inl f1))], [(a15, .inl (kA 0, 24, .inl (va_cpy f1 f2 0 0 24)))], [(a3, .inl (kA 0, 24, .inl f3))], [(a16, .inl (kA 0, 24, .inl (va_cpy f3 f4 0 0 24)))], [(a4, .inl (kA 0, 24, .inl f5))], [(a17, .inl (kA 0, 24, .inl (va_cpy f5 f6 0 0 24)))], [(a5, .inl (kA 0, 48, .inl f7))], [(a18, .inl (kA 0, 48, .inl (va_cpy f7 f8 0 0 48)))], [(a6, .inl (kA 0, 48, .inl f9))], [(a19, .inl (kA 0, 48, .inl (va_cpy f9 f10 0 0 48)))], [(a7, .inl (kA 0, 48, .inl f11))], [(a20, .inl (kA 0, 48, .inl (va_cpy f11 f12 0 0 48)))], [(a8, .inl (kA 0, 48, .inl f13))], [(a21, .inl (kA 0, 48, .inl f14))], [(a9, .inl (kA 0, 8, .inl f15))], [(a22, .inl (kA 0, 8, .inl f16))], [(a23, .inl (kA 1, 64, .inl f17))], [(a10, .inl (kA 1, 64, .inl (fun _ => 0)))], [(a11, .inl (kA 0, 8, .inl f18))], [(a24, .inl (kA 0, 8, .inl f19))], [(a25, .inl (kA 0, 24, .inl f20))], [(a26, .inl (kA 0, 576, .inl f21))]]) := hD
  refine lv_aload_n (pc := 142) hx hb d_Gr_copyFrom_142 rfl (lv_at hl 1 rfl) ?_
  refine k_get (pc := 143) X hK hP 0 rfl rfl i_Gr 10 (by decide) wm_126 rfl rfl d_Gr_copyFrom_143 ?_
  refine lv_iconst (pc := 146) (v := 0) hx hb d_Gr_copyFrom_146 (by decide) ?_
  refine lv_aload_n (pc := 147) hx hb d_Gr_copyFrom_147 rfl (lv_at hl 0 rfl) ?_
  refine k_get (pc := 148) X hK hP 1 rfl rfl i_Gr 10 (by decide) wm_126 rfl rfl d_Gr_copyFrom_148 ?_
  refine lv_iconst (pc := 151) (v := 0) hx hb d_Gr_copyFrom_151 (by decide) ?_
  refine lv_bipush (pc := 152) (v := 48) hx hb d_Gr_copyFrom_152 (by decide) ?_
  refine k_cpy (pc := 154) hx hb (hml.trans hl.1.symm) hown (hts _ wm_748) (hts _ wm_750) (hts _ wm_749) (hts _ wm_15) hK hP hD hS 16 17 0 0 rfl rfl rfl rfl rfl 0 0 48 (by decide) (by decide) (by decide) (by decide) (by decide) (by decide) (Nat.le_of_ble_eq_true rfl) (Nat.le_of_ble_eq_true rfl) (fun i hi => rfl) (Nat.le_of_ble_eq_true rfl) (ac_room (Nat.le_of_ble_eq_true rfl)) d_Gr_copyFrom_154 (fun H locs hP hD hS => ?_)
  have hP : va_P D classes (cat [[(a0, .inr (3, [.int 0, .int 0, .int 1, .ref a1, .ref a2, .ref a3, .ref a4, .ref a5, .ref a6, .ref a7, .ref a8, .ref a9, .ref a10, .ref a11, .ref a12, .ref a13, .null, .int 0, .int 0]))], [(g 0 j, .inr (3, [.int 0, .int 0, .int 1, .ref a14, .ref a15, .ref a16, .ref a17, .ref a18, .ref a19, .ref a20, .ref a21, .ref a22, .ref a23, .ref a24, .ref a25, .ref a26, .null, .int 0, .int 0]))], [(a14, .inl (kA 1, 192, .inl (va_cpy (fun _ => 0) f0 0 0 192)))], [(a1, .inl (kA 1, 192, .inl (fun _ => 0)))], [(a2, .inl (kA 0, 24, .inl f1))], [(a15, .inl (kA 0, 24, .inl (va_cpy f1 f2 0 0 24)))], [(a3, .inl (kA 0, 24, .inl f3))], [(a16, .inl (kA 0, 24, .inl (va_cpy f3 f4 0 0 24)))], [(a4, .inl (kA 0, 24, .inl f5))], [(a17, .inl (kA 0, 24, .inl (va_cpy f5 f6 0 0 24)))], [(a5, .inl (kA 0, 48, .inl f7))], [(a18, .inl (kA 0, 48, .inl (va_cpy f7 f8 0 0 48)))], [(a6, .inl (kA 0, 48, .inl f9))], [(a19, .inl (kA 0, 48, .inl (va_cpy f9 f10 0 0 48)))], [(a7, .inl (kA 0, 48, .inl f11))], [(a20, .inl (kA 0, 48, .inl (va_cpy f11 f12 0 0 48)))], [(a8, .inl (kA 0, 48, .inl f13))], [(a21, .inl (kA 0, 48, .inl (va_cpy f13 f14 0 0 48)))], [(a9, .inl (kA 0, 8, .inl f15))], [(a22, .inl (kA 0, 8, .inl f16))], [(a23, .inl (kA 1, 64, .inl f17))], [(a10, .inl (kA 1, 64, .inl (fun _ => 0)))], [(a11, .inl (kA 0, 8, .inl f18))], [(a24, .inl (kA 0, 8, .inl f19))], [(a25, .inl (kA 0, 24, .inl f20))], [(a26, .inl (kA 0, 576, .inl f21))]]) H := hP
  have hD : va_D A (cat [[(a0, .inr (3, [.int 0, .int 0, .int 1, .ref a1, .ref a2, .ref a3, .ref a4, .ref a5, .ref a6, .ref a7, .ref a8, .ref a9, .ref a10, .ref a11, .ref a12, .ref a13, .null, .int 0, .int 0]))], [(g 0 j, .inr (3, [.int 0, .int 0, .int 1, .ref a14, .ref a15, .ref a16, .ref a17, .ref a18, .ref a19, .ref a20, .ref a21, .ref a22, .ref a23, .ref a24, .ref a25, .ref a26, .null, .int 0, .int 0]))], [(a14, .inl (kA 1, 192, .inl (va_cpy (fun _ => 0) f0 0 0 192)))], [(a1, .inl (kA 1, 192, .inl (fun _ => 0)))], [(a2, .inl (kA 0, 24, .inl f1))], [(a15, .inl (kA 0, 24, .inl (va_cpy f1 f2 0 0 24)))], [(a3, .inl (kA 0, 24, .inl f3))], [(a16, .inl (kA 0, 24, .inl (va_cpy f3 f4 0 0 24)))], [(a4, .inl (kA 0, 24, .inl f5))], [(a17, .inl (kA 0, 24, .inl (va_cpy f5 f6 0 0 24)))], [(a5, .inl (kA 0, 48, .inl f7))], [(a18, .inl (kA 0, 48, .inl (va_cpy f7 f8 0 0 48)))], [(a6, .inl (kA 0, 48, .inl f9))], [(a19, .inl (kA 0, 48, .inl (va_cpy f9 f10 0 0 48)))], [(a7, .inl (kA 0, 48, .inl f11))], [(a20, .inl (kA 0, 48, .inl (va_cpy f11 f12 0 0 48)))], [(a8, .inl (kA 0, 48, .inl f13))], [(a21, .inl (kA 0, 48, .inl (va_cpy f13 f14 0 0 48)))], [(a9, .inl (kA 0, 8, .inl f15))], [(a22, .inl (kA 0, 8, .inl f16))], [(a23, .inl (kA 1, 64, .inl f17))], [(a10, .inl (kA 1, 64, .inl (fun _ => 0)))], [(a11, .inl (kA 0, 8, .inl f18))], [(a24, .inl (kA 0, 8, .inl f19))], [(a25, .inl (kA 0, 24, .inl f20))], [(a26, .inl (kA 0, 576, .inl f21))]]) := hD
  refine lv_aload_n (pc := 157) hx hb d_Gr_copyFrom_157 rfl (lv_at hl 1 rfl) ?_
  refine k_get (pc := 158) X hK hP 0 rfl rfl i_Gr 11 (by decide) wm_130 rfl rfl d_Gr_copyFrom_158 ?_
  refine lv_iconst (pc := 161) (v := 0) hx hb d_Gr_copyFrom_161 (by decide) ?_
  refine lv_aload_n (pc := 162) hx hb d_Gr_copyFrom_162 rfl (lv_at hl 0 rfl) ?_
  refine k_get (pc := 163) X hK hP 1 rfl rfl i_Gr 11 (by decide) wm_130 rfl rfl d_Gr_copyFrom_163 ?_
  refine lv_iconst (pc := 166) (v := 0) hx hb d_Gr_copyFrom_166 (by decide) ?_
  refine lv_bipush (pc := 167) (v := 8) hx hb d_Gr_copyFrom_167 (by decide) ?_
  refine k_cpy (pc := 169) hx hb (hml.trans hl.1.symm) hown (hts _ wm_748) (hts _ wm_750) (hts _ wm_749) (hts _ wm_15) hK hP hD hS 18 19 0 0 rfl rfl rfl rfl rfl 0 0 8 (by decide) (by decide) (by decide) (by decide) (by decide) (by decide) (Nat.le_of_ble_eq_true rfl) (Nat.le_of_ble_eq_true rfl) (fun i hi => rfl) (Nat.le_of_ble_eq_true rfl) (ac_room (Nat.le_of_ble_eq_true rfl)) d_Gr_copyFrom_169 (fun H locs hP hD hS => ?_)
  have hP : va_P D classes (cat [[(a0, .inr (3, [.int 0, .int 0, .int 1, .ref a1, .ref a2, .ref a3, .ref a4, .ref a5, .ref a6, .ref a7, .ref a8, .ref a9, .ref a10, .ref a11, .ref a12, .ref a13, .null, .int 0, .int 0]))], [(g 0 j, .inr (3, [.int 0, .int 0, .int 1, .ref a14, .ref a15, .ref a16, .ref a17, .ref a18, .ref a19, .ref a20, .ref a21, .ref a22, .ref a23, .ref a24, .ref a25, .ref a26, .null, .int 0, .int 0]))], [(a14, .inl (kA 1, 192, .inl (va_cpy (fun _ => 0) f0 0 0 192)))], [(a1, .inl (kA 1, 192, .inl (fun _ => 0)))], [(a2, .inl (kA 0, 24, .inl f1))], [(a15, .inl (kA 0, 24, .inl (va_cpy f1 f2 0 0 24)))], [(a3, .inl (kA 0, 24, .inl f3))], [(a16, .inl (kA 0, 24, .inl (va_cpy f3 f4 0 0 24)))], [(a4, .inl (kA 0, 24, .inl f5))], [(a17, .inl (kA 0, 24, .inl (va_cpy f5 f6 0 0 24)))], [(a5, .inl (kA 0, 48, .inl f7))], [(a18, .inl (kA 0, 48, .inl (va_cpy f7 f8 0 0 48)))], [(a6, .inl (kA 0, 48, .inl f9))], [(a19, .inl (kA 0, 48, .inl (va_cpy f9 f10 0 0 48)))], [(a7, .inl (kA 0, 48, .inl f11))], [(a20, .inl (kA 0, 48, .inl (va_cpy f11 f12 0 0 48)))], [(a8, .inl (kA 0, 48, .inl f13))], [(a21, .inl (kA 0, 48, .inl (va_cpy f13 f14 0 0 48)))], [(a9, .inl (kA 0, 8, .inl f15))], [(a22, .inl (kA 0, 8, .inl (va_cpy f15 f16 0 0 8)))], [(a23, .inl (kA 1, 64, .inl f17))], [(a10, .inl (kA 1, 64, .inl (fun _ => 0)))], [(a11, .inl (kA 0, 8, .inl f18))], [(a24, .inl (kA 0, 8, .inl f19))], [(a25, .inl (kA 0, 24, .inl f20))], [(a26, .inl (kA 0, 576, .inl f21))]]) H := hP
  have hD : va_D A (cat [[(a0, .inr (3, [.int 0, .int 0, .int 1, .ref a1, .ref a2, .ref a3, .ref a4, .ref a5, .ref a6, .ref a7, .ref a8, .ref a9, .ref a10, .ref a11, .ref a12, .ref a13, .null, .int 0, .int 0]))], [(g 0 j, .inr (3, [.int 0, .int 0, .int 1, .ref a14, .ref a15, .ref a16, .ref a17, .ref a18, .ref a19, .ref a20, .ref a21, .ref a22, .ref a23, .ref a24, .ref a25, .ref a26, .null, .int 0, .int 0]))], [(a14, .inl (kA 1, 192, .inl (va_cpy (fun _ => 0) f0 0 0 192)))], [(a1, .inl (kA 1, 192, .inl (fun _ => 0)))], [(a2, .inl (kA 0, 24, .inl f1))], [(a15, .inl (kA 0, 24, .inl (va_cpy f1 f2 0 0 24)))], [(a3, .inl (kA 0, 24, .inl f3))], [(a16, .inl (kA 0, 24, .inl (va_cpy f3 f4 0 0 24)))], [(a4, .inl (kA 0, 24, .inl f5))], [(a17, .inl (kA 0, 24, .inl (va_cpy f5 f6 0 0 24)))], [(a5, .inl (kA 0, 48, .inl f7))], [(a18, .inl (kA 0, 48, .inl (va_cpy f7 f8 0 0 48)))], [(a6, .inl (kA 0, 48, .inl f9))], [(a19, .inl (kA 0, 48, .inl (va_cpy f9 f10 0 0 48)))], [(a7, .inl (kA 0, 48, .inl f11))], [(a20, .inl (kA 0, 48, .inl (va_cpy f11 f12 0 0 48)))], [(a8, .inl (kA 0, 48, .inl f13))], [(a21, .inl (kA 0, 48, .inl (va_cpy f13 f14 0 0 48)))], [(a9, .inl (kA 0, 8, .inl f15))], [(a22, .inl (kA 0, 8, .inl (va_cpy f15 f16 0 0 8)))], [(a23, .inl (kA 1, 64, .inl f17))], [(a10, .inl (kA 1, 64, .inl (fun _ => 0)))], [(a11, .inl (kA 0, 8, .inl f18))], [(a24, .inl (kA 0, 8, .inl f19))], [(a25, .inl (kA 0, 24, .inl f20))], [(a26, .inl (kA 0, 576, .inl f21))]]) := hD
  refine lv_aload_n (pc := 172) hx hb d_Gr_copyFrom_172 rfl (lv_at hl 1 rfl) ?_
  refine k_get (pc := 173) X hK hP 0 rfl rfl i_Gr 12 (by decide) wm_134 rfl rfl d_Gr_copyFrom_173 ?_
  refine lv_iconst (pc := 176) (v := 0) hx hb d_Gr_copyFrom_176 (by decide) ?_
  refine lv_aload_n (pc := 177) hx hb d_Gr_copyFrom_177 rfl (lv_at hl 0 rfl) ?_
  refine k_get (pc := 178) X hK hP 1 rfl rfl i_Gr 12 (by decide) wm_134 rfl rfl d_Gr_copyFrom_178 ?_
  refine lv_iconst (pc := 181) (v := 0) hx hb d_Gr_copyFrom_181 (by decide) ?_
  refine lv_aload_n (pc := 182) hx hb d_Gr_copyFrom_182 rfl (lv_at hl 0 rfl) ?_
  refine k_get (pc := 183) X hK hP 1 rfl rfl i_Gr 12 (by decide) wm_134 rfl rfl d_Gr_copyFrom_183 ?_
  refine va_alen (pc := 186) (v := 64) hx hb hK hP 20 1 rfl rfl (by rfl) d_Gr_copyFrom_186 ?_
  refine k_cpy (pc := 187) hx hb (hml.trans hl.1.symm) hown (hts _ wm_748) (hts _ wm_750) (hts _ wm_749) (hts _ wm_15) hK hP hD hS 21 20 1 1 rfl rfl rfl rfl rfl 0 0 64 (by decide) (by decide) (by decide) (by decide) (by decide) (by decide) (Nat.le_of_ble_eq_true rfl) (Nat.le_of_ble_eq_true rfl) (fun i hi => rfl) (Nat.le_of_ble_eq_true rfl) (ac_room (Nat.le_of_ble_eq_true rfl)) d_Gr_copyFrom_187 (fun H locs hP hD hS => ?_)
  have hP : va_P D classes (cat [[(a0, .inr (3, [.int 0, .int 0, .int 1, .ref a1, .ref a2, .ref a3, .ref a4, .ref a5, .ref a6, .ref a7, .ref a8, .ref a9, .ref a10, .ref a11, .ref a12, .ref a13, .null, .int 0, .int 0]))], [(g 0 j, .inr (3, [.int 0, .int 0, .int 1, .ref a14, .ref a15, .ref a16, .ref a17, .ref a18, .ref a19, .ref a20, .ref a21, .ref a22, .ref a23, .ref a24, .ref a25, .ref a26, .null, .int 0, .int 0]))], [(a14, .inl (kA 1, 192, .inl (va_cpy (fun _ => 0) f0 0 0 192)))], [(a1, .inl (kA 1, 192, .inl (fun _ => 0)))], [(a2, .inl (kA 0, 24, .inl f1))], [(a15, .inl (kA 0, 24, .inl (va_cpy f1 f2 0 0 24)))], [(a3, .inl (kA 0, 24, .inl f3))], [(a16, .inl (kA 0, 24, .inl (va_cpy f3 f4 0 0 24)))], [(a4, .inl (kA 0, 24, .inl f5))], [(a17, .inl (kA 0, 24, .inl (va_cpy f5 f6 0 0 24)))], [(a5, .inl (kA 0, 48, .inl f7))], [(a18, .inl (kA 0, 48, .inl (va_cpy f7 f8 0 0 48)))], [(a6, .inl (kA 0, 48, .inl f9))], [(a19, .inl (kA 0, 48, .inl (va_cpy f9 f10 0 0 48)))], [(a7, .inl (kA 0, 48, .inl f11))], [(a20, .inl (kA 0, 48, .inl (va_cpy f11 f12 0 0 48)))], [(a8, .inl (kA 0, 48, .inl f13))], [(a21, .inl (kA 0, 48, .inl (va_cpy f13 f14 0 0 48)))], [(a9, .inl (kA 0, 8, .inl f15))], [(a22, .inl (kA 0, 8, .inl (va_cpy f15 f16 0 0 8)))], [(a23, .inl (kA 1, 64, .inl (va_cpy (fun _ => 0) f17 0 0 64)))], [(a10, .inl (kA 1, 64, .inl (fun _ => 0)))], [(a11, .inl (kA 0, 8, .inl f18))], [(a24, .inl (kA 0, 8, .inl f19))], [(a25, .inl (kA 0, 24, .inl f20))], [(a26, .inl (kA 0, 576, .inl f21))]]) H := hP
  have hD : va_D A (cat [[(a0, .inr (3, [.int 0, .int 0, .int 1, .ref a1, .ref a2, .ref a3, .ref a4, .ref a5, .ref a6, .ref a7, .ref a8, .ref a9, .ref a10, .ref a11, .ref a12, .ref a13, .null, .int 0, .int 0]))], [(g 0 j, .inr (3, [.int 0, .int 0, .int 1, .ref a14, .ref a15, .ref a16, .ref a17, .ref a18, .ref a19, .ref a20, .ref a21, .ref a22, .ref a23, .ref a24, .ref a25, .ref a26, .null, .int 0, .int 0]))], [(a14, .inl (kA 1, 192, .inl (va_cpy (fun _ => 0) f0 0 0 192)))], [(a1, .inl (kA 1, 192, .inl (fun _ => 0)))], [(a2, .inl (kA 0, 24, .inl f1))], [(a15, .inl (kA 0, 24, .inl (va_cpy f1 f2 0 0 24)))], [(a3, .inl (kA 0, 24, .inl f3))], [(a16, .inl (kA 0, 24, .inl (va_cpy f3 f4 0 0 24)))], [(a4, .inl (kA 0, 24, .inl f5))], [(a17, .inl (kA 0, 24, .inl (va_cpy f5 f6 0 0 24)))], [(a5, .inl (kA 0, 48, .inl f7))], [(a18, .inl (kA 0, 48, .inl (va_cpy f7 f8 0 0 48)))], [(a6, .inl (kA 0, 48, .inl f9))], [(a19, .inl (kA 0, 48, .inl (va_cpy f9 f10 0 0 48)))], [(a7, .inl (kA 0, 48, .inl f11))], [(a20, .inl (kA 0, 48, .inl (va_cpy f11 f12 0 0 48)))], [(a8, .inl (kA 0, 48, .inl f13))], [(a21, .inl (kA 0, 48, .inl (va_cpy f13 f14 0 0 48)))], [(a9, .inl (kA 0, 8, .inl f15))], [(a22, .inl (kA 0, 8, .inl (va_cpy f15 f16 0 0 8)))], [(a23, .inl (kA 1, 64, .inl (va_cpy (fun _ => 0) f17 0 0 64)))], [(a10, .inl (kA 1, 64, .inl (fun _ => 0)))], [(a11, .inl (kA 0, 8, .inl f18))], [(a24, .inl (kA 0, 8, .inl f19))], [(a25, .inl (kA 0, 24, .inl f20))], [(a26, .inl (kA 0, 576, .inl f21))]]) := hD
  refine lv_aload_n (pc := 190) hx hb d_Gr_copyFrom_190 rfl (lv_at hl 1 rfl) ?_
  refine k_get (pc := 191) X hK hP 0 rfl rfl i_Gr 13 (by decide) wm_137 rfl rfl d_Gr_copyFrom_191 ?_
  refine lv_iconst (pc := 194) (v := 0) hx hb d_Gr_copyFrom_194 (by decide) ?_
  refine lv_aload_n (pc := 195) hx hb d_Gr_copyFrom_195 rfl (lv_at hl 0 rfl) ?_
  refine k_get (pc := 196) X hK hP 1 rfl rfl i_Gr 13 (by decide) wm_137 rfl rfl d_Gr_copyFrom_196 ?_
  refine lv_iconst (pc := 199) (v := 0) hx hb d_Gr_copyFrom_199 (by decide) ?_
  refine lv_bipush (pc := 200) (v := 8) hx hb d_Gr_copyFrom_200 (by decide) ?_
  refine k_cpy (pc := 202) hx hb (hml.trans hl.1.symm) hown (hts _ wm_748) (hts _ wm_750) (hts _ wm_749) (hts _ wm_15) hK hP hD hS 22 23 0 0 rfl rfl rfl rfl rfl 0 0 8 (by decide) (by decide) (by decide) (by decide) (by decide) (by decide) (Nat.le_of_ble_eq_true rfl) (Nat.le_of_ble_eq_true rfl) (fun i hi => rfl) (Nat.le_of_ble_eq_true rfl) (ac_room (Nat.le_of_ble_eq_true rfl)) d_Gr_copyFrom_202 (fun H locs hP hD hS => ?_)
  have hP : va_P D classes (cat [[(a0, .inr (3, [.int 0, .int 0, .int 1, .ref a1, .ref a2, .ref a3, .ref a4, .ref a5, .ref a6, .ref a7, .ref a8, .ref a9, .ref a10, .ref a11, .ref a12, .ref a13, .null, .int 0, .int 0]))], [(g 0 j, .inr (3, [.int 0, .int 0, .int 1, .ref a14, .ref a15, .ref a16, .ref a17, .ref a18, .ref a19, .ref a20, .ref a21, .ref a22, .ref a23, .ref a24, .ref a25, .ref a26, .null, .int 0, .int 0]))], [(a14, .inl (kA 1, 192, .inl (va_cpy (fun _ => 0) f0 0 0 192)))], [(a1, .inl (kA 1, 192, .inl (fun _ => 0)))], [(a2, .inl (kA 0, 24, .inl f1))], [(a15, .inl (kA 0, 24, .inl (va_cpy f1 f2 0 0 24)))], [(a3, .inl (kA 0, 24, .inl f3))], [(a16, .inl (kA 0, 24, .inl (va_cpy f3 f4 0 0 24)))], [(a4, .inl (kA 0, 24, .inl f5))], [(a17, .inl (kA 0, 24, .inl (va_cpy f5 f6 0 0 24)))], [(a5, .inl (kA 0, 48, .inl f7))], [(a18, .inl (kA 0, 48, .inl (va_cpy f7 f8 0 0 48)))], [(a6, .inl (kA 0, 48, .inl f9))], [(a19, .inl (kA 0, 48, .inl (va_cpy f9 f10 0 0 48)))], [(a7, .inl (kA 0, 48, .inl f11))], [(a20, .inl (kA 0, 48, .inl (va_cpy f11 f12 0 0 48)))], [(a8, .inl (kA 0, 48, .inl f13))], [(a21, .inl (kA 0, 48, .inl (va_cpy f13 f14 0 0 48)))], [(a9, .inl (kA 0, 8, .inl f15))], [(a22, .inl (kA 0, 8, .inl (va_cpy f15 f16 0 0 8)))], [(a23, .inl (kA 1, 64, .inl (va_cpy (fun _ => 0) f17 0 0 64)))], [(a10, .inl (kA 1, 64, .inl (fun _ => 0)))], [(a11, .inl (kA 0, 8, .inl f18))], [(a24, .inl (kA 0, 8, .inl (va_cpy f18 f19 0 0 8)))], [(a25, .inl (kA 0, 24, .inl f20))], [(a26, .inl (kA 0, 576, .inl f21))]]) H := hP
  have hD : va_D A (cat [[(a0, .inr (3, [.int 0, .int 0, .int 1, .ref a1, .ref a2, .ref a3, .ref a4, .ref a5, .ref a6, .ref a7, .ref a8, .ref a9, .ref a10, .ref a11, .ref a12, .ref a13, .null, .int 0, .int 0]))], [(g 0 j, .inr (3, [.int 0, .int 0, .int 1, .ref a14, .ref a15, .ref a16, .ref a17, .ref a18, .ref a19, .ref a20, .ref a21, .ref a22, .ref a23, .ref a24, .ref a25, .ref a26, .null, .int 0, .int 0]))], [(a14, .inl (kA 1, 192, .inl (va_cpy (fun _ => 0) f0 0 0 192)))], [(a1, .inl (kA 1, 192, .inl (fun _ => 0)))], [(a2, .inl (kA 0, 24, .inl f1))], [(a15, .inl (kA 0, 24, .inl (va_cpy f1 f2 0 0 24)))], [(a3, .inl (kA 0, 24, .inl f3))], [(a16, .inl (kA 0, 24, .inl (va_cpy f3 f4 0 0 24)))], [(a4, .inl (kA 0, 24, .inl f5))], [(a17, .inl (kA 0, 24, .inl (va_cpy f5 f6 0 0 24)))], [(a5, .inl (kA 0, 48, .inl f7))], [(a18, .inl (kA 0, 48, .inl (va_cpy f7 f8 0 0 48)))], [(a6, .inl (kA 0, 48, .inl f9))], [(a19, .inl (kA 0, 48, .inl (va_cpy f9 f10 0 0 48)))], [(a7, .inl (kA 0, 48, .inl f11))], [(a20, .inl (kA 0, 48, .inl (va_cpy f11 f12 0 0 48)))], [(a8, .inl (kA 0, 48, .inl f13))], [(a21, .inl (kA 0, 48, .inl (va_cpy f13 f14 0 0 48)))], [(a9, .inl (kA 0, 8, .inl f15))], [(a22, .inl (kA 0, 8, .inl (va_cpy f15 f16 0 0 8)))], [(a23, .inl (kA 1, 64, .inl (va_cpy (fun _ => 0) f17 0 0 64)))], [(a10, .inl (kA 1, 64, .inl (fun _ => 0)))], [(a11, .inl (kA 0, 8, .inl f18))], [(a24, .inl (kA 0, 8, .inl (va_cpy f18 f19 0 0 8)))], [(a25, .inl (kA 0, 24, .inl f20))], [(a26, .inl (kA 0, 576, .inl f21))]]) := hD
  refine lv_aload_n (pc := 205) hx hb d_Gr_copyFrom_205 rfl (lv_at hl 0 rfl) ?_
  refine k_goV (gr := [[(a0, .inr (3, [.int 0, .int 0, .int 1, .ref a1, .ref a2, .ref a3, .ref a4, .ref a5, .ref a6, .ref a7, .ref a8, .ref a9, .ref a10, .ref a11, .ref a12, .ref a13, .null, .int 0, .int 0]))], [(a14, .inl (kA 1, 192, .inl (va_cpy (fun _ => 0) f0 0 0 192)))], [(a1, .inl (kA 1, 192, .inl (fun _ => 0)))], [(a2, .inl (kA 0, 24, .inl f1))], [(a15, .inl (kA 0, 24, .inl (va_cpy f1 f2 0 0 24)))], [(a3, .inl (kA 0, 24, .inl f3))], [(a16, .inl (kA 0, 24, .inl (va_cpy f3 f4 0 0 24)))], [(a4, .inl (kA 0, 24, .inl f5))], [(a17, .inl (kA 0, 24, .inl (va_cpy f5 f6 0 0 24)))], [(a5, .inl (kA 0, 48, .inl f7))], [(a18, .inl (kA 0, 48, .inl (va_cpy f7 f8 0 0 48)))], [(a6, .inl (kA 0, 48, .inl f9))], [(a19, .inl (kA 0, 48, .inl (va_cpy f9 f10 0 0 48)))], [(a7, .inl (kA 0, 48, .inl f11))], [(a20, .inl (kA 0, 48, .inl (va_cpy f11 f12 0 0 48)))], [(a8, .inl (kA 0, 48, .inl f13))], [(a21, .inl (kA 0, 48, .inl (va_cpy f13 f14 0 0 48)))], [(a9, .inl (kA 0, 8, .inl f15))], [(a22, .inl (kA 0, 8, .inl (va_cpy f15 f16 0 0 8)))], [(a23, .inl (kA 1, 64, .inl (va_cpy (fun _ => 0) f17 0 0 64)))], [(a10, .inl (kA 1, 64, .inl (fun _ => 0)))], [(a11, .inl (kA 0, 8, .inl f18))], [(a24, .inl (kA 0, 8, .inl (va_cpy f18 f19 0 0 8)))]]) (k_rV (pc := 206) (As := []) (rest := []) X (c_Gr_relink_z1 l D kA g j a14 a15 a16 a17 a18 a19 a20 a21 a22 a23 a24 a25 a26 f20 f21 hj H.size) rfl wm_785 wm_3 wm_782 wm_784 wv_1_12 0 (by decide +kernel) ⟨Nat.le_of_ble_eq_true rfl, Nat.le_of_ble_eq_true rfl⟩ rfl rfl (va_recv hK hP (ci := 3) (q0 := 1) rfl rfl) (k_pre hN hK hP hD [1, 24, 25] [0, 2, 3, 4, 5, 6, 7, 8, 9, 10, 11, 12, 13, 14, 15, 16, 17, 18, 19, 20, 21, 22, 23] 26 rfl (by decide) rfl) rfl hl.1 rfl (Nat.le_of_ble_eq_true rfl) d_Gr_copyFrom_206 ⟨Nat.le_of_ble_eq_true rfl, Nat.le_of_ble_eq_true rfl⟩) hP hD hS hA [1, 24, 25] [0, 2, 3, 4, 5, 6, 7, 8, 9, 10, 11, 12, 13, 14, 15, 16, 17, 18, 19, 20, 21, 22, 23] 26 rfl (by decide) rfl rfl (fun u1 H locs hu1 hP hD hS => ?_)
  have hP : va_P D classes (cat [[(a0, .inr (3, [.int 0, .int 0, .int 1, .ref a1, .ref a2, .ref a3, .ref a4, .ref a5, .ref a6, .ref a7, .ref a8, .ref a9, .ref a10, .ref a11, .ref a12, .ref a13, .null, .int 0, .int 0]))], [(a14, .inl (kA 1, 192, .inl (va_cpy (fun _ => 0) f0 0 0 192)))], [(a1, .inl (kA 1, 192, .inl (fun _ => 0)))], [(a2, .inl (kA 0, 24, .inl f1))], [(a15, .inl (kA 0, 24, .inl (va_cpy f1 f2 0 0 24)))], [(a3, .inl (kA 0, 24, .inl f3))], [(a16, .inl (kA 0, 24, .inl (va_cpy f3 f4 0 0 24)))], [(a4, .inl (kA 0, 24, .inl f5))], [(a17, .inl (kA 0, 24, .inl (va_cpy f5 f6 0 0 24)))], [(a5, .inl (kA 0, 48, .inl f7))], [(a18, .inl (kA 0, 48, .inl (va_cpy f7 f8 0 0 48)))], [(a6, .inl (kA 0, 48, .inl f9))], [(a19, .inl (kA 0, 48, .inl (va_cpy f9 f10 0 0 48)))], [(a7, .inl (kA 0, 48, .inl f11))], [(a20, .inl (kA 0, 48, .inl (va_cpy f11 f12 0 0 48)))], [(a8, .inl (kA 0, 48, .inl f13))], [(a21, .inl (kA 0, 48, .inl (va_cpy f13 f14 0 0 48)))], [(a9, .inl (kA 0, 8, .inl f15))], [(a22, .inl (kA 0, 8, .inl (va_cpy f15 f16 0 0 8)))], [(a23, .inl (kA 1, 64, .inl (va_cpy (fun _ => 0) f17 0 0 64)))], [(a10, .inl (kA 1, 64, .inl (fun _ => 0)))], [(a11, .inl (kA 0, 8, .inl f18))], [(a24, .inl (kA 0, 8, .inl (va_cpy f18 f19 0 0 8)))], [(g 0 j, .inr (3, [.int 0, .int 0, .int 1, .ref a14, .ref a15, .ref a16, .ref a17, .ref a18, .ref a19, .ref a20, .ref a21, .ref a22, .ref a23, .ref a24, .ref a25, .ref a26, .null, .int 0, .int 0]))], [(a25, .inl (kA 0, 24, .inl (fl f20 24 0)))], [(a26, .inl (kA 0, 576, .inl (fl f21 576 (-1))))]]) H := hP
  have hD : va_D A (cat [[(a0, .inr (3, [.int 0, .int 0, .int 1, .ref a1, .ref a2, .ref a3, .ref a4, .ref a5, .ref a6, .ref a7, .ref a8, .ref a9, .ref a10, .ref a11, .ref a12, .ref a13, .null, .int 0, .int 0]))], [(a14, .inl (kA 1, 192, .inl (va_cpy (fun _ => 0) f0 0 0 192)))], [(a1, .inl (kA 1, 192, .inl (fun _ => 0)))], [(a2, .inl (kA 0, 24, .inl f1))], [(a15, .inl (kA 0, 24, .inl (va_cpy f1 f2 0 0 24)))], [(a3, .inl (kA 0, 24, .inl f3))], [(a16, .inl (kA 0, 24, .inl (va_cpy f3 f4 0 0 24)))], [(a4, .inl (kA 0, 24, .inl f5))], [(a17, .inl (kA 0, 24, .inl (va_cpy f5 f6 0 0 24)))], [(a5, .inl (kA 0, 48, .inl f7))], [(a18, .inl (kA 0, 48, .inl (va_cpy f7 f8 0 0 48)))], [(a6, .inl (kA 0, 48, .inl f9))], [(a19, .inl (kA 0, 48, .inl (va_cpy f9 f10 0 0 48)))], [(a7, .inl (kA 0, 48, .inl f11))], [(a20, .inl (kA 0, 48, .inl (va_cpy f11 f12 0 0 48)))], [(a8, .inl (kA 0, 48, .inl f13))], [(a21, .inl (kA 0, 48, .inl (va_cpy f13 f14 0 0 48)))], [(a9, .inl (kA 0, 8, .inl f15))], [(a22, .inl (kA 0, 8, .inl (va_cpy f15 f16 0 0 8)))], [(a23, .inl (kA 1, 64, .inl (va_cpy (fun _ => 0) f17 0 0 64)))], [(a10, .inl (kA 1, 64, .inl (fun _ => 0)))], [(a11, .inl (kA 0, 8, .inl f18))], [(a24, .inl (kA 0, 8, .inl (va_cpy f18 f19 0 0 8)))], [(g 0 j, .inr (3, [.int 0, .int 0, .int 1, .ref a14, .ref a15, .ref a16, .ref a17, .ref a18, .ref a19, .ref a20, .ref a21, .ref a22, .ref a23, .ref a24, .ref a25, .ref a26, .null, .int 0, .int 0]))], [(a25, .inl (kA 0, 24, .inl (fl f20 24 0)))], [(a26, .inl (kA 0, 576, .inl (fl f21 576 (-1))))]]) := hD
  obtain ⟨hP, hD⟩ := k_ord (gc := [[(a0, .inr (3, [.int 0, .int 0, .int 1, .ref a1, .ref a2, .ref a3, .ref a4, .ref a5, .ref a6, .ref a7, .ref a8, .ref a9, .ref a10, .ref a11, .ref a12, .ref a13, .null, .int 0, .int 0]))], [(g 0 j, .inr (3, [.int 0, .int 0, .int 1, .ref a14, .ref a15, .ref a16, .ref a17, .ref a18, .ref a19, .ref a20, .ref a21, .ref a22, .ref a23, .ref a24, .ref a25, .ref a26, .null, .int 0, .int 0]))], [(a14, .inl (kA 1, 192, .inl (va_cpy (fun _ => 0) f0 0 0 192)))], [(a1, .inl (kA 1, 192, .inl (fun _ => 0)))], [(a2, .inl (kA 0, 24, .inl f1))], [(a15, .inl (kA 0, 24, .inl (va_cpy f1 f2 0 0 24)))], [(a3, .inl (kA 0, 24, .inl f3))], [(a16, .inl (kA 0, 24, .inl (va_cpy f3 f4 0 0 24)))], [(a4, .inl (kA 0, 24, .inl f5))], [(a17, .inl (kA 0, 24, .inl (va_cpy f5 f6 0 0 24)))], [(a5, .inl (kA 0, 48, .inl f7))], [(a18, .inl (kA 0, 48, .inl (va_cpy f7 f8 0 0 48)))], [(a6, .inl (kA 0, 48, .inl f9))], [(a19, .inl (kA 0, 48, .inl (va_cpy f9 f10 0 0 48)))], [(a7, .inl (kA 0, 48, .inl f11))], [(a20, .inl (kA 0, 48, .inl (va_cpy f11 f12 0 0 48)))], [(a8, .inl (kA 0, 48, .inl f13))], [(a21, .inl (kA 0, 48, .inl (va_cpy f13 f14 0 0 48)))], [(a9, .inl (kA 0, 8, .inl f15))], [(a22, .inl (kA 0, 8, .inl (va_cpy f15 f16 0 0 8)))], [(a23, .inl (kA 1, 64, .inl (va_cpy (fun _ => 0) f17 0 0 64)))], [(a10, .inl (kA 1, 64, .inl (fun _ => 0)))], [(a11, .inl (kA 0, 8, .inl f18))], [(a24, .inl (kA 0, 8, .inl (va_cpy f18 f19 0 0 8)))], [(a25, .inl (kA 0, 24, .inl (fl f20 24 0)))], [(a26, .inl (kA 0, 576, .inl (fl f21 576 (-1))))]]) hP hD [0, 23, 1, 2, 3, 4, 5, 6, 7, 8, 9, 10, 11, 12, 13, 14, 15, 16, 17, 18, 19, 20, 21, 22, 24, 25] 26 rfl (by decide) rfl
  refine W.widen (k := 0) (n := 0) (Nat.le_of_ble_eq_true rfl) (Nat.le_of_ble_eq_true rfl) ?_
  exact W.vret hx hb hr (fun t ht hW => ⟨⟨(), rfl, trivial, by rw [ht]; exact hP, va_K.moved hW.alike hK, hD⟩, hS.F ht⟩) hS.2.2 d_Gr_copyFrom_209
set_option maxRecDepth 100000 in
set_option maxHeartbeats 4000000 in
/-- DrawingHouse$Net.forget()V -/
theorem c_Ne_forget_z1 (l : Launch) (D : va_G) (kA : Nat → ClassId) (g : Nat → Nat → Nat) (j : Nat) (a0 : Nat) (a1 : Nat) (a2 : Nat) (a3 : Nat) (a4 : Nat) (a5 : Nat) (a6 : Nat) (a7 : Nat) (a8 : Nat) (a9 : Nat) (hj : j < 4) : Cv l y_Ne_forget z_Ne_forget { frames := 0, cells := 0, slots := 0, locals := 0 } D classes (TY kA) [.ref (g 2 j)] [[(g 2 j, .inr (5, [.int ((-1)), .int ((-1)), .int ((-1)), .int 0, .ref a0, .int 0, .int 0, .ref a1, .ref a2, .ref a3, .ref a4, .ref a5, .ref a6, .int 0, .ref a7, .ref a8, .ref a9]))]] (fun _ : Unit => True) (fun u => [[(g 2 j, .inr (5, [.int ((-1)), .int ((-1)), .int ((-1)), .int 0, .ref a0, .int 0, .int 0, .ref a1, .ref a2, .ref a3, .ref a4, .ref a5, .ref a6, .int 0, .ref a7, .ref a8, .ref a9]))]]) 0 0 := by
  intro sz
  refine k_met (cc := b_Ne_forget) (maxL := 1) (ret := none) (by decide) rfl (Nat.le_of_ble_eq_true rfl) (fun p e s m below meth c ls X hl hB => ?_)
  obtain ⟨hsz, hP, hK, hD0, hN⟩ := hB
  subst hsz
  have hD := hD0.self (sz := s.heap.size)
  generalize hAe : va_A (cat [[(g 2 j, .inr (5, [.int ((-1)), .int ((-1)), .int ((-1)), .int 0, .ref a0, .int 0, .int 0, .ref a1, .ref a2, .ref a3, .ref a4, .ref a5, .ref a6, .int 0, .ref a7, .ref a8, .ref a9]))]]) s.heap.size = A at hD ⊢
  have hA : ∀ q : Nat, s.heap.size ≤ q → A q := fun q h => by rw [← hAe]; exact Or.inr h
  have hS : va_S A s.heap s.heap [] := va_S.rf
  obtain ⟨hx, hb, hml, hown, hts, hr, hlk, hnm⟩ := id X
  have hl : lv_has ls 1 [(0, .ref (g 2 j))] := hl
  have hP : va_P D classes (cat [[(g 2 j, .inr (5, [.int ((-1)), .int ((-1)), .int ((-1)), .int 0, .ref a0, .int 0, .int 0, .ref a1, .ref a2, .ref a3, .ref a4, .ref a5, .ref a6, .int 0, .ref a7, .ref a8, .ref a9]))]]) s.heap := hP
  have hK : va_K D classes (TY kA) s := hK
  refine lv_aload_n (pc := 0) hx hb d_Ne_forget_0 rfl (lv_at hl 0 rfl) ?_
  refine lv_iconst (pc := 1) (v := -1) hx hb d_Ne_forget_1 (by decide) ?_
  refine k_put (pc := 2) X hK hP hD hS 0 rfl rfl i_Ne t_Ne t_Ne_ok n_Ne 0 (by decide) wm_248 rfl (Or.inl rfl) rfl rfl (Nat.le_of_ble_eq_true rfl) d_Ne_forget_2 (fun H locs hP hD hS => ?_)
  have hP : va_P D classes (cat [[(g 2 j, .inr (5, [.int ((-1)), .int ((-1)), .int ((-1)), .int 0, .ref a0, .int 0, .int 0, .ref a1, .ref a2, .ref a3, .ref a4, .ref a5, .ref a6, .int 0, .ref a7, .ref a8, .ref a9]))]]) H := hP
  have hD : va_D A (cat [[(g 2 j, .inr (5, [.int ((-1)), .int ((-1)), .int ((-1)), .int 0, .ref a0, .int 0, .int 0, .ref a1, .ref a2, .ref a3, .ref a4, .ref a5, .ref a6, .int 0, .ref a7, .ref a8, .ref a9]))]]) := hD
  refine lv_aload_n (pc := 5) hx hb d_Ne_forget_5 rfl (lv_at hl 0 rfl) ?_
  refine lv_iconst (pc := 6) (v := -1) hx hb d_Ne_forget_6 (by decide) ?_
  refine k_put (pc := 7) X hK hP hD hS 0 rfl rfl i_Ne t_Ne t_Ne_ok n_Ne 1 (by decide) wm_251 rfl (Or.inl rfl) rfl rfl (Nat.le_of_ble_eq_true rfl) d_Ne_forget_7 (fun H locs hP hD hS => ?_)
  have hP : va_P D classes (cat [[(g 2 j, .inr (5, [.int ((-1)), .int ((-1)), .int ((-1)), .int 0, .ref a0, .int 0, .int 0, .ref a1, .ref a2, .ref a3, .ref a4, .ref a5, .ref a6, .int 0, .ref a7, .ref a8, .ref a9]))]]) H := hP
  have hD : va_D A (cat [[(g 2 j, .inr (5, [.int ((-1)), .int ((-1)), .int ((-1)), .int 0, .ref a0, .int 0, .int 0, .ref a1, .ref a2, .ref a3, .ref a4, .ref a5, .ref a6, .int 0, .ref a7, .ref a8, .ref a9]))]]) := hD
  refine lv_aload_n (pc := 10) hx hb d_Ne_forget_10 rfl (lv_at hl 0 rfl) ?_
  refine lv_iconst (pc := 11) (v := -1) hx hb d_Ne_forget_11 (by decide) ?_
  refine k_put (pc := 12) X hK hP hD hS 0 rfl rfl i_Ne t_Ne t_Ne_ok n_Ne 2 (by decide) wm_253 rfl (Or.inl rfl) rfl rfl (Nat.le_of_ble_eq_true rfl) d_Ne_forget_12 (fun H locs hP hD hS => ?_)
  have hP : va_P D classes (cat [[(g 2 j, .inr (5, [.int ((-1)), .int ((-1)), .int ((-1)), .int 0, .ref a0, .int 0, .int 0, .ref a1, .ref a2, .ref a3, .ref a4, .ref a5, .ref a6, .int 0, .ref a7, .ref a8, .ref a9]))]]) H := hP
  have hD : va_D A (cat [[(g 2 j, .inr (5, [.int ((-1)), .int ((-1)), .int ((-1)), .int 0, .ref a0, .int 0, .int 0, .ref a1, .ref a2, .ref a3, .ref a4, .ref a5, .ref a6, .int 0, .ref a7, .ref a8, .ref a9]))]]) := hD
  refine lv_aload_n (pc := 15) hx hb d_Ne_forget_15 rfl (lv_at hl 0 rfl) ?_
  refine lv_iconst (pc := 16) (v := 0) hx hb d_Ne_forget_16 (by decide) ?_
  refine k_put (pc := 17) X hK hP hD hS 0 rfl rfl i_Ne t_Ne t_Ne_ok n_Ne 3 (by decide) wm_256 rfl (Or.inl rfl) rfl rfl (Nat.le_of_ble_eq_true rfl) d_Ne_forget_17 (fun H locs hP hD hS => ?_)
  have hP : va_P D classes (cat [[(g 2 j, .inr (5, [.int ((-1)), .int ((-1)), .int ((-1)), .int 0, .ref a0, .int 0, .int 0, .ref a1, .ref a2, .ref a3, .ref a4, .ref a5, .ref a6, .int 0, .ref a7, .ref a8, .ref a9]))]]) H := hP
  have hD : va_D A (cat [[(g 2 j, .inr (5, [.int ((-1)), .int ((-1)), .int ((-1)), .int 0, .ref a0, .int 0, .int 0, .ref a1, .ref a2, .ref a3, .ref a4, .ref a5, .ref a6, .int 0, .ref a7, .ref a8, .ref a9]))]]) := hD
  refine W.widen (k := 0) (n := 0) (Nat.le_of_ble_eq_true rfl) (Nat.le_of_ble_eq_true rfl) ?_
  exact W.vret hx hb hr (fun t ht hW => ⟨⟨(), rfl, trivial, by rw [ht]; exact hP, va_K.moved hW.alike hK, hD⟩, hS.F ht⟩) hS.2.2 d_Ne_forget_20
set_option maxRecDepth 100000 in
set_option maxHeartbeats 4000000 in
/-- DrawingHouse$Drawing.wipe()V -/
theorem c_Dr_wipe_z1 (l : Launch) (D : va_G) (kA : Nat → ClassId) (g : Nat → Nat → Nat) (j : Nat) (a0 : Nat) (a1 : Nat) (a2 : Nat) (a3 : Nat) (a4 : Nat) (a5 : Nat) (a6 : Nat) (a7 : Nat) (a8 : Nat) (a9 : Nat) (a10 : Nat) (a11 : Nat) (a12 : Nat) (f0 : Nat → Int32) (hj : j < 4) : Cv l y_Dr_wipe z_Dr_wipe { frames := 1, cells := 0, slots := 0, locals := 23 } D classes (TY kA) [.ref (g 3 j)] [[(g 3 j, .inr (0, [.ref a0, .int ((-1)), .ref a1, .ref a2, .ref a3, .ref a4, .ref a5, .int 0, .int 0, .int 0, .ref a6, .ref a7, .ref a8, .ref a9, .ref a10, .ref a11, .ref a12, .int 0, .int 0, .int 0, .int 0]))], [(a10, .inl (kA 0, 216, .inl f0))]] (fun _ : Unit => True) (fun u => [[(g 3 j, .inr (0, [.ref a0, .int ((-1)), .ref a1, .ref a2, .ref a3, .ref a4, .ref a5, .int 0, .int 0, .int 0, .ref a6, .ref a7, .ref a8, .ref a9, .ref a10, .ref a11, .ref a12, .int 0, .int 0, .int 0, .int 0]))], [(a10, .inl (kA 0, 216, .inl (fl f0 216 0)))]]) 0 0 := by
  intro sz
  refine k_met (cc := b_Dr_wipe) (maxL := 1) (ret := none) (by decide) rfl (Nat.le_of_ble_eq_true rfl) (fun p e s m below meth c ls X hl hB => ?_)
  obtain ⟨hsz, hP, hK, hD0, hN⟩ := hB
  subst hsz
  have hD := hD0.self (sz := s.heap.size)
  generalize hAe : va_A (cat [[(g 3 j, .inr (0, [.ref a0, .int ((-1)), .ref a1, .ref a2, .ref a3, .ref a4, .ref a5, .int 0, .int 0, .int 0, .ref a6, .ref a7, .ref a8, .ref a9, .ref a10, .ref a11, .ref a12, .int 0, .int 0, .int 0, .int 0]))], [(a10, .inl (kA 0, 216, .inl f0))]]) s.heap.size = A at hD ⊢
  have hA : ∀ q : Nat, s.heap.size ≤ q → A q := fun q h => by rw [← hAe]; exact Or.inr h
  have hS : va_S A s.heap s.heap [] := va_S.rf
  obtain ⟨hx, hb, hml, hown, hts, hr, hlk, hnm⟩ := id X
  have hl : lv_has ls 1 [(0, .ref (g 3 j))] := hl
  have hP : va_P D classes (cat [[(g 3 j, .inr (0, [.ref a0, .int ((-1)), .ref a1, .ref a2, .ref a3, .ref a4, .ref a5, .int 0, .int 0, .int 0, .ref a6, .ref a7, .ref a8, .ref a9, .ref a10, .ref a11, .ref a12, .int 0, .int 0, .int 0, .int 0]))], [(a10, .inl (kA 0, 216, .inl f0))]]) s.heap := hP
  have hK : va_K D classes (TY kA) s := hK
  refine lv_aload_n (pc := 0) hx hb d_Dr_wipe_0 rfl (lv_at hl 0 rfl) ?_
  refine lv_iconst (pc := 1) (v := -1) hx hb d_Dr_wipe_1 (by decide) ?_
  refine k_put (pc := 2) X hK hP hD hS 0 rfl rfl i_Dr t_Dr t_Dr_ok n_Dr 1 (by decide) wm_466 rfl (Or.inl rfl) rfl rfl (Nat.le_of_ble_eq_true rfl) d_Dr_wipe_2 (fun H locs hP hD hS => ?_)
  have hP : va_P D classes (cat [[(g 3 j, .inr (0, [.ref a0, .int ((-1)), .ref a1, .ref a2, .ref a3, .ref a4, .ref a5, .int 0, .int 0, .int 0, .ref a6, .ref a7, .ref a8, .ref a9, .ref a10, .ref a11, .ref a12, .int 0, .int 0, .int 0, .int 0]))], [(a10, .inl (kA 0, 216, .inl f0))]]) H := hP
  have hD : va_D A (cat [[(g 3 j, .inr (0, [.ref a0, .int ((-1)), .ref a1, .ref a2, .ref a3, .ref a4, .ref a5, .int 0, .int 0, .int 0, .ref a6, .ref a7, .ref a8, .ref a9, .ref a10, .ref a11, .ref a12, .int 0, .int 0, .int 0, .int 0]))], [(a10, .inl (kA 0, 216, .inl f0))]]) := hD
  refine lv_aload_n (pc := 5) hx hb d_Dr_wipe_5 rfl (lv_at hl 0 rfl) ?_
  refine k_get (pc := 6) X hK hP 0 rfl rfl i_Dr 14 (by decide) wm_503 rfl rfl d_Dr_wipe_6 ?_
  refine lv_iconst (pc := 9) (v := 0) hx hb d_Dr_wipe_9 (by decide) ?_
  refine k_goV (gr := [[(g 3 j, .inr (0, [.ref a0, .int ((-1)), .ref a1, .ref a2, .ref a3, .ref a4, .ref a5, .int 0, .int 0, .int 0, .ref a6, .ref a7, .ref a8, .ref a9, .ref a10, .ref a11, .ref a12, .int 0, .int 0, .int 0, .int 0]))]]) (k_rS (pc := 10) (As := [.ref a10, .int 0]) (rest := []) X (c_fillI l D (TY kA) 0 (kA 0) rfl a10 216 (by decide) f0 0 H.size) rfl wm_55 wm_4 wm_798 wm_54 2 (by decide +kernel) ⟨Nat.le_of_ble_eq_true rfl, Nat.le_of_ble_eq_true rfl⟩ rfl rfl (k_pre hN hK hP hD [1] [0] 2 rfl (by decide) rfl) rfl hl.1 rfl (Nat.le_of_ble_eq_true rfl) d_Dr_wipe_10 ⟨Nat.le_of_ble_eq_true rfl, Nat.le_of_ble_eq_true rfl⟩) hP hD hS hA [1] [0] 2 rfl (by decide) rfl rfl (fun u1 H locs hu1 hP hD hS => ?_)
  have hP : va_P D classes (cat [[(g 3 j, .inr (0, [.ref a0, .int ((-1)), .ref a1, .ref a2, .ref a3, .ref a4, .ref a5, .int 0, .int 0, .int 0, .ref a6, .ref a7, .ref a8, .ref a9, .ref a10, .ref a11, .ref a12, .int 0, .int 0, .int 0, .int 0]))], [(a10, .inl (kA 0, 216, .inl (fl f0 216 0)))]]) H := hP
  have hD : va_D A (cat [[(g 3 j, .inr (0, [.ref a0, .int ((-1)), .ref a1, .ref a2, .ref a3, .ref a4, .ref a5, .int 0, .int 0, .int 0, .ref a6, .ref a7, .ref a8, .ref a9, .ref a10, .ref a11, .ref a12, .int 0, .int 0, .int 0, .int 0]))], [(a10, .inl (kA 0, 216, .inl (fl f0 216 0)))]]) := hD
  refine W.widen (k := 0) (n := 0) (Nat.le_of_ble_eq_true rfl) (Nat.le_of_ble_eq_true rfl) ?_
  exact W.vret hx hb hr (fun t ht hW => ⟨⟨(), rfl, trivial, by rw [ht]; exact hP, va_K.moved hW.alike hK, hD⟩, hS.F ht⟩) hS.2.2 d_Dr_wipe_13
set_option maxRecDepth 100000 in
set_option maxHeartbeats 4000000 in
/-- DrawingHouse.forget(I)V -/
theorem c_Ho_forget_z1 (l : Launch) (D : va_G) (kA : Nat → ClassId) (a0 : Nat) (j : Nat) (a1 : Nat) (a2 : Nat) (a3 : Nat) (a4 : Nat) (a5 : Nat) (a6 : Nat) (a7 : Nat) (a8 : Nat) (a9 : Nat) (a10 : Nat) (g : Nat → Nat → Nat) (a11 : Nat) (a12 : Nat) (a13 : Nat) (a14 : Nat) (a15 : Nat) (a16 : Nat) (a17 : Nat) (a18 : Nat) (a19 : Nat) (a20 : Nat) (a21 : Nat) (a22 : Nat) (a23 : Nat) (a24 : Nat) (a25 : Nat) (a26 : Nat) (a27 : Nat) (a28 : Nat) (a29 : Nat) (a30 : Nat) (a31 : Nat) (a32 : Nat) (a33 : Nat) (a34 : Nat) (a35 : Nat) (a36 : Nat) (a37 : Nat) (a38 : Nat) (a39 : Nat) (a40 : Nat) (a41 : Nat) (a42 : Nat) (a43 : Nat) (a44 : Nat) (f0 : Nat → Int32) (hj : j < 4) : Cv l y_Ho_forget z_Ho_forget { frames := 2, cells := 0, slots := 0, locals := 43 } D classes (TY kA) [.ref a0, .int (nI j)] [[(a0, .inr (12, [.ref a1, .ref a2, .ref a3, .ref a4, .ref a5, .ref a6, .ref a7, .int 0, .int ((-1)), .ref a8, .ref a9, .int 0, .int 0, .ref a10, .int 0, .int 0, .null, .null, .null, .null, .null]))], [(a2, .inl (kA 5, 4, .inr (.inr (.inr (.inr (rr (g 1)))))))], [(g 1 j, .inr (2, [.int 0, .int 0, .int 0, .int 0, .ref a11, .ref a12, .ref a13, .ref a14, .ref a15, .ref a16, .ref a17, .ref a18, .ref a19, .ref a20, .ref a21]))], [(a3, .inl (kA 6, 4, .inr (.inr (.inr (.inr (rr (g 2)))))))], [(g 2 j, .inr (5, [.int ((-1)), .int ((-1)), .int ((-1)), .int 0, .ref a22, .int 0, .int 0, .ref a23, .ref a24, .ref a25, .ref a26, .ref a27, .ref a28, .int 0, .ref a29, .ref a30, .ref a31]))], [(a4, .inl (kA 7, 4, .inr (.inr (.inr (.inr (rr (g 3)))))))], [(g 3 j, .inr (0, [.ref a32, .int ((-1)), .ref a33, .ref a34, .ref a35, .ref a36, .ref a37, .int 0, .int 0, .int 0, .ref a38, .ref a39, .ref a40, .ref a41, .ref a42, .ref a43, .ref a44, .int 0, .int 0, .int 0, .int 0]))], [(a42, .inl (kA 0, 216, .inl f0))]] (fun _ : Unit => True) (fun u => [[(a0, .inr (12, [.ref a1, .ref a2, .ref a3, .ref a4, .ref a5, .ref a6, .ref a7, .int 0, .int ((-1)), .ref a8, .ref a9, .int 0, .int 0, .ref a10, .int 0, .int 0, .null, .null, .null, .null, .null]))], [(a2, .inl (kA 5, 4, .inr (.inr (.inr (.inr (rr (g 1)))))))], [(g 1 j, .inr (2, [.int 0, .int 0, .int 0, .int 0, .ref a11, .ref a12, .ref a13, .ref a14, .ref a15, .ref a16, .ref a17, .ref a18, .ref a19, .ref a20, .ref a21]))], [(a3, .inl (kA 6, 4, .inr (.inr (.inr (.inr (rr (g 2)))))))], [(g 2 j, .inr (5, [.int ((-1)), .int ((-1)), .int ((-1)), .int 0, .ref a22, .int 0, .int 0, .ref a23, .ref a24, .ref a25, .ref a26, .ref a27, .ref a28, .int 0, .ref a29, .ref a30, .ref a31]))], [(a4, .inl (kA 7, 4, .inr (.inr (.inr (.inr (rr (g 3)))))))], [(g 3 j, .inr (0, [.ref a32, .int ((-1)), .ref a33, .ref a34, .ref a35, .ref a36, .ref a37, .int 0, .int 0, .int 0, .ref a38, .ref a39, .ref a40, .ref a41, .ref a42, .ref a43, .ref a44, .int 0, .int 0, .int 0, .int 0]))], [(a42, .inl (kA 0, 216, .inl (fl f0 216 0)))]]) 0 0 := by
  intro sz
  refine k_met (cc := b_Ho_forget) (maxL := 2) (ret := none) (by decide) rfl (Nat.le_of_ble_eq_true rfl) (fun p e s m below meth c ls X hl hB => ?_)
  obtain ⟨hsz, hP, hK, hD0, hN⟩ := hB
  subst hsz
  have hD := hD0.self (sz := s.heap.size)
  generalize hAe : va_A (cat [[(a0, .inr (12, [.ref a1, .ref a2, .ref a3, .ref a4, .ref a5, .ref a6, .ref a7, .int 0, .int ((-1)), .ref a8, .ref a9, .int 0, .int 0, .ref a10, .int 0, .int 0, .null, .null, .null, .null, .null]))], [(a2, .inl (kA 5, 4, .inr (.inr (.inr (.inr (rr (g 1)))))))], [(g 1 j, .inr (2, [.int 0, .int 0, .int 0, .int 0, .ref a11, .ref a12, .ref a13, .ref a14, .ref a15, .ref a16, .ref a17, .ref a18, .ref a19, .ref a20, .ref a21]))], [(a3, .inl (kA 6, 4, .inr (.inr (.inr (.inr (rr (g 2)))))))], [(g 2 j, .inr (5, [.int ((-1)), .int ((-1)), .int ((-1)), .int 0, .ref a22, .int 0, .int 0, .ref a23, .ref a24, .ref a25, .ref a26, .ref a27, .ref a28, .int 0, .ref a29, .ref a30, .ref a31]))], [(a4, .inl (kA 7, 4, .inr (.inr (.inr (.inr (rr (g 3)))))))], [(g 3 j, .inr (0, [.ref a32, .int ((-1)), .ref a33, .ref a34, .ref a35, .ref a36, .ref a37, .int 0, .int 0, .int 0, .ref a38, .ref a39, .ref a40, .ref a41, .ref a42, .ref a43, .ref a44, .int 0, .int 0, .int 0, .int 0]))], [(a42, .inl (kA 0, 216, .inl f0))]]) s.heap.size = A at hD ⊢
  have hA : ∀ q : Nat, s.heap.size ≤ q → A q := fun q h => by rw [← hAe]; exact Or.inr h
  have hS : va_S A s.heap s.heap [] := va_S.rf
  obtain ⟨hx, hb, hml, hown, hts, hr, hlk, hnm⟩ := id X
  have hl : lv_has ls 2 [(0, .ref a0), (1, .int (nI j))] := hl
  have hP : va_P D classes (cat [[(a0, .inr (12, [.ref a1, .ref a2, .ref a3, .ref a4, .ref a5, .ref a6, .ref a7, .int 0, .int ((-1)), .ref a8, .ref a9, .int 0, .int 0, .ref a10, .int 0, .int 0, .null, .null, .null, .null, .null]))], [(a2, .inl (kA 5, 4, .inr (.inr (.inr (.inr (rr (g 1)))))))], [(g 1 j, .inr (2, [.int 0, .int 0, .int 0, .int 0, .ref a11, .ref a12, .ref a13, .ref a14, .ref a15, .ref a16, .ref a17, .ref a18, .ref a19, .ref a20, .ref a21]))], [(a3, .inl (kA 6, 4, .inr (.inr (.inr (.inr (rr (g 2)))))))], [(g 2 j, .inr (5, [.int ((-1)), .int ((-1)), .int ((-1)), .int 0, .ref a22, .int 0, .int 0, .ref a23, .ref a24, .ref a25, .ref a26, .ref a27, .ref a28, .int 0, .ref a29, .ref a30, .ref a31]))], [(a4, .inl (kA 7, 4, .inr (.inr (.inr (.inr (rr (g 3)))))))], [(g 3 j, .inr (0, [.ref a32, .int ((-1)), .ref a33, .ref a34, .ref a35, .ref a36, .ref a37, .int 0, .int 0, .int 0, .ref a38, .ref a39, .ref a40, .ref a41, .ref a42, .ref a43, .ref a44, .int 0, .int 0, .int 0, .int 0]))], [(a42, .inl (kA 0, 216, .inl f0))]]) s.heap := hP
  have hK : va_K D classes (TY kA) s := hK
  refine lv_aload_n (pc := 0) hx hb d_Ho_forget_0 rfl (lv_at hl 0 rfl) ?_
  refine k_get (pc := 1) X hK hP 0 rfl rfl i_Ho 1 (by decide) wm_556 rfl rfl d_Ho_forget_1 ?_
  refine lv_iload_n (pc := 4) hx hb d_Ho_forget_4 rfl (lv_at hl 1 rfl) ?_
  refine k_ald (pc := 5) hx hb hK hP 1 5 rfl rfl (j) rfl (by omega) (by decide) (rr_at (by omega)) d_Ho_forget_5 ?_
  refine lv_iconst (pc := 6) (v := 0) hx hb d_Ho_forget_6 (by decide) ?_
  refine k_put (pc := 7) X hK hP hD hS 2 rfl rfl i_Fa t_Fa t_Fa_ok n_Fa 0 (by decide) wm_395 rfl (Or.inl rfl) rfl rfl (Nat.le_of_ble_eq_true rfl) d_Ho_forget_7 (fun H locs hP hD hS => ?_)
  have hP : va_P D classes (cat [[(a0, .inr (12, [.ref a1, .ref a2, .ref a3, .ref a4, .ref a5, .ref a6, .ref a7, .int 0, .int ((-1)), .ref a8, .ref a9, .int 0, .int 0, .ref a10, .int 0, .int 0, .null, .null, .null, .null, .null]))], [(a2, .inl (kA 5, 4, .inr (.inr (.inr (.inr (rr (g 1)))))))], [(g 1 j, .inr (2, [.int 0, .int 0, .int 0, .int 0, .ref a11, .ref a12, .ref a13, .ref a14, .ref a15, .ref a16, .ref a17, .ref a18, .ref a19, .ref a20, .ref a21]))], [(a3, .inl (kA 6, 4, .inr (.inr (.inr (.inr (rr (g 2)))))))], [(g 2 j, .inr (5, [.int ((-1)), .int ((-1)), .int ((-1)), .int 0, .ref a22, .int 0, .int 0, .ref a23, .ref a24, .ref a25, .ref a26, .ref a27, .ref a28, .int 0, .ref a29, .ref a30, .ref a31]))], [(a4, .inl (kA 7, 4, .inr (.inr (.inr (.inr (rr (g 3)))))))], [(g 3 j, .inr (0, [.ref a32, .int ((-1)), .ref a33, .ref a34, .ref a35, .ref a36, .ref a37, .int 0, .int 0, .int 0, .ref a38, .ref a39, .ref a40, .ref a41, .ref a42, .ref a43, .ref a44, .int 0, .int 0, .int 0, .int 0]))], [(a42, .inl (kA 0, 216, .inl f0))]]) H := hP
  have hD : va_D A (cat [[(a0, .inr (12, [.ref a1, .ref a2, .ref a3, .ref a4, .ref a5, .ref a6, .ref a7, .int 0, .int ((-1)), .ref a8, .ref a9, .int 0, .int 0, .ref a10, .int 0, .int 0, .null, .null, .null, .null, .null]))], [(a2, .inl (kA 5, 4, .inr (.inr (.inr (.inr (rr (g 1)))))))], [(g 1 j, .inr (2, [.int 0, .int 0, .int 0, .int 0, .ref a11, .ref a12, .ref a13, .ref a14, .ref a15, .ref a16, .ref a17, .ref a18, .ref a19, .ref a20, .ref a21]))], [(a3, .inl (kA 6, 4, .inr (.inr (.inr (.inr (rr (g 2)))))))], [(g 2 j, .inr (5, [.int ((-1)), .int ((-1)), .int ((-1)), .int 0, .ref a22, .int 0, .int 0, .ref a23, .ref a24, .ref a25, .ref a26, .ref a27, .ref a28, .int 0, .ref a29, .ref a30, .ref a31]))], [(a4, .inl (kA 7, 4, .inr (.inr (.inr (.inr (rr (g 3)))))))], [(g 3 j, .inr (0, [.ref a32, .int ((-1)), .ref a33, .ref a34, .ref a35, .ref a36, .ref a37, .int 0, .int 0, .int 0, .ref a38, .ref a39, .ref a40, .ref a41, .ref a42, .ref a43, .ref a44, .int 0, .int 0, .int 0, .int 0]))], [(a42, .inl (kA 0, 216, .inl f0))]]) := hD
  refine lv_aload_n (pc := 10) hx hb d_Ho_forget_10 rfl (lv_at hl 0 rfl) ?_
  refine k_get (pc := 11) X hK hP 0 rfl rfl i_Ho 2 (by decide) wm_557 rfl rfl d_Ho_forget_11 ?_
  refine lv_iload_n (pc := 14) hx hb d_Ho_forget_14 rfl (lv_at hl 1 rfl) ?_
  refine k_ald (pc := 15) hx hb hK hP 3 6 rfl rfl (j) rfl (by omega) (by decide) (rr_at (by omega)) d_Ho_forget_15 ?_
  refine k_goV (gr := [[(a0, .inr (12, [.ref a1, .ref a2, .ref a3, .ref a4, .ref a5, .ref a6, .ref a7, .int 0, .int ((-1)), .ref a8, .ref a9, .int 0, .int 0, .ref a10, .int 0, .int 0, .null, .null, .null, .null, .null]))], [(a2, .inl (kA 5, 4, .inr (.inr (.inr (.inr (rr (g 1)))))))], [(g 1 j, .inr (2, [.int 0, .int 0, .int 0, .int 0, .ref a11, .ref a12, .ref a13, .ref a14, .ref a15, .ref a16, .ref a17, .ref a18, .ref a19, .ref a20, .ref a21]))], [(a3, .inl (kA 6, 4, .inr (.inr (.inr (.inr (rr (g 2)))))))], [(a4, .inl (kA 7, 4, .inr (.inr (.inr (.inr (rr (g 3)))))))], [(g 3 j, .inr (0, [.ref a32, .int ((-1)), .ref a33, .ref a34, .ref a35, .ref a36, .ref a37, .int 0, .int 0, .int 0, .ref a38, .ref a39, .ref a40, .ref a41, .ref a42, .ref a43, .ref a44, .int 0, .int 0, .int 0, .int 0]))], [(a42, .inl (kA 0, 216, .inl f0))]]) (k_rV (pc := 16) (As := []) (rest := []) X (c_Ne_forget_z1 l D kA g j a22 a23 a24 a25 a26 a27 a28 a29 a30 a31 hj H.size) rfl wm_793 wm_6 wm_790 wm_791 wm_792 0 (by decide +kernel) ⟨Nat.le_of_ble_eq_true rfl, Nat.le_of_ble_eq_true rfl⟩ rfl rfl (va_recv hK hP (ci := 5) (q0 := 4) rfl rfl) (k_pre hN hK hP hD [4] [0, 1, 2, 3, 5, 6, 7] 8 rfl (by decide) rfl) rfl hl.1 rfl (Nat.le_of_ble_eq_true rfl) d_Ho_forget_16 ⟨Nat.le_of_ble_eq_true rfl, Nat.le_of_ble_eq_true rfl⟩) hP hD hS hA [4] [0, 1, 2, 3, 5, 6, 7] 8 rfl (by decide) rfl rfl (fun u1 H locs hu1 hP hD hS => ?_)
  have hP : va_P D classes (cat [[(a0, .inr (12, [.ref a1, .ref a2, .ref a3, .ref a4, .ref a5, .ref a6, .ref a7, .int 0, .int ((-1)), .ref a8, .ref a9, .int 0, .int 0, .ref a10, .int 0, .int 0, .null, .null, .null, .null, .null]))], [(a2, .inl (kA 5, 4, .inr (.inr (.inr (.inr (rr (g 1)))))))], [(g 1 j, .inr (2, [.int 0, .int 0, .int 0, .int 0, .ref a11, .ref a12, .ref a13, .ref a14, .ref a15, .ref a16, .ref a17, .ref a18, .ref a19, .ref a20, .ref a21]))], [(a3, .inl (kA 6, 4, .inr (.inr (.inr (.inr (rr (g 2)))))))], [(a4, .inl (kA 7, 4, .inr (.inr (.inr (.inr (rr (g 3)))))))], [(g 3 j, .inr (0, [.ref a32, .int ((-1)), .ref a33, .ref a34, .ref a35, .ref a36, .ref a37, .int 0, .int 0, .int 0, .ref a38, .ref a39, .ref a40, .ref a41, .ref a42, .ref a43, .ref a44, .int 0, .int 0, .int 0, .int 0]))], [(a42, .inl (kA 0, 216, .inl f0))], [(g 2 j, .inr (5, [.int ((-1)), .int ((-1)), .int ((-1)), .int 0, .ref a22, .int 0, .int 0, .ref a23, .ref a24, .ref a25, .ref a26, .ref a27, .ref a28, .int 0, .ref a29, .ref a30, .ref a31]))]]) H := hP
  have hD : va_D A (cat [[(a0, .inr (12, [.ref a1, .ref a2, .ref a3, .ref a4, .ref a5, .ref a6, .ref a7, .int 0, .int ((-1)), .ref a8, .ref a9, .int 0, .int 0, .ref a10, .int 0, .int 0, .null, .null, .null, .null, .null]))], [(a2, .inl (kA 5, 4, .inr (.inr (.inr (.inr (rr (g 1)))))))], [(g 1 j, .inr (2, [.int 0, .int 0, .int 0, .int 0, .ref a11, .ref a12, .ref a13, .ref a14, .ref a15, .ref a16, .ref a17, .ref a18, .ref a19, .ref a20, .ref a21]))], [(a3, .inl (kA 6, 4, .inr (.inr (.inr (.inr (rr (g 2)))))))], [(a4, .inl (kA 7, 4, .inr (.inr (.inr (.inr (rr (g 3)))))))], [(g 3 j, .inr (0, [.ref a32, .int ((-1)), .ref a33, .ref a34, .ref a35, .ref a36, .ref a37, .int 0, .int 0, .int 0, .ref a38, .ref a39, .ref a40, .ref a41, .ref a42, .ref a43, .ref a44, .int 0, .int 0, .int 0, .int 0]))], [(a42, .inl (kA 0, 216, .inl f0))], [(g 2 j, .inr (5, [.int ((-1)), .int ((-1)), .int ((-1)), .int 0, .ref a22, .int 0, .int 0, .ref a23, .ref a24, .ref a25, .ref a26, .ref a27, .ref a28, .int 0, .ref a29, .ref a30, .ref a31]))]]) := hD
  refine lv_aload_n (pc := 19) hx hb d_Ho_forget_19 rfl (lv_at hl 0 rfl) ?_
  refine k_get (pc := 20) X hK hP 0 rfl rfl i_Ho 3 (by decide) wm_558 rfl rfl d_Ho_forget_20 ?_
  refine lv_iload_n (pc := 23) hx hb d_Ho_forget_23 rfl (lv_at hl 1 rfl) ?_
  refine k_ald (pc := 24) hx hb hK hP 4 7 rfl rfl (j) rfl (by omega) (by decide) (rr_at (by omega)) d_Ho_forget_24 ?_
  refine k_goV (gr := [[(a0, .inr (12, [.ref a1, .ref a2, .ref a3, .ref a4, .ref a5, .ref a6, .ref a7, .int 0, .int ((-1)), .ref a8, .ref a9, .int 0, .int 0, .ref a10, .int 0, .int 0, .null, .null, .null, .null, .null]))], [(a2, .inl (kA 5, 4, .inr (.inr (.inr (.inr (rr (g 1)))))))], [(g 1 j, .inr (2, [.int 0, .int 0, .int 0, .int 0, .ref a11, .ref a12, .ref a13, .ref a14, .ref a15, .ref a16, .ref a17, .ref a18, .ref a19, .ref a20, .ref a21]))], [(a3, .inl (kA 6, 4, .inr (.inr (.inr (.inr (rr (g 2)))))))], [(a4, .inl (kA 7, 4, .inr (.inr (.inr (.inr (rr (g 3)))))))], [(g 2 j, .inr (5, [.int ((-1)), .int ((-1)), .int ((-1)), .int 0, .ref a22, .int 0, .int 0, .ref a23, .ref a24, .ref a25, .ref a26, .ref a27, .ref a28, .int 0, .ref a29, .ref a30, .ref a31]))]]) (k_rV (pc := 25) (As := []) (rest := []) X (c_Dr_wipe_z1 l D kA g j a32 a33 a34 a35 a36 a37 a38 a39 a40 a41 a42 a43 a44 f0 hj H.size) rfl wm_797 wm_8 wm_794 wm_795 wm_796 0 (by decide +kernel) ⟨Nat.le_of_ble_eq_true rfl, Nat.le_of_ble_eq_true rfl⟩ rfl rfl (va_recv hK hP (ci := 0) (q0 := 5) rfl rfl) (k_pre hN hK hP hD [5, 6] [0, 1, 2, 3, 4, 7] 8 rfl (by decide) rfl) rfl hl.1 rfl (Nat.le_of_ble_eq_true rfl) d_Ho_forget_25 ⟨Nat.le_of_ble_eq_true rfl, Nat.le_of_ble_eq_true rfl⟩) hP hD hS hA [5, 6] [0, 1, 2, 3, 4, 7] 8 rfl (by decide) rfl rfl (fun u2 H locs hu2 hP hD hS => ?_)
  have hP : va_P D classes (cat [[(a0, .inr (12, [.ref a1, .ref a2, .ref a3, .ref a4, .ref a5, .ref a6, .ref a7, .int 0, .int ((-1)), .ref a8, .ref a9, .int 0, .int 0, .ref a10, .int 0, .int 0, .null, .null, .null, .null, .null]))], [(a2, .inl (kA 5, 4, .inr (.inr (.inr (.inr (rr (g 1)))))))], [(g 1 j, .inr (2, [.int 0, .int 0, .int 0, .int 0, .ref a11, .ref a12, .ref a13, .ref a14, .ref a15, .ref a16, .ref a17, .ref a18, .ref a19, .ref a20, .ref a21]))], [(a3, .inl (kA 6, 4, .inr (.inr (.inr (.inr (rr (g 2)))))))], [(a4, .inl (kA 7, 4, .inr (.inr (.inr (.inr (rr (g 3)))))))], [(g 2 j, .inr (5, [.int ((-1)), .int ((-1)), .int ((-1)), .int 0, .ref a22, .int 0, .int 0, .ref a23, .ref a24, .ref a25, .ref a26, .ref a27, .ref a28, .int 0, .ref a29, .ref a30, .ref a31]))], [(g 3 j, .inr (0, [.ref a32, .int ((-1)), .ref a33, .ref a34, .ref a35, .ref a36, .ref a37, .int 0, .int 0, .int 0, .ref a38, .ref a39, .ref a40, .ref a41, .ref a42, .ref a43, .ref a44, .int 0, .int 0, .int 0, .int 0]))], [(a42, .inl (kA 0, 216, .inl (fl f0 216 0)))]]) H := hP
  have hD : va_D A (cat [[(a0, .inr (12, [.ref a1, .ref a2, .ref a3, .ref a4, .ref a5, .ref a6, .ref a7, .int 0, .int ((-1)), .ref a8, .ref a9, .int 0, .int 0, .ref a10, .int 0, .int 0, .null, .null, .null, .null, .null]))], [(a2, .inl (kA 5, 4, .inr (.inr (.inr (.inr (rr (g 1)))))))], [(g 1 j, .inr (2, [.int 0, .int 0, .int 0, .int 0, .ref a11, .ref a12, .ref a13, .ref a14, .ref a15, .ref a16, .ref a17, .ref a18, .ref a19, .ref a20, .ref a21]))], [(a3, .inl (kA 6, 4, .inr (.inr (.inr (.inr (rr (g 2)))))))], [(a4, .inl (kA 7, 4, .inr (.inr (.inr (.inr (rr (g 3)))))))], [(g 2 j, .inr (5, [.int ((-1)), .int ((-1)), .int ((-1)), .int 0, .ref a22, .int 0, .int 0, .ref a23, .ref a24, .ref a25, .ref a26, .ref a27, .ref a28, .int 0, .ref a29, .ref a30, .ref a31]))], [(g 3 j, .inr (0, [.ref a32, .int ((-1)), .ref a33, .ref a34, .ref a35, .ref a36, .ref a37, .int 0, .int 0, .int 0, .ref a38, .ref a39, .ref a40, .ref a41, .ref a42, .ref a43, .ref a44, .int 0, .int 0, .int 0, .int 0]))], [(a42, .inl (kA 0, 216, .inl (fl f0 216 0)))]]) := hD
  obtain ⟨hP, hD⟩ := k_ord (gc := [[(a0, .inr (12, [.ref a1, .ref a2, .ref a3, .ref a4, .ref a5, .ref a6, .ref a7, .int 0, .int ((-1)), .ref a8, .ref a9, .int 0, .int 0, .ref a10, .int 0, .int 0, .null, .null, .null, .null, .null]))], [(a2, .inl (kA 5, 4, .inr (.inr (.inr (.inr (rr (g 1)))))))], [(g 1 j, .inr (2, [.int 0, .int 0, .int 0, .int 0, .ref a11, .ref a12, .ref a13, .ref a14, .ref a15, .ref a16, .ref a17, .ref a18, .ref a19, .ref a20, .ref a21]))], [(a3, .inl (kA 6, 4, .inr (.inr (.inr (.inr (rr (g 2)))))))], [(g 2 j, .inr (5, [.int ((-1)), .int ((-1)), .int ((-1)), .int 0, .ref a22, .int 0, .int 0, .ref a23, .ref a24, .ref a25, .ref a26, .ref a27, .ref a28, .int 0, .ref a29, .ref a30, .ref a31]))], [(a4, .inl (kA 7, 4, .inr (.inr (.inr (.inr (rr (g 3)))))))], [(g 3 j, .inr (0, [.ref a32, .int ((-1)), .ref a33, .ref a34, .ref a35, .ref a36, .ref a37, .int 0, .int 0, .int 0, .ref a38, .ref a39, .ref a40, .ref a41, .ref a42, .ref a43, .ref a44, .int 0, .int 0, .int 0, .int 0]))], [(a42, .inl (kA 0, 216, .inl (fl f0 216 0)))]]) hP hD [0, 1, 2, 3, 5, 4, 6, 7] 8 rfl (by decide) rfl
  refine W.widen (k := 0) (n := 0) (Nat.le_of_ble_eq_true rfl) (Nat.le_of_ble_eq_true rfl) ?_
  exact W.vret hx hb hr (fun t ht hW => ⟨⟨(), rfl, trivial, by rw [ht]; exact hP, va_K.moved hW.alike hK, hD⟩, hS.F ht⟩) hS.2.2 d_Ho_forget_28
set_option maxRecDepth 100000 in
set_option maxHeartbeats 4000000 in
/-- DrawingHouse.read(II)I -/
theorem c_Ho_read_z4 (l : Launch) (D : va_G) (kA : Nat → ClassId) (a0 : Nat) (j : Nat) (a1 : Nat) (a2 : Nat) (a3 : Nat) (a4 : Nat) (a5 : Nat) (a6 : Nat) (a7 : Nat) (a8 : Nat) (a9 : Nat) (a10 : Nat) (a11 : Nat) (a12 : Nat) (a13 : Nat) (a14 : Nat) (a15 : Nat) (a16 : Nat) (a17 : Nat) (a18 : Nat) (a19 : Nat) (a20 : Nat) (a21 : Nat) (a22 : Nat) (a23 : Nat) (a24 : Nat) (a25 : Nat) (a26 : Nat) (f0 : Nat → Int32) (f1 : Nat → Int32) (f2 : Nat → Int32) (g : Nat → Nat → Nat) (a27 : Nat) (a28 : Nat) (a29 : Nat) (a30 : Nat) (a31 : Nat) (a32 : Nat) (a33 : Nat) (a34 : Nat) (a35 : Nat) (a36 : Nat) (a37 : Nat) (a38 : Nat) (a39 : Nat) (f3 : Nat → Int32) (f4 : Nat → Int32) (f5 : Nat → Int32) (f6 : Nat → Int32) (f7 : Nat → Int32) (f8 : Nat → Int32) (f9 : Nat → Int32) (f10 : Nat → Int32) (f11 : Nat → Int32) (f12 : Nat → Int32) (f13 : Nat → Int32) (f14 : Nat → Int32) (f15 : Nat → Int32) (f16 : Nat → Int32) (f17 : Nat → Int32) (f18 : Nat → Int32) (f19 : Nat → Int32) (f20 : Nat → Int32) (f21 : Nat → Int32) (f22 : Nat → Int32) (f23 : Nat → Int32) (f24 : Nat → Int32) (a40 : Nat) (a41 : Nat) (a42 : Nat) (a43 : Nat) (a44 : Nat) (a45 : Nat) (a46 : Nat) (a47 : Nat) (a48 : Nat) (a49 : Nat) (a50 : Nat) (a51 : Nat) (a52 : Nat) (a53 : Nat) (a54 : Nat) (a55 : Nat) (a56 : Nat) (a57 : Nat) (a58 : Nat) (a59 : Nat) (a60 : Nat) (a61 : Nat) (a62 : Nat) (a63 : Nat) (a64 : Nat) (a65 : Nat) (a66 : Nat) (a67 : Nat) (a68 : Nat) (a69 : Nat) (a70 : Nat) (a71 : Nat) (a72 : Nat) (a73 : Nat) (f25 : Nat → Int32) (hj : j < 4) : Ci l y_Ho_read z_Ho_read { frames := 3, cells := 0, slots := 0, locals := 65 } D classes (TY kA) [.ref a0, .int (nI j), .int 0] [[(a0, .inr (12, [.ref a1, .ref a2, .ref a3, .ref a4, .ref a5, .ref a6, .ref a7, .int 0, .int ((-1)), .ref a8, .ref a9, .int 0, .int 0, .ref a10, .int 0, .int 0, .null, .null, .null, .null, .null]))], [(a5, .inr (8, [.ref a11, .int 0, .int ((-1)), .int ((-1)), .ref a12, .int 0, .int 0, .int 0, .int 0, .int 0, .ref a13, .int 0]))], [(a12, .inr (3, [.int 0, .int 0, .int 1, .ref a14, .ref a15, .ref a16, .ref a17, .ref a18, .ref a19, .ref a20, .ref a21, .ref a22, .ref a23, .ref a24, .ref a25, .ref a26, .null, .int 0, .int 0]))], [(a25, .inl (kA 0, 24, .inl f0))], [(a26, .inl (kA 0, 576, .inl f1))], [(a13, .inl (kA 0, 5, .inl f2))], [(a1, .inl (kA 4, 4, .inr (.inr (.inr (.inr (rr (g 0)))))))], [(g 0 j, .inr (3, [.int 0, .int 0, .int 1, .ref a27, .ref a28, .ref a29, .ref a30, .ref a31, .ref a32, .ref a33, .ref a34, .ref a35, .ref a36, .ref a37, .ref a38, .ref a39, .null, .int 0, .int 0]))], [(a27, .inl (kA 1, 192, .inl f3))], [(a14, .inl (kA 1, 192, .inl (fun _ => 0)))], [(a15, .inl (kA 0, 24, .inl f4))], [(a28, .inl (kA 0, 24, .inl f5))], [(a16, .inl (kA 0, 24, .inl f6))], [(a29, .inl (kA 0, 24, .inl f7))], [(a17, .inl (kA 0, 24, .inl f8))], [(a30, .inl (kA 0, 24, .inl f9))], [(a18, .inl (kA 0, 48, .inl f10))], [(a31, .inl (kA 0, 48, .inl f11))], [(a19, .inl (kA 0, 48, .inl f12))], [(a32, .inl (kA 0, 48, .inl f13))], [(a20, .inl (kA 0, 48, .inl f14))], [(a33, .inl (kA 0, 48, .inl f15))], [(a21, .inl (kA 0, 48, .inl f16))], [(a34, .inl (kA 0, 48, .inl f17))], [(a22, .inl (kA 0, 8, .inl f18))], [(a35, .inl (kA 0, 8, .inl f19))], [(a36, .inl (kA 1, 64, .inl f20))], [(a23, .inl (kA 1, 64, .inl (fun _ => 0)))], [(a24, .inl (kA 0, 8, .inl f21))], [(a37, .inl (kA 0, 8, .inl f22))], [(a38, .inl (kA 0, 24, .inl f23))], [(a39, .inl (kA 0, 576, .inl f24))], [(a2, .inl (kA 5, 4, .inr (.inr (.inr (.inr (rr (g 1)))))))], [(g 1 j, .inr (2, [.int 0, .int 0, .int 0, .int 0, .ref a40, .ref a41, .ref a42, .ref a43, .ref a44, .ref a45, .ref a46, .ref a47, .ref a48, .ref a49, .ref a50]))], [(a3, .inl (kA 6, 4, .inr (.inr (.inr (.inr (rr (g 2)))))))], [(g 2 j, .inr (5, [.int ((-1)), .int ((-1)), .int ((-1)), .int 0, .ref a51, .int 0, .int 0, .ref a52, .ref a53, .ref a54, .ref a55, .ref a56, .ref a57, .int 0, .ref a58, .ref a59, .ref a60]))], [(a4, .inl (kA 7, 4, .inr (.inr (.inr (.inr (rr (g 3)))))))], [(g 3 j, .inr (0, [.ref a61, .int ((-1)), .ref a62, .ref a63, .ref a64, .ref a65, .ref a66, .int 0, .int 0, .int 0, .ref a67, .ref a68, .ref a69, .ref a70, .ref a71, .ref a72, .ref a73, .int 0, .int 0, .int 0, .int 0]))], [(a71, .inl (kA 0, 216, .inl f25))]] (fun r (_ : List va_W) => r = 0) (fun u => u) 0 0 := by
  intro sz
  refine k_met (cc := b_Ho_read) (maxL := 4) (ret := (some .int)) (by decide) rfl (Nat.le_of_ble_eq_true rfl) (fun p e s m below meth c ls X hl hB => ?_)
  obtain ⟨hsz, hP, hK, hD0, hN⟩ := hB
  subst hsz
  have hD := hD0.self (sz := s.heap.size)
  generalize hAe : va_A (cat [[(a0, .inr (12, [.ref a1, .ref a2, .ref a3, .ref a4, .ref a5, .ref a6, .ref a7, .int 0, .int ((-1)), .ref a8, .ref a9, .int 0, .int 0, .ref a10, .int 0, .int 0, .null, .null, .null, .null, .null]))], [(a5, .inr (8, [.ref a11, .int 0, .int ((-1)), .int ((-1)), .ref a12, .int 0, .int 0, .int 0, .int 0, .int 0, .ref a13, .int 0]))], [(a12, .inr (3, [.int 0, .int 0, .int 1, .ref a14, .ref a15, .ref a16, .ref a17, .ref a18, .ref a19, .ref a20, .ref a21, .ref a22, .ref a23, .ref a24, .ref a25, .ref a26, .null, .int 0, .int 0]))], [(a25, .inl (kA 0, 24, .inl f0))], [(a26, .inl (kA 0, 576, .inl f1))], [(a13, .inl (kA 0, 5, .inl f2))], [(a1, .inl (kA 4, 4, .inr (.inr (.inr (.inr (rr (g 0)))))))], [(g 0 j, .inr (3, [.int 0, .int 0, .int 1, .ref a27, .ref a28, .ref a29, .ref a30, .ref a31, .ref a32, .ref a33, .ref a34, .ref a35, .ref a36, .ref a37, .ref a38, .ref a39, .null, .int 0, .int 0]))], [(a27, .inl (kA 1, 192, .inl f3))], [(a14, .inl (kA 1, 192, .inl (fun _ => 0)))], [(a15, .inl (kA 0, 24, .inl f4))], [(a28, .inl (kA 0, 24, .inl f5))], [(a16, .inl (kA 0, 24, .inl f6))], [(a29, .inl (kA 0, 24, .inl f7))], [(a17, .inl (kA 0, 24, .inl f8))], [(a30, .inl (kA 0, 24, .inl f9))], [(a18, .inl (kA 0, 48, .inl f10))], [(a31, .inl (kA 0, 48, .inl f11))], [(a19, .inl (kA 0, 48, .inl f12))], [(a32, .inl (kA 0, 48, .inl f13))], [(a20, .inl (kA 0, 48, .inl f14))], [(a33, .inl (kA 0, 48, .inl f15))], [(a21, .inl (kA 0, 48, .inl f16))], [(a34, .inl (kA 0, 48, .inl f17))], [(a22, .inl (kA 0, 8, .inl f18))], [(a35, .inl (kA 0, 8, .inl f19))], [(a36, .inl (kA 1, 64, .inl f20))], [(a23, .inl (kA 1, 64, .inl (fun _ => 0)))], [(a24, .inl (kA 0, 8, .inl f21))], [(a37, .inl (kA 0, 8, .inl f22))], [(a38, .inl (kA 0, 24, .inl f23))], [(a39, .inl (kA 0, 576, .inl f24))], [(a2, .inl (kA 5, 4, .inr (.inr (.inr (.inr (rr (g 1)))))))], [(g 1 j, .inr (2, [.int 0, .int 0, .int 0, .int 0, .ref a40, .ref a41, .ref a42, .ref a43, .ref a44, .ref a45, .ref a46, .ref a47, .ref a48, .ref a49, .ref a50]))], [(a3, .inl (kA 6, 4, .inr (.inr (.inr (.inr (rr (g 2)))))))], [(g 2 j, .inr (5, [.int ((-1)), .int ((-1)), .int ((-1)), .int 0, .ref a51, .int 0, .int 0, .ref a52, .ref a53, .ref a54, .ref a55, .ref a56, .ref a57, .int 0, .ref a58, .ref a59, .ref a60]))], [(a4, .inl (kA 7, 4, .inr (.inr (.inr (.inr (rr (g 3)))))))], [(g 3 j, .inr (0, [.ref a61, .int ((-1)), .ref a62, .ref a63, .ref a64, .ref a65, .ref a66, .int 0, .int 0, .int 0, .ref a67, .ref a68, .ref a69, .ref a70, .ref a71, .ref a72, .ref a73, .int 0, .int 0, .int 0, .int 0]))], [(a71, .inl (kA 0, 216, .inl f25))]]) s.heap.size = A at hD ⊢
  have hA : ∀ q : Nat, s.heap.size ≤ q → A q := fun q h => by rw [← hAe]; exact Or.inr h
  have hS : va_S A s.heap s.heap [] := va_S.rf
  obtain ⟨hx, hb, hml, hown, hts, hr, hlk, hnm⟩ := id X
  have hl : lv_has ls 4 [(0, .ref a0), (1, .int (nI j)), (2, .int 0)] := hl
  have hP : va_P D classes (cat [[(a0, .inr (12, [.ref a1, .ref a2, .ref a3, .ref a4, .ref a5, .ref a6, .ref a7, .int 0, .int ((-1)), .ref a8, .ref a9, .int 0, .int 0, .ref a10, .int 0, .int 0, .null, .null, .null, .null, .null]))], [(a5, .inr (8, [.ref a11, .int 0, .int ((-1)), .int ((-1)), .ref a12, .int 0, .int 0, .int 0, .int 0, .int 0, .ref a13, .int 0]))], [(a12, .inr (3, [.int 0, .int 0, .int 1, .ref a14, .ref a15, .ref a16, .ref a17, .ref a18, .ref a19, .ref a20, .ref a21, .ref a22, .ref a23, .ref a24, .ref a25, .ref a26, .null, .int 0, .int 0]))], [(a25, .inl (kA 0, 24, .inl f0))], [(a26, .inl (kA 0, 576, .inl f1))], [(a13, .inl (kA 0, 5, .inl f2))], [(a1, .inl (kA 4, 4, .inr (.inr (.inr (.inr (rr (g 0)))))))], [(g 0 j, .inr (3, [.int 0, .int 0, .int 1, .ref a27, .ref a28, .ref a29, .ref a30, .ref a31, .ref a32, .ref a33, .ref a34, .ref a35, .ref a36, .ref a37, .ref a38, .ref a39, .null, .int 0, .int 0]))], [(a27, .inl (kA 1, 192, .inl f3))], [(a14, .inl (kA 1, 192, .inl (fun _ => 0)))], [(a15, .inl (kA 0, 24, .inl f4))], [(a28, .inl (kA 0, 24, .inl f5))], [(a16, .inl (kA 0, 24, .inl f6))], [(a29, .inl (kA 0, 24, .inl f7))], [(a17, .inl (kA 0, 24, .inl f8))], [(a30, .inl (kA 0, 24, .inl f9))], [(a18, .inl (kA 0, 48, .inl f10))], [(a31, .inl (kA 0, 48, .inl f11))], [(a19, .inl (kA 0, 48, .inl f12))], [(a32, .inl (kA 0, 48, .inl f13))], [(a20, .inl (kA 0, 48, .inl f14))], [(a33, .inl (kA 0, 48, .inl f15))], [(a21, .inl (kA 0, 48, .inl f16))], [(a34, .inl (kA 0, 48, .inl f17))], [(a22, .inl (kA 0, 8, .inl f18))], [(a35, .inl (kA 0, 8, .inl f19))], [(a36, .inl (kA 1, 64, .inl f20))], [(a23, .inl (kA 1, 64, .inl (fun _ => 0)))], [(a24, .inl (kA 0, 8, .inl f21))], [(a37, .inl (kA 0, 8, .inl f22))], [(a38, .inl (kA 0, 24, .inl f23))], [(a39, .inl (kA 0, 576, .inl f24))], [(a2, .inl (kA 5, 4, .inr (.inr (.inr (.inr (rr (g 1)))))))], [(g 1 j, .inr (2, [.int 0, .int 0, .int 0, .int 0, .ref a40, .ref a41, .ref a42, .ref a43, .ref a44, .ref a45, .ref a46, .ref a47, .ref a48, .ref a49, .ref a50]))], [(a3, .inl (kA 6, 4, .inr (.inr (.inr (.inr (rr (g 2)))))))], [(g 2 j, .inr (5, [.int ((-1)), .int ((-1)), .int ((-1)), .int 0, .ref a51, .int 0, .int 0, .ref a52, .ref a53, .ref a54, .ref a55, .ref a56, .ref a57, .int 0, .ref a58, .ref a59, .ref a60]))], [(a4, .inl (kA 7, 4, .inr (.inr (.inr (.inr (rr (g 3)))))))], [(g 3 j, .inr (0, [.ref a61, .int ((-1)), .ref a62, .ref a63, .ref a64, .ref a65, .ref a66, .int 0, .int 0, .int 0, .ref a67, .ref a68, .ref a69, .ref a70, .ref a71, .ref a72, .ref a73, .int 0, .int 0, .int 0, .int 0]))], [(a71, .inl (kA 0, 216, .inl f25))]]) s.heap := hP
  have hK : va_K D classes (TY kA) s := hK
  refine lv_iload_n (pc := 0) hx hb d_Ho_read_0 rfl (lv_at hl 1 rfl) ?_
  refine k_goI (gr := [[(a0, .inr (12, [.ref a1, .ref a2, .ref a3, .ref a4, .ref a5, .ref a6, .ref a7, .int 0, .int ((-1)), .ref a8, .ref a9, .int 0, .int 0, .ref a10, .int 0, .int 0, .null, .null, .null, .null, .null]))], [(a5, .inr (8, [.ref a11, .int 0, .int ((-1)), .int ((-1)), .ref a12, .int 0, .int 0, .int 0, .int 0, .int 0, .ref a13, .int 0]))], [(a12, .inr (3, [.int 0, .int 0, .int 1, .ref a14, .ref a15, .ref a16, .ref a17, .ref a18, .ref a19, .ref a20, .ref a21, .ref a22, .ref a23, .ref a24, .ref a25, .ref a26, .null, .int 0, .int 0]))], [(a25, .inl (kA 0, 24, .inl f0))], [(a26, .inl (kA 0, 576, .inl f1))], [(a13, .inl (kA 0, 5, .inl f2))], [(a1, .inl (kA 4, 4, .inr (.inr (.inr (.inr (rr (g 0)))))))], [(g 0 j, .inr (3, [.int 0, .int 0, .int 1, .ref a27, .ref a28, .ref a29, .ref a30, .ref a31, .ref a32, .ref a33, .ref a34, .ref a35, .ref a36, .ref a37, .ref a38, .ref a39, .null, .int 0, .int 0]))], [(a27, .inl (kA 1, 192, .inl f3))], [(a14, .inl (kA 1, 192, .inl (fun _ => 0)))], [(a15, .inl (kA 0, 24, .inl f4))], [(a28, .inl (kA 0, 24, .inl f5))], [(a16, .inl (kA 0, 24, .inl f6))], [(a29, .inl (kA 0, 24, .inl f7))], [(a17, .inl (kA 0, 24, .inl f8))], [(a30, .inl (kA 0, 24, .inl f9))], [(a18, .inl (kA 0, 48, .inl f10))], [(a31, .inl (kA 0, 48, .inl f11))], [(a19, .inl (kA 0, 48, .inl f12))], [(a32, .inl (kA 0, 48, .inl f13))], [(a20, .inl (kA 0, 48, .inl f14))], [(a33, .inl (kA 0, 48, .inl f15))], [(a21, .inl (kA 0, 48, .inl f16))], [(a34, .inl (kA 0, 48, .inl f17))], [(a22, .inl (kA 0, 8, .inl f18))], [(a35, .inl (kA 0, 8, .inl f19))], [(a36, .inl (kA 1, 64, .inl f20))], [(a23, .inl (kA 1, 64, .inl (fun _ => 0)))], [(a24, .inl (kA 0, 8, .inl f21))], [(a37, .inl (kA 0, 8, .inl f22))], [(a38, .inl (kA 0, 24, .inl f23))], [(a39, .inl (kA 0, 576, .inl f24))], [(a2, .inl (kA 5, 4, .inr (.inr (.inr (.inr (rr (g 1)))))))], [(g 1 j, .inr (2, [.int 0, .int 0, .int 0, .int 0, .ref a40, .ref a41, .ref a42, .ref a43, .ref a44, .ref a45, .ref a46, .ref a47, .ref a48, .ref a49, .ref a50]))], [(a3, .inl (kA 6, 4, .inr (.inr (.inr (.inr (rr (g 2)))))))], [(g 2 j, .inr (5, [.int ((-1)), .int ((-1)), .int ((-1)), .int 0, .ref a51, .int 0, .int 0, .ref a52, .ref a53, .ref a54, .ref a55, .ref a56, .ref a57, .int 0, .ref a58, .ref a59, .ref a60]))], [(a4, .inl (kA 7, 4, .inr (.inr (.inr (.inr (rr (g 3)))))))], [(g 3 j, .inr (0, [.ref a61, .int ((-1)), .ref a62, .ref a63, .ref a64, .ref a65, .ref a66, .int 0, .int 0, .int 0, .ref a67, .ref a68, .ref a69, .ref a70, .ref a71, .ref a72, .ref a73, .int 0, .int 0, .int 0, .int 0]))], [(a71, .inl (kA 0, 216, .inl f25))]]) (k_rS (pc := 1) (As := [.int (nI j)]) (rest := []) X (c_Ho_isPlace l D kA (nI j) s.heap.size) rfl wm_633 wm_1 wm_631 wm_632 1 (by decide +kernel) ⟨Nat.le_of_ble_eq_true rfl, Nat.le_of_ble_eq_true rfl⟩ rfl rfl (k_pre hN hK hP hD [] [0, 1, 2, 3, 4, 5, 6, 7, 8, 9, 10, 11, 12, 13, 14, 15, 16, 17, 18, 19, 20, 21, 22, 23, 24, 25, 26, 27, 28, 29, 30, 31, 32, 33, 34, 35, 36, 37, 38] 39 rfl (by decide) rfl) rfl hl.1 rfl (Nat.le_of_ble_eq_true rfl) d_Ho_read_1 ⟨Nat.le_of_ble_eq_true rfl, Nat.le_of_ble_eq_true rfl⟩) hP hD hS hA [] [0, 1, 2, 3, 4, 5, 6, 7, 8, 9, 10, 11, 12, 13, 14, 15, 16, 17, 18, 19, 20, 21, 22, 23, 24, 25, 26, 27, 28, 29, 30, 31, 32, 33, 34, 35, 36, 37, 38] 39 rfl (by decide) rfl rfl (fun r1 u2 H locs hu2 hP hD hS => ?_)
  subst hu2
  refine k_cst (v := 1) (place_ok hj) ?_
  have hP : va_P D classes (cat [[(a0, .inr (12, [.ref a1, .ref a2, .ref a3, .ref a4, .ref a5, .ref a6, .ref a7, .int 0, .int ((-1)), .ref a8, .ref a9, .int 0, .int 0, .ref a10, .int 0, .int 0, .null, .null, .null, .null, .null]))], [(a5, .inr (8, [.ref a11, .int 0, .int ((-1)), .int ((-1)), .ref a12, .int 0, .int 0, .int 0, .int 0, .int 0, .ref a13, .int 0]))], [(a12, .inr (3, [.int 0, .int 0, .int 1, .ref a14, .ref a15, .ref a16, .ref a17, .ref a18, .ref a19, .ref a20, .ref a21, .ref a22, .ref a23, .ref a24, .ref a25, .ref a26, .null, .int 0, .int 0]))], [(a25, .inl (kA 0, 24, .inl f0))], [(a26, .inl (kA 0, 576, .inl f1))], [(a13, .inl (kA 0, 5, .inl f2))], [(a1, .inl (kA 4, 4, .inr (.inr (.inr (.inr (rr (g 0)))))))], [(g 0 j, .inr (3, [.int 0, .int 0, .int 1, .ref a27, .ref a28, .ref a29, .ref a30, .ref a31, .ref a32, .ref a33, .ref a34, .ref a35, .ref a36, .ref a37, .ref a38, .ref a39, .null, .int 0, .int 0]))], [(a27, .inl (kA 1, 192, .inl f3))], [(a14, .inl (kA 1, 192, .inl (fun _ => 0)))], [(a15, .inl (kA 0, 24, .inl f4))], [(a28, .inl (kA 0, 24, .inl f5))], [(a16, .inl (kA 0, 24, .inl f6))], [(a29, .inl (kA 0, 24, .inl f7))], [(a17, .inl (kA 0, 24, .inl f8))], [(a30, .inl (kA 0, 24, .inl f9))], [(a18, .inl (kA 0, 48, .inl f10))], [(a31, .inl (kA 0, 48, .inl f11))], [(a19, .inl (kA 0, 48, .inl f12))], [(a32, .inl (kA 0, 48, .inl f13))], [(a20, .inl (kA 0, 48, .inl f14))], [(a33, .inl (kA 0, 48, .inl f15))], [(a21, .inl (kA 0, 48, .inl f16))], [(a34, .inl (kA 0, 48, .inl f17))], [(a22, .inl (kA 0, 8, .inl f18))], [(a35, .inl (kA 0, 8, .inl f19))], [(a36, .inl (kA 1, 64, .inl f20))], [(a23, .inl (kA 1, 64, .inl (fun _ => 0)))], [(a24, .inl (kA 0, 8, .inl f21))], [(a37, .inl (kA 0, 8, .inl f22))], [(a38, .inl (kA 0, 24, .inl f23))], [(a39, .inl (kA 0, 576, .inl f24))], [(a2, .inl (kA 5, 4, .inr (.inr (.inr (.inr (rr (g 1)))))))], [(g 1 j, .inr (2, [.int 0, .int 0, .int 0, .int 0, .ref a40, .ref a41, .ref a42, .ref a43, .ref a44, .ref a45, .ref a46, .ref a47, .ref a48, .ref a49, .ref a50]))], [(a3, .inl (kA 6, 4, .inr (.inr (.inr (.inr (rr (g 2)))))))], [(g 2 j, .inr (5, [.int ((-1)), .int ((-1)), .int ((-1)), .int 0, .ref a51, .int 0, .int 0, .ref a52, .ref a53, .ref a54, .ref a55, .ref a56, .ref a57, .int 0, .ref a58, .ref a59, .ref a60]))], [(a4, .inl (kA 7, 4, .inr (.inr (.inr (.inr (rr (g 3)))))))], [(g 3 j, .inr (0, [.ref a61, .int ((-1)), .ref a62, .ref a63, .ref a64, .ref a65, .ref a66, .int 0, .int 0, .int 0, .ref a67, .ref a68, .ref a69, .ref a70, .ref a71, .ref a72, .ref a73, .int 0, .int 0, .int 0, .int 0]))], [(a71, .inl (kA 0, 216, .inl f25))]]) H := hP
  have hD : va_D A (cat [[(a0, .inr (12, [.ref a1, .ref a2, .ref a3, .ref a4, .ref a5, .ref a6, .ref a7, .int 0, .int ((-1)), .ref a8, .ref a9, .int 0, .int 0, .ref a10, .int 0, .int 0, .null, .null, .null, .null, .null]))], [(a5, .inr (8, [.ref a11, .int 0, .int ((-1)), .int ((-1)), .ref a12, .int 0, .int 0, .int 0, .int 0, .int 0, .ref a13, .int 0]))], [(a12, .inr (3, [.int 0, .int 0, .int 1, .ref a14, .ref a15, .ref a16, .ref a17, .ref a18, .ref a19, .ref a20, .ref a21, .ref a22, .ref a23, .ref a24, .ref a25, .ref a26, .null, .int 0, .int 0]))], [(a25, .inl (kA 0, 24, .inl f0))], [(a26, .inl (kA 0, 576, .inl f1))], [(a13, .inl (kA 0, 5, .inl f2))], [(a1, .inl (kA 4, 4, .inr (.inr (.inr (.inr (rr (g 0)))))))], [(g 0 j, .inr (3, [.int 0, .int 0, .int 1, .ref a27, .ref a28, .ref a29, .ref a30, .ref a31, .ref a32, .ref a33, .ref a34, .ref a35, .ref a36, .ref a37, .ref a38, .ref a39, .null, .int 0, .int 0]))], [(a27, .inl (kA 1, 192, .inl f3))], [(a14, .inl (kA 1, 192, .inl (fun _ => 0)))], [(a15, .inl (kA 0, 24, .inl f4))], [(a28, .inl (kA 0, 24, .inl f5))], [(a16, .inl (kA 0, 24, .inl f6))], [(a29, .inl (kA 0, 24, .inl f7))], [(a17, .inl (kA 0, 24, .inl f8))], [(a30, .inl (kA 0, 24, .inl f9))], [(a18, .inl (kA 0, 48, .inl f10))], [(a31, .inl (kA 0, 48, .inl f11))], [(a19, .inl (kA 0, 48, .inl f12))], [(a32, .inl (kA 0, 48, .inl f13))], [(a20, .inl (kA 0, 48, .inl f14))], [(a33, .inl (kA 0, 48, .inl f15))], [(a21, .inl (kA 0, 48, .inl f16))], [(a34, .inl (kA 0, 48, .inl f17))], [(a22, .inl (kA 0, 8, .inl f18))], [(a35, .inl (kA 0, 8, .inl f19))], [(a36, .inl (kA 1, 64, .inl f20))], [(a23, .inl (kA 1, 64, .inl (fun _ => 0)))], [(a24, .inl (kA 0, 8, .inl f21))], [(a37, .inl (kA 0, 8, .inl f22))], [(a38, .inl (kA 0, 24, .inl f23))], [(a39, .inl (kA 0, 576, .inl f24))], [(a2, .inl (kA 5, 4, .inr (.inr (.inr (.inr (rr (g 1)))))))], [(g 1 j, .inr (2, [.int 0, .int 0, .int 0, .int 0, .ref a40, .ref a41, .ref a42, .ref a43, .ref a44, .ref a45, .ref a46, .ref a47, .ref a48, .ref a49, .ref a50]))], [(a3, .inl (kA 6, 4, .inr (.inr (.inr (.inr (rr (g 2)))))))], [(g 2 j, .inr (5, [.int ((-1)), .int ((-1)), .int ((-1)), .int 0, .ref a51, .int 0, .int 0, .ref a52, .ref a53, .ref a54, .ref a55, .ref a56, .ref a57, .int 0, .ref a58, .ref a59, .ref a60]))], [(a4, .inl (kA 7, 4, .inr (.inr (.inr (.inr (rr (g 3)))))))], [(g 3 j, .inr (0, [.ref a61, .int ((-1)), .ref a62, .ref a63, .ref a64, .ref a65, .ref a66, .int 0, .int 0, .int 0, .ref a67, .ref a68, .ref a69, .ref a70, .ref a71, .ref a72, .ref a73, .int 0, .int 0, .int 0, .int 0]))], [(a71, .inl (kA 0, 216, .inl f25))]]) := hD
  refine lv_if_eq (pc := 4) (tgt := 22) hx hb d_Ho_read_4 (by decide) (fun c1 => absurd c1 (by decide)) (fun c1 => ?_)
  refine lv_iload_n (pc := 7) hx hb d_Ho_read_7 rfl (lv_at hl 2 rfl) ?_
  refine lv_if_lt (pc := 8) (tgt := 22) hx hb d_Ho_read_8 (by decide) (fun c1 => absurd c1 (by decide)) (fun c1 => ?_)
  refine lv_iload_n (pc := 11) hx hb d_Ho_read_11 rfl (lv_at hl 2 rfl) ?_
  refine lv_aload_n (pc := 12) hx hb d_Ho_read_12 rfl (lv_at hl 0 rfl) ?_
  refine k_get (pc := 13) X hK hP 0 rfl rfl i_Ho 4 (by decide) wm_559 rfl rfl d_Ho_read_13 ?_
  refine k_get (pc := 16) X hK hP 1 rfl rfl i_Re 1 (by decide) wm_197 rfl rfl d_Ho_read_16 ?_
  refine lv_icmp_le (pc := 19) (tgt := 25) hx hb d_Ho_read_19 (by decide) (fun _ => ?_) (fun c1 => absurd (by decide) c1)
  refine lv_aload_n (pc := 25) hx hb d_Ho_read_25 rfl (lv_at hl 0 rfl) ?_
  refine k_get (pc := 26) X hK hP 0 rfl rfl i_Ho 4 (by decide) wm_559 rfl rfl d_Ho_read_26 ?_
  refine lv_iload_n (pc := 29) hx hb d_Ho_read_29 rfl (lv_at hl 2 rfl) ?_
  refine k_goI (gr := [[(a0, .inr (12, [.ref a1, .ref a2, .ref a3, .ref a4, .ref a5, .ref a6, .ref a7, .int 0, .int ((-1)), .ref a8, .ref a9, .int 0, .int 0, .ref a10, .int 0, .int 0, .null, .null, .null, .null, .null]))], [(a1, .inl (kA 4, 4, .inr (.inr (.inr (.inr (rr (g 0)))))))], [(g 0 j, .inr (3, [.int 0, .int 0, .int 1, .ref a27, .ref a28, .ref a29, .ref a30, .ref a31, .ref a32, .ref a33, .ref a34, .ref a35, .ref a36, .ref a37, .ref a38, .ref a39, .null, .int 0, .int 0]))], [(a27, .inl (kA 1, 192, .inl f3))], [(a14, .inl (kA 1, 192, .inl (fun _ => 0)))], [(a15, .inl (kA 0, 24, .inl f4))], [(a28, .inl (kA 0, 24, .inl f5))], [(a16, .inl (kA 0, 24, .inl f6))], [(a29, .inl (kA 0, 24, .inl f7))], [(a17, .inl (kA 0, 24, .inl f8))], [(a30, .inl (kA 0, 24, .inl f9))], [(a18, .inl (kA 0, 48, .inl f10))], [(a31, .inl (kA 0, 48, .inl f11))], [(a19, .inl (kA 0, 48, .inl f12))], [(a32, .inl (kA 0, 48, .inl f13))], [(a20, .inl (kA 0, 48, .inl f14))], [(a33, .inl (kA 0, 48, .inl f15))], [(a21, .inl (kA 0, 48, .inl f16))], [(a34, .inl (kA 0, 48, .inl f17))], [(a22, .inl (kA 0, 8, .inl f18))], [(a35, .inl (kA 0, 8, .inl f19))], [(a36, .inl (kA 1, 64, .inl f20))], [(a23, .inl (kA 1, 64, .inl (fun _ => 0)))], [(a24, .inl (kA 0, 8, .inl f21))], [(a37, .inl (kA 0, 8, .inl f22))], [(a38, .inl (kA 0, 24, .inl f23))], [(a39, .inl (kA 0, 576, .inl f24))], [(a2, .inl (kA 5, 4, .inr (.inr (.inr (.inr (rr (g 1)))))))], [(g 1 j, .inr (2, [.int 0, .int 0, .int 0, .int 0, .ref a40, .ref a41, .ref a42, .ref a43, .ref a44, .ref a45, .ref a46, .ref a47, .ref a48, .ref a49, .ref a50]))], [(a3, .inl (kA 6, 4, .inr (.inr (.inr (.inr (rr (g 2)))))))], [(g 2 j, .inr (5, [.int ((-1)), .int ((-1)), .int ((-1)), .int 0, .ref a51, .int 0, .int 0, .ref a52, .ref a53, .ref a54, .ref a55, .ref a56, .ref a57, .int 0, .ref a58, .ref a59, .ref a60]))], [(a4, .inl (kA 7, 4, .inr (.inr (.inr (.inr (rr (g 3)))))))], [(g 3 j, .inr (0, [.ref a61, .int ((-1)), .ref a62, .ref a63, .ref a64, .ref a65, .ref a66, .int 0, .int 0, .int 0, .ref a67, .ref a68, .ref a69, .ref a70, .ref a71, .ref a72, .ref a73, .int 0, .int 0, .int 0, .int 0]))], [(a71, .inl (kA 0, 216, .inl f25))]]) (k_rV (pc := 30) (As := [.int 0]) (rest := []) X (c_Re_readGraph_z1 l D kA a5 a11 a12 a13 a14 a15 a16 a17 a18 a19 a20 a21 a22 a23 a24 a25 a26 f0 f1 f2 H.size) rfl wm_637 wm_2 wm_634 wm_635 wm_636 1 (by decide +kernel) ⟨Nat.le_of_ble_eq_true rfl, Nat.le_of_ble_eq_true rfl⟩ rfl rfl (va_recv hK hP (ci := 8) (q0 := 1) rfl rfl) (k_pre hN hK hP hD [1, 2, 3, 4, 5] [0, 6, 7, 8, 9, 10, 11, 12, 13, 14, 15, 16, 17, 18, 19, 20, 21, 22, 23, 24, 25, 26, 27, 28, 29, 30, 31, 32, 33, 34, 35, 36, 37, 38] 39 rfl (by decide) rfl) rfl hl.1 rfl (Nat.le_of_ble_eq_true rfl) d_Ho_read_30 ⟨Nat.le_of_ble_eq_true rfl, Nat.le_of_ble_eq_true rfl⟩) hP hD hS hA [1, 2, 3, 4, 5] [0, 6, 7, 8, 9, 10, 11, 12, 13, 14, 15, 16, 17, 18, 19, 20, 21, 22, 23, 24, 25, 26, 27, 28, 29, 30, 31, 32, 33, 34, 35, 36, 37, 38] 39 rfl (by decide) rfl rfl (fun r3 u4 H locs hu4 hP hD hS => ?_)
  subst hu4
  have hP : va_P D classes (cat [[(a0, .inr (12, [.ref a1, .ref a2, .ref a3, .ref a4, .ref a5, .ref a6, .ref a7, .int 0, .int ((-1)), .ref a8, .ref a9, .int 0, .int 0, .ref a10, .int 0, .int 0, .null, .null, .null, .null, .null]))], [(a1, .inl (kA 4, 4, .inr (.inr (.inr (.inr (rr (g 0)))))))], [(g 0 j, .inr (3, [.int 0, .int 0, .int 1, .ref a27, .ref a28, .ref a29, .ref a30, .ref a31, .ref a32, .ref a33, .ref a34, .ref a35, .ref a36, .ref a37, .ref a38, .ref a39, .null, .int 0, .int 0]))], [(a27, .inl (kA 1, 192, .inl f3))], [(a14, .inl (kA 1, 192, .inl (fun _ => 0)))], [(a15, .inl (kA 0, 24, .inl f4))], [(a28, .inl (kA 0, 24, .inl f5))], [(a16, .inl (kA 0, 24, .inl f6))], [(a29, .inl (kA 0, 24, .inl f7))], [(a17, .inl (kA 0, 24, .inl f8))], [(a30, .inl (kA 0, 24, .inl f9))], [(a18, .inl (kA 0, 48, .inl f10))], [(a31, .inl (kA 0, 48, .inl f11))], [(a19, .inl (kA 0, 48, .inl f12))], [(a32, .inl (kA 0, 48, .inl f13))], [(a20, .inl (kA 0, 48, .inl f14))], [(a33, .inl (kA 0, 48, .inl f15))], [(a21, .inl (kA 0, 48, .inl f16))], [(a34, .inl (kA 0, 48, .inl f17))], [(a22, .inl (kA 0, 8, .inl f18))], [(a35, .inl (kA 0, 8, .inl f19))], [(a36, .inl (kA 1, 64, .inl f20))], [(a23, .inl (kA 1, 64, .inl (fun _ => 0)))], [(a24, .inl (kA 0, 8, .inl f21))], [(a37, .inl (kA 0, 8, .inl f22))], [(a38, .inl (kA 0, 24, .inl f23))], [(a39, .inl (kA 0, 576, .inl f24))], [(a2, .inl (kA 5, 4, .inr (.inr (.inr (.inr (rr (g 1)))))))], [(g 1 j, .inr (2, [.int 0, .int 0, .int 0, .int 0, .ref a40, .ref a41, .ref a42, .ref a43, .ref a44, .ref a45, .ref a46, .ref a47, .ref a48, .ref a49, .ref a50]))], [(a3, .inl (kA 6, 4, .inr (.inr (.inr (.inr (rr (g 2)))))))], [(g 2 j, .inr (5, [.int ((-1)), .int ((-1)), .int ((-1)), .int 0, .ref a51, .int 0, .int 0, .ref a52, .ref a53, .ref a54, .ref a55, .ref a56, .ref a57, .int 0, .ref a58, .ref a59, .ref a60]))], [(a4, .inl (kA 7, 4, .inr (.inr (.inr (.inr (rr (g 3)))))))], [(g 3 j, .inr (0, [.ref a61, .int ((-1)), .ref a62, .ref a63, .ref a64, .ref a65, .ref a66, .int 0, .int 0, .int 0, .ref a67, .ref a68, .ref a69, .ref a70, .ref a71, .ref a72, .ref a73, .int 0, .int 0, .int 0, .int 0]))], [(a71, .inl (kA 0, 216, .inl f25))], [(a5, .inr (8, [.ref a11, .int 0, .int 0, .int ((-1)), .ref a12, .int 0, .int 0, .int 0, .int 0, .int 0, .ref a13, .int 0]))], [(a12, .inr (3, [.int 0, .int 0, .int 1, .ref a14, .ref a15, .ref a16, .ref a17, .ref a18, .ref a19, .ref a20, .ref a21, .ref a22, .ref a23, .ref a24, .ref a25, .ref a26, .null, .int 0, .int 0]))], [(a25, .inl (kA 0, 24, .inl (fl f0 24 0)))], [(a26, .inl (kA 0, 576, .inl (fl f1 576 (-1))))], [(a13, .inl (kA 0, 5, .inl (upd (f2) 0 0)))]]) H := hP
  have hD : va_D A (cat [[(a0, .inr (12, [.ref a1, .ref a2, .ref a3, .ref a4, .ref a5, .ref a6, .ref a7, .int 0, .int ((-1)), .ref a8, .ref a9, .int 0, .int 0, .ref a10, .int 0, .int 0, .null, .null, .null, .null, .null]))], [(a1, .inl (kA 4, 4, .inr (.inr (.inr (.inr (rr (g 0)))))))], [(g 0 j, .inr (3, [.int 0, .int 0, .int 1, .ref a27, .ref a28, .ref a29, .ref a30, .ref a31, .ref a32, .ref a33, .ref a34, .ref a35, .ref a36, .ref a37, .ref a38, .ref a39, .null, .int 0, .int 0]))], [(a27, .inl (kA 1, 192, .inl f3))], [(a14, .inl (kA 1, 192, .inl (fun _ => 0)))], [(a15, .inl (kA 0, 24, .inl f4))], [(a28, .inl (kA 0, 24, .inl f5))], [(a16, .inl (kA 0, 24, .inl f6))], [(a29, .inl (kA 0, 24, .inl f7))], [(a17, .inl (kA 0, 24, .inl f8))], [(a30, .inl (kA 0, 24, .inl f9))], [(a18, .inl (kA 0, 48, .inl f10))], [(a31, .inl (kA 0, 48, .inl f11))], [(a19, .inl (kA 0, 48, .inl f12))], [(a32, .inl (kA 0, 48, .inl f13))], [(a20, .inl (kA 0, 48, .inl f14))], [(a33, .inl (kA 0, 48, .inl f15))], [(a21, .inl (kA 0, 48, .inl f16))], [(a34, .inl (kA 0, 48, .inl f17))], [(a22, .inl (kA 0, 8, .inl f18))], [(a35, .inl (kA 0, 8, .inl f19))], [(a36, .inl (kA 1, 64, .inl f20))], [(a23, .inl (kA 1, 64, .inl (fun _ => 0)))], [(a24, .inl (kA 0, 8, .inl f21))], [(a37, .inl (kA 0, 8, .inl f22))], [(a38, .inl (kA 0, 24, .inl f23))], [(a39, .inl (kA 0, 576, .inl f24))], [(a2, .inl (kA 5, 4, .inr (.inr (.inr (.inr (rr (g 1)))))))], [(g 1 j, .inr (2, [.int 0, .int 0, .int 0, .int 0, .ref a40, .ref a41, .ref a42, .ref a43, .ref a44, .ref a45, .ref a46, .ref a47, .ref a48, .ref a49, .ref a50]))], [(a3, .inl (kA 6, 4, .inr (.inr (.inr (.inr (rr (g 2)))))))], [(g 2 j, .inr (5, [.int ((-1)), .int ((-1)), .int ((-1)), .int 0, .ref a51, .int 0, .int 0, .ref a52, .ref a53, .ref a54, .ref a55, .ref a56, .ref a57, .int 0, .ref a58, .ref a59, .ref a60]))], [(a4, .inl (kA 7, 4, .inr (.inr (.inr (.inr (rr (g 3)))))))], [(g 3 j, .inr (0, [.ref a61, .int ((-1)), .ref a62, .ref a63, .ref a64, .ref a65, .ref a66, .int 0, .int 0, .int 0, .ref a67, .ref a68, .ref a69, .ref a70, .ref a71, .ref a72, .ref a73, .int 0, .int 0, .int 0, .int 0]))], [(a71, .inl (kA 0, 216, .inl f25))], [(a5, .inr (8, [.ref a11, .int 0, .int 0, .int ((-1)), .ref a12, .int 0, .int 0, .int 0, .int 0, .int 0, .ref a13, .int 0]))], [(a12, .inr (3, [.int 0, .int 0, .int 1, .ref a14, .ref a15, .ref a16, .ref a17, .ref a18, .ref a19, .ref a20, .ref a21, .ref a22, .ref a23, .ref a24, .ref a25, .ref a26, .null, .int 0, .int 0]))], [(a25, .inl (kA 0, 24, .inl (fl f0 24 0)))], [(a26, .inl (kA 0, 576, .inl (fl f1 576 (-1))))], [(a13, .inl (kA 0, 5, .inl (upd (f2) 0 0)))]]) := hD
  refine lv_istore_n (pc := 33) (lv' := [(3, .int 1), (0, .ref a0), (1, .int (nI j)), (2, .int 0)]) hx hb d_Ho_read_33 rfl hl (by decide) rfl (fun ls hl => ?_)
  refine lv_aload_n (pc := 34) hx hb d_Ho_read_34 rfl (lv_at hl 1 rfl) ?_
  refine k_get (pc := 35) X hK hP 0 rfl rfl i_Ho 4 (by decide) wm_559 rfl rfl d_Ho_read_35 ?_
  refine lv_iconst (pc := 38) (v := 0) hx hb d_Ho_read_38 (by decide) ?_
  refine k_put (pc := 39) X hK hP hD hS 34 rfl rfl i_Re t_Re t_Re_ok n_Re 1 (by decide) wm_197 rfl (Or.inl rfl) rfl rfl (Nat.le_of_ble_eq_true rfl) d_Ho_read_39 (fun H locs hP hD hS => ?_)
  have hP : va_P D classes (cat [[(a0, .inr (12, [.ref a1, .ref a2, .ref a3, .ref a4, .ref a5, .ref a6, .ref a7, .int 0, .int ((-1)), .ref a8, .ref a9, .int 0, .int 0, .ref a10, .int 0, .int 0, .null, .null, .null, .null, .null]))], [(a1, .inl (kA 4, 4, .inr (.inr (.inr (.inr (rr (g 0)))))))], [(g 0 j, .inr (3, [.int 0, .int 0, .int 1, .ref a27, .ref a28, .ref a29, .ref a30, .ref a31, .ref a32, .ref a33, .ref a34, .ref a35, .ref a36, .ref a37, .ref a38, .ref a39, .null, .int 0, .int 0]))], [(a27, .inl (kA 1, 192, .inl f3))], [(a14, .inl (kA 1, 192, .inl (fun _ => 0)))], [(a15, .inl (kA 0, 24, .inl f4))], [(a28, .inl (kA 0, 24, .inl f5))], [(a16, .inl (kA 0, 24, .inl f6))], [(a29, .inl (kA 0, 24, .inl f7))], [(a17, .inl (kA 0, 24, .inl f8))], [(a30, .inl (kA 0, 24, .inl f9))], [(a18, .inl (kA 0, 48, .inl f10))], [(a31, .inl (kA 0, 48, .inl f11))], [(a19, .inl (kA 0, 48, .inl f12))], [(a32, .inl (kA 0, 48, .inl f13))], [(a20, .inl (kA 0, 48, .inl f14))], [(a33, .inl (kA 0, 48, .inl f15))], [(a21, .inl (kA 0, 48, .inl f16))], [(a34, .inl (kA 0, 48, .inl f17))], [(a22, .inl (kA 0, 8, .inl f18))], [(a35, .inl (kA 0, 8, .inl f19))], [(a36, .inl (kA 1, 64, .inl f20))], [(a23, .inl (kA 1, 64, .inl (fun _ => 0)))], [(a24, .inl (kA 0, 8, .inl f21))], [(a37, .inl (kA 0, 8, .inl f22))], [(a38, .inl (kA 0, 24, .inl f23))], [(a39, .inl (kA 0, 576, .inl f24))], [(a2, .inl (kA 5, 4, .inr (.inr (.inr (.inr (rr (g 1)))))))], [(g 1 j, .inr (2, [.int 0, .int 0, .int 0, .int 0, .ref a40, .ref a41, .ref a42, .ref a43, .ref a44, .ref a45, .ref a46, .ref a47, .ref a48, .ref a49, .ref a50]))], [(a3, .inl (kA 6, 4, .inr (.inr (.inr (.inr (rr (g 2)))))))], [(g 2 j, .inr (5, [.int ((-1)), .int ((-1)), .int ((-1)), .int 0, .ref a51, .int 0, .int 0, .ref a52, .ref a53, .ref a54, .ref a55, .ref a56, .ref a57, .int 0, .ref a58, .ref a59, .ref a60]))], [(a4, .inl (kA 7, 4, .inr (.inr (.inr (.inr (rr (g 3)))))))], [(g 3 j, .inr (0, [.ref a61, .int ((-1)), .ref a62, .ref a63, .ref a64, .ref a65, .ref a66, .int 0, .int 0, .int 0, .ref a67, .ref a68, .ref a69, .ref a70, .ref a71, .ref a72, .ref a73, .int 0, .int 0, .int 0, .int 0]))], [(a71, .inl (kA 0, 216, .inl f25))], [(a5, .inr (8, [.ref a11, .int 0, .int 0, .int ((-1)), .ref a12, .int 0, .int 0, .int 0, .int 0, .int 0, .ref a13, .int 0]))], [(a12, .inr (3, [.int 0, .int 0, .int 1, .ref a14, .ref a15, .ref a16, .ref a17, .ref a18, .ref a19, .ref a20, .ref a21, .ref a22, .ref a23, .ref a24, .ref a25, .ref a26, .null, .int 0, .int 0]))], [(a25, .inl (kA 0, 24, .inl (fl f0 24 0)))], [(a26, .inl (kA 0, 576, .inl (fl f1 576 (-1))))], [(a13, .inl (kA 0, 5, .inl (upd (f2) 0 0)))]]) H := hP
  have hD : va_D A (cat [[(a0, .inr (12, [.ref a1, .ref a2, .ref a3, .ref a4, .ref a5, .ref a6, .ref a7, .int 0, .int ((-1)), .ref a8, .ref a9, .int 0, .int 0, .ref a10, .int 0, .int 0, .null, .null, .null, .null, .null]))], [(a1, .inl (kA 4, 4, .inr (.inr (.inr (.inr (rr (g 0)))))))], [(g 0 j, .inr (3, [.int 0, .int 0, .int 1, .ref a27, .ref a28, .ref a29, .ref a30, .ref a31, .ref a32, .ref a33, .ref a34, .ref a35, .ref a36, .ref a37, .ref a38, .ref a39, .null, .int 0, .int 0]))], [(a27, .inl (kA 1, 192, .inl f3))], [(a14, .inl (kA 1, 192, .inl (fun _ => 0)))], [(a15, .inl (kA 0, 24, .inl f4))], [(a28, .inl (kA 0, 24, .inl f5))], [(a16, .inl (kA 0, 24, .inl f6))], [(a29, .inl (kA 0, 24, .inl f7))], [(a17, .inl (kA 0, 24, .inl f8))], [(a30, .inl (kA 0, 24, .inl f9))], [(a18, .inl (kA 0, 48, .inl f10))], [(a31, .inl (kA 0, 48, .inl f11))], [(a19, .inl (kA 0, 48, .inl f12))], [(a32, .inl (kA 0, 48, .inl f13))], [(a20, .inl (kA 0, 48, .inl f14))], [(a33, .inl (kA 0, 48, .inl f15))], [(a21, .inl (kA 0, 48, .inl f16))], [(a34, .inl (kA 0, 48, .inl f17))], [(a22, .inl (kA 0, 8, .inl f18))], [(a35, .inl (kA 0, 8, .inl f19))], [(a36, .inl (kA 1, 64, .inl f20))], [(a23, .inl (kA 1, 64, .inl (fun _ => 0)))], [(a24, .inl (kA 0, 8, .inl f21))], [(a37, .inl (kA 0, 8, .inl f22))], [(a38, .inl (kA 0, 24, .inl f23))], [(a39, .inl (kA 0, 576, .inl f24))], [(a2, .inl (kA 5, 4, .inr (.inr (.inr (.inr (rr (g 1)))))))], [(g 1 j, .inr (2, [.int 0, .int 0, .int 0, .int 0, .ref a40, .ref a41, .ref a42, .ref a43, .ref a44, .ref a45, .ref a46, .ref a47, .ref a48, .ref a49, .ref a50]))], [(a3, .inl (kA 6, 4, .inr (.inr (.inr (.inr (rr (g 2)))))))], [(g 2 j, .inr (5, [.int ((-1)), .int ((-1)), .int ((-1)), .int 0, .ref a51, .int 0, .int 0, .ref a52, .ref a53, .ref a54, .ref a55, .ref a56, .ref a57, .int 0, .ref a58, .ref a59, .ref a60]))], [(a4, .inl (kA 7, 4, .inr (.inr (.inr (.inr (rr (g 3)))))))], [(g 3 j, .inr (0, [.ref a61, .int ((-1)), .ref a62, .ref a63, .ref a64, .ref a65, .ref a66, .int 0, .int 0, .int 0, .ref a67, .ref a68, .ref a69, .ref a70, .ref a71, .ref a72, .ref a73, .int 0, .int 0, .int 0, .int 0]))], [(a71, .inl (kA 0, 216, .inl f25))], [(a5, .inr (8, [.ref a11, .int 0, .int 0, .int ((-1)), .ref a12, .int 0, .int 0, .int 0, .int 0, .int 0, .ref a13, .int 0]))], [(a12, .inr (3, [.int 0, .int 0, .int 1, .ref a14, .ref a15, .ref a16, .ref a17, .ref a18, .ref a19, .ref a20, .ref a21, .ref a22, .ref a23, .ref a24, .ref a25, .ref a26, .null, .int 0, .int 0]))], [(a25, .inl (kA 0, 24, .inl (fl f0 24 0)))], [(a26, .inl (kA 0, 576, .inl (fl f1 576 (-1))))], [(a13, .inl (kA 0, 5, .inl (upd (f2) 0 0)))]]) := hD
  refine lv_iload_n (pc := 42) hx hb d_Ho_read_42 rfl (lv_at hl 0 rfl) ?_
  refine lv_if_ne (pc := 43) (tgt := 48) hx hb d_Ho_read_43 (by decide) (fun c1 => ?_) (fun c1 => absurd c1 (by decide))
  refine lv_aload_n (pc := 48) hx hb d_Ho_read_48 rfl (lv_at hl 1 rfl) ?_
  refine k_get (pc := 49) X hK hP 0 rfl rfl i_Ho 0 (by decide) wm_555 rfl rfl d_Ho_read_49 ?_
  refine lv_iload_n (pc := 52) hx hb d_Ho_read_52 rfl (lv_at hl 2 rfl) ?_
  refine k_ald (pc := 53) hx hb hK hP 1 4 rfl rfl (j) rfl (by omega) (by decide) (rr_at (by omega)) d_Ho_read_53 ?_
  refine lv_aload_n (pc := 54) hx hb d_Ho_read_54 rfl (lv_at hl 1 rfl) ?_
  refine k_get (pc := 55) X hK hP 0 rfl rfl i_Ho 4 (by decide) wm_559 rfl rfl d_Ho_read_55 ?_
  refine k_get (pc := 58) X hK hP 34 rfl rfl i_Re 4 (by decide) wm_203 rfl rfl d_Ho_read_58 ?_
  refine k_goV (gr := [[(a0, .inr (12, [.ref a1, .ref a2, .ref a3, .ref a4, .ref a5, .ref a6, .ref a7, .int 0, .int ((-1)), .ref a8, .ref a9, .int 0, .int 0, .ref a10, .int 0, .int 0, .null, .null, .null, .null, .null]))], [(a1, .inl (kA 4, 4, .inr (.inr (.inr (.inr (rr (g 0)))))))], [(a2, .inl (kA 5, 4, .inr (.inr (.inr (.inr (rr (g 1)))))))], [(g 1 j, .inr (2, [.int 0, .int 0, .int 0, .int 0, .ref a40, .ref a41, .ref a42, .ref a43, .ref a44, .ref a45, .ref a46, .ref a47, .ref a48, .ref a49, .ref a50]))], [(a3, .inl (kA 6, 4, .inr (.inr (.inr (.inr (rr (g 2)))))))], [(g 2 j, .inr (5, [.int ((-1)), .int ((-1)), .int ((-1)), .int 0, .ref a51, .int 0, .int 0, .ref a52, .ref a53, .ref a54, .ref a55, .ref a56, .ref a57, .int 0, .ref a58, .ref a59, .ref a60]))], [(a4, .inl (kA 7, 4, .inr (.inr (.inr (.inr (rr (g 3)))))))], [(g 3 j, .inr (0, [.ref a61, .int ((-1)), .ref a62, .ref a63, .ref a64, .ref a65, .ref a66, .int 0, .int 0, .int 0, .ref a67, .ref a68, .ref a69, .ref a70, .ref a71, .ref a72, .ref a73, .int 0, .int 0, .int 0, .int 0]))], [(a71, .inl (kA 0, 216, .inl f25))], [(a5, .inr (8, [.ref a11, .int 0, .int 0, .int ((-1)), .ref a12, .int 0, .int 0, .int 0, .int 0, .int 0, .ref a13, .int 0]))], [(a25, .inl (kA 0, 24, .inl (fl f0 24 0)))], [(a26, .inl (kA 0, 576, .inl (fl f1 576 (-1))))], [(a13, .inl (kA 0, 5, .inl (upd (f2) 0 0)))]]) (k_rV (pc := 61) (As := [.ref a12]) (rest := []) X (c_Gr_copyFrom_z1 l D kA g j a12 a14 a15 a16 a17 a18 a19 a20 a21 a22 a23 a24 a25 a26 a27 a28 a29 a30 a31 a32 a33 a34 a35 a36 a37 a38 a39 f3 f4 f5 f6 f7 f8 f9 f10 f11 f12 f13 f14 f15 f16 f17 f18 f19 f20 f21 f22 f23 f24 hj H.size) rfl wm_781 wm_3 wm_778 wm_779 wm_780 1 (by decide +kernel) ⟨Nat.le_of_ble_eq_true rfl, Nat.le_of_ble_eq_true rfl⟩ rfl rfl (va_recv hK hP (ci := 3) (q0 := 2) rfl rfl) (k_pre hN hK hP hD [35, 2, 3, 4, 5, 6, 7, 8, 9, 10, 11, 12, 13, 14, 15, 16, 17, 18, 19, 20, 21, 22, 23, 24, 25, 26] [0, 1, 27, 28, 29, 30, 31, 32, 33, 34, 36, 37, 38] 39 rfl (by decide) rfl) rfl hl.1 rfl (Nat.le_of_ble_eq_true rfl) d_Ho_read_61 ⟨Nat.le_of_ble_eq_true rfl, Nat.le_of_ble_eq_true rfl⟩) hP hD hS hA [35, 2, 3, 4, 5, 6, 7, 8, 9, 10, 11, 12, 13, 14, 15, 16, 17, 18, 19, 20, 21, 22, 23, 24, 25, 26] [0, 1, 27, 28, 29, 30, 31, 32, 33, 34, 36, 37, 38] 39 rfl (by decide) rfl rfl (fun u5 H locs hu5 hP hD hS => ?_)
  have hP : va_P D classes (cat [[(a0, .inr (12, [.ref a1, .ref a2, .ref a3, .ref a4, .ref a5, .ref a6, .ref a7, .int 0, .int ((-1)), .ref a8, .ref a9, .int 0, .int 0, .ref a10, .int 0, .int 0, .null, .null, .null, .null, .null]))], [(a1, .inl (kA 4, 4, .inr (.inr (.inr (.inr (rr (g 0)))))))], [(a2, .inl (kA 5, 4, .inr (.inr (.inr (.inr (rr (g 1)))))))], [(g 1 j, .inr (2, [.int 0, .int 0, .int 0, .int 0, .ref a40, .ref a41, .ref a42, .ref a43, .ref a44, .ref a45, .ref a46, .ref a47, .ref a48, .ref a49, .ref a50]))], [(a3, .inl (kA 6, 4, .inr (.inr (.inr (.inr (rr (g 2)))))))], [(g 2 j, .inr (5, [.int ((-1)), .int ((-1)), .int ((-1)), .int 0, .ref a51, .int 0, .int 0, .ref a52, .ref a53, .ref a54, .ref a55, .ref a56, .ref a57, .int 0, .ref a58, .ref a59, .ref a60]))], [(a4, .inl (kA 7, 4, .inr (.inr (.inr (.inr (rr (g 3)))))))], [(g 3 j, .inr (0, [.ref a61, .int ((-1)), .ref a62, .ref a63, .ref a64, .ref a65, .ref a66, .int 0, .int 0, .int 0, .ref a67, .ref a68, .ref a69, .ref a70, .ref a71, .ref a72, .ref a73, .int 0, .int 0, .int 0, .int 0]))], [(a71, .inl (kA 0, 216, .inl f25))], [(a5, .inr (8, [.ref a11, .int 0, .int 0, .int ((-1)), .ref a12, .int 0, .int 0, .int 0, .int 0, .int 0, .ref a13, .int 0]))], [(a25, .inl (kA 0, 24, .inl (fl f0 24 0)))], [(a26, .inl (kA 0, 576, .inl (fl f1 576 (-1))))], [(a13, .inl (kA 0, 5, .inl (upd (f2) 0 0)))], [(a12, .inr (3, [.int 0, .int 0, .int 1, .ref a14, .ref a15, .ref a16, .ref a17, .ref a18, .ref a19, .ref a20, .ref a21, .ref a22, .ref a23, .ref a24, .ref a25, .ref a26, .null, .int 0, .int 0]))], [(g 0 j, .inr (3, [.int 0, .int 0, .int 1, .ref a27, .ref a28, .ref a29, .ref a30, .ref a31, .ref a32, .ref a33, .ref a34, .ref a35, .ref a36, .ref a37, .ref a38, .ref a39, .null, .int 0, .int 0]))], [(a27, .inl (kA 1, 192, .inl (va_cpy (fun _ => 0) f3 0 0 192)))], [(a14, .inl (kA 1, 192, .inl (fun _ => 0)))], [(a15, .inl (kA 0, 24, .inl f4))], [(a28, .inl (kA 0, 24, .inl (va_cpy f4 f5 0 0 24)))], [(a16, .inl (kA 0, 24, .inl f6))], [(a29, .inl (kA 0, 24, .inl (va_cpy f6 f7 0 0 24)))], [(a17, .inl (kA 0, 24, .inl f8))], [(a30, .inl (kA 0, 24, .inl (va_cpy f8 f9 0 0 24)))], [(a18, .inl (kA 0, 48, .inl f10))], [(a31, .inl (kA 0, 48, .inl (va_cpy f10 f11 0 0 48)))], [(a19, .inl (kA 0, 48, .inl f12))], [(a32, .inl (kA 0, 48, .inl (va_cpy f12 f13 0 0 48)))], [(a20, .inl (kA 0, 48, .inl f14))], [(a33, .inl (kA 0, 48, .inl (va_cpy f14 f15 0 0 48)))], [(a21, .inl (kA 0, 48, .inl f16))], [(a34, .inl (kA 0, 48, .inl (va_cpy f16 f17 0 0 48)))], [(a22, .inl (kA 0, 8, .inl f18))], [(a35, .inl (kA 0, 8, .inl (va_cpy f18 f19 0 0 8)))], [(a36, .inl (kA 1, 64, .inl (va_cpy (fun _ => 0) f20 0 0 64)))], [(a23, .inl (kA 1, 64, .inl (fun _ => 0)))], [(a24, .inl (kA 0, 8, .inl f21))], [(a37, .inl (kA 0, 8, .inl (va_cpy f21 f22 0 0 8)))], [(a38, .inl (kA 0, 24, .inl (fl f23 24 0)))], [(a39, .inl (kA 0, 576, .inl (fl f24 576 (-1))))]]) H := hP
  have hD : va_D A (cat [[(a0, .inr (12, [.ref a1, .ref a2, .ref a3, .ref a4, .ref a5, .ref a6, .ref a7, .int 0, .int ((-1)), .ref a8, .ref a9, .int 0, .int 0, .ref a10, .int 0, .int 0, .null, .null, .null, .null, .null]))], [(a1, .inl (kA 4, 4, .inr (.inr (.inr (.inr (rr (g 0)))))))], [(a2, .inl (kA 5, 4, .inr (.inr (.inr (.inr (rr (g 1)))))))], [(g 1 j, .inr (2, [.int 0, .int 0, .int 0, .int 0, .ref a40, .ref a41, .ref a42, .ref a43, .ref a44, .ref a45, .ref a46, .ref a47, .ref a48, .ref a49, .ref a50]))], [(a3, .inl (kA 6, 4, .inr (.inr (.inr (.inr (rr (g 2)))))))], [(g 2 j, .inr (5, [.int ((-1)), .int ((-1)), .int ((-1)), .int 0, .ref a51, .int 0, .int 0, .ref a52, .ref a53, .ref a54, .ref a55, .ref a56, .ref a57, .int 0, .ref a58, .ref a59, .ref a60]))], [(a4, .inl (kA 7, 4, .inr (.inr (.inr (.inr (rr (g 3)))))))], [(g 3 j, .inr (0, [.ref a61, .int ((-1)), .ref a62, .ref a63, .ref a64, .ref a65, .ref a66, .int 0, .int 0, .int 0, .ref a67, .ref a68, .ref a69, .ref a70, .ref a71, .ref a72, .ref a73, .int 0, .int 0, .int 0, .int 0]))], [(a71, .inl (kA 0, 216, .inl f25))], [(a5, .inr (8, [.ref a11, .int 0, .int 0, .int ((-1)), .ref a12, .int 0, .int 0, .int 0, .int 0, .int 0, .ref a13, .int 0]))], [(a25, .inl (kA 0, 24, .inl (fl f0 24 0)))], [(a26, .inl (kA 0, 576, .inl (fl f1 576 (-1))))], [(a13, .inl (kA 0, 5, .inl (upd (f2) 0 0)))], [(a12, .inr (3, [.int 0, .int 0, .int 1, .ref a14, .ref a15, .ref a16, .ref a17, .ref a18, .ref a19, .ref a20, .ref a21, .ref a22, .ref a23, .ref a24, .ref a25, .ref a26, .null, .int 0, .int 0]))], [(g 0 j, .inr (3, [.int 0, .int 0, .int 1, .ref a27, .ref a28, .ref a29, .ref a30, .ref a31, .ref a32, .ref a33, .ref a34, .ref a35, .ref a36, .ref a37, .ref a38, .ref a39, .null, .int 0, .int 0]))], [(a27, .inl (kA 1, 192, .inl (va_cpy (fun _ => 0) f3 0 0 192)))], [(a14, .inl (kA 1, 192, .inl (fun _ => 0)))], [(a15, .inl (kA 0, 24, .inl f4))], [(a28, .inl (kA 0, 24, .inl (va_cpy f4 f5 0 0 24)))], [(a16, .inl (kA 0, 24, .inl f6))], [(a29, .inl (kA 0, 24, .inl (va_cpy f6 f7 0 0 24)))], [(a17, .inl (kA 0, 24, .inl f8))], [(a30, .inl (kA 0, 24, .inl (va_cpy f8 f9 0 0 24)))], [(a18, .inl (kA 0, 48, .inl f10))], [(a31, .inl (kA 0, 48, .inl (va_cpy f10 f11 0 0 48)))], [(a19, .inl (kA 0, 48, .inl f12))], [(a32, .inl (kA 0, 48, .inl (va_cpy f12 f13 0 0 48)))], [(a20, .inl (kA 0, 48, .inl f14))], [(a33, .inl (kA 0, 48, .inl (va_cpy f14 f15 0 0 48)))], [(a21, .inl (kA 0, 48, .inl f16))], [(a34, .inl (kA 0, 48, .inl (va_cpy f16 f17 0 0 48)))], [(a22, .inl (kA 0, 8, .inl f18))], [(a35, .inl (kA 0, 8, .inl (va_cpy f18 f19 0 0 8)))], [(a36, .inl (kA 1, 64, .inl (va_cpy (fun _ => 0) f20 0 0 64)))], [(a23, .inl (kA 1, 64, .inl (fun _ => 0)))], [(a24, .inl (kA 0, 8, .inl f21))], [(a37, .inl (kA 0, 8, .inl (va_cpy f21 f22 0 0 8)))], [(a38, .inl (kA 0, 24, .inl (fl f23 24 0)))], [(a39, .inl (kA 0, 576, .inl (fl f24 576 (-1))))]]) := hD
  refine lv_aload_n (pc := 64) hx hb d_Ho_read_64 rfl (lv_at hl 1 rfl) ?_
  refine lv_iload_n (pc := 65) hx hb d_Ho_read_65 rfl (lv_at hl 2 rfl) ?_
  refine k_goV (gr := [[(a1, .inl (kA 4, 4, .inr (.inr (.inr (.inr (rr (g 0)))))))], [(a5, .inr (8, [.ref a11, .int 0, .int 0, .int ((-1)), .ref a12, .int 0, .int 0, .int 0, .int 0, .int 0, .ref a13, .int 0]))], [(a25, .inl (kA 0, 24, .inl (fl f0 24 0)))], [(a26, .inl (kA 0, 576, .inl (fl f1 576 (-1))))], [(a13, .inl (kA 0, 5, .inl (upd (f2) 0 0)))], [(a12, .inr (3, [.int 0, .int 0, .int 1, .ref a14, .ref a15, .ref a16, .ref a17, .ref a18, .ref a19, .ref a20, .ref a21, .ref a22, .ref a23, .ref a24, .ref a25, .ref a26, .null, .int 0, .int 0]))], [(g 0 j, .inr (3, [.int 0, .int 0, .int 1, .ref a27, .ref a28, .ref a29, .ref a30, .ref a31, .ref a32, .ref a33, .ref a34, .ref a35, .ref a36, .ref a37, .ref a38, .ref a39, .null, .int 0, .int 0]))], [(a27, .inl (kA 1, 192, .inl (va_cpy (fun _ => 0) f3 0 0 192)))], [(a14, .inl (kA 1, 192, .inl (fun _ => 0)))], [(a15, .inl (kA 0, 24, .inl f4))], [(a28, .inl (kA 0, 24, .inl (va_cpy f4 f5 0 0 24)))], [(a16, .inl (kA 0, 24, .inl f6))], [(a29, .inl (kA 0, 24, .inl (va_cpy f6 f7 0 0 24)))], [(a17, .inl (kA 0, 24, .inl f8))], [(a30, .inl (kA 0, 24, .inl (va_cpy f8 f9 0 0 24)))], [(a18, .inl (kA 0, 48, .inl f10))], [(a31, .inl (kA 0, 48, .inl (va_cpy f10 f11 0 0 48)))], [(a19, .inl (kA 0, 48, .inl f12))], [(a32, .inl (kA 0, 48, .inl (va_cpy f12 f13 0 0 48)))], [(a20, .inl (kA 0, 48, .inl f14))], [(a33, .inl (kA 0, 48, .inl (va_cpy f14 f15 0 0 48)))], [(a21, .inl (kA 0, 48, .inl f16))], [(a34, .inl (kA 0, 48, .inl (va_cpy f16 f17 0 0 48)))], [(a22, .inl (kA 0, 8, .inl f18))], [(a35, .inl (kA 0, 8, .inl (va_cpy f18 f19 0 0 8)))], [(a36, .inl (kA 1, 64, .inl (va_cpy (fun _ => 0) f20 0 0 64)))], [(a23, .inl (kA 1, 64, .inl (fun _ => 0)))], [(a24, .inl (kA 0, 8, .inl f21))], [(a37, .inl (kA 0, 8, .inl (va_cpy f21 f22 0 0 8)))], [(a38, .inl (kA 0, 24, .inl (fl f23 24 0)))], [(a39, .inl (kA 0, 576, .inl (fl f24 576 (-1))))]]) (k_rV (pc := 66) (As := [.int (nI j)]) (rest := []) X (c_Ho_forget_z1 l D kA a0 j a1 a2 a3 a4 a5 a6 a7 a8 a9 a10 g a40 a41 a42 a43 a44 a45 a46 a47 a48 a49 a50 a51 a52 a53 a54 a55 a56 a57 a58 a59 a60 a61 a62 a63 a64 a65 a66 a67 a68 a69 a70 a71 a72 a73 f25 hj H.size) rfl wm_789 wm_1 wm_786 wm_788 wv_1_13 1 (by decide +kernel) ⟨Nat.le_of_ble_eq_true rfl, Nat.le_of_ble_eq_true rfl⟩ rfl rfl (va_recv hK hP (ci := 12) (q0 := 0) rfl rfl) (k_pre hN hK hP hD [0, 2, 3, 4, 5, 6, 7, 8] [1, 9, 10, 11, 12, 13, 14, 15, 16, 17, 18, 19, 20, 21, 22, 23, 24, 25, 26, 27, 28, 29, 30, 31, 32, 33, 34, 35, 36, 37, 38] 39 rfl (by decide) rfl) rfl hl.1 rfl (Nat.le_of_ble_eq_true rfl) d_Ho_read_66 ⟨Nat.le_of_ble_eq_true rfl, Nat.le_of_ble_eq_true rfl⟩) hP hD hS hA [0, 2, 3, 4, 5, 6, 7, 8] [1, 9, 10, 11, 12, 13, 14, 15, 16, 17, 18, 19, 20, 21, 22, 23, 24, 25, 26, 27, 28, 29, 30, 31, 32, 33, 34, 35, 36, 37, 38] 39 rfl (by decide) rfl rfl (fun u6 H locs hu6 hP hD hS => ?_)
  have hP : va_P D classes (cat [[(a1, .inl (kA 4, 4, .inr (.inr (.inr (.inr (rr (g 0)))))))], [(a5, .inr (8, [.ref a11, .int 0, .int 0, .int ((-1)), .ref a12, .int 0, .int 0, .int 0, .int 0, .int 0, .ref a13, .int 0]))], [(a25, .inl (kA 0, 24, .inl (fl f0 24 0)))], [(a26, .inl (kA 0, 576, .inl (fl f1 576 (-1))))], [(a13, .inl (kA 0, 5, .inl (upd (f2) 0 0)))], [(a12, .inr (3, [.int 0, .int 0, .int 1, .ref a14, .ref a15, .ref a16, .ref a17, .ref a18, .ref a19, .ref a20, .ref a21, .ref a22, .ref a23, .ref a24, .ref a25, .ref a26, .null, .int 0, .int 0]))], [(g 0 j, .inr (3, [.int 0, .int 0, .int 1, .ref a27, .ref a28, .ref a29, .ref a30, .ref a31, .ref a32, .ref a33, .ref a34, .ref a35, .ref a36, .ref a37, .ref a38, .ref a39, .null, .int 0, .int 0]))], [(a27, .inl (kA 1, 192, .inl (va_cpy (fun _ => 0) f3 0 0 192)))], [(a14, .inl (kA 1, 192, .inl (fun _ => 0)))], [(a15, .inl (kA 0, 24, .inl f4))], [(a28, .inl (kA 0, 24, .inl (va_cpy f4 f5 0 0 24)))], [(a16, .inl (kA 0, 24, .inl f6))], [(a29, .inl (kA 0, 24, .inl (va_cpy f6 f7 0 0 24)))], [(a17, .inl (kA 0, 24, .inl f8))], [(a30, .inl (kA 0, 24, .inl (va_cpy f8 f9 0 0 24)))], [(a18, .inl (kA 0, 48, .inl f10))], [(a31, .inl (kA 0, 48, .inl (va_cpy f10 f11 0 0 48)))], [(a19, .inl (kA 0, 48, .inl f12))], [(a32, .inl (kA 0, 48, .inl (va_cpy f12 f13 0 0 48)))], [(a20, .inl (kA 0, 48, .inl f14))], [(a33, .inl (kA 0, 48, .inl (va_cpy f14 f15 0 0 48)))], [(a21, .inl (kA 0, 48, .inl f16))], [(a34, .inl (kA 0, 48, .inl (va_cpy f16 f17 0 0 48)))], [(a22, .inl (kA 0, 8, .inl f18))], [(a35, .inl (kA 0, 8, .inl (va_cpy f18 f19 0 0 8)))], [(a36, .inl (kA 1, 64, .inl (va_cpy (fun _ => 0) f20 0 0 64)))], [(a23, .inl (kA 1, 64, .inl (fun _ => 0)))], [(a24, .inl (kA 0, 8, .inl f21))], [(a37, .inl (kA 0, 8, .inl (va_cpy f21 f22 0 0 8)))], [(a38, .inl (kA 0, 24, .inl (fl f23 24 0)))], [(a39, .inl (kA 0, 576, .inl (fl f24 576 (-1))))], [(a0, .inr (12, [.ref a1, .ref a2, .ref a3, .ref a4, .ref a5, .ref a6, .ref a7, .int 0, .int ((-1)), .ref a8, .ref a9, .int 0, .int 0, .ref a10, .int 0, .int 0, .null, .null, .null, .null, .null]))], [(a2, .inl (kA 5, 4, .inr (.inr (.inr (.inr (rr (g 1)))))))], [(g 1 j, .inr (2, [.int 0, .int 0, .int 0, .int 0, .ref a40, .ref a41, .ref a42, .ref a43, .ref a44, .ref a45, .ref a46, .ref a47, .ref a48, .ref a49, .ref a50]))], [(a3, .inl (kA 6, 4, .inr (.inr (.inr (.inr (rr (g 2)))))))], [(g 2 j, .inr (5, [.int ((-1)), .int ((-1)), .int ((-1)), .int 0, .ref a51, .int 0, .int 0, .ref a52, .ref a53, .ref a54, .ref a55, .ref a56, .ref a57, .int 0, .ref a58, .ref a59, .ref a60]))], [(a4, .inl (kA 7, 4, .inr (.inr (.inr (.inr (rr (g 3)))))))], [(g 3 j, .inr (0, [.ref a61, .int ((-1)), .ref a62, .ref a63, .ref a64, .ref a65, .ref a66, .int 0, .int 0, .int 0, .ref a67, .ref a68, .ref a69, .ref a70, .ref a71, .ref a72, .ref a73, .int 0, .int 0, .int 0, .int 0]))], [(a71, .inl (kA 0, 216, .inl (fl f25 216 0)))]]) H := hP
  have hD : va_D A (cat [[(a1, .inl (kA 4, 4, .inr (.inr (.inr (.inr (rr (g 0)))))))], [(a5, .inr (8, [.ref a11, .int 0, .int 0, .int ((-1)), .ref a12, .int 0, .int 0, .int 0, .int 0, .int 0, .ref a13, .int 0]))], [(a25, .inl (kA 0, 24, .inl (fl f0 24 0)))], [(a26, .inl (kA 0, 576, .inl (fl f1 576 (-1))))], [(a13, .inl (kA 0, 5, .inl (upd (f2) 0 0)))], [(a12, .inr (3, [.int 0, .int 0, .int 1, .ref a14, .ref a15, .ref a16, .ref a17, .ref a18, .ref a19, .ref a20, .ref a21, .ref a22, .ref a23, .ref a24, .ref a25, .ref a26, .null, .int 0, .int 0]))], [(g 0 j, .inr (3, [.int 0, .int 0, .int 1, .ref a27, .ref a28, .ref a29, .ref a30, .ref a31, .ref a32, .ref a33, .ref a34, .ref a35, .ref a36, .ref a37, .ref a38, .ref a39, .null, .int 0, .int 0]))], [(a27, .inl (kA 1, 192, .inl (va_cpy (fun _ => 0) f3 0 0 192)))], [(a14, .inl (kA 1, 192, .inl (fun _ => 0)))], [(a15, .inl (kA 0, 24, .inl f4))], [(a28, .inl (kA 0, 24, .inl (va_cpy f4 f5 0 0 24)))], [(a16, .inl (kA 0, 24, .inl f6))], [(a29, .inl (kA 0, 24, .inl (va_cpy f6 f7 0 0 24)))], [(a17, .inl (kA 0, 24, .inl f8))], [(a30, .inl (kA 0, 24, .inl (va_cpy f8 f9 0 0 24)))], [(a18, .inl (kA 0, 48, .inl f10))], [(a31, .inl (kA 0, 48, .inl (va_cpy f10 f11 0 0 48)))], [(a19, .inl (kA 0, 48, .inl f12))], [(a32, .inl (kA 0, 48, .inl (va_cpy f12 f13 0 0 48)))], [(a20, .inl (kA 0, 48, .inl f14))], [(a33, .inl (kA 0, 48, .inl (va_cpy f14 f15 0 0 48)))], [(a21, .inl (kA 0, 48, .inl f16))], [(a34, .inl (kA 0, 48, .inl (va_cpy f16 f17 0 0 48)))], [(a22, .inl (kA 0, 8, .inl f18))], [(a35, .inl (kA 0, 8, .inl (va_cpy f18 f19 0 0 8)))], [(a36, .inl (kA 1, 64, .inl (va_cpy (fun _ => 0) f20 0 0 64)))], [(a23, .inl (kA 1, 64, .inl (fun _ => 0)))], [(a24, .inl (kA 0, 8, .inl f21))], [(a37, .inl (kA 0, 8, .inl (va_cpy f21 f22 0 0 8)))], [(a38, .inl (kA 0, 24, .inl (fl f23 24 0)))], [(a39, .inl (kA 0, 576, .inl (fl f24 576 (-1))))], [(a0, .inr (12, [.ref a1, .ref a2, .ref a3, .ref a4, .ref a5, .ref a6, .ref a7, .int 0, .int ((-1)), .ref a8, .ref a9, .int 0, .int 0, .ref a10, .int 0, .int 0, .null, .null, .null, .null, .null]))], [(a2, .inl (kA 5, 4, .inr (.inr (.inr (.inr (rr (g 1)))))))], [(g 1 j, .inr (2, [.int 0, .int 0, .int 0, .int 0, .ref a40, .ref a41, .ref a42, .ref a43, .ref a44, .ref a45, .ref a46, .ref a47, .ref a48, .ref a49, .ref a50]))], [(a3, .inl (kA 6, 4, .inr (.inr (.inr (.inr (rr (g 2)))))))], [(g 2 j, .inr (5, [.int ((-1)), .int ((-1)), .int ((-1)), .int 0, .ref a51, .int 0, .int 0, .ref a52, .ref a53, .ref a54, .ref a55, .ref a56, .ref a57, .int 0, .ref a58, .ref a59, .ref a60]))], [(a4, .inl (kA 7, 4, .inr (.inr (.inr (.inr (rr (g 3)))))))], [(g 3 j, .inr (0, [.ref a61, .int ((-1)), .ref a62, .ref a63, .ref a64, .ref a65, .ref a66, .int 0, .int 0, .int 0, .ref a67, .ref a68, .ref a69, .ref a70, .ref a71, .ref a72, .ref a73, .int 0, .int 0, .int 0, .int 0]))], [(a71, .inl (kA 0, 216, .inl (fl f25 216 0)))]]) := hD
  refine lv_aload_n (pc := 69) hx hb d_Ho_read_69 rfl (lv_at hl 1 rfl) ?_
  refine k_get (pc := 70) X hK hP 31 rfl rfl i_Ho 0 (by decide) wm_555 rfl rfl d_Ho_read_70 ?_
  refine lv_iload_n (pc := 73) hx hb d_Ho_read_73 rfl (lv_at hl 2 rfl) ?_
  refine k_ald (pc := 74) hx hb hK hP 0 4 rfl rfl (j) rfl (by omega) (by decide) (rr_at (by omega)) d_Ho_read_74 ?_
  refine k_get (pc := 75) X hK hP 6 rfl rfl i_Gr 0 (by decide) wm_62 rfl rfl d_Ho_read_75 ?_
  refine W.widen (k := 0) (n := 0) (Nat.le_of_ble_eq_true rfl) (Nat.le_of_ble_eq_true rfl) ?_
  obtain ⟨ww, hww⟩ : ∃ z : List va_W, z = [[(a1, .inl (kA 4, 4, .inr (.inr (.inr (.inr (rr (g 0)))))))], [(a5, .inr (8, [.ref a11, .int 0, .int 0, .int ((-1)), .ref a12, .int 0, .int 0, .int 0, .int 0, .int 0, .ref a13, .int 0]))], [(a25, .inl (kA 0, 24, .inl (fl f0 24 0)))], [(a26, .inl (kA 0, 576, .inl (fl f1 576 (-1))))], [(a13, .inl (kA 0, 5, .inl (upd (f2) 0 0)))], [(a12, .inr (3, [.int 0, .int 0, .int 1, .ref a14, .ref a15, .ref a16, .ref a17, .ref a18, .ref a19, .ref a20, .ref a21, .ref a22, .ref a23, .ref a24, .ref a25, .ref a26, .null, .int 0, .int 0]))], [(g 0 j, .inr (3, [.int 0, .int 0, .int 1, .ref a27, .ref a28, .ref a29, .ref a30, .ref a31, .ref a32, .ref a33, .ref a34, .ref a35, .ref a36, .ref a37, .ref a38, .ref a39, .null, .int 0, .int 0]))], [(a27, .inl (kA 1, 192, .inl (va_cpy (fun _ => 0) f3 0 0 192)))], [(a14, .inl (kA 1, 192, .inl (fun _ => 0)))], [(a15, .inl (kA 0, 24, .inl f4))], [(a28, .inl (kA 0, 24, .inl (va_cpy f4 f5 0 0 24)))], [(a16, .inl (kA 0, 24, .inl f6))], [(a29, .inl (kA 0, 24, .inl (va_cpy f6 f7 0 0 24)))], [(a17, .inl (kA 0, 24, .inl f8))], [(a30, .inl (kA 0, 24, .inl (va_cpy f8 f9 0 0 24)))], [(a18, .inl (kA 0, 48, .inl f10))], [(a31, .inl (kA 0, 48, .inl (va_cpy f10 f11 0 0 48)))], [(a19, .inl (kA 0, 48, .inl f12))], [(a32, .inl (kA 0, 48, .inl (va_cpy f12 f13 0 0 48)))], [(a20, .inl (kA 0, 48, .inl f14))], [(a33, .inl (kA 0, 48, .inl (va_cpy f14 f15 0 0 48)))], [(a21, .inl (kA 0, 48, .inl f16))], [(a34, .inl (kA 0, 48, .inl (va_cpy f16 f17 0 0 48)))], [(a22, .inl (kA 0, 8, .inl f18))], [(a35, .inl (kA 0, 8, .inl (va_cpy f18 f19 0 0 8)))], [(a36, .inl (kA 1, 64, .inl (va_cpy (fun _ => 0) f20 0 0 64)))], [(a23, .inl (kA 1, 64, .inl (fun _ => 0)))], [(a24, .inl (kA 0, 8, .inl f21))], [(a37, .inl (kA 0, 8, .inl (va_cpy f21 f22 0 0 8)))], [(a38, .inl (kA 0, 24, .inl (fl f23 24 0)))], [(a39, .inl (kA 0, 576, .inl (fl f24 576 (-1))))], [(a0, .inr (12, [.ref a1, .ref a2, .ref a3, .ref a4, .ref a5, .ref a6, .ref a7, .int 0, .int ((-1)), .ref a8, .ref a9, .int 0, .int 0, .ref a10, .int 0, .int 0, .null, .null, .null, .null, .null]))], [(a2, .inl (kA 5, 4, .inr (.inr (.inr (.inr (rr (g 1)))))))], [(g 1 j, .inr (2, [.int 0, .int 0, .int 0, .int 0, .ref a40, .ref a41, .ref a42, .ref a43, .ref a44, .ref a45, .ref a46, .ref a47, .ref a48, .ref a49, .ref a50]))], [(a3, .inl (kA 6, 4, .inr (.inr (.inr (.inr (rr (g 2)))))))], [(g 2 j, .inr (5, [.int ((-1)), .int ((-1)), .int ((-1)), .int 0, .ref a51, .int 0, .int 0, .ref a52, .ref a53, .ref a54, .ref a55, .ref a56, .ref a57, .int 0, .ref a58, .ref a59, .ref a60]))], [(a4, .inl (kA 7, 4, .inr (.inr (.inr (.inr (rr (g 3)))))))], [(g 3 j, .inr (0, [.ref a61, .int ((-1)), .ref a62, .ref a63, .ref a64, .ref a65, .ref a66, .int 0, .int 0, .int 0, .ref a67, .ref a68, .ref a69, .ref a70, .ref a71, .ref a72, .ref a73, .int 0, .int 0, .int 0, .int 0]))], [(a71, .inl (kA 0, 216, .inl (fl f25 216 0)))]] := ⟨_, rfl⟩
  rw [← hww] at hP hD
  exact W.iret (v := 0) hx hb hr (fun t ht hW => ⟨⟨0, ww, rfl, rfl, by rw [ht]; exact hP, va_K.moved hW.alike hK, hD⟩, hS.F ht⟩) hS.2.2 d_Ho_read_78
set_option maxRecDepth 100000 in
set_option maxHeartbeats 4000000 in
/-- DrawingHouseModel.byteAt(I)I -/
theorem c_Mo_byteAt_z1 (l : Launch) (D : va_G) (kA : Nat → ClassId) (a0 : Nat) (qm : Nat → Nat) (j : Nat) (hj : j < 4) : Ci l y_Mo_byteAt z_Mo_byteAt { frames := 0, cells := 0, slots := 0, locals := 0 } D classes (TY kA) [.ref a0, .int 0] [[(a0, .inr (13, mF qm (va_up (va_up x0Mo 5 (nI (539 * (31 * j + 0)))) 7 1) y0Mo))]] (fun r (_ : Unit) => r = (-1)) (fun u => [[(a0, .inr (13, mF qm (va_up (va_up x0Mo 5 (nI (539 * (31 * j + 0)))) 7 1) y0Mo))]]) 0 0 := by
  intro sz
  refine k_met (cc := b_Mo_byteAt) (maxL := 2) (ret := (some .int)) (by decide) rfl (Nat.le_of_ble_eq_true rfl) (fun p e s m below meth c ls X hl hB => ?_)
  obtain ⟨hsz, hP, hK, hD0, hN⟩ := hB
  subst hsz
  have hD := hD0.self (sz := s.heap.size)
  generalize hAe : va_A (cat [[(a0, .inr (13, mF qm (va_up (va_up x0Mo 5 (nI (539 * (31 * j + 0)))) 7 1) y0Mo))]]) s.heap.size = A at hD ⊢
  have hA : ∀ q : Nat, s.heap.size ≤ q → A q := fun q h => by rw [← hAe]; exact Or.inr h
  have hS : va_S A s.heap s.heap [] := va_S.rf
  obtain ⟨hx, hb, hml, hown, hts, hr, hlk, hnm⟩ := id X
  have hl : lv_has ls 2 [(0, .ref a0), (1, .int 0)] := hl
  have hP : va_P D classes (cat [[(a0, .inr (13, mF qm (va_up (va_up x0Mo 5 (nI (539 * (31 * j + 0)))) 7 1) y0Mo))]]) s.heap := hP
  have hK : va_K D classes (TY kA) s := hK
  refine lv_iload_n (pc := 0) hx hb d_Mo_byteAt_0 rfl (lv_at hl 1 rfl) ?_
  refine lv_aload_n (pc := 1) hx hb d_Mo_byteAt_1 rfl (lv_at hl 0 rfl) ?_
  refine k_get (pc := 2) (v := .int 0) X hK hP 0 rfl rfl i_Mo 10 (by decide) wm_2443 rfl rfl d_Mo_byteAt_2 ?_
  refine lv_icmp_ge (pc := 5) (tgt := 21) hx hb d_Mo_byteAt_5 (by decide) (fun _ => ?_) (fun c1 => absurd (by decide) c1)
  refine lv_iconst (pc := 21) (v := -1) hx hb d_Mo_byteAt_21 (by decide) ?_
  refine W.widen (k := 0) (n := 0) (Nat.le_of_ble_eq_true rfl) (Nat.le_of_ble_eq_true rfl) ?_
  exact W.iret (v := (-1)) hx hb hr (fun t ht hW => ⟨⟨(-1), (), rfl, rfl, by rw [ht]; exact hP, va_K.moved hW.alike hK, hD⟩, hS.F ht⟩) hS.2.2 d_Mo_byteAt_22
set_option maxRecDepth 100000 in
set_option maxHeartbeats 4000000 in
/-- DrawingHouseModel.next()V -/
theorem c_Mo_next_z1 (l : Launch) (D : va_G) (kA : Nat → ClassId) (a0 : Nat) (qm : Nat → Nat) (j : Nat) (hj : j < 4) : Cv l y_Mo_next z_Mo_next { frames := 1, cells := 0, slots := 0, locals := 21 } D classes (TY kA) [.ref a0] [[(a0, .inr (13, mF qm (va_up (va_up x0Mo 5 (nI (539 * (31 * j + 0)))) 7 1) y0Mo))]] (fun _ : Unit => True) (fun u => [[(a0, .inr (13, mF qm (va_up (va_up (va_up x0Mo 5 (nI (539 * (31 * j + 0)))) 7 1) 14 (-1)) y0Mo))]]) 0 0 := by
  intro sz
  refine k_met (cc := b_Mo_next) (maxL := 3) (ret := none) (by decide) rfl (Nat.le_of_ble_eq_true rfl) (fun p e s m below meth c ls X hl hB => ?_)
  obtain ⟨hsz, hP, hK, hD0, hN⟩ := hB
  subst hsz
  have hD := hD0.self (sz := s.heap.size)
  generalize hAe : va_A (cat [[(a0, .inr (13, mF qm (va_up (va_up x0Mo 5 (nI (539 * (31 * j + 0)))) 7 1) y0Mo))]]) s.heap.size = A at hD ⊢
  have hA : ∀ q : Nat, s.heap.size ≤ q → A q := fun q h => by rw [← hAe]; exact Or.inr h
  have hS : va_S A s.heap s.heap [] := va_S.rf
  obtain ⟨hx, hb, hml, hown, hts, hr, hlk, hnm⟩ := id X
  have hl : lv_has ls 3 [(0, .ref a0)] := hl
  have hP : va_P D classes (cat [[(a0, .inr (13, mF qm (va_up (va_up x0Mo 5 (nI (539 * (31 * j + 0)))) 7 1) y0Mo))]]) s.heap := hP
  have hK : va_K D classes (TY kA) s := hK
  refine lv_aload_n (pc := 0) hx hb d_Mo_next_0 rfl (lv_at hl 0 rfl) ?_
  refine lv_aload_n (pc := 1) hx hb d_Mo_next_1 rfl (lv_at hl 0 rfl) ?_
  refine k_get (pc := 2) (v := .int 0) X hK hP 0 rfl rfl i_Mo 11 (by decide) wm_2444 rfl rfl d_Mo_next_2 ?_
  refine k_goI (gr := []) (k_rV (pc := 5) (As := [.int 0]) (rest := []) X (c_Mo_byteAt_z1 l D kA a0 qm j hj s.heap.size) rfl wm_2986 wm_9 wm_2983 wm_2985 wv_12_12 1 (by decide +kernel) ⟨Nat.le_of_ble_eq_true rfl, Nat.le_of_ble_eq_true rfl⟩ rfl rfl (va_recv hK hP (ci := 13) (q0 := 0) rfl rfl) (k_pre hN hK hP hD [0] [] 1 rfl (by decide) rfl) rfl hl.1 rfl (Nat.le_of_ble_eq_true rfl) d_Mo_next_5 ⟨Nat.le_of_ble_eq_true rfl, Nat.le_of_ble_eq_true rfl⟩) hP hD hS hA [0] [] 1 rfl (by decide) rfl rfl (fun r1 u2 H locs hu2 hP hD hS => ?_)
  subst hu2
  have hP : va_P D classes (cat [[(a0, .inr (13, mF qm (va_up (va_up x0Mo 5 (nI (539 * (31 * j + 0)))) 7 1) y0Mo))]]) H := hP
  have hD : va_D A (cat [[(a0, .inr (13, mF qm (va_up (va_up x0Mo 5 (nI (539 * (31 * j + 0)))) 7 1) y0Mo))]]) := hD
  refine lv_bipush (pc := 8) (v := 32) hx hb d_Mo_next_8 (by decide) ?_
  refine lv_icmp_eq (pc := 10) (tgt := 26) hx hb d_Mo_next_10 (by decide) (fun c1 => absurd c1 (by decide)) (fun _ => ?_)
  refine lv_aload_n (pc := 13) hx hb d_Mo_next_13 rfl (lv_at hl 0 rfl) ?_
  refine lv_aload_n (pc := 14) hx hb d_Mo_next_14 rfl (lv_at hl 0 rfl) ?_
  refine k_get (pc := 15) (v := .int 0) X hK hP 0 rfl rfl i_Mo 11 (by decide) wm_2444 rfl rfl d_Mo_next_15 ?_
  refine k_goI (gr := []) (k_rV (pc := 18) (As := [.int 0]) (rest := []) X (c_Mo_byteAt_z1 l D kA a0 qm j hj H.size) rfl wm_2986 wm_9 wm_2983 wm_2985 wv_12_12 1 (by decide +kernel) ⟨Nat.le_of_ble_eq_true rfl, Nat.le_of_ble_eq_true rfl⟩ rfl rfl (va_recv hK hP (ci := 13) (q0 := 0) rfl rfl) (k_pre hN hK hP hD [0] [] 1 rfl (by decide) rfl) rfl hl.1 rfl (Nat.le_of_ble_eq_true rfl) d_Mo_next_18 ⟨Nat.le_of_ble_eq_true rfl, Nat.le_of_ble_eq_true rfl⟩) hP hD hS hA [0] [] 1 rfl (by decide) rfl rfl (fun r3 u4 H locs hu4 hP hD hS => ?_)
  subst hu4
  have hP : va_P D classes (cat [[(a0, .inr (13, mF qm (va_up (va_up x0Mo 5 (nI (539 * (31 * j + 0)))) 7 1) y0Mo))]]) H := hP
  have hD : va_D A (cat [[(a0, .inr (13, mF qm (va_up (va_up x0Mo 5 (nI (539 * (31 * j + 0)))) 7 1) y0Mo))]]) := hD
  refine lv_bipush (pc := 21) (v := 10) hx hb d_Mo_next_21 (by decide) ?_
  refine lv_icmp_ne (pc := 23) (tgt := 39) hx hb d_Mo_next_23 (by decide) (fun _ => ?_) (fun c1 => absurd c1 (by decide))
  refine lv_aload_n (pc := 39) hx hb d_Mo_next_39 rfl (lv_at hl 0 rfl) ?_
  refine lv_aload_n (pc := 40) hx hb d_Mo_next_40 rfl (lv_at hl 0 rfl) ?_
  refine k_get (pc := 41) (v := .int 0) X hK hP 0 rfl rfl i_Mo 11 (by decide) wm_2444 rfl rfl d_Mo_next_41 ?_
  refine k_put (pc := 44) X hK hP hD hS 0 rfl rfl i_Mo t_Mo t_Mo_ok n_Mo 13 (by decide) wm_2446 rfl (Or.inl rfl) rfl rfl (Nat.le_of_ble_eq_true rfl) d_Mo_next_44 (fun H locs hP hD hS => ?_)
  have hP : va_P D classes (cat [[(a0, .inr (13, mF qm (va_up (va_up x0Mo 5 (nI (539 * (31 * j + 0)))) 7 1) y0Mo))]]) H := hP
  have hD : va_D A (cat [[(a0, .inr (13, mF qm (va_up (va_up x0Mo 5 (nI (539 * (31 * j + 0)))) 7 1) y0Mo))]]) := hD
  refine lv_aload_n (pc := 47) hx hb d_Mo_next_47 rfl (lv_at hl 0 rfl) ?_
  refine lv_aload_n (pc := 48) hx hb d_Mo_next_48 rfl (lv_at hl 0 rfl) ?_
  refine k_get (pc := 49) (v := .int 0) X hK hP 0 rfl rfl i_Mo 11 (by decide) wm_2444 rfl rfl d_Mo_next_49 ?_
  refine k_put (pc := 52) X hK hP hD hS 0 rfl rfl i_Mo t_Mo t_Mo_ok n_Mo 15 (by decide) wm_2448 rfl (Or.inl rfl) rfl rfl (Nat.le_of_ble_eq_true rfl) d_Mo_next_52 (fun H locs hP hD hS => ?_)
  have hP : va_P D classes (cat [[(a0, .inr (13, mF qm (va_up (va_up x0Mo 5 (nI (539 * (31 * j + 0)))) 7 1) y0Mo))]]) H := hP
  have hD : va_D A (cat [[(a0, .inr (13, mF qm (va_up (va_up x0Mo 5 (nI (539 * (31 * j + 0)))) 7 1) y0Mo))]]) := hD
  refine lv_aload_n (pc := 55) hx hb d_Mo_next_55 rfl (lv_at hl 0 rfl) ?_
  refine lv_aload_n (pc := 56) hx hb d_Mo_next_56 rfl (lv_at hl 0 rfl) ?_
  refine k_get (pc := 57) (v := .int 0) X hK hP 0 rfl rfl i_Mo 11 (by decide) wm_2444 rfl rfl d_Mo_next_57 ?_
  refine k_goI (gr := []) (k_rV (pc := 60) (As := [.int 0]) (rest := []) X (c_Mo_byteAt_z1 l D kA a0 qm j hj H.size) rfl wm_2986 wm_9 wm_2983 wm_2985 wv_12_12 1 (by decide +kernel) ⟨Nat.le_of_ble_eq_true rfl, Nat.le_of_ble_eq_true rfl⟩ rfl rfl (va_recv hK hP (ci := 13) (q0 := 0) rfl rfl) (k_pre hN hK hP hD [0] [] 1 rfl (by decide) rfl) rfl hl.1 rfl (Nat.le_of_ble_eq_true rfl) d_Mo_next_60 ⟨Nat.le_of_ble_eq_true rfl, Nat.le_of_ble_eq_true rfl⟩) hP hD hS hA [0] [] 1 rfl (by decide) rfl rfl (fun r5 u6 H locs hu6 hP hD hS => ?_)
  subst hu6
  have hP : va_P D classes (cat [[(a0, .inr (13, mF qm (va_up (va_up x0Mo 5 (nI (539 * (31 * j + 0)))) 7 1) y0Mo))]]) H := hP
  have hD : va_D A (cat [[(a0, .inr (13, mF qm (va_up (va_up x0Mo 5 (nI (539 * (31 * j + 0)))) 7 1) y0Mo))]]) := hD
  refine lv_istore_n (pc := 63) (lv' := [(1, .int ((-1))), (0, .ref a0)]) hx hb d_Mo_next_63 rfl hl (by decide) rfl (fun ls hl => ?_)
  refine lv_aload_n (pc := 64) hx hb d_Mo_next_64 rfl (lv_at hl 1 rfl) ?_
  refine lv_iconst (pc := 65) (v := 4) hx hb d_Mo_next_65 (by decide) ?_
  refine k_put (pc := 66) X hK hP hD hS 0 rfl rfl i_Mo t_Mo t_Mo_ok n_Mo 12 (by decide) wm_2445 rfl (Or.inl rfl) rfl rfl (Nat.le_of_ble_eq_true rfl) d_Mo_next_66 (fun H locs hP hD hS => ?_)
  have hP : va_P D classes (cat [[(a0, .inr (13, mF qm (va_up (va_up (va_up x0Mo 5 (nI (539 * (31 * j + 0)))) 7 1) 12 4) y0Mo))]]) H := hP
  have hD : va_D A (cat [[(a0, .inr (13, mF qm (va_up (va_up (va_up x0Mo 5 (nI (539 * (31 * j + 0)))) 7 1) 12 4) y0Mo))]]) := hD
  refine lv_aload_n (pc := 69) hx hb d_Mo_next_69 rfl (lv_at hl 1 rfl) ?_
  refine lv_iload_n (pc := 70) hx hb d_Mo_next_70 rfl (lv_at hl 0 rfl) ?_
  refine k_put (pc := 71) X hK hP hD hS 0 rfl rfl i_Mo t_Mo t_Mo_ok n_Mo 14 (by decide) wm_2447 rfl (Or.inl rfl) rfl rfl (Nat.le_of_ble_eq_true rfl) d_Mo_next_71 (fun H locs hP hD hS => ?_)
  have hP : va_P D classes (cat [[(a0, .inr (13, mF qm (va_up (va_up (va_up (va_up x0Mo 5 (nI (539 * (31 * j + 0)))) 7 1) 12 4) 14 (-1)) y0Mo))]]) H := hP
  have hD : va_D A (cat [[(a0, .inr (13, mF qm (va_up (va_up (va_up (va_up x0Mo 5 (nI (539 * (31 * j + 0)))) 7 1) 12 4) 14 (-1)) y0Mo))]]) := hD
  refine lv_iload_n (pc := 74) hx hb d_Mo_next_74 rfl (lv_at hl 0 rfl) ?_
  refine lv_if_ge (pc := 75) (tgt := 86) hx hb d_Mo_next_75 (by decide) (fun c1 => absurd c1 (by decide)) (fun c1 => ?_)
  refine lv_aload_n (pc := 78) hx hb d_Mo_next_78 rfl (lv_at hl 1 rfl) ?_
  refine lv_iconst (pc := 79) (v := 0) hx hb d_Mo_next_79 (by decide) ?_
  refine k_put (pc := 80) X hK hP hD hS 0 rfl rfl i_Mo t_Mo t_Mo_ok n_Mo 12 (by decide) wm_2445 rfl (Or.inl rfl) rfl rfl (Nat.le_of_ble_eq_true rfl) d_Mo_next_80 (fun H locs hP hD hS => ?_)
  have hP : va_P D classes (cat [[(a0, .inr (13, mF qm (va_up (va_up (va_up x0Mo 5 (nI (539 * (31 * j + 0)))) 7 1) 14 (-1)) y0Mo))]]) H := hP
  have hD : va_D A (cat [[(a0, .inr (13, mF qm (va_up (va_up (va_up x0Mo 5 (nI (539 * (31 * j + 0)))) 7 1) 14 (-1)) y0Mo))]]) := hD
  refine lv_goto (pc := 83) (tgt := 354) hx hb d_Mo_next_83 (by decide) ?_
  refine W.widen (k := 0) (n := 0) (Nat.le_of_ble_eq_true rfl) (Nat.le_of_ble_eq_true rfl) ?_
  exact W.vret hx hb hr (fun t ht hW => ⟨⟨(), rfl, trivial, by rw [ht]; exact hP, va_K.moved hW.alike hK, hD⟩, hS.F ht⟩) hS.2.2 d_Mo_next_354
set_option maxRecDepth 100000 in
set_option maxHeartbeats 4000000 in
theorem lp1_Mo_changed_z1 {p : Program} {l : Launch} {e : Env} {R : Room} {s : State} {m : MethodId} {args : Array Value} {below : List Frame} {meth : Method} {c : Code} {cells slots : Nat} {Q : State → Prop} {D : va_G} {kA : Nat → ClassId} {A : Nat → Prop} (X : cx p s m args meth c b_Mo_changed 3 none "DrawingHouseModel" "changed") (hK : va_K D classes (TY kA) s) (a0 : Nat) (qm : Nat → Nat) (j : Nat) (f0 : Nat → Int32) (hj : j < 4)
    (hex : ∀ (f80 : Nat → Int32) (H : Heap) (locs : List Loc) (ls : Array Slot), va_P D classes (cat [[(a0, .inr (13, mF qm (va_up (va_up (va_up x0Mo 5 (nI (539 * (31 * j + 0)))) 7 1) 14 (-1)) y0Mo))], [(qm 61, .inl (kA 0, 4, .inl (upd f0 j ((-1)))))], [(qm 73, .inl (kA 0, 864, .inl f80))]]) H → va_D A (cat [[(a0, .inr (13, mF qm (va_up (va_up (va_up x0Mo 5 (nI (539 * (31 * j + 0)))) 7 1) 14 (-1)) y0Mo))], [(qm 61, .inl (kA 0, 4, .inl (upd f0 j ((-1)))))], [(qm 73, .inl (kA 0, 864, .inl f80))]]) → va_S A s.heap H locs → lv_has ls 3 [(2, .int (nI 216)), (0, .ref a0), (1, .int (nI j))] → W p l e R s m args below meth c H locs cells slots Q (F0 m 35 ls [])) :
    ∀ (k i : Nat), i + k = 216 → ∀ (f80 : Nat → Int32) (H : Heap) (locs : List Loc) (ls : Array Slot), va_P D classes (cat [[(a0, .inr (13, mF qm (va_up (va_up (va_up x0Mo 5 (nI (539 * (31 * j + 0)))) 7 1) 14 (-1)) y0Mo))], [(qm 61, .inl (kA 0, 4, .inl (upd f0 j ((-1)))))], [(qm 73, .inl (kA 0, 864, .inl f80))]]) H → va_D A (cat [[(a0, .inr (13, mF qm (va_up (va_up (va_up x0Mo 5 (nI (539 * (31 * j + 0)))) 7 1) 14 (-1)) y0Mo))], [(qm 61, .inl (kA 0, 4, .inl (upd f0 j ((-1)))))], [(qm 73, .inl (kA 0, 864, .inl f80))]]) → va_S A s.heap H locs → lv_has ls 3 [(2, .int (nI i)), (0, .ref a0), (1, .int (nI j))] → W p l e R s m args below meth c H locs cells slots Q (F0 m 9 ls []) := by
  obtain ⟨hx, hb, hml, hown, hts, hr, hlk, hnm⟩ := id X
  intro k
  induction k with
  | zero =>
    intro i hi f80 H locs ls hP hD hS hl
    have hi : i = 216 := hi
    subst hi
    refine lv_iload_n (pc := 9) hx hb d_Mo_changed_9 rfl (lv_at hl 0 rfl) ?_
    refine lv_sipush (pc := 10) (v := 216) hx hb d_Mo_changed_10 (by decide) ?_
    refine k_cge (pc := 13) (x := 216) (y := 216) (tgt := 35) hx hb (by decide) (by decide) d_Mo_changed_13 (by decide) (fun c1 => ?_) (fun c1 => absurd c1 (by omega))
    exact hex f80 H locs ls hP hD hS hl
  | succ k ih =>
    intro i hi f80 H locs ls hP hD hS hl
    have hlt : i < 216 := by omega
    refine lv_iload_n (pc := 9) hx hb d_Mo_changed_9 rfl (lv_at hl 0 rfl) ?_
    refine lv_sipush (pc := 10) (v := 216) hx hb d_Mo_changed_10 (by decide) ?_
    refine k_cge (pc := 13) (x := i) (y := 216) (tgt := 35) hx hb (by omega) (by decide) d_Mo_changed_13 (by decide) (fun c1 => absurd c1 (by omega)) (fun c1 => ?_)
    refine lv_aload_n (pc := 16) hx hb d_Mo_changed_16 rfl (lv_at hl 1 rfl) ?_
    refine k_get (pc := 17) (v := .ref (qm 73)) X hK hP 0 rfl rfl i_Mo 73 (by decide) wm_2505 rfl rfl d_Mo_changed_17 ?_
    refine lv_sipush (pc := 20) (v := 216) hx hb d_Mo_changed_20 (by decide) ?_
    refine lv_iload_n (pc := 23) hx hb d_Mo_changed_23 rfl (lv_at hl 2 rfl) ?_
    refine k_mul (pc := 24) (x := 216) (y := j) hx hb d_Mo_changed_24 ?_
    refine lv_iload_n (pc := 25) hx hb d_Mo_changed_25 rfl (lv_at hl 0 rfl) ?_
    refine k_add (pc := 26) (x := 216 * j) (y := i) hx hb d_Mo_changed_26 ?_
    refine lv_iconst (pc := 27) (v := 0) hx hb d_Mo_changed_27 (by decide) ?_
    refine k_ist (pc := 28) hx hb hK hP hD hS 2 0 rfl rfl ((216 * j) + i) rfl (by omega) (by decide) d_Mo_changed_28 (fun H locs hP hD hS => ?_)
    have hP : va_P D classes (cat [[(a0, .inr (13, mF qm (va_up (va_up (va_up x0Mo 5 (nI (539 * (31 * j + 0)))) 7 1) 14 (-1)) y0Mo))], [(qm 61, .inl (kA 0, 4, .inl (upd f0 j ((-1)))))], [(qm 73, .inl (kA 0, 864, .inl (upd f80 ((216 * j) + i) 0)))]]) H := hP
    have hD : va_D A (cat [[(a0, .inr (13, mF qm (va_up (va_up (va_up x0Mo 5 (nI (539 * (31 * j + 0)))) 7 1) 14 (-1)) y0Mo))], [(qm 61, .inl (kA 0, 4, .inl (upd f0 j ((-1)))))], [(qm 73, .inl (kA 0, 864, .inl (upd f80 ((216 * j) + i) 0)))]]) := hD
    refine lv_iinc (pc := 29) (v := nI (i + 1)) (lv' := [(2, .int (nI (i + 1))), (0, .ref a0), (1, .int (nI j))]) hx hb d_Mo_changed_29 hl (k := 0) rfl (nI_add _ 1) (by decide) rfl (fun ls hl => ?_)
    refine lv_goto (pc := 32) (tgt := 9) hx hb d_Mo_changed_32 (by decide) ?_
    exact ih (i + 1) (by omega) _ H locs ls hP hD hS (lv_sub hl [0, 1, 2] rfl)
set_option maxRecDepth 100000 in
set_option maxHeartbeats 4000000 in
/-- DrawingHouseModel.changed(I)V -/
theorem c_Mo_changed_z1 (l : Launch) (D : va_G) (kA : Nat → ClassId) (a0 : Nat) (j : Nat) (qm : Nat → Nat) (f0 : Nat → Int32) (f1 : Nat → Int32) (hj : j < 4) : Cv l y_Mo_changed z_Mo_changed { frames := 0, cells := 0, slots := 0, locals := 0 } D classes (TY kA) [.ref a0, .int (nI j)] [[(a0, .inr (13, mF qm (va_up (va_up (va_up x0Mo 5 (nI (539 * (31 * j + 0)))) 7 1) 14 (-1)) y0Mo))], [(qm 61, .inl (kA 0, 4, .inl f0))], [(qm 73, .inl (kA 0, 864, .inl f1))]] (fun _ : (Nat → Nat) × (Nat → Nat → Int32) => True) (fun u => [[(a0, .inr (13, mF qm (va_up (va_up (va_up x0Mo 5 (nI (539 * (31 * j + 0)))) 7 1) 14 (-1)) y0Mo))], [(qm 61, .inl (kA 0, 4, .inl (upd f0 j ((-1)))))], [(qm 73, .inl (kA 0, 864, .inl (u.2 0)))]]) 0 0 := by
  intro sz
  refine k_met (cc := b_Mo_changed) (maxL := 3) (ret := none) (by decide) rfl (Nat.le_of_ble_eq_true rfl) (fun p e s m below meth c ls X hl hB => ?_)
  obtain ⟨hsz, hP, hK, hD0, hN⟩ := hB
  subst hsz
  have hD := hD0.self (sz := s.heap.size)
  generalize hAe : va_A (cat [[(a0, .inr (13, mF qm (va_up (va_up (va_up x0Mo 5 (nI (539 * (31 * j + 0)))) 7 1) 14 (-1)) y0Mo))], [(qm 61, .inl (kA 0, 4, .inl f0))], [(qm 73, .inl (kA 0, 864, .inl f1))]]) s.heap.size = A at hD ⊢
  have hA : ∀ q : Nat, s.heap.size ≤ q → A q := fun q h => by rw [← hAe]; exact Or.inr h
  have hS : va_S A s.heap s.heap [] := va_S.rf
  obtain ⟨hx, hb, hml, hown, hts, hr, hlk, hnm⟩ := id X
  have hl : lv_has ls 3 [(0, .ref a0), (1, .int (nI j))] := hl
  have hP : va_P D classes (cat [[(a0, .inr (13, mF qm (va_up (va_up (va_up x0Mo 5 (nI (539 * (31 * j + 0)))) 7 1) 14 (-1)) y0Mo))], [(qm 61, .inl (kA 0, 4, .inl f0))], [(qm 73, .inl (kA 0, 864, .inl f1))]]) s.heap := hP
  have hK : va_K D classes (TY kA) s := hK
  refine lv_aload_n (pc := 0) hx hb d_Mo_changed_0 rfl (lv_at hl 0 rfl) ?_
  refine k_get (pc := 1) (v := .ref (qm 61)) X hK hP 0 rfl rfl i_Mo 61 (by decide) wm_2493 rfl rfl d_Mo_changed_1 ?_
  refine lv_iload_n (pc := 4) hx hb d_Mo_changed_4 rfl (lv_at hl 1 rfl) ?_
  refine lv_iconst (pc := 5) (v := -1) hx hb d_Mo_changed_5 (by decide) ?_
  refine k_ist (pc := 6) hx hb hK hP hD hS 1 0 rfl rfl (j) rfl (by omega) (by decide) d_Mo_changed_6 (fun H locs hP hD hS => ?_)
  have hP : va_P D classes (cat [[(a0, .inr (13, mF qm (va_up (va_up (va_up x0Mo 5 (nI (539 * (31 * j + 0)))) 7 1) 14 (-1)) y0Mo))], [(qm 61, .inl (kA 0, 4, .inl (upd f0 j ((-1)))))], [(qm 73, .inl (kA 0, 864, .inl f1))]]) H := hP
  have hD : va_D A (cat [[(a0, .inr (13, mF qm (va_up (va_up (va_up x0Mo 5 (nI (539 * (31 * j + 0)))) 7 1) 14 (-1)) y0Mo))], [(qm 61, .inl (kA 0, 4, .inl (upd f0 j ((-1)))))], [(qm 73, .inl (kA 0, 864, .inl f1))]]) := hD
  refine lv_iconst (pc := 7) (v := 0) hx hb d_Mo_changed_7 (by decide) ?_
  refine lv_istore_n (pc := 8) (lv' := [(2, .int 0), (0, .ref a0), (1, .int (nI j))]) hx hb d_Mo_changed_8 rfl hl (by decide) rfl (fun ls hl => ?_)
  refine lp1_Mo_changed_z1 X hK a0 qm j f0 hj (fun f910 H locs ls hP hD hS hl => ?_) 216 0 (by omega) _ _ _ ls hP hD hS (lv_sub hl [0, 1, 2] rfl)
  refine W.widen (k := 0) (n := 0) (Nat.le_of_ble_eq_true rfl) (Nat.le_of_ble_eq_true rfl) ?_
  exact W.vret hx hb hr (fun t ht hW => ⟨⟨((fun _ => 0), (fun k => match k with | 0 => f910 | _ => fun _ => 0)), rfl, trivial, by rw [ht]; exact hP, va_K.moved hW.alike hK, hD⟩, hS.F ht⟩) hS.2.2 d_Mo_changed_35
set_option maxRecDepth 100000 in
set_option maxHeartbeats 4000000 in
/-- DrawingHouseModel.nodes()I -/
theorem c_Mo_nodes_z2 (l : Launch) (D : va_G) (kA : Nat → ClassId) (a0 : Nat) (qm : Nat → Nat) (j : Nat) (f0 : Nat → Int32) (hj : j < 4) : Ci l y_Mo_nodes z_Mo_nodes { frames := 0, cells := 0, slots := 0, locals := 0 } D classes (TY kA) [.ref a0] [[(a0, .inr (13, mF qm (va_up (va_up (va_up x0Mo 5 (nI (539 * (31 * j + 0)))) 7 1) 14 (-1)) y0Mo))], [(qm 2, .inl (kA 0, 66836, .inl (upd (upd (clr f0 (539 * (31 * j + 0)) 539) ((539 * (31 * j + 0)) + 2) 1) ((539 * (31 * j + 0)) + 531) (-1))))]] (fun r (_ : Unit) => r = 0) (fun u => [[(a0, .inr (13, mF qm (va_up (va_up (va_up x0Mo 5 (nI (539 * (31 * j + 0)))) 7 1) 14 (-1)) y0Mo))], [(qm 2, .inl (kA 0, 66836, .inl (upd (upd (clr f0 (539 * (31 * j + 0)) 539) ((539 * (31 * j + 0)) + 2) 1) ((539 * (31 * j + 0)) + 531) (-1))))]]) 0 0 := by
  intro sz
  refine k_met (cc := b_Mo_nodes) (maxL := 1) (ret := (some .int)) (by decide) rfl (Nat.le_of_ble_eq_true rfl) (fun p e s m below meth c ls X hl hB => ?_)
  obtain ⟨hsz, hP, hK, hD0, hN⟩ := hB
  subst hsz
  have hD := hD0.self (sz := s.heap.size)
  generalize hAe : va_A (cat [[(a0, .inr (13, mF qm (va_up (va_up (va_up x0Mo 5 (nI (539 * (31 * j + 0)))) 7 1) 14 (-1)) y0Mo))], [(qm 2, .inl (kA 0, 66836, .inl (upd (upd (clr f0 (539 * (31 * j + 0)) 539) ((539 * (31 * j + 0)) + 2) 1) ((539 * (31 * j + 0)) + 531) (-1))))]]) s.heap.size = A at hD ⊢
  have hA : ∀ q : Nat, s.heap.size ≤ q → A q := fun q h => by rw [← hAe]; exact Or.inr h
  have hS : va_S A s.heap s.heap [] := va_S.rf
  obtain ⟨hx, hb, hml, hown, hts, hr, hlk, hnm⟩ := id X
  have hl : lv_has ls 1 [(0, .ref a0)] := hl
  have hP : va_P D classes (cat [[(a0, .inr (13, mF qm (va_up (va_up (va_up x0Mo 5 (nI (539 * (31 * j + 0)))) 7 1) 14 (-1)) y0Mo))], [(qm 2, .inl (kA 0, 66836, .inl (upd (upd (clr f0 (539 * (31 * j + 0)) 539) ((539 * (31 * j + 0)) + 2) 1) ((539 * (31 * j + 0)) + 531) (-1))))]]) s.heap := hP
  have hK : va_K D classes (TY kA) s := hK
  refine lv_aload_n (pc := 0) hx hb d_Mo_nodes_0 rfl (lv_at hl 0 rfl) ?_
  refine k_get (pc := 1) (v := .ref (qm 2)) X hK hP 0 rfl rfl i_Mo 2 (by decide) wm_2435 rfl rfl d_Mo_nodes_1 ?_
  refine lv_aload_n (pc := 4) hx hb d_Mo_nodes_4 rfl (lv_at hl 0 rfl) ?_
  refine k_get (pc := 5) (v := .int (nI (539 * (31 * j + 0)))) X hK hP 0 rfl rfl i_Mo 5 (by decide) wm_2438 rfl rfl d_Mo_nodes_5 ?_
  refine k_ild (pc := 8) hx hb hK hP 1 0 rfl rfl (539 * (31 * j + 0)) rfl (by omega) (by decide) d_Mo_nodes_8 ?_
  refine k_cst (v := 0) (clr_row _ _) ?_
  refine W.widen (k := 0) (n := 0) (Nat.le_of_ble_eq_true rfl) (Nat.le_of_ble_eq_true rfl) ?_
  exact W.iret (v := 0) hx hb hr (fun t ht hW => ⟨⟨0, (), rfl, rfl, by rw [ht]; exact hP, va_K.moved hW.alike hK, hD⟩, hS.F ht⟩) hS.2.2 d_Mo_nodes_9
set_option maxRecDepth 100000 in
set_option maxHeartbeats 4000000 in
theorem lp1_Mo_read_z4 {p : Program} {l : Launch} {e : Env} {R : Room} {s : State} {m : MethodId} {args : Array Value} {below : List Frame} {meth : Method} {c : Code} {cells slots : Nat} {Q : State → Prop} {D : va_G} {kA : Nat → ClassId} {A : Nat → Prop} (X : cx p s m args meth c b_Mo_read 4 (some .int) "DrawingHouseModel" "read") (hK : va_K D classes (TY kA) s) (a0 : Nat) (qm : Nat → Nat) (j : Nat) (f1 : Nat → Int32) (f2 : Nat → Int32) (f3 : Nat → Int32) (f4 : Nat → Int32) (hj : j < 4)
    (hex : ∀ (f80 : Nat → Int32) (H : Heap) (locs : List Loc) (ls : Array Slot), va_P D classes (cat [[(a0, .inr (13, mF qm (va_up (va_up x0Mo 5 (nI (539 * (31 * j + 0)))) 7 1) y0Mo))], [(qm 2, .inl (kA 0, 66836, .inl all0))], [(qm 6, .inl (kA 0, 539, .inl f80))], [(qm 3, .inl (kA 0, 4, .inl f1))], [(qm 4, .inl (kA 0, 4, .inl f2))], [(qm 61, .inl (kA 0, 4, .inl f3))], [(qm 73, .inl (kA 0, 864, .inl f4))]]) H → va_D A (cat [[(a0, .inr (13, mF qm (va_up (va_up x0Mo 5 (nI (539 * (31 * j + 0)))) 7 1) y0Mo))], [(qm 2, .inl (kA 0, 66836, .inl all0))], [(qm 6, .inl (kA 0, 539, .inl f80))], [(qm 3, .inl (kA 0, 4, .inl f1))], [(qm 4, .inl (kA 0, 4, .inl f2))], [(qm 61, .inl (kA 0, 4, .inl f3))], [(qm 73, .inl (kA 0, 864, .inl f4))]]) → va_S A s.heap H locs → lv_has ls 4 [(3, .int (nI 539)), (0, .ref a0), (1, .int (nI j)), (2, .int 0)] → W p l e R s m args below meth c H locs cells slots Q (F0 m 88 ls [])) :
    ∀ (k i : Nat), i + k = 539 → ∀ (f80 : Nat → Int32) (H : Heap) (locs : List Loc) (ls : Array Slot), va_P D classes (cat [[(a0, .inr (13, mF qm (va_up (va_up x0Mo 5 (nI (539 * (31 * j + 0)))) 7 1) y0Mo))], [(qm 2, .inl (kA 0, 66836, .inl all0))], [(qm 6, .inl (kA 0, 539, .inl f80))], [(qm 3, .inl (kA 0, 4, .inl f1))], [(qm 4, .inl (kA 0, 4, .inl f2))], [(qm 61, .inl (kA 0, 4, .inl f3))], [(qm 73, .inl (kA 0, 864, .inl f4))]]) H → va_D A (cat [[(a0, .inr (13, mF qm (va_up (va_up x0Mo 5 (nI (539 * (31 * j + 0)))) 7 1) y0Mo))], [(qm 2, .inl (kA 0, 66836, .inl all0))], [(qm 6, .inl (kA 0, 539, .inl f80))], [(qm 3, .inl (kA 0, 4, .inl f1))], [(qm 4, .inl (kA 0, 4, .inl f2))], [(qm 61, .inl (kA 0, 4, .inl f3))], [(qm 73, .inl (kA 0, 864, .inl f4))]]) → va_S A s.heap H locs → lv_has ls 4 [(3, .int (nI i)), (0, .ref a0), (1, .int (nI j)), (2, .int 0)] → W p l e R s m args below meth c H locs cells slots Q (F0 m 58 ls []) := by
  obtain ⟨hx, hb, hml, hown, hts, hr, hlk, hnm⟩ := id X
  intro k
  induction k with
  | zero =>
    intro i hi f80 H locs ls hP hD hS hl
    have hi : i = 539 := hi
    subst hi
    refine lv_iload_n (pc := 58) hx hb d_Mo_read_58 rfl (lv_at hl 0 rfl) ?_
    refine lv_sipush (pc := 59) (v := 539) hx hb d_Mo_read_59 (by decide) ?_
    refine k_cge (pc := 62) (x := 539) (y := 539) (tgt := 88) hx hb (by decide) (by decide) d_Mo_read_62 (by decide) (fun c1 => ?_) (fun c1 => absurd c1 (by omega))
    exact hex f80 H locs ls hP hD hS hl
  | succ k ih =>
    intro i hi f80 H locs ls hP hD hS hl
    have hlt : i < 539 := by omega
    refine lv_iload_n (pc := 58) hx hb d_Mo_read_58 rfl (lv_at hl 0 rfl) ?_
    refine lv_sipush (pc := 59) (v := 539) hx hb d_Mo_read_59 (by decide) ?_
    refine k_cge (pc := 62) (x := i) (y := 539) (tgt := 88) hx hb (by omega) (by decide) d_Mo_read_62 (by decide) (fun c1 => absurd c1 (by omega)) (fun c1 => ?_)
    refine lv_aload_n (pc := 65) hx hb d_Mo_read_65 rfl (lv_at hl 1 rfl) ?_
    refine k_get (pc := 66) (v := .ref (qm 6)) X hK hP 0 rfl rfl i_Mo 6 (by decide) wm_2439 rfl rfl d_Mo_read_66 ?_
    refine lv_iload_n (pc := 69) hx hb d_Mo_read_69 rfl (lv_at hl 0 rfl) ?_
    refine lv_aload_n (pc := 70) hx hb d_Mo_read_70 rfl (lv_at hl 1 rfl) ?_
    refine k_get (pc := 71) (v := .ref (qm 2)) X hK hP 0 rfl rfl i_Mo 2 (by decide) wm_2435 rfl rfl d_Mo_read_71 ?_
    refine lv_aload_n (pc := 74) hx hb d_Mo_read_74 rfl (lv_at hl 1 rfl) ?_
    refine k_get (pc := 75) (v := .int (nI (539 * (31 * j + 0)))) X hK hP 0 rfl rfl i_Mo 5 (by decide) wm_2438 rfl rfl d_Mo_read_75 ?_
    refine lv_iload_n (pc := 78) hx hb d_Mo_read_78 rfl (lv_at hl 0 rfl) ?_
    refine k_add (pc := 79) (x := 539 * (31 * j + 0)) (y := i) hx hb d_Mo_read_79 ?_
    refine k_ild (pc := 80) hx hb hK hP 1 0 rfl rfl ((539 * (31 * j + 0)) + i) rfl (by omega) (by decide) d_Mo_read_80 ?_
    refine k_ist (pc := 81) hx hb hK hP hD hS 2 0 rfl rfl (i) rfl (by omega) (by decide) d_Mo_read_81 (fun H locs hP hD hS => ?_)
    have hP : va_P D classes (cat [[(a0, .inr (13, mF qm (va_up (va_up x0Mo 5 (nI (539 * (31 * j + 0)))) 7 1) y0Mo))], [(qm 2, .inl (kA 0, 66836, .inl all0))], [(qm 6, .inl (kA 0, 539, .inl (upd f80 i (all0 ((539 * (31 * j + 0)) + i)))))], [(qm 3, .inl (kA 0, 4, .inl f1))], [(qm 4, .inl (kA 0, 4, .inl f2))], [(qm 61, .inl (kA 0, 4, .inl f3))], [(qm 73, .inl (kA 0, 864, .inl f4))]]) H := hP
    have hD : va_D A (cat [[(a0, .inr (13, mF qm (va_up (va_up x0Mo 5 (nI (539 * (31 * j + 0)))) 7 1) y0Mo))], [(qm 2, .inl (kA 0, 66836, .inl all0))], [(qm 6, .inl (kA 0, 539, .inl (upd f80 i (all0 ((539 * (31 * j + 0)) + i)))))], [(qm 3, .inl (kA 0, 4, .inl f1))], [(qm 4, .inl (kA 0, 4, .inl f2))], [(qm 61, .inl (kA 0, 4, .inl f3))], [(qm 73, .inl (kA 0, 864, .inl f4))]]) := hD
    refine lv_iinc (pc := 82) (v := nI (i + 1)) (lv' := [(3, .int (nI (i + 1))), (0, .ref a0), (1, .int (nI j)), (2, .int 0)]) hx hb d_Mo_read_82 hl (k := 0) rfl (nI_add _ 1) (by decide) rfl (fun ls hl => ?_)
    refine lv_goto (pc := 85) (tgt := 58) hx hb d_Mo_read_85 (by decide) ?_
    exact ih (i + 1) (by omega) _ H locs ls hP hD hS (lv_sub hl [0, 1, 2, 3] rfl)
set_option maxRecDepth 100000 in
set_option maxHeartbeats 4000000 in
/-- DrawingHouseModel.read(II)I -/
theorem c_Mo_read_z4 (l : Launch) (D : va_G) (kA : Nat → ClassId) (a0 : Nat) (j : Nat) (qm : Nat → Nat) (f0 : Nat → Int32) (f1 : Nat → Int32) (f2 : Nat → Int32) (f3 : Nat → Int32) (f4 : Nat → Int32) (hj : j < 4) : Ci l y_Mo_read z_Mo_read { frames := 2, cells := 0, slots := 0, locals := 43 } D classes (TY kA) [.ref a0, .int (nI j), .int 0] [[(a0, .inr (13, mF qm x0Mo y0Mo))], [(qm 2, .inl (kA 0, 66836, .inl all0))], [(qm 6, .inl (kA 0, 539, .inl f0))], [(qm 3, .inl (kA 0, 4, .inl f1))], [(qm 4, .inl (kA 0, 4, .inl f2))], [(qm 61, .inl (kA 0, 4, .inl f3))], [(qm 73, .inl (kA 0, 864, .inl f4))]] (fun r (_ : List va_W) => r = 0) (fun u => u) 0 0 := by
  intro sz
  refine k_met (cc := b_Mo_read) (maxL := 4) (ret := (some .int)) (by decide) rfl (Nat.le_of_ble_eq_true rfl) (fun p e s m below meth c ls X hl hB => ?_)
  obtain ⟨hsz, hP, hK, hD0, hN⟩ := hB
  subst hsz
  have hD := hD0.self (sz := s.heap.size)
  generalize hAe : va_A (cat [[(a0, .inr (13, mF qm x0Mo y0Mo))], [(qm 2, .inl (kA 0, 66836, .inl all0))], [(qm 6, .inl (kA 0, 539, .inl f0))], [(qm 3, .inl (kA 0, 4, .inl f1))], [(qm 4, .inl (kA 0, 4, .inl f2))], [(qm 61, .inl (kA 0, 4, .inl f3))], [(qm 73, .inl (kA 0, 864, .inl f4))]]) s.heap.size = A at hD ⊢
  have hA : ∀ q : Nat, s.heap.size ≤ q → A q := fun q h => by rw [← hAe]; exact Or.inr h
  have hS : va_S A s.heap s.heap [] := va_S.rf
  obtain ⟨hx, hb, hml, hown, hts, hr, hlk, hnm⟩ := id X
  have hl : lv_has ls 4 [(0, .ref a0), (1, .int (nI j)), (2, .int 0)] := hl
  have hP : va_P D classes (cat [[(a0, .inr (13, mF qm x0Mo y0Mo))], [(qm 2, .inl (kA 0, 66836, .inl all0))], [(qm 6, .inl (kA 0, 539, .inl f0))], [(qm 3, .inl (kA 0, 4, .inl f1))], [(qm 4, .inl (kA 0, 4, .inl f2))], [(qm 61, .inl (kA 0, 4, .inl f3))], [(qm 73, .inl (kA 0, 864, .inl f4))]]) s.heap := hP
  have hK : va_K D classes (TY kA) s := hK
  refine lv_iload_n (pc := 0) hx hb d_Mo_read_0 rfl (lv_at hl 1 rfl) ?_
  refine k_goI (gr := [[(a0, .inr (13, mF qm x0Mo y0Mo))], [(qm 2, .inl (kA 0, 66836, .inl all0))], [(qm 6, .inl (kA 0, 539, .inl f0))], [(qm 3, .inl (kA 0, 4, .inl f1))], [(qm 4, .inl (kA 0, 4, .inl f2))], [(qm 61, .inl (kA 0, 4, .inl f3))], [(qm 73, .inl (kA 0, 864, .inl f4))]]) (k_rS (pc := 1) (As := [.int (nI j)]) (rest := []) X (c_Mo_isPlace l D kA (nI j) s.heap.size) rfl wm_2978 wm_9 wm_2976 wm_2977 1 (by decide +kernel) ⟨Nat.le_of_ble_eq_true rfl, Nat.le_of_ble_eq_true rfl⟩ rfl rfl (k_pre hN hK hP hD [] [0, 1, 2, 3, 4, 5, 6] 7 rfl (by decide) rfl) rfl hl.1 rfl (Nat.le_of_ble_eq_true rfl) d_Mo_read_1 ⟨Nat.le_of_ble_eq_true rfl, Nat.le_of_ble_eq_true rfl⟩) hP hD hS hA [] [0, 1, 2, 3, 4, 5, 6] 7 rfl (by decide) rfl rfl (fun r1 u2 H locs hu2 hP hD hS => ?_)
  subst hu2
  refine k_cst (v := 1) (placeM_ok hj) ?_
  have hP : va_P D classes (cat [[(a0, .inr (13, mF qm x0Mo y0Mo))], [(qm 2, .inl (kA 0, 66836, .inl all0))], [(qm 6, .inl (kA 0, 539, .inl f0))], [(qm 3, .inl (kA 0, 4, .inl f1))], [(qm 4, .inl (kA 0, 4, .inl f2))], [(qm 61, .inl (kA 0, 4, .inl f3))], [(qm 73, .inl (kA 0, 864, .inl f4))]]) H := hP
  have hD : va_D A (cat [[(a0, .inr (13, mF qm x0Mo y0Mo))], [(qm 2, .inl (kA 0, 66836, .inl all0))], [(qm 6, .inl (kA 0, 539, .inl f0))], [(qm 3, .inl (kA 0, 4, .inl f1))], [(qm 4, .inl (kA 0, 4, .inl f2))], [(qm 61, .inl (kA 0, 4, .inl f3))], [(qm 73, .inl (kA 0, 864, .inl f4))]]) := hD
  refine lv_if_eq (pc := 4) (tgt := 19) hx hb d_Mo_read_4 (by decide) (fun c1 => absurd c1 (by decide)) (fun c1 => ?_)
  refine lv_iload_n (pc := 7) hx hb d_Mo_read_7 rfl (lv_at hl 2 rfl) ?_
  refine lv_if_lt (pc := 8) (tgt := 19) hx hb d_Mo_read_8 (by decide) (fun c1 => absurd c1 (by decide)) (fun c1 => ?_)
  refine lv_iload_n (pc := 11) hx hb d_Mo_read_11 rfl (lv_at hl 2 rfl) ?_
  refine lv_aload_n (pc := 12) hx hb d_Mo_read_12 rfl (lv_at hl 0 rfl) ?_
  refine k_get (pc := 13) (v := .int 0) X hK hP 0 rfl rfl i_Mo 0 (by decide) wm_2433 rfl rfl d_Mo_read_13 ?_
  refine lv_icmp_le (pc := 16) (tgt := 22) hx hb d_Mo_read_16 (by decide) (fun _ => ?_) (fun c1 => absurd (by decide) c1)
  refine lv_aload_n (pc := 22) hx hb d_Mo_read_22 rfl (lv_at hl 0 rfl) ?_
  refine lv_iconst (pc := 23) (v := 0) hx hb d_Mo_read_23 (by decide) ?_
  refine k_put (pc := 24) X hK hP hD hS 0 rfl rfl i_Mo t_Mo t_Mo_ok n_Mo 0 (by decide) wm_2433 rfl (Or.inl rfl) rfl rfl (Nat.le_of_ble_eq_true rfl) d_Mo_read_24 (fun H locs hP hD hS => ?_)
  have hP : va_P D classes (cat [[(a0, .inr (13, mF qm x0Mo y0Mo))], [(qm 2, .inl (kA 0, 66836, .inl all0))], [(qm 6, .inl (kA 0, 539, .inl f0))], [(qm 3, .inl (kA 0, 4, .inl f1))], [(qm 4, .inl (kA 0, 4, .inl f2))], [(qm 61, .inl (kA 0, 4, .inl f3))], [(qm 73, .inl (kA 0, 864, .inl f4))]]) H := hP
  have hD : va_D A (cat [[(a0, .inr (13, mF qm x0Mo y0Mo))], [(qm 2, .inl (kA 0, 66836, .inl all0))], [(qm 6, .inl (kA 0, 539, .inl f0))], [(qm 3, .inl (kA 0, 4, .inl f1))], [(qm 4, .inl (kA 0, 4, .inl f2))], [(qm 61, .inl (kA 0, 4, .inl f3))], [(qm 73, .inl (kA 0, 864, .inl f4))]]) := hD
  refine lv_aload_n (pc := 27) hx hb d_Mo_read_27 rfl (lv_at hl 0 rfl) ?_
  refine lv_iconst (pc := 28) (v := 1) hx hb d_Mo_read_28 (by decide) ?_
  refine k_put (pc := 29) X hK hP hD hS 0 rfl rfl i_Mo t_Mo t_Mo_ok n_Mo 7 (by decide) wm_2440 rfl (Or.inl rfl) rfl rfl (Nat.le_of_ble_eq_true rfl) d_Mo_read_29 (fun H locs hP hD hS => ?_)
  have hP : va_P D classes (cat [[(a0, .inr (13, mF qm (va_up x0Mo 7 1) y0Mo))], [(qm 2, .inl (kA 0, 66836, .inl all0))], [(qm 6, .inl (kA 0, 539, .inl f0))], [(qm 3, .inl (kA 0, 4, .inl f1))], [(qm 4, .inl (kA 0, 4, .inl f2))], [(qm 61, .inl (kA 0, 4, .inl f3))], [(qm 73, .inl (kA 0, 864, .inl f4))]]) H := hP
  have hD : va_D A (cat [[(a0, .inr (13, mF qm (va_up x0Mo 7 1) y0Mo))], [(qm 2, .inl (kA 0, 66836, .inl all0))], [(qm 6, .inl (kA 0, 539, .inl f0))], [(qm 3, .inl (kA 0, 4, .inl f1))], [(qm 4, .inl (kA 0, 4, .inl f2))], [(qm 61, .inl (kA 0, 4, .inl f3))], [(qm 73, .inl (kA 0, 864, .inl f4))]]) := hD
  refine lv_aload_n (pc := 32) hx hb d_Mo_read_32 rfl (lv_at hl 0 rfl) ?_
  refine lv_iconst (pc := 33) (v := 0) hx hb d_Mo_read_33 (by decide) ?_
  refine k_put (pc := 34) X hK hP hD hS 0 rfl rfl i_Mo t_Mo t_Mo_ok n_Mo 8 (by decide) wm_2441 rfl (Or.inl rfl) rfl rfl (Nat.le_of_ble_eq_true rfl) d_Mo_read_34 (fun H locs hP hD hS => ?_)
  have hP : va_P D classes (cat [[(a0, .inr (13, mF qm (va_up x0Mo 7 1) y0Mo))], [(qm 2, .inl (kA 0, 66836, .inl all0))], [(qm 6, .inl (kA 0, 539, .inl f0))], [(qm 3, .inl (kA 0, 4, .inl f1))], [(qm 4, .inl (kA 0, 4, .inl f2))], [(qm 61, .inl (kA 0, 4, .inl f3))], [(qm 73, .inl (kA 0, 864, .inl f4))]]) H := hP
  have hD : va_D A (cat [[(a0, .inr (13, mF qm (va_up x0Mo 7 1) y0Mo))], [(qm 2, .inl (kA 0, 66836, .inl all0))], [(qm 6, .inl (kA 0, 539, .inl f0))], [(qm 3, .inl (kA 0, 4, .inl f1))], [(qm 4, .inl (kA 0, 4, .inl f2))], [(qm 61, .inl (kA 0, 4, .inl f3))], [(qm 73, .inl (kA 0, 864, .inl f4))]]) := hD
  refine lv_aload_n (pc := 37) hx hb d_Mo_read_37 rfl (lv_at hl 0 rfl) ?_
  refine lv_iload_n (pc := 38) hx hb d_Mo_read_38 rfl (lv_at hl 2 rfl) ?_
  refine k_put (pc := 39) X hK hP hD hS 0 rfl rfl i_Mo t_Mo t_Mo_ok n_Mo 10 (by decide) wm_2443 rfl (Or.inl rfl) rfl rfl (Nat.le_of_ble_eq_true rfl) d_Mo_read_39 (fun H locs hP hD hS => ?_)
  have hP : va_P D classes (cat [[(a0, .inr (13, mF qm (va_up x0Mo 7 1) y0Mo))], [(qm 2, .inl (kA 0, 66836, .inl all0))], [(qm 6, .inl (kA 0, 539, .inl f0))], [(qm 3, .inl (kA 0, 4, .inl f1))], [(qm 4, .inl (kA 0, 4, .inl f2))], [(qm 61, .inl (kA 0, 4, .inl f3))], [(qm 73, .inl (kA 0, 864, .inl f4))]]) H := hP
  have hD : va_D A (cat [[(a0, .inr (13, mF qm (va_up x0Mo 7 1) y0Mo))], [(qm 2, .inl (kA 0, 66836, .inl all0))], [(qm 6, .inl (kA 0, 539, .inl f0))], [(qm 3, .inl (kA 0, 4, .inl f1))], [(qm 4, .inl (kA 0, 4, .inl f2))], [(qm 61, .inl (kA 0, 4, .inl f3))], [(qm 73, .inl (kA 0, 864, .inl f4))]]) := hD
  refine lv_aload_n (pc := 42) hx hb d_Mo_read_42 rfl (lv_at hl 0 rfl) ?_
  refine lv_iconst (pc := 43) (v := 0) hx hb d_Mo_read_43 (by decide) ?_
  refine k_put (pc := 44) X hK hP hD hS 0 rfl rfl i_Mo t_Mo t_Mo_ok n_Mo 11 (by decide) wm_2444 rfl (Or.inl rfl) rfl rfl (Nat.le_of_ble_eq_true rfl) d_Mo_read_44 (fun H locs hP hD hS => ?_)
  have hP : va_P D classes (cat [[(a0, .inr (13, mF qm (va_up x0Mo 7 1) y0Mo))], [(qm 2, .inl (kA 0, 66836, .inl all0))], [(qm 6, .inl (kA 0, 539, .inl f0))], [(qm 3, .inl (kA 0, 4, .inl f1))], [(qm 4, .inl (kA 0, 4, .inl f2))], [(qm 61, .inl (kA 0, 4, .inl f3))], [(qm 73, .inl (kA 0, 864, .inl f4))]]) H := hP
  have hD : va_D A (cat [[(a0, .inr (13, mF qm (va_up x0Mo 7 1) y0Mo))], [(qm 2, .inl (kA 0, 66836, .inl all0))], [(qm 6, .inl (kA 0, 539, .inl f0))], [(qm 3, .inl (kA 0, 4, .inl f1))], [(qm 4, .inl (kA 0, 4, .inl f2))], [(qm 61, .inl (kA 0, 4, .inl f3))], [(qm 73, .inl (kA 0, 864, .inl f4))]]) := hD
  refine lv_aload_n (pc := 47) hx hb d_Mo_read_47 rfl (lv_at hl 0 rfl) ?_
  refine lv_iload_n (pc := 48) hx hb d_Mo_read_48 rfl (lv_at hl 1 rfl) ?_
  refine lv_iconst (pc := 49) (v := 0) hx hb d_Mo_read_49 (by decide) ?_
  refine k_goI (gr := [[(a0, .inr (13, mF qm (va_up x0Mo 7 1) y0Mo))], [(qm 2, .inl (kA 0, 66836, .inl all0))], [(qm 6, .inl (kA 0, 539, .inl f0))], [(qm 3, .inl (kA 0, 4, .inl f1))], [(qm 4, .inl (kA 0, 4, .inl f2))], [(qm 61, .inl (kA 0, 4, .inl f3))], [(qm 73, .inl (kA 0, 864, .inl f4))]]) (k_rS (pc := 50) (As := [.int (nI j), .int 0]) (rest := [.ref a0]) X (c_Mo_rowOf l D kA j 0 H.size) rfl wm_2420 wm_9 wm_2418 wm_2419 2 (by decide +kernel) ⟨Nat.le_of_ble_eq_true rfl, Nat.le_of_ble_eq_true rfl⟩ rfl rfl (k_pre hN hK hP hD [] [0, 1, 2, 3, 4, 5, 6] 7 rfl (by decide) rfl) rfl hl.1 rfl (Nat.le_of_ble_eq_true rfl) d_Mo_read_50 ⟨Nat.le_of_ble_eq_true rfl, Nat.le_of_ble_eq_true rfl⟩) hP hD hS hA [] [0, 1, 2, 3, 4, 5, 6] 7 rfl (by decide) rfl rfl (fun r3 u4 H locs hu4 hP hD hS => ?_)
  subst hu4
  have hP : va_P D classes (cat [[(a0, .inr (13, mF qm (va_up x0Mo 7 1) y0Mo))], [(qm 2, .inl (kA 0, 66836, .inl all0))], [(qm 6, .inl (kA 0, 539, .inl f0))], [(qm 3, .inl (kA 0, 4, .inl f1))], [(qm 4, .inl (kA 0, 4, .inl f2))], [(qm 61, .inl (kA 0, 4, .inl f3))], [(qm 73, .inl (kA 0, 864, .inl f4))]]) H := hP
  have hD : va_D A (cat [[(a0, .inr (13, mF qm (va_up x0Mo 7 1) y0Mo))], [(qm 2, .inl (kA 0, 66836, .inl all0))], [(qm 6, .inl (kA 0, 539, .inl f0))], [(qm 3, .inl (kA 0, 4, .inl f1))], [(qm 4, .inl (kA 0, 4, .inl f2))], [(qm 61, .inl (kA 0, 4, .inl f3))], [(qm 73, .inl (kA 0, 864, .inl f4))]]) := hD
  refine k_put (pc := 53) X hK hP hD hS 0 rfl rfl i_Mo t_Mo t_Mo_ok n_Mo 5 (by decide) wm_2438 rfl (Or.inl rfl) rfl rfl (Nat.le_of_ble_eq_true rfl) d_Mo_read_53 (fun H locs hP hD hS => ?_)
  have hP : va_P D classes (cat [[(a0, .inr (13, mF qm (va_up (va_up x0Mo 5 (nI (539 * (31 * j + 0)))) 7 1) y0Mo))], [(qm 2, .inl (kA 0, 66836, .inl all0))], [(qm 6, .inl (kA 0, 539, .inl f0))], [(qm 3, .inl (kA 0, 4, .inl f1))], [(qm 4, .inl (kA 0, 4, .inl f2))], [(qm 61, .inl (kA 0, 4, .inl f3))], [(qm 73, .inl (kA 0, 864, .inl f4))]]) H := hP
  have hD : va_D A (cat [[(a0, .inr (13, mF qm (va_up (va_up x0Mo 5 (nI (539 * (31 * j + 0)))) 7 1) y0Mo))], [(qm 2, .inl (kA 0, 66836, .inl all0))], [(qm 6, .inl (kA 0, 539, .inl f0))], [(qm 3, .inl (kA 0, 4, .inl f1))], [(qm 4, .inl (kA 0, 4, .inl f2))], [(qm 61, .inl (kA 0, 4, .inl f3))], [(qm 73, .inl (kA 0, 864, .inl f4))]]) := hD
  refine lv_iconst (pc := 56) (v := 0) hx hb d_Mo_read_56 (by decide) ?_
  refine lv_istore_n (pc := 57) (lv' := [(3, .int 0), (0, .ref a0), (1, .int (nI j)), (2, .int 0)]) hx hb d_Mo_read_57 rfl hl (by decide) rfl (fun ls hl => ?_)
  refine lp1_Mo_read_z4 X hK a0 qm j f1 f2 f3 f4 hj (fun f910 H locs ls hP hD hS hl => ?_) 539 0 (by omega) _ _ _ ls hP hD hS (lv_sub hl [0, 1, 2, 3] rfl)
  refine lv_aload_n (pc := 88) hx hb d_Mo_read_88 rfl (lv_at hl 1 rfl) ?_
  refine lv_aload_n (pc := 89) hx hb d_Mo_read_89 rfl (lv_at hl 1 rfl) ?_
  refine k_get (pc := 90) (v := .int (nI (539 * (31 * j + 0)))) X hK hP 0 rfl rfl i_Mo 5 (by decide) wm_2438 rfl rfl d_Mo_read_90 ?_
  refine k_goV (gr := [[(qm 6, .inl (kA 0, 539, .inl f910))], [(qm 3, .inl (kA 0, 4, .inl f1))], [(qm 4, .inl (kA 0, 4, .inl f2))], [(qm 61, .inl (kA 0, 4, .inl f3))], [(qm 73, .inl (kA 0, 864, .inl f4))]]) (k_rV (pc := 93) (As := [.int (nI (539 * (31 * j + 0)))]) (rest := []) X (c_Mo_clear l D kA a0 qm (va_up (va_up x0Mo 5 (nI (539 * (31 * j + 0)))) 7 1) y0Mo all0 (539 * (31 * j + 0)) (by omega) H.size) rfl wm_2424 wm_9 wm_2421 wm_2423 wv_12_8 1 (by decide +kernel) ⟨Nat.le_of_ble_eq_true rfl, Nat.le_of_ble_eq_true rfl⟩ rfl rfl (va_recv hK hP (ci := 13) (q0 := 0) rfl rfl) (k_pre hN hK hP hD [0, 1] [2, 3, 4, 5, 6] 7 rfl (by decide) rfl) rfl hl.1 rfl (Nat.le_of_ble_eq_true rfl) d_Mo_read_93 ⟨Nat.le_of_ble_eq_true rfl, Nat.le_of_ble_eq_true rfl⟩) hP hD hS hA [0, 1] [2, 3, 4, 5, 6] 7 rfl (by decide) rfl rfl (fun u6 H locs hu6 hP hD hS => ?_)
  have hP : va_P D classes (cat [[(qm 6, .inl (kA 0, 539, .inl f910))], [(qm 3, .inl (kA 0, 4, .inl f1))], [(qm 4, .inl (kA 0, 4, .inl f2))], [(qm 61, .inl (kA 0, 4, .inl f3))], [(qm 73, .inl (kA 0, 864, .inl f4))], [(a0, .inr (13, mF qm (va_up (va_up x0Mo 5 (nI (539 * (31 * j + 0)))) 7 1) y0Mo))], [(qm 2, .inl (kA 0, 66836, .inl (upd (upd (clr all0 (539 * (31 * j + 0)) 539) ((539 * (31 * j + 0)) + 2) 1) ((539 * (31 * j + 0)) + 531) (-1))))]]) H := hP
  have hD : va_D A (cat [[(qm 6, .inl (kA 0, 539, .inl f910))], [(qm 3, .inl (kA 0, 4, .inl f1))], [(qm 4, .inl (kA 0, 4, .inl f2))], [(qm 61, .inl (kA 0, 4, .inl f3))], [(qm 73, .inl (kA 0, 864, .inl f4))], [(a0, .inr (13, mF qm (va_up (va_up x0Mo 5 (nI (539 * (31 * j + 0)))) 7 1) y0Mo))], [(qm 2, .inl (kA 0, 66836, .inl (upd (upd (clr all0 (539 * (31 * j + 0)) 539) ((539 * (31 * j + 0)) + 2) 1) ((539 * (31 * j + 0)) + 531) (-1))))]]) := hD
  refine lv_aload_n (pc := 96) hx hb d_Mo_read_96 rfl (lv_at hl 1 rfl) ?_
  refine k_goV (gr := [[(qm 6, .inl (kA 0, 539, .inl f910))], [(qm 3, .inl (kA 0, 4, .inl f1))], [(qm 4, .inl (kA 0, 4, .inl f2))], [(qm 61, .inl (kA 0, 4, .inl f3))], [(qm 73, .inl (kA 0, 864, .inl f4))], [(qm 2, .inl (kA 0, 66836, .inl (upd (upd (clr all0 (539 * (31 * j + 0)) 539) ((539 * (31 * j + 0)) + 2) 1) ((539 * (31 * j + 0)) + 531) (-1))))]]) (k_rV (pc := 97) (As := []) (rest := []) X (c_Mo_next_z1 l D kA a0 qm j hj H.size) rfl wm_2982 wm_9 wm_2979 wm_2981 wv_12_11 0 (by decide +kernel) ⟨Nat.le_of_ble_eq_true rfl, Nat.le_of_ble_eq_true rfl⟩ rfl rfl (va_recv hK hP (ci := 13) (q0 := 5) rfl rfl) (k_pre hN hK hP hD [5] [0, 1, 2, 3, 4, 6] 7 rfl (by decide) rfl) rfl hl.1 rfl (Nat.le_of_ble_eq_true rfl) d_Mo_read_97 ⟨Nat.le_of_ble_eq_true rfl, Nat.le_of_ble_eq_true rfl⟩) hP hD hS hA [5] [0, 1, 2, 3, 4, 6] 7 rfl (by decide) rfl rfl (fun u7 H locs hu7 hP hD hS => ?_)
  have hP : va_P D classes (cat [[(qm 6, .inl (kA 0, 539, .inl f910))], [(qm 3, .inl (kA 0, 4, .inl f1))], [(qm 4, .inl (kA 0, 4, .inl f2))], [(qm 61, .inl (kA 0, 4, .inl f3))], [(qm 73, .inl (kA 0, 864, .inl f4))], [(qm 2, .inl (kA 0, 66836, .inl (upd (upd (clr all0 (539 * (31 * j + 0)) 539) ((539 * (31 * j + 0)) + 2) 1) ((539 * (31 * j + 0)) + 531) (-1))))], [(a0, .inr (13, mF qm (va_up (va_up (va_up x0Mo 5 (nI (539 * (31 * j + 0)))) 7 1) 14 (-1)) y0Mo))]]) H := hP
  have hD : va_D A (cat [[(qm 6, .inl (kA 0, 539, .inl f910))], [(qm 3, .inl (kA 0, 4, .inl f1))], [(qm 4, .inl (kA 0, 4, .inl f2))], [(qm 61, .inl (kA 0, 4, .inl f3))], [(qm 73, .inl (kA 0, 864, .inl f4))], [(qm 2, .inl (kA 0, 66836, .inl (upd (upd (clr all0 (539 * (31 * j + 0)) 539) ((539 * (31 * j + 0)) + 2) 1) ((539 * (31 * j + 0)) + 531) (-1))))], [(a0, .inr (13, mF qm (va_up (va_up (va_up x0Mo 5 (nI (539 * (31 * j + 0)))) 7 1) 14 (-1)) y0Mo))]]) := hD
  refine lv_aload_n (pc := 100) hx hb d_Mo_read_100 rfl (lv_at hl 1 rfl) ?_
  refine k_get (pc := 101) (v := .int 0) X hK hP 6 rfl rfl i_Mo 8 (by decide) wm_2441 rfl rfl d_Mo_read_101 ?_
  refine lv_if_ne (pc := 104) (tgt := 123) hx hb d_Mo_read_104 (by decide) (fun c1 => absurd (by decide) c1) (fun c1 => ?_)
  refine lv_aload_n (pc := 107) hx hb d_Mo_read_107 rfl (lv_at hl 1 rfl) ?_
  refine k_get (pc := 108) (v := .int 0) X hK hP 6 rfl rfl i_Mo 12 (by decide) wm_2445 rfl rfl d_Mo_read_108 ?_
  refine lv_if_eq (pc := 111) (tgt := 123) hx hb d_Mo_read_111 (by decide) (fun c1 => ?_) (fun c1 => absurd (by decide) c1)
  refine lv_aload_n (pc := 123) hx hb d_Mo_read_123 rfl (lv_at hl 1 rfl) ?_
  refine k_get (pc := 124) (v := .int 0) X hK hP 6 rfl rfl i_Mo 8 (by decide) wm_2441 rfl rfl d_Mo_read_124 ?_
  refine lv_if_le (pc := 127) (tgt := 164) hx hb d_Mo_read_127 (by decide) (fun c1 => ?_) (fun c1 => absurd (by decide) c1)
  refine lv_aload_n (pc := 164) hx hb d_Mo_read_164 rfl (lv_at hl 1 rfl) ?_
  refine k_get (pc := 165) (v := .ref (qm 3)) X hK hP 6 rfl rfl i_Mo 3 (by decide) wm_2436 rfl rfl d_Mo_read_165 ?_
  refine lv_iload_n (pc := 168) hx hb d_Mo_read_168 rfl (lv_at hl 2 rfl) ?_
  refine lv_iconst (pc := 169) (v := 0) hx hb d_Mo_read_169 (by decide) ?_
  refine k_ist (pc := 170) hx hb hK hP hD hS 1 0 rfl rfl (j) rfl (by omega) (by decide) d_Mo_read_170 (fun H locs hP hD hS => ?_)
  have hP : va_P D classes (cat [[(qm 6, .inl (kA 0, 539, .inl f910))], [(qm 3, .inl (kA 0, 4, .inl (upd f1 j 0)))], [(qm 4, .inl (kA 0, 4, .inl f2))], [(qm 61, .inl (kA 0, 4, .inl f3))], [(qm 73, .inl (kA 0, 864, .inl f4))], [(qm 2, .inl (kA 0, 66836, .inl (upd (upd (clr all0 (539 * (31 * j + 0)) 539) ((539 * (31 * j + 0)) + 2) 1) ((539 * (31 * j + 0)) + 531) (-1))))], [(a0, .inr (13, mF qm (va_up (va_up (va_up x0Mo 5 (nI (539 * (31 * j + 0)))) 7 1) 14 (-1)) y0Mo))]]) H := hP
  have hD : va_D A (cat [[(qm 6, .inl (kA 0, 539, .inl f910))], [(qm 3, .inl (kA 0, 4, .inl (upd f1 j 0)))], [(qm 4, .inl (kA 0, 4, .inl f2))], [(qm 61, .inl (kA 0, 4, .inl f3))], [(qm 73, .inl (kA 0, 864, .inl f4))], [(qm 2, .inl (kA 0, 66836, .inl (upd (upd (clr all0 (539 * (31 * j + 0)) 539) ((539 * (31 * j + 0)) + 2) 1) ((539 * (31 * j + 0)) + 531) (-1))))], [(a0, .inr (13, mF qm (va_up (va_up (va_up x0Mo 5 (nI (539 * (31 * j + 0)))) 7 1) 14 (-1)) y0Mo))]]) := hD
  refine lv_aload_n (pc := 171) hx hb d_Mo_read_171 rfl (lv_at hl 1 rfl) ?_
  refine k_get (pc := 172) (v := .ref (qm 4)) X hK hP 6 rfl rfl i_Mo 4 (by decide) wm_2437 rfl rfl d_Mo_read_172 ?_
  refine lv_iload_n (pc := 175) hx hb d_Mo_read_175 rfl (lv_at hl 2 rfl) ?_
  refine lv_iconst (pc := 176) (v := 0) hx hb d_Mo_read_176 (by decide) ?_
  refine k_ist (pc := 177) hx hb hK hP hD hS 2 0 rfl rfl (j) rfl (by omega) (by decide) d_Mo_read_177 (fun H locs hP hD hS => ?_)
  have hP : va_P D classes (cat [[(qm 6, .inl (kA 0, 539, .inl f910))], [(qm 3, .inl (kA 0, 4, .inl (upd f1 j 0)))], [(qm 4, .inl (kA 0, 4, .inl (upd f2 j 0)))], [(qm 61, .inl (kA 0, 4, .inl f3))], [(qm 73, .inl (kA 0, 864, .inl f4))], [(qm 2, .inl (kA 0, 66836, .inl (upd (upd (clr all0 (539 * (31 * j + 0)) 539) ((539 * (31 * j + 0)) + 2) 1) ((539 * (31 * j + 0)) + 531) (-1))))], [(a0, .inr (13, mF qm (va_up (va_up (va_up x0Mo 5 (nI (539 * (31 * j + 0)))) 7 1) 14 (-1)) y0Mo))]]) H := hP
  have hD : va_D A (cat [[(qm 6, .inl (kA 0, 539, .inl f910))], [(qm 3, .inl (kA 0, 4, .inl (upd f1 j 0)))], [(qm 4, .inl (kA 0, 4, .inl (upd f2 j 0)))], [(qm 61, .inl (kA 0, 4, .inl f3))], [(qm 73, .inl (kA 0, 864, .inl f4))], [(qm 2, .inl (kA 0, 66836, .inl (upd (upd (clr all0 (539 * (31 * j + 0)) 539) ((539 * (31 * j + 0)) + 2) 1) ((539 * (31 * j + 0)) + 531) (-1))))], [(a0, .inr (13, mF qm (va_up (va_up (va_up x0Mo 5 (nI (539 * (31 * j + 0)))) 7 1) 14 (-1)) y0Mo))]]) := hD
  refine lv_aload_n (pc := 178) hx hb d_Mo_read_178 rfl (lv_at hl 1 rfl) ?_
  refine lv_iload_n (pc := 179) hx hb d_Mo_read_179 rfl (lv_at hl 2 rfl) ?_
  refine k_goV (gr := [[(qm 6, .inl (kA 0, 539, .inl f910))], [(qm 3, .inl (kA 0, 4, .inl (upd f1 j 0)))], [(qm 4, .inl (kA 0, 4, .inl (upd f2 j 0)))], [(qm 2, .inl (kA 0, 66836, .inl (upd (upd (clr all0 (539 * (31 * j + 0)) 539) ((539 * (31 * j + 0)) + 2) 1) ((539 * (31 * j + 0)) + 531) (-1))))]]) (k_rV (pc := 180) (As := [.int (nI j)]) (rest := []) X (c_Mo_changed_z1 l D kA a0 j qm f3 f4 hj H.size) rfl wm_3083 wm_9 wm_3080 wm_3082 wv_14_1 1 (by decide +kernel) ⟨Nat.le_of_ble_eq_true rfl, Nat.le_of_ble_eq_true rfl⟩ rfl rfl (va_recv hK hP (ci := 13) (q0 := 6) rfl rfl) (k_pre hN hK hP hD [6, 3, 4] [0, 1, 2, 5] 7 rfl (by decide) rfl) rfl hl.1 rfl (Nat.le_of_ble_eq_true rfl) d_Mo_read_180 ⟨Nat.le_of_ble_eq_true rfl, Nat.le_of_ble_eq_true rfl⟩) hP hD hS hA [6, 3, 4] [0, 1, 2, 5] 7 rfl (by decide) rfl rfl (fun u8 H locs hu8 hP hD hS => ?_)
  have hP : va_P D classes (cat [[(qm 6, .inl (kA 0, 539, .inl f910))], [(qm 3, .inl (kA 0, 4, .inl (upd f1 j 0)))], [(qm 4, .inl (kA 0, 4, .inl (upd f2 j 0)))], [(qm 2, .inl (kA 0, 66836, .inl (upd (upd (clr all0 (539 * (31 * j + 0)) 539) ((539 * (31 * j + 0)) + 2) 1) ((539 * (31 * j + 0)) + 531) (-1))))], [(a0, .inr (13, mF qm (va_up (va_up (va_up x0Mo 5 (nI (539 * (31 * j + 0)))) 7 1) 14 (-1)) y0Mo))], [(qm 61, .inl (kA 0, 4, .inl (upd f3 j ((-1)))))], [(qm 73, .inl (kA 0, 864, .inl (u8.2 0)))]]) H := hP
  have hD : va_D A (cat [[(qm 6, .inl (kA 0, 539, .inl f910))], [(qm 3, .inl (kA 0, 4, .inl (upd f1 j 0)))], [(qm 4, .inl (kA 0, 4, .inl (upd f2 j 0)))], [(qm 2, .inl (kA 0, 66836, .inl (upd (upd (clr all0 (539 * (31 * j + 0)) 539) ((539 * (31 * j + 0)) + 2) 1) ((539 * (31 * j + 0)) + 531) (-1))))], [(a0, .inr (13, mF qm (va_up (va_up (va_up x0Mo 5 (nI (539 * (31 * j + 0)))) 7 1) 14 (-1)) y0Mo))], [(qm 61, .inl (kA 0, 4, .inl (upd f3 j ((-1)))))], [(qm 73, .inl (kA 0, 864, .inl (u8.2 0)))]]) := hD
  obtain ⟨f950, hf950⟩ : ∃ z : Nat → Int32, u8.2 0 = z := ⟨_, rfl⟩
  rw [hf950] at hP hD
  refine lv_aload_n (pc := 183) hx hb d_Mo_read_183 rfl (lv_at hl 1 rfl) ?_
  refine k_goI (gr := [[(qm 6, .inl (kA 0, 539, .inl f910))], [(qm 3, .inl (kA 0, 4, .inl (upd f1 j 0)))], [(qm 4, .inl (kA 0, 4, .inl (upd f2 j 0)))], [(qm 61, .inl (kA 0, 4, .inl (upd f3 j ((-1)))))], [(qm 73, .inl (kA 0, 864, .inl f950))]]) (k_rV (pc := 184) (As := []) (rest := []) X (c_Mo_nodes_z2 l D kA a0 qm j all0 hj H.size) rfl wm_3025 wm_9 wm_3022 wm_3024 wv_13_3 0 (by decide +kernel) ⟨Nat.le_of_ble_eq_true rfl, Nat.le_of_ble_eq_true rfl⟩ rfl rfl (va_recv hK hP (ci := 13) (q0 := 4) rfl rfl) (k_pre hN hK hP hD [4, 3] [0, 1, 2, 5, 6] 7 rfl (by decide) rfl) rfl hl.1 rfl (Nat.le_of_ble_eq_true rfl) d_Mo_read_184 ⟨Nat.le_of_ble_eq_true rfl, Nat.le_of_ble_eq_true rfl⟩) hP hD hS hA [4, 3] [0, 1, 2, 5, 6] 7 rfl (by decide) rfl rfl (fun r9 u10 H locs hu10 hP hD hS => ?_)
  subst hu10
  have hP : va_P D classes (cat [[(qm 6, .inl (kA 0, 539, .inl f910))], [(qm 3, .inl (kA 0, 4, .inl (upd f1 j 0)))], [(qm 4, .inl (kA 0, 4, .inl (upd f2 j 0)))], [(qm 61, .inl (kA 0, 4, .inl (upd f3 j ((-1)))))], [(qm 73, .inl (kA 0, 864, .inl f950))], [(a0, .inr (13, mF qm (va_up (va_up (va_up x0Mo 5 (nI (539 * (31 * j + 0)))) 7 1) 14 (-1)) y0Mo))], [(qm 2, .inl (kA 0, 66836, .inl (upd (upd (clr all0 (539 * (31 * j + 0)) 539) ((539 * (31 * j + 0)) + 2) 1) ((539 * (31 * j + 0)) + 531) (-1))))]]) H := hP
  have hD : va_D A (cat [[(qm 6, .inl (kA 0, 539, .inl f910))], [(qm 3, .inl (kA 0, 4, .inl (upd f1 j 0)))], [(qm 4, .inl (kA 0, 4, .inl (upd f2 j 0)))], [(qm 61, .inl (kA 0, 4, .inl (upd f3 j ((-1)))))], [(qm 73, .inl (kA 0, 864, .inl f950))], [(a0, .inr (13, mF qm (va_up (va_up (va_up x0Mo 5 (nI (539 * (31 * j + 0)))) 7 1) 14 (-1)) y0Mo))], [(qm 2, .inl (kA 0, 66836, .inl (upd (upd (clr all0 (539 * (31 * j + 0)) 539) ((539 * (31 * j + 0)) + 2) 1) ((539 * (31 * j + 0)) + 531) (-1))))]]) := hD
  refine W.widen (k := 0) (n := 0) (Nat.le_of_ble_eq_true rfl) (Nat.le_of_ble_eq_true rfl) ?_
  exact W.iret (v := 0) hx hb hr (fun t ht hW => ⟨⟨0, [[(qm 6, .inl (kA 0, 539, .inl f910))], [(qm 3, .inl (kA 0, 4, .inl (upd f1 j 0)))], [(qm 4, .inl (kA 0, 4, .inl (upd f2 j 0)))], [(qm 61, .inl (kA 0, 4, .inl (upd f3 j ((-1)))))], [(qm 73, .inl (kA 0, 864, .inl f950))], [(a0, .inr (13, mF qm (va_up (va_up (va_up x0Mo 5 (nI (539 * (31 * j + 0)))) 7 1) 14 (-1)) y0Mo))], [(qm 2, .inl (kA 0, 66836, .inl (upd (upd (clr all0 (539 * (31 * j + 0)) 539) ((539 * (31 * j + 0)) + 2) 1) ((539 * (31 * j + 0)) + 531) (-1))))]], rfl, rfl, by rw [ht]; exact hP, va_K.moved hW.alike hK, hD⟩, hS.F ht⟩) hS.2.2 d_Mo_read_187
set_option maxRecDepth 100000 in
set_option maxHeartbeats 4000000 in
/-- read, a fresh house -/
theorem lf_read_4 {p : Program} {e : Env} {s : State} {m : MethodId} {below : List Frame} {meth : Method} {c : Code} (l : Launch) {b : Nat} {xs : Nat → Int32} (C0 : lw_At p s m meth c b 6 xs) {D : va_G} {kA : Nat → ClassId} (h : Nat) (h2 : Nat) (q : Nat → Nat) (qg : Nat → Nat) (qf : Nat → Nat) (qn : Nat → Nat) (qd : Nat → Nat) (qr : Nat → Nat) (qs : Nat → Nat) (qm : Nat → Nat) (g : Nat → Nat → Nat) (j : Nat) (hj : j < 4) (hv1 : xs 1 = nI j) (hv2 : xs 2 = 0) {H : Heap} {locs : List Loc} {ls : Array Slot} (hK : va_K D classes (TY kA) s) (hN : nst s) (hP : va_P D classes (cat [[(h, .inr (12, [.ref (q 0), .ref (q 1), .ref (q 2), .ref (q 3), .ref (q 4), .ref (q 5), .ref (q 6), .int 0, .int ((-1)), .ref (q 9), .ref (q 10), .int 0, .int 0, .ref (q 13), .int 0, .int 0, .null, .null, .null, .null, .null]))], [(q 4, .inr (8, [.ref (qr 0), .int 0, .int ((-1)), .int ((-1)), .ref (qr 4), .int 0, .int 0, .int 0, .int 0, .int 0, .ref (qr 10), .int 0]))], [(qr 4, .inr (3, [.int 0, .int 0, .int 1, .ref (qs 3), .ref (qs 4), .ref (qs 5), .ref (qs 6), .ref (qs 7), .ref (qs 8), .ref (qs 9), .ref (qs 10), .ref (qs 11), .ref (qs 12), .ref (qs 13), .ref (qs 14), .ref (qs 15), .null, .int 0, .int 0]))], [(qs 14, .inl (kA 0, 24, .inl (fun _ => 0)))], [(qs 15, .inl (kA 0, 576, .inl (fl (fun _ => 0) 576 (-1))))], [(qr 10, .inl (kA 0, 5, .inl (fun _ => 0)))], [(q 0, .inl (kA 4, 4, .inr (.inr (.inr (.inr (rr (g 0)))))))], [(g 0 j, .inr (3, [.int 0, .int 0, .int 1, .ref (qg 3), .ref (qg 4), .ref (qg 5), .ref (qg 6), .ref (qg 7), .ref (qg 8), .ref (qg 9), .ref (qg 10), .ref (qg 11), .ref (qg 12), .ref (qg 13), .ref (qg 14), .ref (qg 15), .null, .int 0, .int 0]))], [(qg 3, .inl (kA 1, 192, .inl (fun _ => 0)))], [(qs 3, .inl (kA 1, 192, .inl (fun _ => 0)))], [(qs 4, .inl (kA 0, 24, .inl (fun _ => 0)))], [(qg 4, .inl (kA 0, 24, .inl (fun _ => 0)))], [(qs 5, .inl (kA 0, 24, .inl (fun _ => 0)))], [(qg 5, .inl (kA 0, 24, .inl (fun _ => 0)))], [(qs 6, .inl (kA 0, 24, .inl (fun _ => 0)))], [(qg 6, .inl (kA 0, 24, .inl (fun _ => 0)))], [(qs 7, .inl (kA 0, 48, .inl (fun _ => 0)))], [(qg 7, .inl (kA 0, 48, .inl (fun _ => 0)))], [(qs 8, .inl (kA 0, 48, .inl (fun _ => 0)))], [(qg 8, .inl (kA 0, 48, .inl (fun _ => 0)))], [(qs 9, .inl (kA 0, 48, .inl (fun _ => 0)))], [(qg 9, .inl (kA 0, 48, .inl (fun _ => 0)))], [(qs 10, .inl (kA 0, 48, .inl (fun _ => 0)))], [(qg 10, .inl (kA 0, 48, .inl (fun _ => 0)))], [(qs 11, .inl (kA 0, 8, .inl (upd (fun _ => 0) 0 (-1))))], [(qg 11, .inl (kA 0, 8, .inl (upd (fun _ => 0) 0 (-1))))], [(qg 12, .inl (kA 1, 64, .inl (fun _ => 0)))], [(qs 12, .inl (kA 1, 64, .inl (fun _ => 0)))], [(qs 13, .inl (kA 0, 8, .inl (fun _ => 0)))], [(qg 13, .inl (kA 0, 8, .inl (fun _ => 0)))], [(qg 14, .inl (kA 0, 24, .inl (fun _ => 0)))], [(qg 15, .inl (kA 0, 576, .inl (fl (fun _ => 0) 576 (-1))))], [(q 1, .inl (kA 5, 4, .inr (.inr (.inr (.inr (rr (g 1)))))))], [(g 1 j, .inr (2, [.int 0, .int 0, .int 0, .int 0, .ref (qf 4), .ref (qf 5), .ref (qf 6), .ref (qf 7), .ref (qf 8), .ref (qf 9), .ref (qf 10), .ref (qf 11), .ref (qf 12), .ref (qf 13), .ref (qf 14)]))], [(q 2, .inl (kA 6, 4, .inr (.inr (.inr (.inr (rr (g 2)))))))], [(g 2 j, .inr (5, [.int ((-1)), .int ((-1)), .int ((-1)), .int 0, .ref (qn 4), .int 0, .int 0, .ref (qn 7), .ref (qn 8), .ref (qn 9), .ref (qn 10), .ref (qn 11), .ref (qn 12), .int 0, .ref (qn 14), .ref (qn 15), .ref (qn 16)]))], [(q 3, .inl (kA 7, 4, .inr (.inr (.inr (.inr (rr (g 3)))))))], [(g 3 j, .inr (0, [.ref (qd 0), .int ((-1)), .ref (qd 2), .ref (qd 3), .ref (qd 4), .ref (qd 5), .ref (qd 6), .int 0, .int 0, .int 0, .ref (qd 10), .ref (qd 11), .ref (qd 12), .ref (qd 13), .ref (qd 14), .ref (qd 15), .ref (qd 16), .int 0, .int 0, .int 0, .int 0]))], [(qd 14, .inl (kA 0, 216, .inl (fun _ => 0)))], [(h2, .inr (13, mF qm x0Mo y0Mo))], [(qm 2, .inl (kA 0, 66836, .inl all0))], [(qm 6, .inl (kA 0, 539, .inl (fun _ => 0)))], [(qm 3, .inl (kA 0, 4, .inl (fun _ => 0)))], [(qm 4, .inl (kA 0, 4, .inl (fun _ => 0)))], [(qm 61, .inl (kA 0, 4, .inl (upd (upd (upd (upd (fun _ => 0) 0 (-1)) 1 (-1)) 2 (-1)) 3 (-1))))], [(qm 73, .inl (kA 0, 864, .inl (fun _ => 0)))]]) H) (hD : va_D (fun q : Nat => s.heap.size ≤ q) (cat [[(h, .inr (12, [.ref (q 0), .ref (q 1), .ref (q 2), .ref (q 3), .ref (q 4), .ref (q 5), .ref (q 6), .int 0, .int ((-1)), .ref (q 9), .ref (q 10), .int 0, .int 0, .ref (q 13), .int 0, .int 0, .null, .null, .null, .null, .null]))], [(q 4, .inr (8, [.ref (qr 0), .int 0, .int ((-1)), .int ((-1)), .ref (qr 4), .int 0, .int 0, .int 0, .int 0, .int 0, .ref (qr 10), .int 0]))], [(qr 4, .inr (3, [.int 0, .int 0, .int 1, .ref (qs 3), .ref (qs 4), .ref (qs 5), .ref (qs 6), .ref (qs 7), .ref (qs 8), .ref (qs 9), .ref (qs 10), .ref (qs 11), .ref (qs 12), .ref (qs 13), .ref (qs 14), .ref (qs 15), .null, .int 0, .int 0]))], [(qs 14, .inl (kA 0, 24, .inl (fun _ => 0)))], [(qs 15, .inl (kA 0, 576, .inl (fl (fun _ => 0) 576 (-1))))], [(qr 10, .inl (kA 0, 5, .inl (fun _ => 0)))], [(q 0, .inl (kA 4, 4, .inr (.inr (.inr (.inr (rr (g 0)))))))], [(g 0 j, .inr (3, [.int 0, .int 0, .int 1, .ref (qg 3), .ref (qg 4), .ref (qg 5), .ref (qg 6), .ref (qg 7), .ref (qg 8), .ref (qg 9), .ref (qg 10), .ref (qg 11), .ref (qg 12), .ref (qg 13), .ref (qg 14), .ref (qg 15), .null, .int 0, .int 0]))], [(qg 3, .inl (kA 1, 192, .inl (fun _ => 0)))], [(qs 3, .inl (kA 1, 192, .inl (fun _ => 0)))], [(qs 4, .inl (kA 0, 24, .inl (fun _ => 0)))], [(qg 4, .inl (kA 0, 24, .inl (fun _ => 0)))], [(qs 5, .inl (kA 0, 24, .inl (fun _ => 0)))], [(qg 5, .inl (kA 0, 24, .inl (fun _ => 0)))], [(qs 6, .inl (kA 0, 24, .inl (fun _ => 0)))], [(qg 6, .inl (kA 0, 24, .inl (fun _ => 0)))], [(qs 7, .inl (kA 0, 48, .inl (fun _ => 0)))], [(qg 7, .inl (kA 0, 48, .inl (fun _ => 0)))], [(qs 8, .inl (kA 0, 48, .inl (fun _ => 0)))], [(qg 8, .inl (kA 0, 48, .inl (fun _ => 0)))], [(qs 9, .inl (kA 0, 48, .inl (fun _ => 0)))], [(qg 9, .inl (kA 0, 48, .inl (fun _ => 0)))], [(qs 10, .inl (kA 0, 48, .inl (fun _ => 0)))], [(qg 10, .inl (kA 0, 48, .inl (fun _ => 0)))], [(qs 11, .inl (kA 0, 8, .inl (upd (fun _ => 0) 0 (-1))))], [(qg 11, .inl (kA 0, 8, .inl (upd (fun _ => 0) 0 (-1))))], [(qg 12, .inl (kA 1, 64, .inl (fun _ => 0)))], [(qs 12, .inl (kA 1, 64, .inl (fun _ => 0)))], [(qs 13, .inl (kA 0, 8, .inl (fun _ => 0)))], [(qg 13, .inl (kA 0, 8, .inl (fun _ => 0)))], [(qg 14, .inl (kA 0, 24, .inl (fun _ => 0)))], [(qg 15, .inl (kA 0, 576, .inl (fl (fun _ => 0) 576 (-1))))], [(q 1, .inl (kA 5, 4, .inr (.inr (.inr (.inr (rr (g 1)))))))], [(g 1 j, .inr (2, [.int 0, .int 0, .int 0, .int 0, .ref (qf 4), .ref (qf 5), .ref (qf 6), .ref (qf 7), .ref (qf 8), .ref (qf 9), .ref (qf 10), .ref (qf 11), .ref (qf 12), .ref (qf 13), .ref (qf 14)]))], [(q 2, .inl (kA 6, 4, .inr (.inr (.inr (.inr (rr (g 2)))))))], [(g 2 j, .inr (5, [.int ((-1)), .int ((-1)), .int ((-1)), .int 0, .ref (qn 4), .int 0, .int 0, .ref (qn 7), .ref (qn 8), .ref (qn 9), .ref (qn 10), .ref (qn 11), .ref (qn 12), .int 0, .ref (qn 14), .ref (qn 15), .ref (qn 16)]))], [(q 3, .inl (kA 7, 4, .inr (.inr (.inr (.inr (rr (g 3)))))))], [(g 3 j, .inr (0, [.ref (qd 0), .int ((-1)), .ref (qd 2), .ref (qd 3), .ref (qd 4), .ref (qd 5), .ref (qd 6), .int 0, .int 0, .int 0, .ref (qd 10), .ref (qd 11), .ref (qd 12), .ref (qd 13), .ref (qd 14), .ref (qd 15), .ref (qd 16), .int 0, .int 0, .int 0, .int 0]))], [(qd 14, .inl (kA 0, 216, .inl (fun _ => 0)))], [(h2, .inr (13, mF qm x0Mo y0Mo))], [(qm 2, .inl (kA 0, 66836, .inl all0))], [(qm 6, .inl (kA 0, 539, .inl (fun _ => 0)))], [(qm 3, .inl (kA 0, 4, .inl (fun _ => 0)))], [(qm 4, .inl (kA 0, 4, .inl (fun _ => 0)))], [(qm 61, .inl (kA 0, 4, .inl (upd (upd (upd (upd (fun _ => 0) 0 (-1)) 1 (-1)) 2 (-1)) 3 (-1))))], [(qm 73, .inl (kA 0, 864, .inl (fun _ => 0)))]])) (hS : va_S (fun q : Nat => s.heap.size ≤ q) s.heap H locs) (hl : lv_has ls 4 [(3, .int 0), (2, .ref h2), (1, .ref h), (0, .ref b)]) : W p l e room_1 s m #[Value.ref b] below meth c H locs 368 365796 (lw_Z below #[Value.ref b] s) (F0 m 223 ls []) := by
  obtain ⟨hx, hb, hr, hml, hown, hts0, hX, hbl, hlocks, hgv⟩ := id C0
  have hts : ∀ w ∈ lw_g, w.before #[Value.ref b] s = true := fun w h => hts0 w (lw_gt h)
  have X : cx p s m #[Value.ref b] meth c b_law_law 4 ret "DrawingHouseLaw" meth.name := ⟨hx, hb, hml, hown, hts, hr, hlocks, rfl⟩
  obtain ⟨A, hAe⟩ : ∃ A : Nat → Prop, A = fun q : Nat => s.heap.size ≤ q := ⟨_, rfl⟩
  have hA : ∀ q : Nat, s.heap.size ≤ q → A q := fun q h => by rw [hAe]; exact h
  have hbA : ¬ A b := by rw [hAe]; exact Nat.not_le.mpr hbl
  rw [← hAe] at hD hS
  refine lv_aload_n (pc := 223) hx hb d_law_law_223 rfl (lv_at hl 2 rfl) ?_
  refine lv_aload_n (pc := 224) hx hb d_law_law_224 rfl (lv_at hl 3 rfl) ?_
  refine lv_iload_n (pc := 225) hx hb d_law_law_225 rfl (lv_at hl 0 rfl) ?_
  refine lv_iconst (pc := 226) (v := 1) hx hb d_law_law_226 (by decide) ?_
  refine lv_iadd (pc := 227) hx hb d_law_law_227 ?_
  refine k_cst (v := 1) (by decide) ?_
  refine va_sld (pc := 228) hx hb hX hbl hbA hS (by unfold vp_in; decide) d_law_law_228 ?_
  refine k_cst (v := nI j) hv1 ?_
  refine lv_aload_n (pc := 229) hx hb d_law_law_229 rfl (lv_at hl 3 rfl) ?_
  refine lv_iload_n (pc := 230) hx hb d_law_law_230 rfl (lv_at hl 0 rfl) ?_
  refine lv_iconst (pc := 231) (v := 2) hx hb d_law_law_231 (by decide) ?_
  refine lv_iadd (pc := 232) hx hb d_law_law_232 ?_
  refine k_cst (v := 2) (by decide) ?_
  refine va_sld (pc := 233) hx hb hX hbl hbA hS (by unfold vp_in; decide) d_law_law_233 ?_
  refine k_cst (v := 0) hv2 ?_
  refine k_goI (gr := [[(h2, .inr (13, mF qm x0Mo y0Mo))], [(qm 2, .inl (kA 0, 66836, .inl all0))], [(qm 6, .inl (kA 0, 539, .inl (fun _ => 0)))], [(qm 3, .inl (kA 0, 4, .inl (fun _ => 0)))], [(qm 4, .inl (kA 0, 4, .inl (fun _ => 0)))], [(qm 61, .inl (kA 0, 4, .inl (upd (upd (upd (upd (fun _ => 0) 0 (-1)) 1 (-1)) 2 (-1)) 3 (-1))))], [(qm 73, .inl (kA 0, 864, .inl (fun _ => 0)))]]) (k_rV (pc := 234) (As := [.int (nI j), .int 0]) (rest := []) X (c_Ho_read_z4 l D kA h j (q 0) (q 1) (q 2) (q 3) (q 4) (q 5) (q 6) (q 9) (q 10) (q 13) (qr 0) (qr 4) (qr 10) (qs 3) (qs 4) (qs 5) (qs 6) (qs 7) (qs 8) (qs 9) (qs 10) (qs 11) (qs 12) (qs 13) (qs 14) (qs 15) (fun _ => 0) (fl (fun _ => 0) 576 (-1)) (fun _ => 0) g (qg 3) (qg 4) (qg 5) (qg 6) (qg 7) (qg 8) (qg 9) (qg 10) (qg 11) (qg 12) (qg 13) (qg 14) (qg 15) (fun _ => 0) (fun _ => 0) (fun _ => 0) (fun _ => 0) (fun _ => 0) (fun _ => 0) (fun _ => 0) (fun _ => 0) (fun _ => 0) (fun _ => 0) (fun _ => 0) (fun _ => 0) (fun _ => 0) (fun _ => 0) (fun _ => 0) (upd (fun _ => 0) 0 (-1)) (upd (fun _ => 0) 0 (-1)) (fun _ => 0) (fun _ => 0) (fun _ => 0) (fun _ => 0) (fl (fun _ => 0) 576 (-1)) (qf 4) (qf 5) (qf 6) (qf 7) (qf 8) (qf 9) (qf 10) (qf 11) (qf 12) (qf 13) (qf 14) (qn 4) (qn 7) (qn 8) (qn 9) (qn 10) (qn 11) (qn 12) (qn 14) (qn 15) (qn 16) (qd 0) (qd 2) (qd 3) (qd 4) (qd 5) (qd 6) (qd 10) (qd 11) (qd 12) (qd 13) (qd 14) (qd 15) (qd 16) (fun _ => 0) hj H.size) rfl wm_630 wm_1 wm_627 wm_628 wm_629 2 (by decide +kernel) ⟨Nat.le_of_ble_eq_true rfl, Nat.le_of_ble_eq_true rfl⟩ rfl rfl (va_recv hK hP (ci := 12) (q0 := 0) rfl rfl) (k_pre hN hK hP hD [0, 1, 2, 3, 4, 5, 6, 7, 8, 9, 10, 11, 12, 13, 14, 15, 16, 17, 18, 19, 20, 21, 22, 23, 24, 25, 26, 27, 28, 29, 30, 31, 32, 33, 34, 35, 36, 37, 38] [39, 40, 41, 42, 43, 44, 45] 46 rfl (by decide) rfl) rfl hl.1 rfl (Nat.le_of_ble_eq_true rfl) d_law_law_234 ⟨Nat.le_of_ble_eq_true rfl, Nat.le_of_ble_eq_true rfl⟩) hP hD hS hA [0, 1, 2, 3, 4, 5, 6, 7, 8, 9, 10, 11, 12, 13, 14, 15, 16, 17, 18, 19, 20, 21, 22, 23, 24, 25, 26, 27, 28, 29, 30, 31, 32, 33, 34, 35, 36, 37, 38] [39, 40, 41, 42, 43, 44, 45] 46 rfl (by decide) rfl rfl (fun r1 u2 H locs hu2 hP hD hS => ?_)
  obtain ⟨hP, hD⟩ := k_left hP hD
  subst hu2
  have hP : va_P D classes (cat [[(h2, .inr (13, mF qm x0Mo y0Mo))], [(qm 2, .inl (kA 0, 66836, .inl all0))], [(qm 6, .inl (kA 0, 539, .inl (fun _ => 0)))], [(qm 3, .inl (kA 0, 4, .inl (fun _ => 0)))], [(qm 4, .inl (kA 0, 4, .inl (fun _ => 0)))], [(qm 61, .inl (kA 0, 4, .inl (upd (upd (upd (upd (fun _ => 0) 0 (-1)) 1 (-1)) 2 (-1)) 3 (-1))))], [(qm 73, .inl (kA 0, 864, .inl (fun _ => 0)))]]) H := hP
  have hD : va_D A (cat [[(h2, .inr (13, mF qm x0Mo y0Mo))], [(qm 2, .inl (kA 0, 66836, .inl all0))], [(qm 6, .inl (kA 0, 539, .inl (fun _ => 0)))], [(qm 3, .inl (kA 0, 4, .inl (fun _ => 0)))], [(qm 4, .inl (kA 0, 4, .inl (fun _ => 0)))], [(qm 61, .inl (kA 0, 4, .inl (upd (upd (upd (upd (fun _ => 0) 0 (-1)) 1 (-1)) 2 (-1)) 3 (-1))))], [(qm 73, .inl (kA 0, 864, .inl (fun _ => 0)))]]) := hD
  refine lv_aload_n (pc := 237) hx hb d_law_law_237 rfl (lv_at hl 1 rfl) ?_
  refine lv_aload_n (pc := 238) hx hb d_law_law_238 rfl (lv_at hl 3 rfl) ?_
  refine lv_iload_n (pc := 239) hx hb d_law_law_239 rfl (lv_at hl 0 rfl) ?_
  refine lv_iconst (pc := 240) (v := 1) hx hb d_law_law_240 (by decide) ?_
  refine lv_iadd (pc := 241) hx hb d_law_law_241 ?_
  refine k_cst (v := 1) (by decide) ?_
  refine va_sld (pc := 242) hx hb hX hbl hbA hS (by unfold vp_in; decide) d_law_law_242 ?_
  refine k_cst (v := nI j) hv1 ?_
  refine lv_aload_n (pc := 243) hx hb d_law_law_243 rfl (lv_at hl 3 rfl) ?_
  refine lv_iload_n (pc := 244) hx hb d_law_law_244 rfl (lv_at hl 0 rfl) ?_
  refine lv_iconst (pc := 245) (v := 2) hx hb d_law_law_245 (by decide) ?_
  refine lv_iadd (pc := 246) hx hb d_law_law_246 ?_
  refine k_cst (v := 2) (by decide) ?_
  refine va_sld (pc := 247) hx hb hX hbl hbA hS (by unfold vp_in; decide) d_law_law_247 ?_
  refine k_cst (v := 0) hv2 ?_
  refine k_goI (gr := []) (k_rV (pc := 248) (As := [.int (nI j), .int 0]) (rest := [.int 0]) X (c_Mo_read_z4 l D kA h2 j qm (fun _ => 0) (fun _ => 0) (fun _ => 0) (upd (upd (upd (upd (fun _ => 0) 0 (-1)) 1 (-1)) 2 (-1)) 3 (-1)) (fun _ => 0) hj H.size) rfl wm_2975 wm_9 wm_2972 wm_2973 wm_2974 2 (by decide +kernel) ⟨Nat.le_of_ble_eq_true rfl, Nat.le_of_ble_eq_true rfl⟩ rfl rfl (va_recv hK hP (ci := 13) (q0 := 0) rfl rfl) (k_pre hN hK hP hD [0, 1, 2, 3, 4, 5, 6] [] 7 rfl (by decide) rfl) rfl hl.1 rfl (Nat.le_of_ble_eq_true rfl) d_law_law_248 ⟨Nat.le_of_ble_eq_true rfl, Nat.le_of_ble_eq_true rfl⟩) hP hD hS hA [0, 1, 2, 3, 4, 5, 6] [] 7 rfl (by decide) rfl rfl (fun r3 u4 H locs hu4 hP hD hS => ?_)
  obtain ⟨hP, hD⟩ := k_left hP hD
  subst hu4
  have hP : va_P D classes (cat []) H := hP
  have hD : va_D A (cat []) := hD
  refine lv_icmp_eq (pc := 251) (tgt := 1295) hx hb d_law_law_251 (by decide) (fun _ => ?_) (fun c1 => absurd (by decide) c1)
  rw [hAe] at hS
  exact law_exit l C0 (Nat.le_of_ble_eq_true rfl) (Nat.le_of_ble_eq_true rfl) hS hl
set_option maxRecDepth 100000 in
set_option maxHeartbeats 8000000 in
/-- read: the case of the law -/
theorem op_read {p : Program} {e : Env} {s : State} {m : MethodId} {below : List Frame} {meth : Method} {c : Code} (l : Launch) {b : Nat} {xs : Nat → Int32} (C0 : lw_At p s m meth c b 6 xs) {D : va_G} {kA : Nat → ClassId} (h h2 : Nat) (u1 : Nat → Nat → Nat) (qm : Nat → Nat) (v1 : Int32) (v2 : Int32) (hv1 : xs 1 = v1) (hv2 : xs 2 = v2) {H : Heap} {locs : List Loc} {ls : Array Slot} (hK : va_K D classes (TY kA) s) (hN : nst s) (hpost : u1 50 1 = u1 0 4 ∧ u1 50 3 = u1 0 5 ∧ u1 50 2 = u1 1 4 ∧ u1 50 4 = u1 3 1 ∧ u1 8 0 = u1 50 5 ∧ u1 12 0 = u1 50 9 ∧ u1 16 0 = u1 50 13 ∧ u1 20 0 = u1 50 17) (hP : va_P D classes (cat [cat (sHo kA h u1), cat (sMo kA h2 qm)]) H) (hD : va_D (fun q : Nat => s.heap.size ≤ q) (cat [cat (sHo kA h u1), cat (sMo kA h2 qm)])) (hS : va_S (fun q : Nat => s.heap.size ≤ q) s.heap H locs) (hl : lv_has ls 4 [(3, .int 0), (2, .ref h2), (1, .ref h), (0, .ref b)]) : W p l e room_1 s m #[Value.ref b] below meth c H locs 368 365796 (lw_Z below #[Value.ref b] s) (F0 m 223 ls []) := by
  rcases place_no v1 with hg | ⟨j, hj, ej⟩
  · have hgM : sp_Mo_isPlace v1 = 0 := by rw [← place_iff]; exact hg
    obtain ⟨q, qg, qf, qn, qd, qr, qs, qe, qp, g, hP, hD⟩ := big (j := 0) (by decide) hpost hP hD
    obtain ⟨hP, hD⟩ := k_drop (sg := bH kA h q qg qf qn qd qr qs qe qp g 0 ++ bM kA h2 qm) (gc := [[(h, .inr (12, [.ref (q 0), .ref (q 1), .ref (q 2), .ref (q 3), .ref (q 4), .ref (q 5), .ref (q 6), .int 0, .int ((-1)), .ref (q 9), .ref (q 10), .int 0, .int 0, .ref (q 13), .int 0, .int 0, .null, .null, .null, .null, .null]))], [(h2, .inr (13, mF qm x0Mo y0Mo))]]) hP hD [1, 2, 3, 4, 5, 6, 7, 8, 9, 10, 11, 12, 13, 14, 15, 16, 17, 18, 19, 20, 21, 22, 23, 24, 25, 26, 27, 28, 29, 30, 31, 32, 33, 34, 35, 36, 37, 38, 39, 40, 41, 42, 43, 44, 45, 46, 47, 48, 49, 50, 51, 52, 53, 54, 55, 56, 57, 58, 59, 60, 61, 62, 63, 64, 65, 66, 67, 68, 69, 70, 71, 72, 73, 74, 75, 76, 77, 78, 79, 80, 81, 82, 83, 84, 85, 86, 87, 88, 89, 90, 91, 92, 93, 94, 95, 96, 97, 98, 100, 101, 102, 103, 104, 105, 106, 107, 108, 109, 110, 111, 112, 113, 114, 115, 116, 117, 118, 119, 120, 121, 122, 123, 124, 125, 126, 127, 128, 129, 130, 131, 132, 133, 134, 135, 136, 137, 138, 139, 140, 141, 142, 143, 144, 145, 146, 147, 148, 149, 150, 151, 152, 153, 154, 155, 156, 157, 158, 159, 160, 161, 162, 163, 164, 165, 166, 167, 168, 169, 170, 171, 172, 173, 174, 175, 176, 177, 178, 179, 180, 181, 182, 183, 184, 185, 186, 187, 188, 189, 190, 191, 192, 193, 194, 195, 196, 197, 198, 199, 200, 201, 202, 203, 204, 205, 206, 207, 208, 209, 210, 211, 212, 213, 214, 215, 216, 217] [0, 99] 218 rfl (by decide +kernel) rfl
    exact lf_read_1 l C0 h h2 q qm v1 v2 hg hgM hv1 hv2 hK hN hP hD hS hl
  · subst ej
    rcases tri1 v2 with hn2 | ⟨hp2, hb2, hc2⟩ | ee2
    · obtain ⟨q, qg, qf, qn, qd, qr, qs, qe, qp, g, hP, hD⟩ := big (j := j) hj hpost hP hD
      obtain ⟨hP, hD⟩ := k_drop (sg := bH kA h q qg qf qn qd qr qs qe qp g j ++ bM kA h2 qm) (gc := [[(h, .inr (12, [.ref (q 0), .ref (q 1), .ref (q 2), .ref (q 3), .ref (q 4), .ref (q 5), .ref (q 6), .int 0, .int ((-1)), .ref (q 9), .ref (q 10), .int 0, .int 0, .ref (q 13), .int 0, .int 0, .null, .null, .null, .null, .null]))], [(h2, .inr (13, mF qm x0Mo y0Mo))]]) hP hD [1, 2, 3, 4, 5, 6, 7, 8, 9, 10, 11, 12, 13, 14, 15, 16, 17, 18, 19, 20, 21, 22, 23, 24, 25, 26, 27, 28, 29, 30, 31, 32, 33, 34, 35, 36, 37, 38, 39, 40, 41, 42, 43, 44, 45, 46, 47, 48, 49, 50, 51, 52, 53, 54, 55, 56, 57, 58, 59, 60, 61, 62, 63, 64, 65, 66, 67, 68, 69, 70, 71, 72, 73, 74, 75, 76, 77, 78, 79, 80, 81, 82, 83, 84, 85, 86, 87, 88, 89, 90, 91, 92, 93, 94, 95, 96, 97, 98, 100, 101, 102, 103, 104, 105, 106, 107, 108, 109, 110, 111, 112, 113, 114, 115, 116, 117, 118, 119, 120, 121, 122, 123, 124, 125, 126, 127, 128, 129, 130, 131, 132, 133, 134, 135, 136, 137, 138, 139, 140, 141, 142, 143, 144, 145, 146, 147, 148, 149, 150, 151, 152, 153, 154, 155, 156, 157, 158, 159, 160, 161, 162, 163, 164, 165, 166, 167, 168, 169, 170, 171, 172, 173, 174, 175, 176, 177, 178, 179, 180, 181, 182, 183, 184, 185, 186, 187, 188, 189, 190, 191, 192, 193, 194, 195, 196, 197, 198, 199, 200, 201, 202, 203, 204, 205, 206, 207, 208, 209, 210, 211, 212, 213, 214, 215, 216, 217] [0, 99] 218 rfl (by decide +kernel) rfl
      exact lf_read_2 l C0 h h2 q qm j v2 hj hn2 hv1 hv2 hK hN hP hD hS hl
    · obtain ⟨q, qg, qf, qn, qd, qr, qs, qe, qp, g, hP, hD⟩ := big (j := j) hj hpost hP hD
      obtain ⟨hP, hD⟩ := k_drop (sg := bH kA h q qg qf qn qd qr qs qe qp g j ++ bM kA h2 qm) (gc := [[(h, .inr (12, [.ref (q 0), .ref (q 1), .ref (q 2), .ref (q 3), .ref (q 4), .ref (q 5), .ref (q 6), .int 0, .int ((-1)), .ref (q 9), .ref (q 10), .int 0, .int 0, .ref (q 13), .int 0, .int 0, .null, .null, .null, .null, .null]))], [(q 4, .inr (8, [.ref (qr 0), .int 0, .int ((-1)), .int ((-1)), .ref (qr 4), .int 0, .int 0, .int 0, .int 0, .int 0, .ref (qr 10), .int 0]))], [(h2, .inr (13, mF qm x0Mo y0Mo))]]) hP hD [1, 2, 3, 4, 5, 6, 7, 8, 9, 10, 11, 12, 13, 14, 15, 16, 17, 18, 19, 20, 21, 22, 23, 24, 25, 26, 27, 28, 29, 30, 31, 32, 33, 34, 35, 36, 37, 38, 39, 40, 41, 42, 43, 44, 45, 46, 47, 48, 49, 50, 51, 52, 53, 54, 55, 56, 57, 58, 60, 61, 62, 63, 64, 65, 66, 67, 68, 69, 70, 71, 72, 73, 74, 75, 76, 77, 78, 79, 80, 81, 82, 83, 84, 85, 86, 87, 88, 89, 90, 91, 92, 93, 94, 95, 96, 97, 98, 100, 101, 102, 103, 104, 105, 106, 107, 108, 109, 110, 111, 112, 113, 114, 115, 116, 117, 118, 119, 120, 121, 122, 123, 124, 125, 126, 127, 128, 129, 130, 131, 132, 133, 134, 135, 136, 137, 138, 139, 140, 141, 142, 143, 144, 145, 146, 147, 148, 149, 150, 151, 152, 153, 154, 155, 156, 157, 158, 159, 160, 161, 162, 163, 164, 165, 166, 167, 168, 169, 170, 171, 172, 173, 174, 175, 176, 177, 178, 179, 180, 181, 182, 183, 184, 185, 186, 187, 188, 189, 190, 191, 192, 193, 194, 195, 196, 197, 198, 199, 200, 201, 202, 203, 204, 205, 206, 207, 208, 209, 210, 211, 212, 213, 214, 215, 216, 217] [0, 59, 99] 218 rfl (by decide +kernel) rfl
      exact lf_read_3 l C0 h h2 q qr qm j v2 hj hp2 hb2 hc2 hv1 hv2 hK hN hP hD hS hl
    · subst ee2
      obtain ⟨q, qg, qf, qn, qd, qr, qs, qe, qp, g, hP, hD⟩ := big (j := j) hj hpost hP hD
      obtain ⟨hP, hD⟩ := k_drop (sg := bH kA h q qg qf qn qd qr qs qe qp g j ++ bM kA h2 qm) (gc := [[(h, .inr (12, [.ref (q 0), .ref (q 1), .ref (q 2), .ref (q 3), .ref (q 4), .ref (q 5), .ref (q 6), .int 0, .int ((-1)), .ref (q 9), .ref (q 10), .int 0, .int 0, .ref (q 13), .int 0, .int 0, .null, .null, .null, .null, .null]))], [(q 4, .inr (8, [.ref (qr 0), .int 0, .int ((-1)), .int ((-1)), .ref (qr 4), .int 0, .int 0, .int 0, .int 0, .int 0, .ref (qr 10), .int 0]))], [(qr 4, .inr (3, [.int 0, .int 0, .int 1, .ref (qs 3), .ref (qs 4), .ref (qs 5), .ref (qs 6), .ref (qs 7), .ref (qs 8), .ref (qs 9), .ref (qs 10), .ref (qs 11), .ref (qs 12), .ref (qs 13), .ref (qs 14), .ref (qs 15), .null, .int 0, .int 0]))], [(qs 14, .inl (kA 0, 24, .inl (fun _ => 0)))], [(qs 15, .inl (kA 0, 576, .inl (fl (fun _ => 0) 576 (-1))))], [(qr 10, .inl (kA 0, 5, .inl (fun _ => 0)))], [(q 0, .inl (kA 4, 4, .inr (.inr (.inr (.inr (rr (g 0)))))))], [(g 0 j, .inr (3, [.int 0, .int 0, .int 1, .ref (qg 3), .ref (qg 4), .ref (qg 5), .ref (qg 6), .ref (qg 7), .ref (qg 8), .ref (qg 9), .ref (qg 10), .ref (qg 11), .ref (qg 12), .ref (qg 13), .ref (qg 14), .ref (qg 15), .null, .int 0, .int 0]))], [(qg 3, .inl (kA 1, 192, .inl (fun _ => 0)))], [(qs 3, .inl (kA 1, 192, .inl (fun _ => 0)))], [(qs 4, .inl (kA 0, 24, .inl (fun _ => 0)))], [(qg 4, .inl (kA 0, 24, .inl (fun _ => 0)))], [(qs 5, .inl (kA 0, 24, .inl (fun _ => 0)))], [(qg 5, .inl (kA 0, 24, .inl (fun _ => 0)))], [(qs 6, .inl (kA 0, 24, .inl (fun _ => 0)))], [(qg 6, .inl (kA 0, 24, .inl (fun _ => 0)))], [(qs 7, .inl (kA 0, 48, .inl (fun _ => 0)))], [(qg 7, .inl (kA 0, 48, .inl (fun _ => 0)))], [(qs 8, .inl (kA 0, 48, .inl (fun _ => 0)))], [(qg 8, .inl (kA 0, 48, .inl (fun _ => 0)))], [(qs 9, .inl (kA 0, 48, .inl (fun _ => 0)))], [(qg 9, .inl (kA 0, 48, .inl (fun _ => 0)))], [(qs 10, .inl (kA 0, 48, .inl (fun _ => 0)))], [(qg 10, .inl (kA 0, 48, .inl (fun _ => 0)))], [(qs 11, .inl (kA 0, 8, .inl (upd (fun _ => 0) 0 (-1))))], [(qg 11, .inl (kA 0, 8, .inl (upd (fun _ => 0) 0 (-1))))], [(qg 12, .inl (kA 1, 64, .inl (fun _ => 0)))], [(qs 12, .inl (kA 1, 64, .inl (fun _ => 0)))], [(qs 13, .inl (kA 0, 8, .inl (fun _ => 0)))], [(qg 13, .inl (kA 0, 8, .inl (fun _ => 0)))], [(qg 14, .inl (kA 0, 24, .inl (fun _ => 0)))], [(qg 15, .inl (kA 0, 576, .inl (fl (fun _ => 0) 576 (-1))))], [(q 1, .inl (kA 5, 4, .inr (.inr (.inr (.inr (rr (g 1)))))))], [(g 1 j, .inr (2, [.int 0, .int 0, .int 0, .int 0, .ref (qf 4), .ref (qf 5), .ref (qf 6), .ref (qf 7), .ref (qf 8), .ref (qf 9), .ref (qf 10), .ref (qf 11), .ref (qf 12), .ref (qf 13), .ref (qf 14)]))], [(q 2, .inl (kA 6, 4, .inr (.inr (.inr (.inr (rr (g 2)))))))], [(g 2 j, .inr (5, [.int ((-1)), .int ((-1)), .int ((-1)), .int 0, .ref (qn 4), .int 0, .int 0, .ref (qn 7), .ref (qn 8), .ref (qn 9), .ref (qn 10), .ref (qn 11), .ref (qn 12), .int 0, .ref (qn 14), .ref (qn 15), .ref (qn 16)]))], [(q 3, .inl (kA 7, 4, .inr (.inr (.inr (.inr (rr (g 3)))))))], [(g 3 j, .inr (0, [.ref (qd 0), .int ((-1)), .ref (qd 2), .ref (qd 3), .ref (qd 4), .ref (qd 5), .ref (qd 6), .int 0, .int 0, .int 0, .ref (qd 10), .ref (qd 11), .ref (qd 12), .ref (qd 13), .ref (qd 14), .ref (qd 15), .ref (qd 16), .int 0, .int 0, .int 0, .int 0]))], [(qd 14, .inl (kA 0, 216, .inl (fun _ => 0)))], [(h2, .inr (13, mF qm x0Mo y0Mo))], [(qm 2, .inl (kA 0, 66836, .inl all0))], [(qm 6, .inl (kA 0, 539, .inl (fun _ => 0)))], [(qm 3, .inl (kA 0, 4, .inl (fun _ => 0)))], [(qm 4, .inl (kA 0, 4, .inl (fun _ => 0)))], [(qm 61, .inl (kA 0, 4, .inl (upd (upd (upd (upd (fun _ => 0) 0 (-1)) 1 (-1)) 2 (-1)) 3 (-1))))], [(qm 73, .inl (kA 0, 864, .inl (fun _ => 0)))]]) hP hD [5, 6, 7, 8, 24, 25, 26, 27, 28, 29, 30, 31, 32, 33, 34, 36, 37, 38, 39, 40, 41, 42, 43, 44, 45, 47, 48, 49, 50, 51, 52, 53, 54, 55, 57, 58, 60, 76, 77, 78, 79, 80, 81, 82, 83, 84, 85, 86, 87, 88, 89, 90, 91, 92, 93, 94, 95, 96, 97, 98, 101, 102, 103, 104, 105, 109, 110, 111, 112, 113, 114, 115, 116, 117, 118, 119, 120, 121, 122, 123, 124, 125, 126, 127, 128, 129, 130, 131, 132, 133, 134, 135, 136, 137, 138, 140, 141, 142, 143, 144, 145, 146, 147, 148, 149, 150, 152, 153, 154, 155, 156, 157, 158, 159, 160, 161, 162, 163, 164, 165, 166, 167, 168, 169, 170, 171, 172, 173, 174, 175, 176, 177, 178, 179, 180, 181, 182, 183, 184, 185, 186, 187, 188, 189, 190, 191, 192, 193, 194, 195, 196, 197, 198, 199, 200, 201, 202, 203, 204, 205, 206, 207, 208, 209, 210, 211, 212, 213, 214, 215, 216, 217] [0, 59, 62, 74, 75, 61, 1, 9, 10, 63, 64, 11, 65, 12, 66, 13, 67, 14, 68, 15, 69, 16, 70, 17, 71, 18, 19, 72, 73, 20, 21, 22, 2, 23, 3, 35, 4, 46, 56, 99, 100, 108, 106, 107, 139, 151] 218 rfl (by decide +kernel) rfl
      exact lf_read_4 l C0 h h2 q qg qf qn qd qr qs qm g j hj hv1 hv2 hK hN hP hD hS hl
