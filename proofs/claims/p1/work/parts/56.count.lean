theorem wm_57 : (Cond.fieldLink "DrawingHouse$Facts" (64 : Nat) "DrawingHouse$Graph" "nodes" "I" : Cond) ∈ lw_g := lw_gi (lw_c1 (List.mem_of_getElem? (i := 57) rfl)) rfl
theorem wm_69 : (Cond.fieldLink "DrawingHouse$Facts" (69 : Nat) "DrawingHouse$Graph" "edges" "I" : Cond) ∈ lw_g := lw_gi (lw_c1 (List.mem_of_getElem? (i := 69) rfl)) rfl
theorem wm_97 : (Cond.fieldLink "DrawingHouse$Facts" (72 : Nat) "DrawingHouse$Graph" "tail" "[I" : Cond) ∈ lw_g := lw_gi (lw_c1 (List.mem_of_getElem? (i := 97) rfl)) rfl
theorem wm_108 : (Cond.fieldLink "DrawingHouse$Facts" (75 : Nat) "DrawingHouse$Graph" "head" "[I" : Cond) ∈ lw_g := lw_gi (lw_c1 (List.mem_of_getElem? (i := 108) rfl)) rfl
theorem wm_141 : (Cond.fieldLink "DrawingHouse$Facts" (78 : Nat) "DrawingHouse$Graph" "near" "[I" : Cond) ∈ lw_g := lw_gi (lw_c1 (List.mem_of_getElem? (i := 141) rfl)) rfl
theorem wm_399 : (Cond.fieldLink "DrawingHouse" (151 : Nat) "DrawingHouse$Facts" "parts" "I" : Cond) ∈ lw_g := lw_gi (lw_c2 (List.mem_of_getElem? (i := 159) rfl)) rfl
theorem wm_402 : (Cond.fieldLink "DrawingHouse" (154 : Nat) "DrawingHouse$Facts" "blocks" "I" : Cond) ∈ lw_g := lw_gi (lw_c2 (List.mem_of_getElem? (i := 162) rfl)) rfl
theorem wm_404 : (Cond.fieldLink "DrawingHouse" (157 : Nat) "DrawingHouse$Facts" "strongs" "I" : Cond) ∈ lw_g := lw_gi (lw_c2 (List.mem_of_getElem? (i := 164) rfl)) rfl
theorem wm_803 : (Cond.methodLink "DrawingHouseLaw" (28 : Nat) ({ cls := "DrawingHouse", name := "count", desc := "(II)I" } : MethodName) : Cond) ∈ lw_g := lw_gi (lw_c4 (List.mem_of_getElem? (i := 83) rfl)) rfl
theorem wm_804 : (Cond.instanceMethod ({ cls := "DrawingHouse", name := "count", desc := "(II)I" } : MethodName) : Cond) ∈ lw_g := lw_gi (lw_c4 (List.mem_of_getElem? (i := 84) rfl)) rfl
theorem wm_805 : (Cond.selects "DrawingHouse" ({ cls := "DrawingHouse", name := "count", desc := "(II)I" } : MethodName) ({ cls := "DrawingHouse", name := "count", desc := "(II)I" } : MethodName) : Cond) ∈ lw_g := lw_gi (lw_c4 (List.mem_of_getElem? (i := 85) rfl)) rfl
theorem wm_807 : (Cond.methodLink "DrawingHouse" (147 : Nat) ({ cls := "DrawingHouse", name := "learned", desc := "(I)LDrawingHouse$Facts;" } : MethodName) : Cond) ∈ lw_g := lw_gi (lw_c4 (List.mem_of_getElem? (i := 87) rfl)) rfl
theorem wm_809 : (Cond.instanceMethod ({ cls := "DrawingHouse", name := "learned", desc := "(I)LDrawingHouse$Facts;" } : MethodName) : Cond) ∈ lw_g := lw_gi (lw_c4 (List.mem_of_getElem? (i := 89) rfl)) rfl
theorem wm_810 : (Cond.code ({ cls := "DrawingHouse", name := "learned", desc := "(I)LDrawingHouse$Facts;" } : MethodName) prog_1_method_33_code (2 : Nat) (Option.some (ClassFile.FieldType.object "DrawingHouse$Facts")) : Cond) ∈ lw_g := lw_gi (lw_c4 (List.mem_of_getElem? (i := 90) rfl)) rfl
theorem wm_811 : (Cond.methodLink "DrawingHouse" (416 : Nat) ({ cls := "DrawingHouse$Facts", name := "learn", desc := "(LDrawingHouse$Graph;)V" } : MethodName) : Cond) ∈ lw_g := lw_gi (lw_c4 (List.mem_of_getElem? (i := 91) rfl)) rfl
theorem wm_812 : (Cond.instanceMethod ({ cls := "DrawingHouse$Facts", name := "learn", desc := "(LDrawingHouse$Graph;)V" } : MethodName) : Cond) ∈ lw_g := lw_gi (lw_c4 (List.mem_of_getElem? (i := 92) rfl)) rfl
theorem wm_813 : (Cond.selects "DrawingHouse$Facts" ({ cls := "DrawingHouse$Facts", name := "learn", desc := "(LDrawingHouse$Graph;)V" } : MethodName) ({ cls := "DrawingHouse$Facts", name := "learn", desc := "(LDrawingHouse$Graph;)V" } : MethodName) : Cond) ∈ lw_g := lw_gi (lw_c4 (List.mem_of_getElem? (i := 93) rfl)) rfl
theorem wm_814 : (Cond.code ({ cls := "DrawingHouse$Facts", name := "learn", desc := "(LDrawingHouse$Graph;)V" } : MethodName) prog_4_method_2_code (2 : Nat) (Option.none : Option ClassFile.FieldType) : Cond) ∈ lw_g := lw_gi (lw_c4 (List.mem_of_getElem? (i := 94) rfl)) rfl
theorem wm_815 : (Cond.methodLink "DrawingHouse$Facts" (60 : Nat) ({ cls := "DrawingHouse$Facts", name := "learnParts", desc := "(LDrawingHouse$Graph;)V" } : MethodName) : Cond) ∈ lw_g := lw_gi (lw_c4 (List.mem_of_getElem? (i := 95) rfl)) rfl
theorem wm_817 : (Cond.instanceMethod ({ cls := "DrawingHouse$Facts", name := "learnParts", desc := "(LDrawingHouse$Graph;)V" } : MethodName) : Cond) ∈ lw_g := lw_gi (lw_c4 (List.mem_of_getElem? (i := 97) rfl)) rfl
theorem wm_818 : (Cond.code ({ cls := "DrawingHouse$Facts", name := "learnParts", desc := "(LDrawingHouse$Graph;)V" } : MethodName) prog_4_method_11_code (5 : Nat) (Option.none : Option ClassFile.FieldType) : Cond) ∈ lw_g := lw_gi (lw_c4 (List.mem_of_getElem? (i := 98) rfl)) rfl
theorem wm_828 : (Cond.methodLink "DrawingHouse$Facts" (81 : Nat) ({ cls := "DrawingHouse$Facts", name := "blocksOf", desc := "(II[I[I[I[I)I" } : MethodName) : Cond) ∈ lw_g := lw_gi (lw_c4 (List.mem_of_getElem? (i := 108) rfl)) rfl
theorem wm_829 : (Cond.static ({ cls := "DrawingHouse$Facts", name := "blocksOf", desc := "(II[I[I[I[I)I" } : MethodName) : Cond) ∈ lw_g := lw_gi (lw_c4 (List.mem_of_getElem? (i := 109) rfl)) rfl
theorem wm_830 : (Cond.code ({ cls := "DrawingHouse$Facts", name := "blocksOf", desc := "(II[I[I[I[I)I" } : MethodName) prog_4_method_7_code (11 : Nat) (Option.some ClassFile.FieldType.int) : Cond) ∈ lw_g := lw_gi (lw_c4 (List.mem_of_getElem? (i := 110) rfl)) rfl
theorem wm_841 : (Cond.methodLink "DrawingHouse$Facts" (85 : Nat) ({ cls := "DrawingHouse$Facts", name := "learnBlocksAt", desc := "(LDrawingHouse$Graph;)V" } : MethodName) : Cond) ∈ lw_g := lw_gi (lw_c4 (List.mem_of_getElem? (i := 121) rfl)) rfl
theorem wm_843 : (Cond.instanceMethod ({ cls := "DrawingHouse$Facts", name := "learnBlocksAt", desc := "(LDrawingHouse$Graph;)V" } : MethodName) : Cond) ∈ lw_g := lw_gi (lw_c4 (List.mem_of_getElem? (i := 123) rfl)) rfl
theorem wm_844 : (Cond.code ({ cls := "DrawingHouse$Facts", name := "learnBlocksAt", desc := "(LDrawingHouse$Graph;)V" } : MethodName) prog_4_method_13_code (6 : Nat) (Option.none : Option ClassFile.FieldType) : Cond) ∈ lw_g := lw_gi (lw_c4 (List.mem_of_getElem? (i := 124) rfl)) rfl
theorem wm_851 : (Cond.methodLink "DrawingHouse$Facts" (88 : Nat) ({ cls := "DrawingHouse$Facts", name := "learnStrong", desc := "(LDrawingHouse$Graph;)V" } : MethodName) : Cond) ∈ lw_g := lw_gi (lw_c4 (List.mem_of_getElem? (i := 131) rfl)) rfl
theorem wm_853 : (Cond.instanceMethod ({ cls := "DrawingHouse$Facts", name := "learnStrong", desc := "(LDrawingHouse$Graph;)V" } : MethodName) : Cond) ∈ lw_g := lw_gi (lw_c4 (List.mem_of_getElem? (i := 133) rfl)) rfl
theorem wm_854 : (Cond.code ({ cls := "DrawingHouse$Facts", name := "learnStrong", desc := "(LDrawingHouse$Graph;)V" } : MethodName) prog_4_method_14_code (3 : Nat) (Option.none : Option ClassFile.FieldType) : Cond) ∈ lw_g := lw_gi (lw_c4 (List.mem_of_getElem? (i := 134) rfl)) rfl
theorem wm_855 : (Cond.methodLink "DrawingHouse$Facts" (139 : Nat) ({ cls := "java/util/Arrays", name := "fill", desc := "([II)V" } : MethodName) : Cond) ∈ lw_g := lw_gi (lw_c4 (List.mem_of_getElem? (i := 135) rfl)) rfl
theorem wm_856 : (Cond.methodLink "DrawingHouse$Facts" (148 : Nat) ({ cls := "DrawingHouse$Facts", name := "numberStrong", desc := "(I[I)I" } : MethodName) : Cond) ∈ lw_g := lw_gi (lw_c4 (List.mem_of_getElem? (i := 136) rfl)) rfl
theorem wm_858 : (Cond.instanceMethod ({ cls := "DrawingHouse$Facts", name := "numberStrong", desc := "(I[I)I" } : MethodName) : Cond) ∈ lw_g := lw_gi (lw_c4 (List.mem_of_getElem? (i := 138) rfl)) rfl
theorem wm_859 : (Cond.code ({ cls := "DrawingHouse$Facts", name := "numberStrong", desc := "(I[I)I" } : MethodName) prog_4_method_15_code (6 : Nat) (Option.some ClassFile.FieldType.int) : Cond) ∈ lw_g := lw_gi (lw_c4 (List.mem_of_getElem? (i := 139) rfl)) rfl
theorem wm_860 : (Cond.methodLink "DrawingHouse$Facts" (91 : Nat) ({ cls := "DrawingHouse$Facts", name := "learnCore", desc := "(LDrawingHouse$Graph;)V" } : MethodName) : Cond) ∈ lw_g := lw_gi (lw_c4 (List.mem_of_getElem? (i := 140) rfl)) rfl
theorem wm_862 : (Cond.instanceMethod ({ cls := "DrawingHouse$Facts", name := "learnCore", desc := "(LDrawingHouse$Graph;)V" } : MethodName) : Cond) ∈ lw_g := lw_gi (lw_c4 (List.mem_of_getElem? (i := 142) rfl)) rfl
theorem wm_863 : (Cond.code ({ cls := "DrawingHouse$Facts", name := "learnCore", desc := "(LDrawingHouse$Graph;)V" } : MethodName) prog_4_method_16_code (6 : Nat) (Option.none : Option ClassFile.FieldType) : Cond) ∈ lw_g := lw_gi (lw_c4 (List.mem_of_getElem? (i := 143) rfl)) rfl
theorem wm_874 : (Cond.methodLink "DrawingHouse$Facts" (94 : Nat) ({ cls := "DrawingHouse$Facts", name := "learnTurned", desc := "(LDrawingHouse$Graph;)V" } : MethodName) : Cond) ∈ lw_g := lw_gi (lw_c4 (List.mem_of_getElem? (i := 154) rfl)) rfl
theorem wm_876 : (Cond.instanceMethod ({ cls := "DrawingHouse$Facts", name := "learnTurned", desc := "(LDrawingHouse$Graph;)V" } : MethodName) : Cond) ∈ lw_g := lw_gi (lw_c4 (List.mem_of_getElem? (i := 156) rfl)) rfl
theorem wm_877 : (Cond.code ({ cls := "DrawingHouse$Facts", name := "learnTurned", desc := "(LDrawingHouse$Graph;)V" } : MethodName) prog_4_method_18_code (6 : Nat) (Option.none : Option ClassFile.FieldType) : Cond) ∈ lw_g := lw_gi (lw_c4 (List.mem_of_getElem? (i := 157) rfl)) rfl
theorem wm_2464 : (Cond.fieldLink "DrawingHouseModel" (594 : Nat) "DrawingHouseModel" "pn" "I" : Cond) ∈ lw_g := lw_gi (lw_c11 (List.mem_of_getElem? (i := 64) rfl)) rfl
theorem wm_2465 : (Cond.fieldLink "DrawingHouseModel" (597 : Nat) "DrawingHouseModel" "pm" "I" : Cond) ∈ lw_g := lw_gi (lw_c11 (List.mem_of_getElem? (i := 65) rfl)) rfl
theorem wm_3144 : (Cond.methodLink "DrawingHouseModel" (689 : Nat) ({ cls := "DrawingHouseModel", name := "plane", desc := "()V" } : MethodName) : Cond) ∈ lw_g := lw_gi (lw_c14 (List.mem_of_getElem? (i := 24) rfl)) rfl
theorem wm_3146 : (Cond.instanceMethod ({ cls := "DrawingHouseModel", name := "plane", desc := "()V" } : MethodName) : Cond) ∈ lw_g := lw_gi (lw_c14 (List.mem_of_getElem? (i := 26) rfl)) rfl
theorem wm_3147 : (Cond.code ({ cls := "DrawingHouseModel", name := "plane", desc := "()V" } : MethodName) prog_15_method_62_code (2 : Nat) (Option.none : Option ClassFile.FieldType) : Cond) ∈ lw_g := lw_gi (lw_c14 (List.mem_of_getElem? (i := 27) rfl)) rfl
theorem wm_3152 : (Cond.methodLink "DrawingHouseModel" (668 : Nat) ({ cls := "DrawingHouseModel", name := "blocks", desc := "()I" } : MethodName) : Cond) ∈ lw_g := lw_gi (lw_c14 (List.mem_of_getElem? (i := 32) rfl)) rfl
theorem wm_3154 : (Cond.instanceMethod ({ cls := "DrawingHouseModel", name := "blocks", desc := "()I" } : MethodName) : Cond) ∈ lw_g := lw_gi (lw_c14 (List.mem_of_getElem? (i := 34) rfl)) rfl
theorem wm_3155 : (Cond.code ({ cls := "DrawingHouseModel", name := "blocks", desc := "()I" } : MethodName) prog_15_method_66_code (4 : Nat) (Option.some ClassFile.FieldType.int) : Cond) ∈ lw_g := lw_gi (lw_c14 (List.mem_of_getElem? (i := 35) rfl)) rfl
theorem wm_3276 : (Cond.methodLink "DrawingHouseLaw" (31 : Nat) ({ cls := "DrawingHouseModel", name := "count", desc := "(II)I" } : MethodName) : Cond) ∈ lw_g := lw_gi (lw_c14 (List.mem_of_getElem? (i := 156) rfl)) rfl
theorem wm_3277 : (Cond.instanceMethod ({ cls := "DrawingHouseModel", name := "count", desc := "(II)I" } : MethodName) : Cond) ∈ lw_g := lw_gi (lw_c14 (List.mem_of_getElem? (i := 157) rfl)) rfl
theorem wm_3278 : (Cond.selects "DrawingHouseModel" ({ cls := "DrawingHouseModel", name := "count", desc := "(II)I" } : MethodName) ({ cls := "DrawingHouseModel", name := "count", desc := "(II)I" } : MethodName) : Cond) ∈ lw_g := lw_gi (lw_c14 (List.mem_of_getElem? (i := 158) rfl)) rfl
theorem wm_3280 : (Cond.methodLink "DrawingHouseModel" (716 : Nat) ({ cls := "DrawingHouseModel", name := "parts", desc := "()I" } : MethodName) : Cond) ∈ lw_g := lw_gi (lw_c14 (List.mem_of_getElem? (i := 160) rfl)) rfl
theorem wm_3282 : (Cond.instanceMethod ({ cls := "DrawingHouseModel", name := "parts", desc := "()I" } : MethodName) : Cond) ∈ lw_g := lw_gi (lw_c14 (List.mem_of_getElem? (i := 162) rfl)) rfl
theorem wm_3283 : (Cond.code ({ cls := "DrawingHouseModel", name := "parts", desc := "()I" } : MethodName) prog_15_method_51_code (4 : Nat) (Option.some ClassFile.FieldType.int) : Cond) ∈ lw_g := lw_gi (lw_c14 (List.mem_of_getElem? (i := 163) rfl)) rfl
theorem wm_3288 : (Cond.methodLink "DrawingHouseModel" (719 : Nat) ({ cls := "DrawingHouseModel", name := "strong", desc := "(Z)I" } : MethodName) : Cond) ∈ lw_g := lw_gi (lw_c14 (List.mem_of_getElem? (i := 168) rfl)) rfl
theorem wm_3290 : (Cond.instanceMethod ({ cls := "DrawingHouseModel", name := "strong", desc := "(Z)I" } : MethodName) : Cond) ∈ lw_g := lw_gi (lw_c14 (List.mem_of_getElem? (i := 170) rfl)) rfl
theorem wm_3291 : (Cond.code ({ cls := "DrawingHouseModel", name := "strong", desc := "(Z)I" } : MethodName) prog_15_method_53_code (5 : Nat) (Option.some ClassFile.FieldType.int) : Cond) ∈ lw_g := lw_gi (lw_c14 (List.mem_of_getElem? (i := 171) rfl)) rfl
theorem wm_3292 : (Cond.methodLink "DrawingHouseModel" (556 : Nat) ({ cls := "DrawingHouseModel", name := "reaching", desc := "(Z)V" } : MethodName) : Cond) ∈ lw_g := lw_gi (lw_c14 (List.mem_of_getElem? (i := 172) rfl)) rfl
theorem wm_3294 : (Cond.instanceMethod ({ cls := "DrawingHouseModel", name := "reaching", desc := "(Z)V" } : MethodName) : Cond) ∈ lw_g := lw_gi (lw_c14 (List.mem_of_getElem? (i := 174) rfl)) rfl
theorem wm_3295 : (Cond.code ({ cls := "DrawingHouseModel", name := "reaching", desc := "(Z)V" } : MethodName) prog_15_method_52_code (6 : Nat) (Option.none : Option ClassFile.FieldType) : Cond) ∈ lw_g := lw_gi (lw_c14 (List.mem_of_getElem? (i := 175) rfl)) rfl
theorem wv_1_14 : (Cond.selects "DrawingHouse" ⟨"DrawingHouse", "learned", "(I)LDrawingHouse$Facts;"⟩ ⟨"DrawingHouse", "learned", "(I)LDrawingHouse$Facts;"⟩ : Cond) ∈ lw_g := lw_gi (List.mem_append_left _ (List.mem_map.mpr ⟨_, lw_v1 (List.mem_of_getElem? (i := 3) rfl), rfl⟩)) rfl
theorem wv_1_15 : (Cond.selects "DrawingHouse$Facts" ⟨"DrawingHouse$Facts", "learnParts", "(LDrawingHouse$Graph;)V"⟩ ⟨"DrawingHouse$Facts", "learnParts", "(LDrawingHouse$Graph;)V"⟩ : Cond) ∈ lw_g := lw_gi (List.mem_append_left _ (List.mem_map.mpr ⟨_, lw_v1 (List.mem_of_getElem? (i := 4) rfl), rfl⟩)) rfl
theorem wv_2_0 : (Cond.selects "DrawingHouse$Facts" ⟨"DrawingHouse$Facts", "learnBlocksAt", "(LDrawingHouse$Graph;)V"⟩ ⟨"DrawingHouse$Facts", "learnBlocksAt", "(LDrawingHouse$Graph;)V"⟩ : Cond) ∈ lw_g := lw_gi (List.mem_append_left _ (List.mem_map.mpr ⟨_, lw_v1 (List.mem_of_getElem? (i := 5) rfl), rfl⟩)) rfl
theorem wv_2_1 : (Cond.selects "DrawingHouse$Facts" ⟨"DrawingHouse$Facts", "learnStrong", "(LDrawingHouse$Graph;)V"⟩ ⟨"DrawingHouse$Facts", "learnStrong", "(LDrawingHouse$Graph;)V"⟩ : Cond) ∈ lw_g := lw_gi (List.mem_append_left _ (List.mem_map.mpr ⟨_, lw_v1 (List.mem_of_getElem? (i := 6) rfl), rfl⟩)) rfl
theorem wv_2_2 : (Cond.selects "DrawingHouse$Facts" ⟨"DrawingHouse$Facts", "numberStrong", "(I[I)I"⟩ ⟨"DrawingHouse$Facts", "numberStrong", "(I[I)I"⟩ : Cond) ∈ lw_g := lw_gi (List.mem_append_left _ (List.mem_map.mpr ⟨_, lw_v1 (List.mem_of_getElem? (i := 7) rfl), rfl⟩)) rfl
theorem wv_2_3 : (Cond.selects "DrawingHouse$Facts" ⟨"DrawingHouse$Facts", "learnCore", "(LDrawingHouse$Graph;)V"⟩ ⟨"DrawingHouse$Facts", "learnCore", "(LDrawingHouse$Graph;)V"⟩ : Cond) ∈ lw_g := lw_gi (List.mem_append_left _ (List.mem_map.mpr ⟨_, lw_v1 (List.mem_of_getElem? (i := 8) rfl), rfl⟩)) rfl
theorem wv_2_5 : (Cond.selects "DrawingHouse$Facts" ⟨"DrawingHouse$Facts", "learnTurned", "(LDrawingHouse$Graph;)V"⟩ ⟨"DrawingHouse$Facts", "learnTurned", "(LDrawingHouse$Graph;)V"⟩ : Cond) ∈ lw_g := lw_gi (List.mem_append_left _ (List.mem_map.mpr ⟨_, lw_v1 (List.mem_of_getElem? (i := 9) rfl), rfl⟩)) rfl
theorem wv_14_12 : (Cond.selects "DrawingHouseModel" ⟨"DrawingHouseModel", "plane", "()V"⟩ ⟨"DrawingHouseModel", "plane", "()V"⟩ : Cond) ∈ lw_g := lw_gi (List.mem_append_left _ (List.mem_map.mpr ⟨_, lw_v3 (List.mem_of_getElem? (i := 4) rfl), rfl⟩)) rfl
theorem wv_14_14 : (Cond.selects "DrawingHouseModel" ⟨"DrawingHouseModel", "blocks", "()I"⟩ ⟨"DrawingHouseModel", "blocks", "()I"⟩ : Cond) ∈ lw_g := lw_gi (List.mem_append_left _ (List.mem_map.mpr ⟨_, lw_v3 (List.mem_of_getElem? (i := 6) rfl), rfl⟩)) rfl
theorem wv_16_11 : (Cond.selects "DrawingHouseModel" ⟨"DrawingHouseModel", "parts", "()I"⟩ ⟨"DrawingHouseModel", "parts", "()I"⟩ : Cond) ∈ lw_g := lw_gi (List.mem_append_left _ (List.mem_map.mpr ⟨_, lw_v3 (List.mem_of_getElem? (i := 9) rfl), rfl⟩)) rfl
theorem wv_16_13 : (Cond.selects "DrawingHouseModel" ⟨"DrawingHouseModel", "strong", "(Z)I"⟩ ⟨"DrawingHouseModel", "strong", "(Z)I"⟩ : Cond) ∈ lw_g := lw_gi (List.mem_append_left _ (List.mem_map.mpr ⟨_, lw_v3 (List.mem_of_getElem? (i := 10) rfl), rfl⟩)) rfl
theorem wv_16_14 : (Cond.selects "DrawingHouseModel" ⟨"DrawingHouseModel", "reaching", "(Z)V"⟩ ⟨"DrawingHouseModel", "reaching", "(Z)V"⟩ : Cond) ∈ lw_g := lw_gi (List.mem_append_left _ (List.mem_map.mpr ⟨_, lw_v3 (List.mem_of_getElem? (i := 11) rfl), rfl⟩)) rfl
abbrev b_Ho_count : ByteArray := prog_1_method_5_code
def y_Ho_count : MethodName := ⟨"DrawingHouse", "count", "(II)I"⟩
abbrev z_Ho_count : List Cond := Cond.code y_Ho_count b_Ho_count 3 (some .int) :: lw_g
theorem d_Ho_count_0 : decode b_Ho_count 0 = .ok (.iload_n 1, 1) := by decide +kernel
theorem d_Ho_count_1 : decode b_Ho_count 1 = .ok (.invokestatic 115, 3) := by decide +kernel
theorem d_Ho_count_4 : decode b_Ho_count 4 = .ok (.ifCond .ne 5, 3) := by decide +kernel
theorem d_Ho_count_7 : decode b_Ho_count 7 = .ok (.iconst (-1), 1) := by decide +kernel
theorem d_Ho_count_8 : decode b_Ho_count 8 = .ok (.ireturn, 1) := by decide +kernel
theorem d_Ho_count_9 : decode b_Ho_count 9 = .ok (.iload_n 2, 1) := by decide +kernel
theorem d_Ho_count_10 : decode b_Ho_count 10 = .ok (.tableswitch 123 0 7 #[46, 56, 66, 76, 85, 94, 103, 113], 46) := by decide +kernel
theorem d_Ho_count_56 : decode b_Ho_count 56 = .ok (.aload_n 0, 1) := by decide +kernel
theorem d_Ho_count_57 : decode b_Ho_count 57 = .ok (.getfield 13, 3) := by decide +kernel
theorem d_Ho_count_60 : decode b_Ho_count 60 = .ok (.iload_n 1, 1) := by decide +kernel
theorem d_Ho_count_61 : decode b_Ho_count 61 = .ok (.aaload, 1) := by decide +kernel
theorem d_Ho_count_62 : decode b_Ho_count 62 = .ok (.getfield 132, 3) := by decide +kernel
theorem d_Ho_count_65 : decode b_Ho_count 65 = .ok (.ireturn, 1) := by decide +kernel
theorem d_Ho_count_66 : decode b_Ho_count 66 = .ok (.aload_n 0, 1) := by decide +kernel
theorem d_Ho_count_67 : decode b_Ho_count 67 = .ok (.getfield 13, 3) := by decide +kernel
theorem d_Ho_count_70 : decode b_Ho_count 70 = .ok (.iload_n 1, 1) := by decide +kernel
theorem d_Ho_count_71 : decode b_Ho_count 71 = .ok (.aaload, 1) := by decide +kernel
theorem d_Ho_count_72 : decode b_Ho_count 72 = .ok (.getfield 141, 3) := by decide +kernel
theorem d_Ho_count_75 : decode b_Ho_count 75 = .ok (.ireturn, 1) := by decide +kernel
theorem d_Ho_count_76 : decode b_Ho_count 76 = .ok (.aload_n 0, 1) := by decide +kernel
theorem d_Ho_count_77 : decode b_Ho_count 77 = .ok (.getfield 13, 3) := by decide +kernel
theorem d_Ho_count_80 : decode b_Ho_count 80 = .ok (.iload_n 1, 1) := by decide +kernel
theorem d_Ho_count_81 : decode b_Ho_count 81 = .ok (.aaload, 1) := by decide +kernel
theorem d_Ho_count_82 : decode b_Ho_count 82 = .ok (.getfield 144, 3) := by decide +kernel
theorem d_Ho_count_85 : decode b_Ho_count 85 = .ok (.ireturn, 1) := by decide +kernel
theorem d_Ho_count_86 : decode b_Ho_count 86 = .ok (.aload_n 0, 1) := by decide +kernel
theorem d_Ho_count_87 : decode b_Ho_count 87 = .ok (.iload_n 1, 1) := by decide +kernel
theorem d_Ho_count_88 : decode b_Ho_count 88 = .ok (.invokevirtual 147, 3) := by decide +kernel
theorem d_Ho_count_91 : decode b_Ho_count 91 = .ok (.getfield 151, 3) := by decide +kernel
theorem d_Ho_count_94 : decode b_Ho_count 94 = .ok (.ireturn, 1) := by decide +kernel
theorem d_Ho_count_95 : decode b_Ho_count 95 = .ok (.aload_n 0, 1) := by decide +kernel
theorem d_Ho_count_96 : decode b_Ho_count 96 = .ok (.iload_n 1, 1) := by decide +kernel
theorem d_Ho_count_97 : decode b_Ho_count 97 = .ok (.invokevirtual 147, 3) := by decide +kernel
theorem d_Ho_count_100 : decode b_Ho_count 100 = .ok (.getfield 154, 3) := by decide +kernel
theorem d_Ho_count_103 : decode b_Ho_count 103 = .ok (.ireturn, 1) := by decide +kernel
theorem d_Ho_count_104 : decode b_Ho_count 104 = .ok (.aload_n 0, 1) := by decide +kernel
theorem d_Ho_count_105 : decode b_Ho_count 105 = .ok (.iload_n 1, 1) := by decide +kernel
theorem d_Ho_count_106 : decode b_Ho_count 106 = .ok (.invokevirtual 147, 3) := by decide +kernel
theorem d_Ho_count_109 : decode b_Ho_count 109 = .ok (.getfield 157, 3) := by decide +kernel
theorem d_Ho_count_112 : decode b_Ho_count 112 = .ok (.ireturn, 1) := by decide +kernel
theorem d_Ho_count_113 : decode b_Ho_count 113 = .ok (.aload_n 0, 1) := by decide +kernel
theorem d_Ho_count_114 : decode b_Ho_count 114 = .ok (.getfield 13, 3) := by decide +kernel
theorem d_Ho_count_117 : decode b_Ho_count 117 = .ok (.iload_n 1, 1) := by decide +kernel
theorem d_Ho_count_118 : decode b_Ho_count 118 = .ok (.aaload, 1) := by decide +kernel
theorem d_Ho_count_119 : decode b_Ho_count 119 = .ok (.getfield 160, 3) := by decide +kernel
theorem d_Ho_count_122 : decode b_Ho_count 122 = .ok (.ireturn, 1) := by decide +kernel
theorem d_Ho_count_123 : decode b_Ho_count 123 = .ok (.aload_n 0, 1) := by decide +kernel
theorem d_Ho_count_124 : decode b_Ho_count 124 = .ok (.getfield 13, 3) := by decide +kernel
theorem d_Ho_count_127 : decode b_Ho_count 127 = .ok (.iload_n 1, 1) := by decide +kernel
theorem d_Ho_count_128 : decode b_Ho_count 128 = .ok (.aaload, 1) := by decide +kernel
theorem d_Ho_count_129 : decode b_Ho_count 129 = .ok (.getfield 163, 3) := by decide +kernel
theorem d_Ho_count_132 : decode b_Ho_count 132 = .ok (.ireturn, 1) := by decide +kernel
theorem d_Ho_count_133 : decode b_Ho_count 133 = .ok (.iconst (-1), 1) := by decide +kernel
theorem d_Ho_count_134 : decode b_Ho_count 134 = .ok (.ireturn, 1) := by decide +kernel
abbrev b_Mo_count : ByteArray := prog_15_method_98_code
def y_Mo_count : MethodName := ⟨"DrawingHouseModel", "count", "(II)I"⟩
abbrev z_Mo_count : List Cond := Cond.code y_Mo_count b_Mo_count 3 (some .int) :: lw_g
theorem d_Mo_count_0 : decode b_Mo_count 0 = .ok (.iload_n 1, 1) := by decide +kernel
theorem d_Mo_count_1 : decode b_Mo_count 1 = .ok (.invokestatic 521, 3) := by decide +kernel
theorem d_Mo_count_4 : decode b_Mo_count 4 = .ok (.ifCond .ne 5, 3) := by decide +kernel
theorem d_Mo_count_7 : decode b_Mo_count 7 = .ok (.iconst (-1), 1) := by decide +kernel
theorem d_Mo_count_8 : decode b_Mo_count 8 = .ok (.ireturn, 1) := by decide +kernel
theorem d_Mo_count_9 : decode b_Mo_count 9 = .ok (.aload_n 0, 1) := by decide +kernel
theorem d_Mo_count_10 : decode b_Mo_count 10 = .ok (.iload_n 1, 1) := by decide +kernel
theorem d_Mo_count_11 : decode b_Mo_count 11 = .ok (.invokevirtual 527, 3) := by decide +kernel
theorem d_Mo_count_14 : decode b_Mo_count 14 = .ok (.iload_n 2, 1) := by decide +kernel
theorem d_Mo_count_15 : decode b_Mo_count 15 = .ok (.tableswitch 101 0 7 #[45, 50, 55, 60, 65, 74, 80, 87], 45) := by decide +kernel
theorem d_Mo_count_60 : decode b_Mo_count 60 = .ok (.aload_n 0, 1) := by decide +kernel
theorem d_Mo_count_61 : decode b_Mo_count 61 = .ok (.invokevirtual 475, 3) := by decide +kernel
theorem d_Mo_count_64 : decode b_Mo_count 64 = .ok (.ireturn, 1) := by decide +kernel
theorem d_Mo_count_65 : decode b_Mo_count 65 = .ok (.aload_n 0, 1) := by decide +kernel
theorem d_Mo_count_66 : decode b_Mo_count 66 = .ok (.invokevirtual 401, 3) := by decide +kernel
theorem d_Mo_count_69 : decode b_Mo_count 69 = .ok (.ireturn, 1) := by decide +kernel
theorem d_Mo_count_70 : decode b_Mo_count 70 = .ok (.aload_n 0, 1) := by decide +kernel
theorem d_Mo_count_71 : decode b_Mo_count 71 = .ok (.invokevirtual 509, 3) := by decide +kernel
theorem d_Mo_count_74 : decode b_Mo_count 74 = .ok (.ireturn, 1) := by decide +kernel
theorem d_Mo_count_75 : decode b_Mo_count 75 = .ok (.aload_n 0, 1) := by decide +kernel
theorem d_Mo_count_76 : decode b_Mo_count 76 = .ok (.invokevirtual 716, 3) := by decide +kernel
theorem d_Mo_count_79 : decode b_Mo_count 79 = .ok (.ireturn, 1) := by decide +kernel
theorem d_Mo_count_80 : decode b_Mo_count 80 = .ok (.aload_n 0, 1) := by decide +kernel
theorem d_Mo_count_81 : decode b_Mo_count 81 = .ok (.invokevirtual 689, 3) := by decide +kernel
theorem d_Mo_count_84 : decode b_Mo_count 84 = .ok (.aload_n 0, 1) := by decide +kernel
theorem d_Mo_count_85 : decode b_Mo_count 85 = .ok (.invokevirtual 668, 3) := by decide +kernel
theorem d_Mo_count_88 : decode b_Mo_count 88 = .ok (.ireturn, 1) := by decide +kernel
theorem d_Mo_count_89 : decode b_Mo_count 89 = .ok (.aload_n 0, 1) := by decide +kernel
theorem d_Mo_count_90 : decode b_Mo_count 90 = .ok (.iconst 0, 1) := by decide +kernel
theorem d_Mo_count_91 : decode b_Mo_count 91 = .ok (.invokevirtual 719, 3) := by decide +kernel
theorem d_Mo_count_94 : decode b_Mo_count 94 = .ok (.ireturn, 1) := by decide +kernel
theorem d_Mo_count_95 : decode b_Mo_count 95 = .ok (.aload_n 0, 1) := by decide +kernel
theorem d_Mo_count_96 : decode b_Mo_count 96 = .ok (.getfield 20, 3) := by decide +kernel
theorem d_Mo_count_99 : decode b_Mo_count 99 = .ok (.iload_n 1, 1) := by decide +kernel
theorem d_Mo_count_100 : decode b_Mo_count 100 = .ok (.iaload, 1) := by decide +kernel
theorem d_Mo_count_101 : decode b_Mo_count 101 = .ok (.ireturn, 1) := by decide +kernel
theorem d_Mo_count_102 : decode b_Mo_count 102 = .ok (.aload_n 0, 1) := by decide +kernel
theorem d_Mo_count_103 : decode b_Mo_count 103 = .ok (.getfield 23, 3) := by decide +kernel
theorem d_Mo_count_106 : decode b_Mo_count 106 = .ok (.iload_n 1, 1) := by decide +kernel
theorem d_Mo_count_107 : decode b_Mo_count 107 = .ok (.iaload, 1) := by decide +kernel
theorem d_Mo_count_108 : decode b_Mo_count 108 = .ok (.aload_n 0, 1) := by decide +kernel
theorem d_Mo_count_109 : decode b_Mo_count 109 = .ok (.getfield 20, 3) := by decide +kernel
theorem d_Mo_count_112 : decode b_Mo_count 112 = .ok (.iload_n 1, 1) := by decide +kernel
theorem d_Mo_count_113 : decode b_Mo_count 113 = .ok (.iaload, 1) := by decide +kernel
theorem d_Mo_count_114 : decode b_Mo_count 114 = .ok (.isub, 1) := by decide +kernel
theorem d_Mo_count_115 : decode b_Mo_count 115 = .ok (.ireturn, 1) := by decide +kernel
theorem d_Mo_count_116 : decode b_Mo_count 116 = .ok (.iconst (-1), 1) := by decide +kernel
theorem d_Mo_count_117 : decode b_Mo_count 117 = .ok (.ireturn, 1) := by decide +kernel
abbrev b_Fa_learnParts : ByteArray := prog_4_method_11_code
def y_Fa_learnParts : MethodName := ⟨"DrawingHouse$Facts", "learnParts", "(LDrawingHouse$Graph;)V"⟩
abbrev z_Fa_learnParts : List Cond := Cond.code y_Fa_learnParts b_Fa_learnParts 5 none :: lw_g
theorem d_Fa_learnParts_0 : decode b_Fa_learnParts 0 = .ok (.aload_n 0, 1) := by decide +kernel
theorem d_Fa_learnParts_1 : decode b_Fa_learnParts 1 = .ok (.iconst 0, 1) := by decide +kernel
theorem d_Fa_learnParts_2 : decode b_Fa_learnParts 2 = .ok (.putfield 15, 3) := by decide +kernel
theorem d_Fa_learnParts_5 : decode b_Fa_learnParts 5 = .ok (.iconst 0, 1) := by decide +kernel
theorem d_Fa_learnParts_6 : decode b_Fa_learnParts 6 = .ok (.istore_n 2, 1) := by decide +kernel
theorem d_Fa_learnParts_7 : decode b_Fa_learnParts 7 = .ok (.iconst 0, 1) := by decide +kernel
theorem d_Fa_learnParts_8 : decode b_Fa_learnParts 8 = .ok (.istore_n 3, 1) := by decide +kernel
theorem d_Fa_learnParts_9 : decode b_Fa_learnParts 9 = .ok (.iload_n 3, 1) := by decide +kernel
theorem d_Fa_learnParts_10 : decode b_Fa_learnParts 10 = .ok (.aload_n 1, 1) := by decide +kernel
theorem d_Fa_learnParts_11 : decode b_Fa_learnParts 11 = .ok (.getfield 64, 3) := by decide +kernel
theorem d_Fa_learnParts_14 : decode b_Fa_learnParts 14 = .ok (.if_icmp .ge 66, 3) := by decide +kernel
theorem d_Fa_learnParts_80 : decode b_Fa_learnParts 80 = .ok (.return_, 1) := by decide +kernel
abbrev b_Fa_blocksOf : ByteArray := prog_4_method_7_code
def y_Fa_blocksOf : MethodName := ⟨"DrawingHouse$Facts", "blocksOf", "(II[I[I[I[I)I"⟩
abbrev z_Fa_blocksOf : List Cond := Cond.code y_Fa_blocksOf b_Fa_blocksOf 11 (some .int) :: lw_g
theorem d_Fa_blocksOf_0 : decode b_Fa_blocksOf 0 = .ok (.iconst 0, 1) := by decide +kernel
theorem d_Fa_blocksOf_1 : decode b_Fa_blocksOf 1 = .ok (.istore 6, 2) := by decide +kernel
theorem d_Fa_blocksOf_3 : decode b_Fa_blocksOf 3 = .ok (.iload 6, 2) := by decide +kernel
theorem d_Fa_blocksOf_5 : decode b_Fa_blocksOf 5 = .ok (.iload_n 1, 1) := by decide +kernel
theorem d_Fa_blocksOf_6 : decode b_Fa_blocksOf 6 = .ok (.if_icmp .ge 16, 3) := by decide +kernel
theorem d_Fa_blocksOf_22 : decode b_Fa_blocksOf 22 = .ok (.iconst 1, 1) := by decide +kernel
theorem d_Fa_blocksOf_23 : decode b_Fa_blocksOf 23 = .ok (.iload_n 0, 1) := by decide +kernel
theorem d_Fa_blocksOf_24 : decode b_Fa_blocksOf 24 = .ok (.ishl, 1) := by decide +kernel
theorem d_Fa_blocksOf_25 : decode b_Fa_blocksOf 25 = .ok (.iconst 1, 1) := by decide +kernel
theorem d_Fa_blocksOf_26 : decode b_Fa_blocksOf 26 = .ok (.isub, 1) := by decide +kernel
theorem d_Fa_blocksOf_27 : decode b_Fa_blocksOf 27 = .ok (.istore 6, 2) := by decide +kernel
theorem d_Fa_blocksOf_29 : decode b_Fa_blocksOf 29 = .ok (.iconst 0, 1) := by decide +kernel
theorem d_Fa_blocksOf_30 : decode b_Fa_blocksOf 30 = .ok (.istore 7, 2) := by decide +kernel
theorem d_Fa_blocksOf_32 : decode b_Fa_blocksOf 32 = .ok (.iload 7, 2) := by decide +kernel
theorem d_Fa_blocksOf_34 : decode b_Fa_blocksOf 34 = .ok (.iload_n 0, 1) := by decide +kernel
theorem d_Fa_blocksOf_35 : decode b_Fa_blocksOf 35 = .ok (.if_icmp .ge 83, 3) := by decide +kernel
theorem d_Fa_blocksOf_118 : decode b_Fa_blocksOf 118 = .ok (.iconst 0, 1) := by decide +kernel
theorem d_Fa_blocksOf_119 : decode b_Fa_blocksOf 119 = .ok (.istore 7, 2) := by decide +kernel
theorem d_Fa_blocksOf_121 : decode b_Fa_blocksOf 121 = .ok (.iconst 0, 1) := by decide +kernel
theorem d_Fa_blocksOf_122 : decode b_Fa_blocksOf 122 = .ok (.istore 8, 2) := by decide +kernel
theorem d_Fa_blocksOf_124 : decode b_Fa_blocksOf 124 = .ok (.iload 8, 2) := by decide +kernel
theorem d_Fa_blocksOf_126 : decode b_Fa_blocksOf 126 = .ok (.iload_n 1, 1) := by decide +kernel
theorem d_Fa_blocksOf_127 : decode b_Fa_blocksOf 127 = .ok (.if_icmp .ge 45, 3) := by decide +kernel
theorem d_Fa_blocksOf_172 : decode b_Fa_blocksOf 172 = .ok (.iload 7, 2) := by decide +kernel
theorem d_Fa_blocksOf_174 : decode b_Fa_blocksOf 174 = .ok (.ireturn, 1) := by decide +kernel
abbrev b_Fa_learnBlocksAt : ByteArray := prog_4_method_13_code
def y_Fa_learnBlocksAt : MethodName := ⟨"DrawingHouse$Facts", "learnBlocksAt", "(LDrawingHouse$Graph;)V"⟩
abbrev z_Fa_learnBlocksAt : List Cond := Cond.code y_Fa_learnBlocksAt b_Fa_learnBlocksAt 6 none :: lw_g
theorem d_Fa_learnBlocksAt_0 : decode b_Fa_learnBlocksAt 0 = .ok (.aload_n 1, 1) := by decide +kernel
theorem d_Fa_learnBlocksAt_1 : decode b_Fa_learnBlocksAt 1 = .ok (.getfield 69, 3) := by decide +kernel
theorem d_Fa_learnBlocksAt_4 : decode b_Fa_learnBlocksAt 4 = .ok (.istore_n 2, 1) := by decide +kernel
theorem d_Fa_learnBlocksAt_5 : decode b_Fa_learnBlocksAt 5 = .ok (.iload_n 2, 1) := by decide +kernel
theorem d_Fa_learnBlocksAt_6 : decode b_Fa_learnBlocksAt 6 = .ok (.bipush 48, 2) := by decide +kernel
theorem d_Fa_learnBlocksAt_8 : decode b_Fa_learnBlocksAt 8 = .ok (.if_icmp .ge 16, 3) := by decide +kernel
theorem d_Fa_learnBlocksAt_11 : decode b_Fa_learnBlocksAt 11 = .ok (.aload_n 0, 1) := by decide +kernel
theorem d_Fa_learnBlocksAt_12 : decode b_Fa_learnBlocksAt 12 = .ok (.getfield 29, 3) := by decide +kernel
theorem d_Fa_learnBlocksAt_15 : decode b_Fa_learnBlocksAt 15 = .ok (.iload_n 2, 1) := by decide +kernel
theorem d_Fa_learnBlocksAt_16 : decode b_Fa_learnBlocksAt 16 = .ok (.iconst (-1), 1) := by decide +kernel
theorem d_Fa_learnBlocksAt_17 : decode b_Fa_learnBlocksAt 17 = .ok (.iastore, 1) := by decide +kernel
theorem d_Fa_learnBlocksAt_18 : decode b_Fa_learnBlocksAt 18 = .ok (.iinc 2 1, 3) := by decide +kernel
theorem d_Fa_learnBlocksAt_21 : decode b_Fa_learnBlocksAt 21 = .ok (.goto (-16), 3) := by decide +kernel
theorem d_Fa_learnBlocksAt_24 : decode b_Fa_learnBlocksAt 24 = .ok (.iconst 0, 1) := by decide +kernel
theorem d_Fa_learnBlocksAt_25 : decode b_Fa_learnBlocksAt 25 = .ok (.istore_n 2, 1) := by decide +kernel
theorem d_Fa_learnBlocksAt_26 : decode b_Fa_learnBlocksAt 26 = .ok (.iload_n 2, 1) := by decide +kernel
theorem d_Fa_learnBlocksAt_27 : decode b_Fa_learnBlocksAt 27 = .ok (.aload_n 1, 1) := by decide +kernel
theorem d_Fa_learnBlocksAt_28 : decode b_Fa_learnBlocksAt 28 = .ok (.getfield 64, 3) := by decide +kernel
theorem d_Fa_learnBlocksAt_31 : decode b_Fa_learnBlocksAt 31 = .ok (.if_icmp .ge 73, 3) := by decide +kernel
theorem d_Fa_learnBlocksAt_104 : decode b_Fa_learnBlocksAt 104 = .ok (.return_, 1) := by decide +kernel
abbrev b_Fa_numberStrong : ByteArray := prog_4_method_15_code
def y_Fa_numberStrong : MethodName := ⟨"DrawingHouse$Facts", "numberStrong", "(I[I)I"⟩
abbrev z_Fa_numberStrong : List Cond := Cond.code y_Fa_numberStrong b_Fa_numberStrong 6 (some .int) :: lw_g
theorem d_Fa_numberStrong_0 : decode b_Fa_numberStrong 0 = .ok (.iconst 0, 1) := by decide +kernel
theorem d_Fa_numberStrong_1 : decode b_Fa_numberStrong 1 = .ok (.istore_n 3, 1) := by decide +kernel
theorem d_Fa_numberStrong_2 : decode b_Fa_numberStrong 2 = .ok (.iload_n 3, 1) := by decide +kernel
theorem d_Fa_numberStrong_3 : decode b_Fa_numberStrong 3 = .ok (.iload_n 1, 1) := by decide +kernel
theorem d_Fa_numberStrong_4 : decode b_Fa_numberStrong 4 = .ok (.if_icmp .ge 54, 3) := by decide +kernel
theorem d_Fa_numberStrong_58 : decode b_Fa_numberStrong 58 = .ok (.iconst 0, 1) := by decide +kernel
theorem d_Fa_numberStrong_59 : decode b_Fa_numberStrong 59 = .ok (.istore_n 3, 1) := by decide +kernel
theorem d_Fa_numberStrong_60 : decode b_Fa_numberStrong 60 = .ok (.aload_n 2, 1) := by decide +kernel
theorem d_Fa_numberStrong_61 : decode b_Fa_numberStrong 61 = .ok (.iconst (-1), 1) := by decide +kernel
theorem d_Fa_numberStrong_62 : decode b_Fa_numberStrong 62 = .ok (.invokestatic 139, 3) := by decide +kernel
theorem d_Fa_numberStrong_65 : decode b_Fa_numberStrong 65 = .ok (.iconst 0, 1) := by decide +kernel
theorem d_Fa_numberStrong_66 : decode b_Fa_numberStrong 66 = .ok (.istore 4, 2) := by decide +kernel
theorem d_Fa_numberStrong_68 : decode b_Fa_numberStrong 68 = .ok (.iload 4, 2) := by decide +kernel
theorem d_Fa_numberStrong_70 : decode b_Fa_numberStrong 70 = .ok (.iload_n 1, 1) := by decide +kernel
theorem d_Fa_numberStrong_71 : decode b_Fa_numberStrong 71 = .ok (.if_icmp .ge 78, 3) := by decide +kernel
theorem d_Fa_numberStrong_149 : decode b_Fa_numberStrong 149 = .ok (.iload_n 3, 1) := by decide +kernel
theorem d_Fa_numberStrong_150 : decode b_Fa_numberStrong 150 = .ok (.ireturn, 1) := by decide +kernel
abbrev b_Fa_learnStrong : ByteArray := prog_4_method_14_code
def y_Fa_learnStrong : MethodName := ⟨"DrawingHouse$Facts", "learnStrong", "(LDrawingHouse$Graph;)V"⟩
abbrev z_Fa_learnStrong : List Cond := Cond.code y_Fa_learnStrong b_Fa_learnStrong 3 none :: lw_g
theorem d_Fa_learnStrong_0 : decode b_Fa_learnStrong 0 = .ok (.aload_n 0, 1) := by decide +kernel
theorem d_Fa_learnStrong_1 : decode b_Fa_learnStrong 1 = .ok (.getfield 45, 3) := by decide +kernel
theorem d_Fa_learnStrong_4 : decode b_Fa_learnStrong 4 = .ok (.iconst 0, 1) := by decide +kernel
theorem d_Fa_learnStrong_5 : decode b_Fa_learnStrong 5 = .ok (.invokestatic 139, 3) := by decide +kernel
theorem d_Fa_learnStrong_8 : decode b_Fa_learnStrong 8 = .ok (.iconst 0, 1) := by decide +kernel
theorem d_Fa_learnStrong_9 : decode b_Fa_learnStrong 9 = .ok (.istore_n 2, 1) := by decide +kernel
theorem d_Fa_learnStrong_10 : decode b_Fa_learnStrong 10 = .ok (.iload_n 2, 1) := by decide +kernel
theorem d_Fa_learnStrong_11 : decode b_Fa_learnStrong 11 = .ok (.aload_n 1, 1) := by decide +kernel
theorem d_Fa_learnStrong_12 : decode b_Fa_learnStrong 12 = .ok (.getfield 69, 3) := by decide +kernel
theorem d_Fa_learnStrong_15 : decode b_Fa_learnStrong 15 = .ok (.if_icmp .ge 62, 3) := by decide +kernel
theorem d_Fa_learnStrong_77 : decode b_Fa_learnStrong 77 = .ok (.aload_n 0, 1) := by decide +kernel
theorem d_Fa_learnStrong_78 : decode b_Fa_learnStrong 78 = .ok (.aload_n 0, 1) := by decide +kernel
theorem d_Fa_learnStrong_79 : decode b_Fa_learnStrong 79 = .ok (.aload_n 1, 1) := by decide +kernel
theorem d_Fa_learnStrong_80 : decode b_Fa_learnStrong 80 = .ok (.getfield 64, 3) := by decide +kernel
theorem d_Fa_learnStrong_83 : decode b_Fa_learnStrong 83 = .ok (.aload_n 0, 1) := by decide +kernel
theorem d_Fa_learnStrong_84 : decode b_Fa_learnStrong 84 = .ok (.getfield 32, 3) := by decide +kernel
theorem d_Fa_learnStrong_87 : decode b_Fa_learnStrong 87 = .ok (.invokevirtual 148, 3) := by decide +kernel
theorem d_Fa_learnStrong_90 : decode b_Fa_learnStrong 90 = .ok (.putfield 22, 3) := by decide +kernel
theorem d_Fa_learnStrong_93 : decode b_Fa_learnStrong 93 = .ok (.return_, 1) := by decide +kernel
abbrev b_Fa_learnCore : ByteArray := prog_4_method_16_code
def y_Fa_learnCore : MethodName := ⟨"DrawingHouse$Facts", "learnCore", "(LDrawingHouse$Graph;)V"⟩
abbrev z_Fa_learnCore : List Cond := Cond.code y_Fa_learnCore b_Fa_learnCore 6 none :: lw_g
theorem d_Fa_learnCore_0 : decode b_Fa_learnCore 0 = .ok (.iconst 1, 1) := by decide +kernel
theorem d_Fa_learnCore_1 : decode b_Fa_learnCore 1 = .ok (.aload_n 1, 1) := by decide +kernel
theorem d_Fa_learnCore_2 : decode b_Fa_learnCore 2 = .ok (.getfield 64, 3) := by decide +kernel
theorem d_Fa_learnCore_5 : decode b_Fa_learnCore 5 = .ok (.ishl, 1) := by decide +kernel
theorem d_Fa_learnCore_6 : decode b_Fa_learnCore 6 = .ok (.iconst 1, 1) := by decide +kernel
theorem d_Fa_learnCore_7 : decode b_Fa_learnCore 7 = .ok (.isub, 1) := by decide +kernel
theorem d_Fa_learnCore_8 : decode b_Fa_learnCore 8 = .ok (.istore_n 2, 1) := by decide +kernel
theorem d_Fa_learnCore_9 : decode b_Fa_learnCore 9 = .ok (.iconst 0, 1) := by decide +kernel
theorem d_Fa_learnCore_10 : decode b_Fa_learnCore 10 = .ok (.istore_n 3, 1) := by decide +kernel
theorem d_Fa_learnCore_11 : decode b_Fa_learnCore 11 = .ok (.iload_n 3, 1) := by decide +kernel
theorem d_Fa_learnCore_12 : decode b_Fa_learnCore 12 = .ok (.bipush 24, 2) := by decide +kernel
theorem d_Fa_learnCore_14 : decode b_Fa_learnCore 14 = .ok (.if_icmp .ge 49, 3) := by decide +kernel
theorem d_Fa_learnCore_17 : decode b_Fa_learnCore 17 = .ok (.iload_n 2, 1) := by decide +kernel
theorem d_Fa_learnCore_18 : decode b_Fa_learnCore 18 = .ok (.ifCond .eq 45, 3) := by decide +kernel
theorem d_Fa_learnCore_63 : decode b_Fa_learnCore 63 = .ok (.return_, 1) := by decide +kernel
abbrev b_Fa_learnTurned : ByteArray := prog_4_method_18_code
def y_Fa_learnTurned : MethodName := ⟨"DrawingHouse$Facts", "learnTurned", "(LDrawingHouse$Graph;)V"⟩
abbrev z_Fa_learnTurned : List Cond := Cond.code y_Fa_learnTurned b_Fa_learnTurned 6 none :: lw_g
theorem d_Fa_learnTurned_0 : decode b_Fa_learnTurned 0 = .ok (.aload_n 0, 1) := by decide +kernel
theorem d_Fa_learnTurned_1 : decode b_Fa_learnTurned 1 = .ok (.getfield 45, 3) := by decide +kernel
theorem d_Fa_learnTurned_4 : decode b_Fa_learnTurned 4 = .ok (.iconst 0, 1) := by decide +kernel
theorem d_Fa_learnTurned_5 : decode b_Fa_learnTurned 5 = .ok (.invokestatic 139, 3) := by decide +kernel
theorem d_Fa_learnTurned_8 : decode b_Fa_learnTurned 8 = .ok (.iconst 0, 1) := by decide +kernel
theorem d_Fa_learnTurned_9 : decode b_Fa_learnTurned 9 = .ok (.istore_n 2, 1) := by decide +kernel
theorem d_Fa_learnTurned_10 : decode b_Fa_learnTurned 10 = .ok (.iload_n 2, 1) := by decide +kernel
theorem d_Fa_learnTurned_11 : decode b_Fa_learnTurned 11 = .ok (.aload_n 1, 1) := by decide +kernel
theorem d_Fa_learnTurned_12 : decode b_Fa_learnTurned 12 = .ok (.getfield 69, 3) := by decide +kernel
theorem d_Fa_learnTurned_15 : decode b_Fa_learnTurned 15 = .ok (.if_icmp .ge 31, 3) := by decide +kernel
theorem d_Fa_learnTurned_46 : decode b_Fa_learnTurned 46 = .ok (.aload_n 0, 1) := by decide +kernel
theorem d_Fa_learnTurned_47 : decode b_Fa_learnTurned 47 = .ok (.aload_n 1, 1) := by decide +kernel
theorem d_Fa_learnTurned_48 : decode b_Fa_learnTurned 48 = .ok (.getfield 64, 3) := by decide +kernel
theorem d_Fa_learnTurned_51 : decode b_Fa_learnTurned 51 = .ok (.aload_n 0, 1) := by decide +kernel
theorem d_Fa_learnTurned_52 : decode b_Fa_learnTurned 52 = .ok (.getfield 48, 3) := by decide +kernel
theorem d_Fa_learnTurned_55 : decode b_Fa_learnTurned 55 = .ok (.invokevirtual 148, 3) := by decide +kernel
theorem d_Fa_learnTurned_58 : decode b_Fa_learnTurned 58 = .ok (.istore_n 2, 1) := by decide +kernel
theorem d_Fa_learnTurned_59 : decode b_Fa_learnTurned 59 = .ok (.iconst 0, 1) := by decide +kernel
theorem d_Fa_learnTurned_60 : decode b_Fa_learnTurned 60 = .ok (.istore_n 3, 1) := by decide +kernel
theorem d_Fa_learnTurned_61 : decode b_Fa_learnTurned 61 = .ok (.iload_n 3, 1) := by decide +kernel
theorem d_Fa_learnTurned_62 : decode b_Fa_learnTurned 62 = .ok (.iload_n 2, 1) := by decide +kernel
theorem d_Fa_learnTurned_63 : decode b_Fa_learnTurned 63 = .ok (.if_icmp .ge 50, 3) := by decide +kernel
theorem d_Fa_learnTurned_113 : decode b_Fa_learnTurned 113 = .ok (.iconst 0, 1) := by decide +kernel
theorem d_Fa_learnTurned_114 : decode b_Fa_learnTurned 114 = .ok (.istore_n 3, 1) := by decide +kernel
theorem d_Fa_learnTurned_115 : decode b_Fa_learnTurned 115 = .ok (.iload_n 3, 1) := by decide +kernel
theorem d_Fa_learnTurned_116 : decode b_Fa_learnTurned 116 = .ok (.aload_n 1, 1) := by decide +kernel
theorem d_Fa_learnTurned_117 : decode b_Fa_learnTurned 117 = .ok (.getfield 69, 3) := by decide +kernel
theorem d_Fa_learnTurned_120 : decode b_Fa_learnTurned 120 = .ok (.if_icmp .ge 70, 3) := by decide +kernel
theorem d_Fa_learnTurned_190 : decode b_Fa_learnTurned 190 = .ok (.return_, 1) := by decide +kernel
abbrev b_Fa_learn : ByteArray := prog_4_method_2_code
def y_Fa_learn : MethodName := ⟨"DrawingHouse$Facts", "learn", "(LDrawingHouse$Graph;)V"⟩
abbrev z_Fa_learn : List Cond := Cond.code y_Fa_learn b_Fa_learn 2 none :: lw_g
theorem d_Fa_learn_0 : decode b_Fa_learn 0 = .ok (.aload_n 0, 1) := by decide +kernel
theorem d_Fa_learn_1 : decode b_Fa_learn 1 = .ok (.iconst 1, 1) := by decide +kernel
theorem d_Fa_learn_2 : decode b_Fa_learn 2 = .ok (.putfield 9, 3) := by decide +kernel
theorem d_Fa_learn_5 : decode b_Fa_learn 5 = .ok (.aload_n 0, 1) := by decide +kernel
theorem d_Fa_learn_6 : decode b_Fa_learn 6 = .ok (.aload_n 1, 1) := by decide +kernel
theorem d_Fa_learn_7 : decode b_Fa_learn 7 = .ok (.invokevirtual 60, 3) := by decide +kernel
theorem d_Fa_learn_10 : decode b_Fa_learn 10 = .ok (.aload_n 0, 1) := by decide +kernel
theorem d_Fa_learn_11 : decode b_Fa_learn 11 = .ok (.aload_n 1, 1) := by decide +kernel
theorem d_Fa_learn_12 : decode b_Fa_learn 12 = .ok (.getfield 64, 3) := by decide +kernel
theorem d_Fa_learn_15 : decode b_Fa_learn 15 = .ok (.aload_n 1, 1) := by decide +kernel
theorem d_Fa_learn_16 : decode b_Fa_learn 16 = .ok (.getfield 69, 3) := by decide +kernel
theorem d_Fa_learn_19 : decode b_Fa_learn 19 = .ok (.aload_n 1, 1) := by decide +kernel
theorem d_Fa_learn_20 : decode b_Fa_learn 20 = .ok (.getfield 72, 3) := by decide +kernel
theorem d_Fa_learn_23 : decode b_Fa_learn 23 = .ok (.aload_n 1, 1) := by decide +kernel
theorem d_Fa_learn_24 : decode b_Fa_learn 24 = .ok (.getfield 75, 3) := by decide +kernel
theorem d_Fa_learn_27 : decode b_Fa_learn 27 = .ok (.aload_n 1, 1) := by decide +kernel
theorem d_Fa_learn_28 : decode b_Fa_learn 28 = .ok (.getfield 78, 3) := by decide +kernel
theorem d_Fa_learn_31 : decode b_Fa_learn 31 = .ok (.aload_n 0, 1) := by decide +kernel
theorem d_Fa_learn_32 : decode b_Fa_learn 32 = .ok (.getfield 29, 3) := by decide +kernel
theorem d_Fa_learn_35 : decode b_Fa_learn 35 = .ok (.invokestatic 81, 3) := by decide +kernel
theorem d_Fa_learn_38 : decode b_Fa_learn 38 = .ok (.putfield 19, 3) := by decide +kernel
theorem d_Fa_learn_41 : decode b_Fa_learn 41 = .ok (.aload_n 0, 1) := by decide +kernel
theorem d_Fa_learn_42 : decode b_Fa_learn 42 = .ok (.aload_n 1, 1) := by decide +kernel
theorem d_Fa_learn_43 : decode b_Fa_learn 43 = .ok (.invokevirtual 85, 3) := by decide +kernel
theorem d_Fa_learn_46 : decode b_Fa_learn 46 = .ok (.aload_n 0, 1) := by decide +kernel
theorem d_Fa_learn_47 : decode b_Fa_learn 47 = .ok (.aload_n 1, 1) := by decide +kernel
theorem d_Fa_learn_48 : decode b_Fa_learn 48 = .ok (.invokevirtual 88, 3) := by decide +kernel
theorem d_Fa_learn_51 : decode b_Fa_learn 51 = .ok (.aload_n 0, 1) := by decide +kernel
theorem d_Fa_learn_52 : decode b_Fa_learn 52 = .ok (.aload_n 1, 1) := by decide +kernel
theorem d_Fa_learn_53 : decode b_Fa_learn 53 = .ok (.invokevirtual 91, 3) := by decide +kernel
theorem d_Fa_learn_56 : decode b_Fa_learn 56 = .ok (.aload_n 0, 1) := by decide +kernel
theorem d_Fa_learn_57 : decode b_Fa_learn 57 = .ok (.aload_n 1, 1) := by decide +kernel
theorem d_Fa_learn_58 : decode b_Fa_learn 58 = .ok (.invokevirtual 94, 3) := by decide +kernel
theorem d_Fa_learn_61 : decode b_Fa_learn 61 = .ok (.return_, 1) := by decide +kernel
abbrev b_Ho_learned : ByteArray := prog_1_method_33_code
def y_Ho_learned : MethodName := ⟨"DrawingHouse", "learned", "(I)LDrawingHouse$Facts;"⟩
abbrev z_Ho_learned : List Cond := Cond.code y_Ho_learned b_Ho_learned 2 (some (.object "DrawingHouse$Facts")) :: lw_g
theorem d_Ho_learned_0 : decode b_Ho_learned 0 = .ok (.aload_n 0, 1) := by decide +kernel
theorem d_Ho_learned_1 : decode b_Ho_learned 1 = .ok (.getfield 19, 3) := by decide +kernel
theorem d_Ho_learned_4 : decode b_Ho_learned 4 = .ok (.iload_n 1, 1) := by decide +kernel
theorem d_Ho_learned_5 : decode b_Ho_learned 5 = .ok (.aaload, 1) := by decide +kernel
theorem d_Ho_learned_6 : decode b_Ho_learned 6 = .ok (.getfield 407, 3) := by decide +kernel
theorem d_Ho_learned_9 : decode b_Ho_learned 9 = .ok (.ifCond .ne 18, 3) := by decide +kernel
theorem d_Ho_learned_12 : decode b_Ho_learned 12 = .ok (.aload_n 0, 1) := by decide +kernel
theorem d_Ho_learned_13 : decode b_Ho_learned 13 = .ok (.getfield 19, 3) := by decide +kernel
theorem d_Ho_learned_16 : decode b_Ho_learned 16 = .ok (.iload_n 1, 1) := by decide +kernel
theorem d_Ho_learned_17 : decode b_Ho_learned 17 = .ok (.aaload, 1) := by decide +kernel
theorem d_Ho_learned_18 : decode b_Ho_learned 18 = .ok (.aload_n 0, 1) := by decide +kernel
theorem d_Ho_learned_19 : decode b_Ho_learned 19 = .ok (.getfield 13, 3) := by decide +kernel
theorem d_Ho_learned_22 : decode b_Ho_learned 22 = .ok (.iload_n 1, 1) := by decide +kernel
theorem d_Ho_learned_23 : decode b_Ho_learned 23 = .ok (.aaload, 1) := by decide +kernel
theorem d_Ho_learned_24 : decode b_Ho_learned 24 = .ok (.invokevirtual 416, 3) := by decide +kernel
theorem d_Ho_learned_27 : decode b_Ho_learned 27 = .ok (.aload_n 0, 1) := by decide +kernel
theorem d_Ho_learned_28 : decode b_Ho_learned 28 = .ok (.getfield 19, 3) := by decide +kernel
theorem d_Ho_learned_31 : decode b_Ho_learned 31 = .ok (.iload_n 1, 1) := by decide +kernel
theorem d_Ho_learned_32 : decode b_Ho_learned 32 = .ok (.aaload, 1) := by decide +kernel
theorem d_Ho_learned_33 : decode b_Ho_learned 33 = .ok (.areturn, 1) := by decide +kernel
abbrev b_Mo_parts : ByteArray := prog_15_method_51_code
def y_Mo_parts : MethodName := ⟨"DrawingHouseModel", "parts", "()I"⟩
abbrev z_Mo_parts : List Cond := Cond.code y_Mo_parts b_Mo_parts 4 (some .int) :: lw_g
theorem d_Mo_parts_0 : decode b_Mo_parts 0 = .ok (.iconst 0, 1) := by decide +kernel
theorem d_Mo_parts_1 : decode b_Mo_parts 1 = .ok (.istore_n 1, 1) := by decide +kernel
theorem d_Mo_parts_2 : decode b_Mo_parts 2 = .ok (.iconst 0, 1) := by decide +kernel
theorem d_Mo_parts_3 : decode b_Mo_parts 3 = .ok (.istore_n 2, 1) := by decide +kernel
theorem d_Mo_parts_4 : decode b_Mo_parts 4 = .ok (.iload_n 2, 1) := by decide +kernel
theorem d_Mo_parts_5 : decode b_Mo_parts 5 = .ok (.aload_n 0, 1) := by decide +kernel
theorem d_Mo_parts_6 : decode b_Mo_parts 6 = .ok (.invokevirtual 475, 3) := by decide +kernel
theorem d_Mo_parts_9 : decode b_Mo_parts 9 = .ok (.if_icmp .ge 16, 3) := by decide +kernel
theorem d_Mo_parts_25 : decode b_Mo_parts 25 = .ok (.iconst 0, 1) := by decide +kernel
theorem d_Mo_parts_26 : decode b_Mo_parts 26 = .ok (.istore_n 2, 1) := by decide +kernel
theorem d_Mo_parts_27 : decode b_Mo_parts 27 = .ok (.iload_n 2, 1) := by decide +kernel
theorem d_Mo_parts_28 : decode b_Mo_parts 28 = .ok (.aload_n 0, 1) := by decide +kernel
theorem d_Mo_parts_29 : decode b_Mo_parts 29 = .ok (.invokevirtual 475, 3) := by decide +kernel
theorem d_Mo_parts_32 : decode b_Mo_parts 32 = .ok (.if_icmp .ge 64, 3) := by decide +kernel
theorem d_Mo_parts_96 : decode b_Mo_parts 96 = .ok (.iload_n 1, 1) := by decide +kernel
theorem d_Mo_parts_97 : decode b_Mo_parts 97 = .ok (.ireturn, 1) := by decide +kernel
abbrev b_Mo_plane : ByteArray := prog_15_method_62_code
def y_Mo_plane : MethodName := ⟨"DrawingHouseModel", "plane", "()V"⟩
abbrev z_Mo_plane : List Cond := Cond.code y_Mo_plane b_Mo_plane 2 none :: lw_g
theorem d_Mo_plane_0 : decode b_Mo_plane 0 = .ok (.aload_n 0, 1) := by decide +kernel
theorem d_Mo_plane_1 : decode b_Mo_plane 1 = .ok (.aload_n 0, 1) := by decide +kernel
theorem d_Mo_plane_2 : decode b_Mo_plane 2 = .ok (.invokevirtual 475, 3) := by decide +kernel
theorem d_Mo_plane_5 : decode b_Mo_plane 5 = .ok (.putfield 594, 3) := by decide +kernel
theorem d_Mo_plane_8 : decode b_Mo_plane 8 = .ok (.aload_n 0, 1) := by decide +kernel
theorem d_Mo_plane_9 : decode b_Mo_plane 9 = .ok (.aload_n 0, 1) := by decide +kernel
theorem d_Mo_plane_10 : decode b_Mo_plane 10 = .ok (.invokevirtual 401, 3) := by decide +kernel
theorem d_Mo_plane_13 : decode b_Mo_plane 13 = .ok (.putfield 597, 3) := by decide +kernel
theorem d_Mo_plane_16 : decode b_Mo_plane 16 = .ok (.iconst 0, 1) := by decide +kernel
theorem d_Mo_plane_17 : decode b_Mo_plane 17 = .ok (.istore_n 1, 1) := by decide +kernel
theorem d_Mo_plane_18 : decode b_Mo_plane 18 = .ok (.iload_n 1, 1) := by decide +kernel
theorem d_Mo_plane_19 : decode b_Mo_plane 19 = .ok (.aload_n 0, 1) := by decide +kernel
theorem d_Mo_plane_20 : decode b_Mo_plane 20 = .ok (.getfield 597, 3) := by decide +kernel
theorem d_Mo_plane_23 : decode b_Mo_plane 23 = .ok (.if_icmp .ge 38, 3) := by decide +kernel
theorem d_Mo_plane_61 : decode b_Mo_plane 61 = .ok (.return_, 1) := by decide +kernel
abbrev b_Mo_blocks : ByteArray := prog_15_method_66_code
def y_Mo_blocks : MethodName := ⟨"DrawingHouseModel", "blocks", "()I"⟩
abbrev z_Mo_blocks : List Cond := Cond.code y_Mo_blocks b_Mo_blocks 4 (some .int) :: lw_g
theorem d_Mo_blocks_0 : decode b_Mo_blocks 0 = .ok (.iconst 0, 1) := by decide +kernel
theorem d_Mo_blocks_1 : decode b_Mo_blocks 1 = .ok (.istore_n 1, 1) := by decide +kernel
theorem d_Mo_blocks_2 : decode b_Mo_blocks 2 = .ok (.iload_n 1, 1) := by decide +kernel
theorem d_Mo_blocks_3 : decode b_Mo_blocks 3 = .ok (.aload_n 0, 1) := by decide +kernel
theorem d_Mo_blocks_4 : decode b_Mo_blocks 4 = .ok (.getfield 597, 3) := by decide +kernel
theorem d_Mo_blocks_7 : decode b_Mo_blocks 7 = .ok (.if_icmp .ge 16, 3) := by decide +kernel
theorem d_Mo_blocks_23 : decode b_Mo_blocks 23 = .ok (.iconst 0, 1) := by decide +kernel
theorem d_Mo_blocks_24 : decode b_Mo_blocks 24 = .ok (.istore_n 1, 1) := by decide +kernel
theorem d_Mo_blocks_25 : decode b_Mo_blocks 25 = .ok (.iload_n 1, 1) := by decide +kernel
theorem d_Mo_blocks_26 : decode b_Mo_blocks 26 = .ok (.aload_n 0, 1) := by decide +kernel
theorem d_Mo_blocks_27 : decode b_Mo_blocks 27 = .ok (.getfield 594, 3) := by decide +kernel
theorem d_Mo_blocks_30 : decode b_Mo_blocks 30 = .ok (.if_icmp .ge 105, 3) := by decide +kernel
theorem d_Mo_blocks_135 : decode b_Mo_blocks 135 = .ok (.iconst 0, 1) := by decide +kernel
theorem d_Mo_blocks_136 : decode b_Mo_blocks 136 = .ok (.istore_n 1, 1) := by decide +kernel
theorem d_Mo_blocks_137 : decode b_Mo_blocks 137 = .ok (.iconst 0, 1) := by decide +kernel
theorem d_Mo_blocks_138 : decode b_Mo_blocks 138 = .ok (.istore_n 2, 1) := by decide +kernel
theorem d_Mo_blocks_139 : decode b_Mo_blocks 139 = .ok (.iload_n 2, 1) := by decide +kernel
theorem d_Mo_blocks_140 : decode b_Mo_blocks 140 = .ok (.aload_n 0, 1) := by decide +kernel
theorem d_Mo_blocks_141 : decode b_Mo_blocks 141 = .ok (.getfield 597, 3) := by decide +kernel
theorem d_Mo_blocks_144 : decode b_Mo_blocks 144 = .ok (.if_icmp .ge 16, 3) := by decide +kernel
theorem d_Mo_blocks_160 : decode b_Mo_blocks 160 = .ok (.iconst 0, 1) := by decide +kernel
theorem d_Mo_blocks_161 : decode b_Mo_blocks 161 = .ok (.istore_n 2, 1) := by decide +kernel
theorem d_Mo_blocks_162 : decode b_Mo_blocks 162 = .ok (.iload_n 2, 1) := by decide +kernel
theorem d_Mo_blocks_163 : decode b_Mo_blocks 163 = .ok (.aload_n 0, 1) := by decide +kernel
theorem d_Mo_blocks_164 : decode b_Mo_blocks 164 = .ok (.getfield 597, 3) := by decide +kernel
theorem d_Mo_blocks_167 : decode b_Mo_blocks 167 = .ok (.if_icmp .ge 66, 3) := by decide +kernel
theorem d_Mo_blocks_233 : decode b_Mo_blocks 233 = .ok (.iload_n 1, 1) := by decide +kernel
theorem d_Mo_blocks_234 : decode b_Mo_blocks 234 = .ok (.ireturn, 1) := by decide +kernel
abbrev b_Mo_reaching : ByteArray := prog_15_method_52_code
def y_Mo_reaching : MethodName := ⟨"DrawingHouseModel", "reaching", "(Z)V"⟩
abbrev z_Mo_reaching : List Cond := Cond.code y_Mo_reaching b_Mo_reaching 6 none :: lw_g
theorem d_Mo_reaching_0 : decode b_Mo_reaching 0 = .ok (.aload_n 0, 1) := by decide +kernel
theorem d_Mo_reaching_1 : decode b_Mo_reaching 1 = .ok (.invokevirtual 475, 3) := by decide +kernel
theorem d_Mo_reaching_4 : decode b_Mo_reaching 4 = .ok (.istore_n 2, 1) := by decide +kernel
theorem d_Mo_reaching_5 : decode b_Mo_reaching 5 = .ok (.iconst 0, 1) := by decide +kernel
theorem d_Mo_reaching_6 : decode b_Mo_reaching 6 = .ok (.istore_n 3, 1) := by decide +kernel
theorem d_Mo_reaching_7 : decode b_Mo_reaching 7 = .ok (.iload_n 3, 1) := by decide +kernel
theorem d_Mo_reaching_8 : decode b_Mo_reaching 8 = .ok (.sipush 576, 3) := by decide +kernel
theorem d_Mo_reaching_11 : decode b_Mo_reaching 11 = .ok (.if_icmp .ge 16, 3) := by decide +kernel
theorem d_Mo_reaching_14 : decode b_Mo_reaching 14 = .ok (.aload_n 0, 1) := by decide +kernel
theorem d_Mo_reaching_15 : decode b_Mo_reaching 15 = .ok (.getfield 44, 3) := by decide +kernel
theorem d_Mo_reaching_18 : decode b_Mo_reaching 18 = .ok (.iload_n 3, 1) := by decide +kernel
theorem d_Mo_reaching_19 : decode b_Mo_reaching 19 = .ok (.iconst 0, 1) := by decide +kernel
theorem d_Mo_reaching_20 : decode b_Mo_reaching 20 = .ok (.bastore, 1) := by decide +kernel
theorem d_Mo_reaching_21 : decode b_Mo_reaching 21 = .ok (.iinc 3 1, 3) := by decide +kernel
theorem d_Mo_reaching_24 : decode b_Mo_reaching 24 = .ok (.goto (-17), 3) := by decide +kernel
theorem d_Mo_reaching_27 : decode b_Mo_reaching 27 = .ok (.iconst 0, 1) := by decide +kernel
theorem d_Mo_reaching_28 : decode b_Mo_reaching 28 = .ok (.istore_n 3, 1) := by decide +kernel
theorem d_Mo_reaching_29 : decode b_Mo_reaching 29 = .ok (.iload_n 3, 1) := by decide +kernel
theorem d_Mo_reaching_30 : decode b_Mo_reaching 30 = .ok (.iload_n 2, 1) := by decide +kernel
theorem d_Mo_reaching_31 : decode b_Mo_reaching 31 = .ok (.if_icmp .ge 21, 3) := by decide +kernel
theorem d_Mo_reaching_52 : decode b_Mo_reaching 52 = .ok (.iconst 0, 1) := by decide +kernel
theorem d_Mo_reaching_53 : decode b_Mo_reaching 53 = .ok (.istore_n 3, 1) := by decide +kernel
theorem d_Mo_reaching_54 : decode b_Mo_reaching 54 = .ok (.iload_n 3, 1) := by decide +kernel
theorem d_Mo_reaching_55 : decode b_Mo_reaching 55 = .ok (.aload_n 0, 1) := by decide +kernel
theorem d_Mo_reaching_56 : decode b_Mo_reaching 56 = .ok (.invokevirtual 401, 3) := by decide +kernel
theorem d_Mo_reaching_59 : decode b_Mo_reaching 59 = .ok (.if_icmp .ge 61, 3) := by decide +kernel
theorem d_Mo_reaching_120 : decode b_Mo_reaching 120 = .ok (.iconst 0, 1) := by decide +kernel
theorem d_Mo_reaching_121 : decode b_Mo_reaching 121 = .ok (.istore_n 3, 1) := by decide +kernel
theorem d_Mo_reaching_122 : decode b_Mo_reaching 122 = .ok (.iload_n 3, 1) := by decide +kernel
theorem d_Mo_reaching_123 : decode b_Mo_reaching 123 = .ok (.iload_n 2, 1) := by decide +kernel
theorem d_Mo_reaching_124 : decode b_Mo_reaching 124 = .ok (.if_icmp .ge 103, 3) := by decide +kernel
theorem d_Mo_reaching_227 : decode b_Mo_reaching 227 = .ok (.return_, 1) := by decide +kernel
abbrev b_Mo_strong : ByteArray := prog_15_method_53_code
def y_Mo_strong : MethodName := ⟨"DrawingHouseModel", "strong", "(Z)I"⟩
abbrev z_Mo_strong : List Cond := Cond.code y_Mo_strong b_Mo_strong 5 (some .int) :: lw_g
theorem d_Mo_strong_0 : decode b_Mo_strong 0 = .ok (.aload_n 0, 1) := by decide +kernel
theorem d_Mo_strong_1 : decode b_Mo_strong 1 = .ok (.iload_n 1, 1) := by decide +kernel
theorem d_Mo_strong_2 : decode b_Mo_strong 2 = .ok (.invokevirtual 556, 3) := by decide +kernel
theorem d_Mo_strong_5 : decode b_Mo_strong 5 = .ok (.iconst 0, 1) := by decide +kernel
theorem d_Mo_strong_6 : decode b_Mo_strong 6 = .ok (.istore_n 2, 1) := by decide +kernel
theorem d_Mo_strong_7 : decode b_Mo_strong 7 = .ok (.iconst 0, 1) := by decide +kernel
theorem d_Mo_strong_8 : decode b_Mo_strong 8 = .ok (.istore_n 3, 1) := by decide +kernel
theorem d_Mo_strong_9 : decode b_Mo_strong 9 = .ok (.iload_n 3, 1) := by decide +kernel
theorem d_Mo_strong_10 : decode b_Mo_strong 10 = .ok (.aload_n 0, 1) := by decide +kernel
theorem d_Mo_strong_11 : decode b_Mo_strong 11 = .ok (.invokevirtual 475, 3) := by decide +kernel
theorem d_Mo_strong_14 : decode b_Mo_strong 14 = .ok (.if_icmp .ge 16, 3) := by decide +kernel
theorem d_Mo_strong_30 : decode b_Mo_strong 30 = .ok (.iconst 0, 1) := by decide +kernel
theorem d_Mo_strong_31 : decode b_Mo_strong 31 = .ok (.istore_n 3, 1) := by decide +kernel
theorem d_Mo_strong_32 : decode b_Mo_strong 32 = .ok (.iload_n 3, 1) := by decide +kernel
theorem d_Mo_strong_33 : decode b_Mo_strong 33 = .ok (.aload_n 0, 1) := by decide +kernel
theorem d_Mo_strong_34 : decode b_Mo_strong 34 = .ok (.invokevirtual 475, 3) := by decide +kernel
theorem d_Mo_strong_37 : decode b_Mo_strong 37 = .ok (.if_icmp .ge 80, 3) := by decide +kernel
theorem d_Mo_strong_117 : decode b_Mo_strong 117 = .ok (.iload_n 2, 1) := by decide +kernel
theorem d_Mo_strong_118 : decode b_Mo_strong 118 = .ok (.ireturn, 1) := by decide +kernel
theorem d_law_law_279 : decode b_law_law 279 = .ok (.aload_n 1, 1) := by decide +kernel
theorem d_law_law_280 : decode b_law_law 280 = .ok (.aload_n 0, 1) := by decide +kernel
theorem d_law_law_281 : decode b_law_law 281 = .ok (.iload_n 3, 1) := by decide +kernel
theorem d_law_law_282 : decode b_law_law 282 = .ok (.iconst 1, 1) := by decide +kernel
theorem d_law_law_283 : decode b_law_law 283 = .ok (.iadd, 1) := by decide +kernel
theorem d_law_law_284 : decode b_law_law 284 = .ok (.iaload, 1) := by decide +kernel
theorem d_law_law_285 : decode b_law_law 285 = .ok (.aload_n 0, 1) := by decide +kernel
theorem d_law_law_286 : decode b_law_law 286 = .ok (.iload_n 3, 1) := by decide +kernel
theorem d_law_law_287 : decode b_law_law 287 = .ok (.iconst 2, 1) := by decide +kernel
theorem d_law_law_288 : decode b_law_law 288 = .ok (.iadd, 1) := by decide +kernel
theorem d_law_law_289 : decode b_law_law 289 = .ok (.iaload, 1) := by decide +kernel
theorem d_law_law_290 : decode b_law_law 290 = .ok (.invokevirtual 28, 3) := by decide +kernel
theorem d_law_law_293 : decode b_law_law 293 = .ok (.aload_n 2, 1) := by decide +kernel
theorem d_law_law_294 : decode b_law_law 294 = .ok (.aload_n 0, 1) := by decide +kernel
theorem d_law_law_295 : decode b_law_law 295 = .ok (.iload_n 3, 1) := by decide +kernel
theorem d_law_law_296 : decode b_law_law 296 = .ok (.iconst 1, 1) := by decide +kernel
theorem d_law_law_297 : decode b_law_law 297 = .ok (.iadd, 1) := by decide +kernel
theorem d_law_law_298 : decode b_law_law 298 = .ok (.iaload, 1) := by decide +kernel
theorem d_law_law_299 : decode b_law_law 299 = .ok (.aload_n 0, 1) := by decide +kernel
theorem d_law_law_300 : decode b_law_law 300 = .ok (.iload_n 3, 1) := by decide +kernel
theorem d_law_law_301 : decode b_law_law 301 = .ok (.iconst 2, 1) := by decide +kernel
theorem d_law_law_302 : decode b_law_law 302 = .ok (.iadd, 1) := by decide +kernel
theorem d_law_law_303 : decode b_law_law 303 = .ok (.iaload, 1) := by decide +kernel
theorem d_law_law_304 : decode b_law_law 304 = .ok (.invokevirtual 31, 3) := by decide +kernel
theorem d_law_law_307 : decode b_law_law 307 = .ok (.if_icmp .eq 988, 3) := by decide +kernel
set_option maxRecDepth 100000 in
set_option maxHeartbeats 4000000 in
/-- DrawingHouse.count(II)I -/
theorem c_Ho_count_z1 (l : Launch) (D : va_G) (kA : Nat → ClassId) (a0 : Nat) (v1 : Int32) (v2 : Int32) (hg : sp_Ho_isPlace v1 = 0) (hgM : sp_Mo_isPlace v1 = 0) : Ci l y_Ho_count z_Ho_count { frames := 1, cells := 0, slots := 0, locals := 20 } D classes (TY kA) [.ref a0, .int v1, .int v2] [] (fun r (_ : List va_W) => r = (-1)) (fun u => u) 0 0 := by
  intro sz
  refine k_met (cc := b_Ho_count) (maxL := 3) (ret := (some .int)) (by decide) rfl (Nat.le_of_ble_eq_true rfl) (fun p e s m below meth c ls X hl hB => ?_)
  obtain ⟨hsz, hP, hK, hD0, hN⟩ := hB
  subst hsz
  have hD := hD0.self (sz := s.heap.size)
  generalize hAe : va_A (cat []) s.heap.size = A at hD ⊢
  have hA : ∀ q : Nat, s.heap.size ≤ q → A q := fun q h => by rw [← hAe]; exact Or.inr h
  have hS : va_S A s.heap s.heap [] := va_S.rf
  obtain ⟨hx, hb, hml, hown, hts, hr, hlk, hnm⟩ := id X
  have hl : lv_has ls 3 [(0, .ref a0), (1, .int v1), (2, .int v2)] := hl
  have hP : va_P D classes (cat []) s.heap := hP
  have hK : va_K D classes (TY kA) s := hK
  refine lv_iload_n (pc := 0) hx hb d_Ho_count_0 rfl (lv_at hl 1 rfl) ?_
  refine k_goI (gr := []) (k_rS (pc := 1) (As := [.int v1]) (rest := []) X (c_Ho_isPlace l D kA v1 s.heap.size) rfl wm_633 wm_1 wm_631 wm_632 1 (by decide +kernel) ⟨Nat.le_of_ble_eq_true rfl, Nat.le_of_ble_eq_true rfl⟩ rfl rfl (k_pre hN hK hP hD [] [] 0 rfl (by decide) rfl) rfl hl.1 rfl (Nat.le_of_ble_eq_true rfl) d_Ho_count_1 ⟨Nat.le_of_ble_eq_true rfl, Nat.le_of_ble_eq_true rfl⟩) hP hD hS hA [] [] 0 rfl (by decide) rfl rfl (fun r1 u2 H locs hu2 hP hD hS => ?_)
  subst hu2
  have hP : va_P D classes (cat []) H := hP
  have hD : va_D A (cat []) := hD
  refine lv_if_ne (pc := 4) (tgt := 9) hx hb d_Ho_count_4 (by decide) (fun c1 => absurd (hg) c1) (fun c1 => ?_)
  refine lv_iconst (pc := 7) (v := -1) hx hb d_Ho_count_7 (by decide) ?_
  refine W.widen (k := 0) (n := 0) (Nat.le_of_ble_eq_true rfl) (Nat.le_of_ble_eq_true rfl) ?_
  exact W.iret (v := (-1)) hx hb hr (fun t ht hW => ⟨⟨(-1), [], rfl, rfl, by rw [ht]; exact hP, va_K.moved hW.alike hK, hD⟩, hS.F ht⟩) hS.2.2 d_Ho_count_8
set_option maxRecDepth 100000 in
set_option maxHeartbeats 4000000 in
/-- DrawingHouseModel.count(II)I -/
theorem c_Mo_count_z1 (l : Launch) (D : va_G) (kA : Nat → ClassId) (a0 : Nat) (v1 : Int32) (v2 : Int32) (hg : sp_Ho_isPlace v1 = 0) (hgM : sp_Mo_isPlace v1 = 0) : Ci l y_Mo_count z_Mo_count { frames := 2, cells := 0, slots := 0, locals := 42 } D classes (TY kA) [.ref a0, .int v1, .int v2] [] (fun r (_ : List va_W) => r = (-1)) (fun u => u) 0 0 := by
  intro sz
  refine k_met (cc := b_Mo_count) (maxL := 3) (ret := (some .int)) (by decide) rfl (Nat.le_of_ble_eq_true rfl) (fun p e s m below meth c ls X hl hB => ?_)
  obtain ⟨hsz, hP, hK, hD0, hN⟩ := hB
  subst hsz
  have hD := hD0.self (sz := s.heap.size)
  generalize hAe : va_A (cat []) s.heap.size = A at hD ⊢
  have hA : ∀ q : Nat, s.heap.size ≤ q → A q := fun q h => by rw [← hAe]; exact Or.inr h
  have hS : va_S A s.heap s.heap [] := va_S.rf
  obtain ⟨hx, hb, hml, hown, hts, hr, hlk, hnm⟩ := id X
  have hl : lv_has ls 3 [(0, .ref a0), (1, .int v1), (2, .int v2)] := hl
  have hP : va_P D classes (cat []) s.heap := hP
  have hK : va_K D classes (TY kA) s := hK
  refine lv_iload_n (pc := 0) hx hb d_Mo_count_0 rfl (lv_at hl 1 rfl) ?_
  refine k_goI (gr := []) (k_rS (pc := 1) (As := [.int v1]) (rest := []) X (c_Mo_isPlace l D kA v1 s.heap.size) rfl wm_2978 wm_9 wm_2976 wm_2977 1 (by decide +kernel) ⟨Nat.le_of_ble_eq_true rfl, Nat.le_of_ble_eq_true rfl⟩ rfl rfl (k_pre hN hK hP hD [] [] 0 rfl (by decide) rfl) rfl hl.1 rfl (Nat.le_of_ble_eq_true rfl) d_Mo_count_1 ⟨Nat.le_of_ble_eq_true rfl, Nat.le_of_ble_eq_true rfl⟩) hP hD hS hA [] [] 0 rfl (by decide) rfl rfl (fun r1 u2 H locs hu2 hP hD hS => ?_)
  subst hu2
  have hP : va_P D classes (cat []) H := hP
  have hD : va_D A (cat []) := hD
  refine lv_if_ne (pc := 4) (tgt := 9) hx hb d_Mo_count_4 (by decide) (fun c1 => absurd (hgM) c1) (fun c1 => ?_)
  refine lv_iconst (pc := 7) (v := -1) hx hb d_Mo_count_7 (by decide) ?_
  refine W.widen (k := 0) (n := 0) (Nat.le_of_ble_eq_true rfl) (Nat.le_of_ble_eq_true rfl) ?_
  exact W.iret (v := (-1)) hx hb hr (fun t ht hW => ⟨⟨(-1), [], rfl, rfl, by rw [ht]; exact hP, va_K.moved hW.alike hK, hD⟩, hS.F ht⟩) hS.2.2 d_Mo_count_8
set_option maxRecDepth 100000 in
set_option maxHeartbeats 4000000 in
/-- count, a fresh house -/
theorem lf_count_1 {p : Program} {e : Env} {s : State} {m : MethodId} {below : List Frame} {meth : Method} {c : Code} (l : Launch) {b : Nat} {xs : Nat → Int32} (C0 : lw_At p s m meth c b 6 xs) {D : va_G} {kA : Nat → ClassId} (h : Nat) (h2 : Nat) (q : Nat → Nat) (qm : Nat → Nat) (v1 : Int32) (v2 : Int32) (hg : sp_Ho_isPlace v1 = 0) (hgM : sp_Mo_isPlace v1 = 0) (hv1 : xs 1 = v1) (hv2 : xs 2 = v2) {H : Heap} {locs : List Loc} {ls : Array Slot} (hK : va_K D classes (TY kA) s) (hN : nst s) (hP : va_P D classes (cat [[(h, .inr (12, [.ref (q 0), .ref (q 1), .ref (q 2), .ref (q 3), .ref (q 4), .ref (q 5), .ref (q 6), .int 0, .int ((-1)), .ref (q 9), .ref (q 10), .int 0, .int 0, .ref (q 13), .int 0, .int 0, .null, .null, .null, .null, .null]))], [(h2, .inr (13, mF qm x0Mo y0Mo))]]) H) (hD : va_D (fun q : Nat => s.heap.size ≤ q) (cat [[(h, .inr (12, [.ref (q 0), .ref (q 1), .ref (q 2), .ref (q 3), .ref (q 4), .ref (q 5), .ref (q 6), .int 0, .int ((-1)), .ref (q 9), .ref (q 10), .int 0, .int 0, .ref (q 13), .int 0, .int 0, .null, .null, .null, .null, .null]))], [(h2, .inr (13, mF qm x0Mo y0Mo))]])) (hS : va_S (fun q : Nat => s.heap.size ≤ q) s.heap H locs) (hl : lv_has ls 4 [(3, .int 0), (2, .ref h2), (1, .ref h), (0, .ref b)]) : W p l e room_1 s m #[Value.ref b] below meth c H locs 368 365796 (lw_Z below #[Value.ref b] s) (F0 m 279 ls []) := by
  obtain ⟨hx, hb, hr, hml, hown, hts0, hX, hbl, hlocks, hgv⟩ := id C0
  have hts : ∀ w ∈ lw_g, w.before #[Value.ref b] s = true := fun w h => hts0 w (lw_gt h)
  have X : cx p s m #[Value.ref b] meth c b_law_law 4 ret "DrawingHouseLaw" meth.name := ⟨hx, hb, hml, hown, hts, hr, hlocks, rfl⟩
  obtain ⟨A, hAe⟩ : ∃ A : Nat → Prop, A = fun q : Nat => s.heap.size ≤ q := ⟨_, rfl⟩
  have hA : ∀ q : Nat, s.heap.size ≤ q → A q := fun q h => by rw [hAe]; exact h
  have hbA : ¬ A b := by rw [hAe]; exact Nat.not_le.mpr hbl
  rw [← hAe] at hD hS
  refine lv_aload_n (pc := 279) hx hb d_law_law_279 rfl (lv_at hl 2 rfl) ?_
  refine lv_aload_n (pc := 280) hx hb d_law_law_280 rfl (lv_at hl 3 rfl) ?_
  refine lv_iload_n (pc := 281) hx hb d_law_law_281 rfl (lv_at hl 0 rfl) ?_
  refine lv_iconst (pc := 282) (v := 1) hx hb d_law_law_282 (by decide) ?_
  refine lv_iadd (pc := 283) hx hb d_law_law_283 ?_
  refine k_cst (v := 1) (by decide) ?_
  refine va_sld (pc := 284) hx hb hX hbl hbA hS (by unfold vp_in; decide) d_law_law_284 ?_
  refine k_cst (v := v1) hv1 ?_
  refine lv_aload_n (pc := 285) hx hb d_law_law_285 rfl (lv_at hl 3 rfl) ?_
  refine lv_iload_n (pc := 286) hx hb d_law_law_286 rfl (lv_at hl 0 rfl) ?_
  refine lv_iconst (pc := 287) (v := 2) hx hb d_law_law_287 (by decide) ?_
  refine lv_iadd (pc := 288) hx hb d_law_law_288 ?_
  refine k_cst (v := 2) (by decide) ?_
  refine va_sld (pc := 289) hx hb hX hbl hbA hS (by unfold vp_in; decide) d_law_law_289 ?_
  refine k_cst (v := v2) hv2 ?_
  refine k_goI (gr := [[(h, .inr (12, [.ref (q 0), .ref (q 1), .ref (q 2), .ref (q 3), .ref (q 4), .ref (q 5), .ref (q 6), .int 0, .int ((-1)), .ref (q 9), .ref (q 10), .int 0, .int 0, .ref (q 13), .int 0, .int 0, .null, .null, .null, .null, .null]))], [(h2, .inr (13, mF qm x0Mo y0Mo))]]) (k_rV (pc := 290) (As := [.int v1, .int v2]) (rest := []) X (c_Ho_count_z1 l D kA h v1 v2 hg hgM H.size) rfl wm_806 wm_1 wm_803 wm_804 wm_805 2 (by decide +kernel) ⟨Nat.le_of_ble_eq_true rfl, Nat.le_of_ble_eq_true rfl⟩ rfl rfl (va_recv hK hP (ci := 12) (q0 := 0) rfl rfl) (k_pre hN hK hP hD [] [0, 1] 2 rfl (by decide) rfl) rfl hl.1 rfl (Nat.le_of_ble_eq_true rfl) d_law_law_290 ⟨Nat.le_of_ble_eq_true rfl, Nat.le_of_ble_eq_true rfl⟩) hP hD hS hA [] [0, 1] 2 rfl (by decide) rfl rfl (fun r1 u2 H locs hu2 hP hD hS => ?_)
  obtain ⟨hP, hD⟩ := k_left hP hD
  subst hu2
  have hP : va_P D classes (cat [[(h, .inr (12, [.ref (q 0), .ref (q 1), .ref (q 2), .ref (q 3), .ref (q 4), .ref (q 5), .ref (q 6), .int 0, .int ((-1)), .ref (q 9), .ref (q 10), .int 0, .int 0, .ref (q 13), .int 0, .int 0, .null, .null, .null, .null, .null]))], [(h2, .inr (13, mF qm x0Mo y0Mo))]]) H := hP
  have hD : va_D A (cat [[(h, .inr (12, [.ref (q 0), .ref (q 1), .ref (q 2), .ref (q 3), .ref (q 4), .ref (q 5), .ref (q 6), .int 0, .int ((-1)), .ref (q 9), .ref (q 10), .int 0, .int 0, .ref (q 13), .int 0, .int 0, .null, .null, .null, .null, .null]))], [(h2, .inr (13, mF qm x0Mo y0Mo))]]) := hD
  refine lv_aload_n (pc := 293) hx hb d_law_law_293 rfl (lv_at hl 1 rfl) ?_
  refine lv_aload_n (pc := 294) hx hb d_law_law_294 rfl (lv_at hl 3 rfl) ?_
  refine lv_iload_n (pc := 295) hx hb d_law_law_295 rfl (lv_at hl 0 rfl) ?_
  refine lv_iconst (pc := 296) (v := 1) hx hb d_law_law_296 (by decide) ?_
  refine lv_iadd (pc := 297) hx hb d_law_law_297 ?_
  refine k_cst (v := 1) (by decide) ?_
  refine va_sld (pc := 298) hx hb hX hbl hbA hS (by unfold vp_in; decide) d_law_law_298 ?_
  refine k_cst (v := v1) hv1 ?_
  refine lv_aload_n (pc := 299) hx hb d_law_law_299 rfl (lv_at hl 3 rfl) ?_
  refine lv_iload_n (pc := 300) hx hb d_law_law_300 rfl (lv_at hl 0 rfl) ?_
  refine lv_iconst (pc := 301) (v := 2) hx hb d_law_law_301 (by decide) ?_
  refine lv_iadd (pc := 302) hx hb d_law_law_302 ?_
  refine k_cst (v := 2) (by decide) ?_
  refine va_sld (pc := 303) hx hb hX hbl hbA hS (by unfold vp_in; decide) d_law_law_303 ?_
  refine k_cst (v := v2) hv2 ?_
  refine k_goI (gr := [[(h, .inr (12, [.ref (q 0), .ref (q 1), .ref (q 2), .ref (q 3), .ref (q 4), .ref (q 5), .ref (q 6), .int 0, .int ((-1)), .ref (q 9), .ref (q 10), .int 0, .int 0, .ref (q 13), .int 0, .int 0, .null, .null, .null, .null, .null]))], [(h2, .inr (13, mF qm x0Mo y0Mo))]]) (k_rV (pc := 304) (As := [.int v1, .int v2]) (rest := [.int ((-1))]) X (c_Mo_count_z1 l D kA h2 v1 v2 hg hgM H.size) rfl wm_3279 wm_9 wm_3276 wm_3277 wm_3278 2 (by decide +kernel) ⟨Nat.le_of_ble_eq_true rfl, Nat.le_of_ble_eq_true rfl⟩ rfl rfl (va_recv hK hP (ci := 13) (q0 := 1) rfl rfl) (k_pre hN hK hP hD [] [0, 1] 2 rfl (by decide) rfl) rfl hl.1 rfl (Nat.le_of_ble_eq_true rfl) d_law_law_304 ⟨Nat.le_of_ble_eq_true rfl, Nat.le_of_ble_eq_true rfl⟩) hP hD hS hA [] [0, 1] 2 rfl (by decide) rfl rfl (fun r3 u4 H locs hu4 hP hD hS => ?_)
  obtain ⟨hP, hD⟩ := k_left hP hD
  subst hu4
  have hP : va_P D classes (cat [[(h, .inr (12, [.ref (q 0), .ref (q 1), .ref (q 2), .ref (q 3), .ref (q 4), .ref (q 5), .ref (q 6), .int 0, .int ((-1)), .ref (q 9), .ref (q 10), .int 0, .int 0, .ref (q 13), .int 0, .int 0, .null, .null, .null, .null, .null]))], [(h2, .inr (13, mF qm x0Mo y0Mo))]]) H := hP
  have hD : va_D A (cat [[(h, .inr (12, [.ref (q 0), .ref (q 1), .ref (q 2), .ref (q 3), .ref (q 4), .ref (q 5), .ref (q 6), .int 0, .int ((-1)), .ref (q 9), .ref (q 10), .int 0, .int 0, .ref (q 13), .int 0, .int 0, .null, .null, .null, .null, .null]))], [(h2, .inr (13, mF qm x0Mo y0Mo))]]) := hD
  refine lv_icmp_eq (pc := 307) (tgt := 1295) hx hb d_law_law_307 (by decide) (fun _ => ?_) (fun c1 => absurd (by decide) c1)
  rw [hAe] at hS
  exact law_exit l C0 (Nat.le_of_ble_eq_true rfl) (Nat.le_of_ble_eq_true rfl) hS hl
set_option maxRecDepth 100000 in
set_option maxHeartbeats 4000000 in
/-- DrawingHouse.count(II)I -/
theorem c_Ho_count_z2 (l : Launch) (D : va_G) (kA : Nat → ClassId) (a0 : Nat) (j : Nat) (v2 : Int32) (hj : j < 4) (hs2 : v2.toInt < 0 ∨ ((8 : Int) - 1 < v2.toInt)) : Ci l y_Ho_count z_Ho_count { frames := 1, cells := 0, slots := 0, locals := 20 } D classes (TY kA) [.ref a0, .int (nI j), .int v2] [] (fun r (_ : List va_W) => r = (-1)) (fun u => u) 0 0 := by
  intro sz
  refine k_met (cc := b_Ho_count) (maxL := 3) (ret := (some .int)) (by decide) rfl (Nat.le_of_ble_eq_true rfl) (fun p e s m below meth c ls X hl hB => ?_)
  obtain ⟨hsz, hP, hK, hD0, hN⟩ := hB
  subst hsz
  have hD := hD0.self (sz := s.heap.size)
  generalize hAe : va_A (cat []) s.heap.size = A at hD ⊢
  have hA : ∀ q : Nat, s.heap.size ≤ q → A q := fun q h => by rw [← hAe]; exact Or.inr h
  have hS : va_S A s.heap s.heap [] := va_S.rf
  obtain ⟨hx, hb, hml, hown, hts, hr, hlk, hnm⟩ := id X
  have hl : lv_has ls 3 [(0, .ref a0), (1, .int (nI j)), (2, .int v2)] := hl
  have hP : va_P D classes (cat []) s.heap := hP
  have hK : va_K D classes (TY kA) s := hK
  refine lv_iload_n (pc := 0) hx hb d_Ho_count_0 rfl (lv_at hl 1 rfl) ?_
  refine k_goI (gr := []) (k_rS (pc := 1) (As := [.int (nI j)]) (rest := []) X (c_Ho_isPlace l D kA (nI j) s.heap.size) rfl wm_633 wm_1 wm_631 wm_632 1 (by decide +kernel) ⟨Nat.le_of_ble_eq_true rfl, Nat.le_of_ble_eq_true rfl⟩ rfl rfl (k_pre hN hK hP hD [] [] 0 rfl (by decide) rfl) rfl hl.1 rfl (Nat.le_of_ble_eq_true rfl) d_Ho_count_1 ⟨Nat.le_of_ble_eq_true rfl, Nat.le_of_ble_eq_true rfl⟩) hP hD hS hA [] [] 0 rfl (by decide) rfl rfl (fun r1 u2 H locs hu2 hP hD hS => ?_)
  subst hu2
  refine k_cst (v := 1) (place_ok hj) ?_
  have hP : va_P D classes (cat []) H := hP
  have hD : va_D A (cat []) := hD
  refine lv_if_ne (pc := 4) (tgt := 9) hx hb d_Ho_count_4 (by decide) (fun c1 => ?_) (fun c1 => absurd c1 (by decide))
  refine lv_iload_n (pc := 9) hx hb d_Ho_count_9 rfl (lv_at hl 2 rfl) ?_
  refine lv_tableOut (pc := 10) (tgt := 133) hx hb d_Ho_count_10 hs2 (by decide) ?_
  refine lv_iconst (pc := 133) (v := -1) hx hb d_Ho_count_133 (by decide) ?_
  refine W.widen (k := 0) (n := 0) (Nat.le_of_ble_eq_true rfl) (Nat.le_of_ble_eq_true rfl) ?_
  exact W.iret (v := (-1)) hx hb hr (fun t ht hW => ⟨⟨(-1), [], rfl, rfl, by rw [ht]; exact hP, va_K.moved hW.alike hK, hD⟩, hS.F ht⟩) hS.2.2 d_Ho_count_134
set_option maxRecDepth 100000 in
set_option maxHeartbeats 4000000 in
/-- DrawingHouseModel.count(II)I -/
theorem c_Mo_count_z2 (l : Launch) (D : va_G) (kA : Nat → ClassId) (a0 : Nat) (j : Nat) (v2 : Int32) (qm : Nat → Nat) (hj : j < 4) (hs2 : v2.toInt < 0 ∨ ((8 : Int) - 1 < v2.toInt)) : Ci l y_Mo_count z_Mo_count { frames := 2, cells := 0, slots := 0, locals := 42 } D classes (TY kA) [.ref a0, .int (nI j), .int v2] [[(a0, .inr (13, mF qm x0Mo y0Mo))], [(qm 3, .inl (kA 0, 4, .inl (fun _ => 0)))]] (fun r (_ : List va_W) => r = (-1)) (fun u => u) 0 0 := by
  intro sz
  refine k_met (cc := b_Mo_count) (maxL := 3) (ret := (some .int)) (by decide) rfl (Nat.le_of_ble_eq_true rfl) (fun p e s m below meth c ls X hl hB => ?_)
  obtain ⟨hsz, hP, hK, hD0, hN⟩ := hB
  subst hsz
  have hD := hD0.self (sz := s.heap.size)
  generalize hAe : va_A (cat [[(a0, .inr (13, mF qm x0Mo y0Mo))], [(qm 3, .inl (kA 0, 4, .inl (fun _ => 0)))]]) s.heap.size = A at hD ⊢
  have hA : ∀ q : Nat, s.heap.size ≤ q → A q := fun q h => by rw [← hAe]; exact Or.inr h
  have hS : va_S A s.heap s.heap [] := va_S.rf
  obtain ⟨hx, hb, hml, hown, hts, hr, hlk, hnm⟩ := id X
  have hl : lv_has ls 3 [(0, .ref a0), (1, .int (nI j)), (2, .int v2)] := hl
  have hP : va_P D classes (cat [[(a0, .inr (13, mF qm x0Mo y0Mo))], [(qm 3, .inl (kA 0, 4, .inl (fun _ => 0)))]]) s.heap := hP
  have hK : va_K D classes (TY kA) s := hK
  refine lv_iload_n (pc := 0) hx hb d_Mo_count_0 rfl (lv_at hl 1 rfl) ?_
  refine k_goI (gr := [[(a0, .inr (13, mF qm x0Mo y0Mo))], [(qm 3, .inl (kA 0, 4, .inl (fun _ => 0)))]]) (k_rS (pc := 1) (As := [.int (nI j)]) (rest := []) X (c_Mo_isPlace l D kA (nI j) s.heap.size) rfl wm_2978 wm_9 wm_2976 wm_2977 1 (by decide +kernel) ⟨Nat.le_of_ble_eq_true rfl, Nat.le_of_ble_eq_true rfl⟩ rfl rfl (k_pre hN hK hP hD [] [0, 1] 2 rfl (by decide) rfl) rfl hl.1 rfl (Nat.le_of_ble_eq_true rfl) d_Mo_count_1 ⟨Nat.le_of_ble_eq_true rfl, Nat.le_of_ble_eq_true rfl⟩) hP hD hS hA [] [0, 1] 2 rfl (by decide) rfl rfl (fun r1 u2 H locs hu2 hP hD hS => ?_)
  subst hu2
  refine k_cst (v := 1) (placeM_ok hj) ?_
  have hP : va_P D classes (cat [[(a0, .inr (13, mF qm x0Mo y0Mo))], [(qm 3, .inl (kA 0, 4, .inl (fun _ => 0)))]]) H := hP
  have hD : va_D A (cat [[(a0, .inr (13, mF qm x0Mo y0Mo))], [(qm 3, .inl (kA 0, 4, .inl (fun _ => 0)))]]) := hD
  refine lv_if_ne (pc := 4) (tgt := 9) hx hb d_Mo_count_4 (by decide) (fun c1 => ?_) (fun c1 => absurd c1 (by decide))
  refine lv_aload_n (pc := 9) hx hb d_Mo_count_9 rfl (lv_at hl 0 rfl) ?_
  refine lv_iload_n (pc := 10) hx hb d_Mo_count_10 rfl (lv_at hl 1 rfl) ?_
  refine k_goV (gr := []) (k_rV (pc := 11) (As := [.int (nI j)]) (rest := []) X (c_Mo_take_z1 l D kA a0 j qm hj H.size) rfl wm_3091 wm_9 wm_3088 wm_3090 wv_14_2 1 (by decide +kernel) ⟨Nat.le_of_ble_eq_true rfl, Nat.le_of_ble_eq_true rfl⟩ rfl rfl (va_recv hK hP (ci := 13) (q0 := 0) rfl rfl) (k_pre hN hK hP hD [0, 1] [] 2 rfl (by decide) rfl) rfl hl.1 rfl (Nat.le_of_ble_eq_true rfl) d_Mo_count_11 ⟨Nat.le_of_ble_eq_true rfl, Nat.le_of_ble_eq_true rfl⟩) hP hD hS hA [0, 1] [] 2 rfl (by decide) rfl rfl (fun u3 H locs hu3 hP hD hS => ?_)
  have hP : va_P D classes (cat [[(a0, .inr (13, mF qm (va_up x0Mo 5 (nI (539 * (31 * j + 0)))) y0Mo))], [(qm 3, .inl (kA 0, 4, .inl (fun _ => 0)))]]) H := hP
  have hD : va_D A (cat [[(a0, .inr (13, mF qm (va_up x0Mo 5 (nI (539 * (31 * j + 0)))) y0Mo))], [(qm 3, .inl (kA 0, 4, .inl (fun _ => 0)))]]) := hD
  refine lv_iload_n (pc := 14) hx hb d_Mo_count_14 rfl (lv_at hl 2 rfl) ?_
  refine lv_tableOut (pc := 15) (tgt := 116) hx hb d_Mo_count_15 hs2 (by decide) ?_
  refine lv_iconst (pc := 116) (v := -1) hx hb d_Mo_count_116 (by decide) ?_
  refine W.widen (k := 0) (n := 0) (Nat.le_of_ble_eq_true rfl) (Nat.le_of_ble_eq_true rfl) ?_
  exact W.iret (v := (-1)) hx hb hr (fun t ht hW => ⟨⟨(-1), [[(a0, .inr (13, mF qm (va_up x0Mo 5 (nI (539 * (31 * j + 0)))) y0Mo))], [(qm 3, .inl (kA 0, 4, .inl (fun _ => 0)))]], rfl, rfl, by rw [ht]; exact hP, va_K.moved hW.alike hK, hD⟩, hS.F ht⟩) hS.2.2 d_Mo_count_117
set_option maxRecDepth 100000 in
set_option maxHeartbeats 4000000 in
/-- count, a fresh house -/
theorem lf_count_2 {p : Program} {e : Env} {s : State} {m : MethodId} {below : List Frame} {meth : Method} {c : Code} (l : Launch) {b : Nat} {xs : Nat → Int32} (C0 : lw_At p s m meth c b 6 xs) {D : va_G} {kA : Nat → ClassId} (h : Nat) (h2 : Nat) (q : Nat → Nat) (qm : Nat → Nat) (j : Nat) (v2 : Int32) (hj : j < 4) (hs2 : v2.toInt < 0 ∨ ((8 : Int) - 1 < v2.toInt)) (hv1 : xs 1 = nI j) (hv2 : xs 2 = v2) {H : Heap} {locs : List Loc} {ls : Array Slot} (hK : va_K D classes (TY kA) s) (hN : nst s) (hP : va_P D classes (cat [[(h, .inr (12, [.ref (q 0), .ref (q 1), .ref (q 2), .ref (q 3), .ref (q 4), .ref (q 5), .ref (q 6), .int 0, .int ((-1)), .ref (q 9), .ref (q 10), .int 0, .int 0, .ref (q 13), .int 0, .int 0, .null, .null, .null, .null, .null]))], [(h2, .inr (13, mF qm x0Mo y0Mo))], [(qm 3, .inl (kA 0, 4, .inl (fun _ => 0)))]]) H) (hD : va_D (fun q : Nat => s.heap.size ≤ q) (cat [[(h, .inr (12, [.ref (q 0), .ref (q 1), .ref (q 2), .ref (q 3), .ref (q 4), .ref (q 5), .ref (q 6), .int 0, .int ((-1)), .ref (q 9), .ref (q 10), .int 0, .int 0, .ref (q 13), .int 0, .int 0, .null, .null, .null, .null, .null]))], [(h2, .inr (13, mF qm x0Mo y0Mo))], [(qm 3, .inl (kA 0, 4, .inl (fun _ => 0)))]])) (hS : va_S (fun q : Nat => s.heap.size ≤ q) s.heap H locs) (hl : lv_has ls 4 [(3, .int 0), (2, .ref h2), (1, .ref h), (0, .ref b)]) : W p l e room_1 s m #[Value.ref b] below meth c H locs 368 365796 (lw_Z below #[Value.ref b] s) (F0 m 279 ls []) := by
  obtain ⟨hx, hb, hr, hml, hown, hts0, hX, hbl, hlocks, hgv⟩ := id C0
  have hts : ∀ w ∈ lw_g, w.before #[Value.ref b] s = true := fun w h => hts0 w (lw_gt h)
  have X : cx p s m #[Value.ref b] meth c b_law_law 4 ret "DrawingHouseLaw" meth.name := ⟨hx, hb, hml, hown, hts, hr, hlocks, rfl⟩
  obtain ⟨A, hAe⟩ : ∃ A : Nat → Prop, A = fun q : Nat => s.heap.size ≤ q := ⟨_, rfl⟩
  have hA : ∀ q : Nat, s.heap.size ≤ q → A q := fun q h => by rw [hAe]; exact h
  have hbA : ¬ A b := by rw [hAe]; exact Nat.not_le.mpr hbl
  rw [← hAe] at hD hS
  refine lv_aload_n (pc := 279) hx hb d_law_law_279 rfl (lv_at hl 2 rfl) ?_
  refine lv_aload_n (pc := 280) hx hb d_law_law_280 rfl (lv_at hl 3 rfl) ?_
  refine lv_iload_n (pc := 281) hx hb d_law_law_281 rfl (lv_at hl 0 rfl) ?_
  refine lv_iconst (pc := 282) (v := 1) hx hb d_law_law_282 (by decide) ?_
  refine lv_iadd (pc := 283) hx hb d_law_law_283 ?_
  refine k_cst (v := 1) (by decide) ?_
  refine va_sld (pc := 284) hx hb hX hbl hbA hS (by unfold vp_in; decide) d_law_law_284 ?_
  refine k_cst (v := nI j) hv1 ?_
  refine lv_aload_n (pc := 285) hx hb d_law_law_285 rfl (lv_at hl 3 rfl) ?_
  refine lv_iload_n (pc := 286) hx hb d_law_law_286 rfl (lv_at hl 0 rfl) ?_
  refine lv_iconst (pc := 287) (v := 2) hx hb d_law_law_287 (by decide) ?_
  refine lv_iadd (pc := 288) hx hb d_law_law_288 ?_
  refine k_cst (v := 2) (by decide) ?_
  refine va_sld (pc := 289) hx hb hX hbl hbA hS (by unfold vp_in; decide) d_law_law_289 ?_
  refine k_cst (v := v2) hv2 ?_
  refine k_goI (gr := [[(h, .inr (12, [.ref (q 0), .ref (q 1), .ref (q 2), .ref (q 3), .ref (q 4), .ref (q 5), .ref (q 6), .int 0, .int ((-1)), .ref (q 9), .ref (q 10), .int 0, .int 0, .ref (q 13), .int 0, .int 0, .null, .null, .null, .null, .null]))], [(h2, .inr (13, mF qm x0Mo y0Mo))], [(qm 3, .inl (kA 0, 4, .inl (fun _ => 0)))]]) (k_rV (pc := 290) (As := [.int (nI j), .int v2]) (rest := []) X (c_Ho_count_z2 l D kA h j v2 hj hs2 H.size) rfl wm_806 wm_1 wm_803 wm_804 wm_805 2 (by decide +kernel) ⟨Nat.le_of_ble_eq_true rfl, Nat.le_of_ble_eq_true rfl⟩ rfl rfl (va_recv hK hP (ci := 12) (q0 := 0) rfl rfl) (k_pre hN hK hP hD [] [0, 1, 2] 3 rfl (by decide) rfl) rfl hl.1 rfl (Nat.le_of_ble_eq_true rfl) d_law_law_290 ⟨Nat.le_of_ble_eq_true rfl, Nat.le_of_ble_eq_true rfl⟩) hP hD hS hA [] [0, 1, 2] 3 rfl (by decide) rfl rfl (fun r1 u2 H locs hu2 hP hD hS => ?_)
  obtain ⟨hP, hD⟩ := k_left hP hD
  subst hu2
  have hP : va_P D classes (cat [[(h, .inr (12, [.ref (q 0), .ref (q 1), .ref (q 2), .ref (q 3), .ref (q 4), .ref (q 5), .ref (q 6), .int 0, .int ((-1)), .ref (q 9), .ref (q 10), .int 0, .int 0, .ref (q 13), .int 0, .int 0, .null, .null, .null, .null, .null]))], [(h2, .inr (13, mF qm x0Mo y0Mo))], [(qm 3, .inl (kA 0, 4, .inl (fun _ => 0)))]]) H := hP
  have hD : va_D A (cat [[(h, .inr (12, [.ref (q 0), .ref (q 1), .ref (q 2), .ref (q 3), .ref (q 4), .ref (q 5), .ref (q 6), .int 0, .int ((-1)), .ref (q 9), .ref (q 10), .int 0, .int 0, .ref (q 13), .int 0, .int 0, .null, .null, .null, .null, .null]))], [(h2, .inr (13, mF qm x0Mo y0Mo))], [(qm 3, .inl (kA 0, 4, .inl (fun _ => 0)))]]) := hD
  refine lv_aload_n (pc := 293) hx hb d_law_law_293 rfl (lv_at hl 1 rfl) ?_
  refine lv_aload_n (pc := 294) hx hb d_law_law_294 rfl (lv_at hl 3 rfl) ?_
  refine lv_iload_n (pc := 295) hx hb d_law_law_295 rfl (lv_at hl 0 rfl) ?_
  refine lv_iconst (pc := 296) (v := 1) hx hb d_law_law_296 (by decide) ?_
  refine lv_iadd (pc := 297) hx hb d_law_law_297 ?_
  refine k_cst (v := 1) (by decide) ?_
  refine va_sld (pc := 298) hx hb hX hbl hbA hS (by unfold vp_in; decide) d_law_law_298 ?_
  refine k_cst (v := nI j) hv1 ?_
  refine lv_aload_n (pc := 299) hx hb d_law_law_299 rfl (lv_at hl 3 rfl) ?_
  refine lv_iload_n (pc := 300) hx hb d_law_law_300 rfl (lv_at hl 0 rfl) ?_
  refine lv_iconst (pc := 301) (v := 2) hx hb d_law_law_301 (by decide) ?_
  refine lv_iadd (pc := 302) hx hb d_law_law_302 ?_
  refine k_cst (v := 2) (by decide) ?_
  refine va_sld (pc := 303) hx hb hX hbl hbA hS (by unfold vp_in; decide) d_law_law_303 ?_
  refine k_cst (v := v2) hv2 ?_
  refine k_goI (gr := [[(h, .inr (12, [.ref (q 0), .ref (q 1), .ref (q 2), .ref (q 3), .ref (q 4), .ref (q 5), .ref (q 6), .int 0, .int ((-1)), .ref (q 9), .ref (q 10), .int 0, .int 0, .ref (q 13), .int 0, .int 0, .null, .null, .null, .null, .null]))]]) (k_rV (pc := 304) (As := [.int (nI j), .int v2]) (rest := [.int ((-1))]) X (c_Mo_count_z2 l D kA h2 j v2 qm hj hs2 H.size) rfl wm_3279 wm_9 wm_3276 wm_3277 wm_3278 2 (by decide +kernel) ⟨Nat.le_of_ble_eq_true rfl, Nat.le_of_ble_eq_true rfl⟩ rfl rfl (va_recv hK hP (ci := 13) (q0 := 1) rfl rfl) (k_pre hN hK hP hD [1, 2] [0] 3 rfl (by decide) rfl) rfl hl.1 rfl (Nat.le_of_ble_eq_true rfl) d_law_law_304 ⟨Nat.le_of_ble_eq_true rfl, Nat.le_of_ble_eq_true rfl⟩) hP hD hS hA [1, 2] [0] 3 rfl (by decide) rfl rfl (fun r3 u4 H locs hu4 hP hD hS => ?_)
  obtain ⟨hP, hD⟩ := k_left hP hD
  subst hu4
  have hP : va_P D classes (cat [[(h, .inr (12, [.ref (q 0), .ref (q 1), .ref (q 2), .ref (q 3), .ref (q 4), .ref (q 5), .ref (q 6), .int 0, .int ((-1)), .ref (q 9), .ref (q 10), .int 0, .int 0, .ref (q 13), .int 0, .int 0, .null, .null, .null, .null, .null]))]]) H := hP
  have hD : va_D A (cat [[(h, .inr (12, [.ref (q 0), .ref (q 1), .ref (q 2), .ref (q 3), .ref (q 4), .ref (q 5), .ref (q 6), .int 0, .int ((-1)), .ref (q 9), .ref (q 10), .int 0, .int 0, .ref (q 13), .int 0, .int 0, .null, .null, .null, .null, .null]))]]) := hD
  refine lv_icmp_eq (pc := 307) (tgt := 1295) hx hb d_law_law_307 (by decide) (fun _ => ?_) (fun c1 => absurd (by decide) c1)
  rw [hAe] at hS
  exact law_exit l C0 (Nat.le_of_ble_eq_true rfl) (Nat.le_of_ble_eq_true rfl) hS hl
set_option maxRecDepth 100000 in
set_option maxHeartbeats 4000000 in
/-- DrawingHouse.count(II)I -/
theorem c_Ho_count_z3 (l : Launch) (D : va_G) (kA : Nat → ClassId) (a0 : Nat) (j : Nat) (a1 : Nat) (a2 : Nat) (a3 : Nat) (a4 : Nat) (a5 : Nat) (a6 : Nat) (a7 : Nat) (a8 : Nat) (a9 : Nat) (a10 : Nat) (g : Nat → Nat → Nat) (a11 : Nat) (a12 : Nat) (a13 : Nat) (a14 : Nat) (a15 : Nat) (a16 : Nat) (a17 : Nat) (a18 : Nat) (a19 : Nat) (a20 : Nat) (a21 : Nat) (a22 : Nat) (a23 : Nat) (hj : j < 4) : Ci l y_Ho_count z_Ho_count { frames := 1, cells := 0, slots := 0, locals := 20 } D classes (TY kA) [.ref a0, .int (nI j), .int 0] [[(a0, .inr (12, [.ref a1, .ref a2, .ref a3, .ref a4, .ref a5, .ref a6, .ref a7, .int 0, .int ((-1)), .ref a8, .ref a9, .int 0, .int 0, .ref a10, .int 0, .int 0, .null, .null, .null, .null, .null]))], [(a1, .inl (kA 4, 4, .inr (.inr (.inr (.inr (rr (g 0)))))))], [(g 0 j, .inr (3, [.int 0, .int 0, .int 1, .ref a11, .ref a12, .ref a13, .ref a14, .ref a15, .ref a16, .ref a17, .ref a18, .ref a19, .ref a20, .ref a21, .ref a22, .ref a23, .null, .int 0, .int 0]))]] (fun r (_ : List va_W) => r = 0) (fun u => u) 0 0 := by
  intro sz
  refine k_met (cc := b_Ho_count) (maxL := 3) (ret := (some .int)) (by decide) rfl (Nat.le_of_ble_eq_true rfl) (fun p e s m below meth c ls X hl hB => ?_)
  obtain ⟨hsz, hP, hK, hD0, hN⟩ := hB
  subst hsz
  have hD := hD0.self (sz := s.heap.size)
  generalize hAe : va_A (cat [[(a0, .inr (12, [.ref a1, .ref a2, .ref a3, .ref a4, .ref a5, .ref a6, .ref a7, .int 0, .int ((-1)), .ref a8, .ref a9, .int 0, .int 0, .ref a10, .int 0, .int 0, .null, .null, .null, .null, .null]))], [(a1, .inl (kA 4, 4, .inr (.inr (.inr (.inr (rr (g 0)))))))], [(g 0 j, .inr (3, [.int 0, .int 0, .int 1, .ref a11, .ref a12, .ref a13, .ref a14, .ref a15, .ref a16, .ref a17, .ref a18, .ref a19, .ref a20, .ref a21, .ref a22, .ref a23, .null, .int 0, .int 0]))]]) s.heap.size = A at hD ⊢
  have hA : ∀ q : Nat, s.heap.size ≤ q → A q := fun q h => by rw [← hAe]; exact Or.inr h
  have hS : va_S A s.heap s.heap [] := va_S.rf
  obtain ⟨hx, hb, hml, hown, hts, hr, hlk, hnm⟩ := id X
  have hl : lv_has ls 3 [(0, .ref a0), (1, .int (nI j)), (2, .int 0)] := hl
  have hP : va_P D classes (cat [[(a0, .inr (12, [.ref a1, .ref a2, .ref a3, .ref a4, .ref a5, .ref a6, .ref a7, .int 0, .int ((-1)), .ref a8, .ref a9, .int 0, .int 0, .ref a10, .int 0, .int 0, .null, .null, .null, .null, .null]))], [(a1, .inl (kA 4, 4, .inr (.inr (.inr (.inr (rr (g 0)))))))], [(g 0 j, .inr (3, [.int 0, .int 0, .int 1, .ref a11, .ref a12, .ref a13, .ref a14, .ref a15, .ref a16, .ref a17, .ref a18, .ref a19, .ref a20, .ref a21, .ref a22, .ref a23, .null, .int 0, .int 0]))]]) s.heap := hP
  have hK : va_K D classes (TY kA) s := hK
  refine lv_iload_n (pc := 0) hx hb d_Ho_count_0 rfl (lv_at hl 1 rfl) ?_
  refine k_goI (gr := [[(a0, .inr (12, [.ref a1, .ref a2, .ref a3, .ref a4, .ref a5, .ref a6, .ref a7, .int 0, .int ((-1)), .ref a8, .ref a9, .int 0, .int 0, .ref a10, .int 0, .int 0, .null, .null, .null, .null, .null]))], [(a1, .inl (kA 4, 4, .inr (.inr (.inr (.inr (rr (g 0)))))))], [(g 0 j, .inr (3, [.int 0, .int 0, .int 1, .ref a11, .ref a12, .ref a13, .ref a14, .ref a15, .ref a16, .ref a17, .ref a18, .ref a19, .ref a20, .ref a21, .ref a22, .ref a23, .null, .int 0, .int 0]))]]) (k_rS (pc := 1) (As := [.int (nI j)]) (rest := []) X (c_Ho_isPlace l D kA (nI j) s.heap.size) rfl wm_633 wm_1 wm_631 wm_632 1 (by decide +kernel) ⟨Nat.le_of_ble_eq_true rfl, Nat.le_of_ble_eq_true rfl⟩ rfl rfl (k_pre hN hK hP hD [] [0, 1, 2] 3 rfl (by decide) rfl) rfl hl.1 rfl (Nat.le_of_ble_eq_true rfl) d_Ho_count_1 ⟨Nat.le_of_ble_eq_true rfl, Nat.le_of_ble_eq_true rfl⟩) hP hD hS hA [] [0, 1, 2] 3 rfl (by decide) rfl rfl (fun r1 u2 H locs hu2 hP hD hS => ?_)
  subst hu2
  refine k_cst (v := 1) (place_ok hj) ?_
  have hP : va_P D classes (cat [[(a0, .inr (12, [.ref a1, .ref a2, .ref a3, .ref a4, .ref a5, .ref a6, .ref a7, .int 0, .int ((-1)), .ref a8, .ref a9, .int 0, .int 0, .ref a10, .int 0, .int 0, .null, .null, .null, .null, .null]))], [(a1, .inl (kA 4, 4, .inr (.inr (.inr (.inr (rr (g 0)))))))], [(g 0 j, .inr (3, [.int 0, .int 0, .int 1, .ref a11, .ref a12, .ref a13, .ref a14, .ref a15, .ref a16, .ref a17, .ref a18, .ref a19, .ref a20, .ref a21, .ref a22, .ref a23, .null, .int 0, .int 0]))]]) H := hP
  have hD : va_D A (cat [[(a0, .inr (12, [.ref a1, .ref a2, .ref a3, .ref a4, .ref a5, .ref a6, .ref a7, .int 0, .int ((-1)), .ref a8, .ref a9, .int 0, .int 0, .ref a10, .int 0, .int 0, .null, .null, .null, .null, .null]))], [(a1, .inl (kA 4, 4, .inr (.inr (.inr (.inr (rr (g 0)))))))], [(g 0 j, .inr (3, [.int 0, .int 0, .int 1, .ref a11, .ref a12, .ref a13, .ref a14, .ref a15, .ref a16, .ref a17, .ref a18, .ref a19, .ref a20, .ref a21, .ref a22, .ref a23, .null, .int 0, .int 0]))]]) := hD
  refine lv_if_ne (pc := 4) (tgt := 9) hx hb d_Ho_count_4 (by decide) (fun c1 => ?_) (fun c1 => absurd c1 (by decide))
  refine lv_iload_n (pc := 9) hx hb d_Ho_count_9 rfl (lv_at hl 2 rfl) ?_
  refine lv_tableIn (pc := 10) (tgt := 56) hx hb d_Ho_count_10 (by decide) (by decide) rfl (by decide) ?_
  refine lv_aload_n (pc := 56) hx hb d_Ho_count_56 rfl (lv_at hl 0 rfl) ?_
  refine k_get (pc := 57) X hK hP 0 rfl rfl i_Ho 0 (by decide) wm_555 rfl rfl d_Ho_count_57 ?_
  refine lv_iload_n (pc := 60) hx hb d_Ho_count_60 rfl (lv_at hl 1 rfl) ?_
  refine k_ald (pc := 61) hx hb hK hP 1 4 rfl rfl (j) rfl (by omega) (by decide) (rr_at (by omega)) d_Ho_count_61 ?_
  refine k_get (pc := 62) X hK hP 2 rfl rfl i_Gr 0 (by decide) wm_62 rfl rfl d_Ho_count_62 ?_
  refine W.widen (k := 0) (n := 0) (Nat.le_of_ble_eq_true rfl) (Nat.le_of_ble_eq_true rfl) ?_
  exact W.iret (v := 0) hx hb hr (fun t ht hW => ⟨⟨0, [[(a0, .inr (12, [.ref a1, .ref a2, .ref a3, .ref a4, .ref a5, .ref a6, .ref a7, .int 0, .int ((-1)), .ref a8, .ref a9, .int 0, .int 0, .ref a10, .int 0, .int 0, .null, .null, .null, .null, .null]))], [(a1, .inl (kA 4, 4, .inr (.inr (.inr (.inr (rr (g 0)))))))], [(g 0 j, .inr (3, [.int 0, .int 0, .int 1, .ref a11, .ref a12, .ref a13, .ref a14, .ref a15, .ref a16, .ref a17, .ref a18, .ref a19, .ref a20, .ref a21, .ref a22, .ref a23, .null, .int 0, .int 0]))]], rfl, rfl, by rw [ht]; exact hP, va_K.moved hW.alike hK, hD⟩, hS.F ht⟩) hS.2.2 d_Ho_count_65
set_option maxRecDepth 100000 in
set_option maxHeartbeats 4000000 in
/-- DrawingHouseModel.count(II)I -/
theorem c_Mo_count_z3 (l : Launch) (D : va_G) (kA : Nat → ClassId) (a0 : Nat) (j : Nat) (qm : Nat → Nat) (hj : j < 4) : Ci l y_Mo_count z_Mo_count { frames := 2, cells := 0, slots := 0, locals := 42 } D classes (TY kA) [.ref a0, .int (nI j), .int 0] [[(a0, .inr (13, mF qm x0Mo y0Mo))], [(qm 3, .inl (kA 0, 4, .inl (fun _ => 0)))], [(qm 2, .inl (kA 0, 66836, .inl all0))]] (fun r (_ : List va_W) => r = 0) (fun u => u) 0 0 := by
  intro sz
  refine k_met (cc := b_Mo_count) (maxL := 3) (ret := (some .int)) (by decide) rfl (Nat.le_of_ble_eq_true rfl) (fun p e s m below meth c ls X hl hB => ?_)
  obtain ⟨hsz, hP, hK, hD0, hN⟩ := hB
  subst hsz
  have hD := hD0.self (sz := s.heap.size)
  generalize hAe : va_A (cat [[(a0, .inr (13, mF qm x0Mo y0Mo))], [(qm 3, .inl (kA 0, 4, .inl (fun _ => 0)))], [(qm 2, .inl (kA 0, 66836, .inl all0))]]) s.heap.size = A at hD ⊢
  have hA : ∀ q : Nat, s.heap.size ≤ q → A q := fun q h => by rw [← hAe]; exact Or.inr h
  have hS : va_S A s.heap s.heap [] := va_S.rf
  obtain ⟨hx, hb, hml, hown, hts, hr, hlk, hnm⟩ := id X
  have hl : lv_has ls 3 [(0, .ref a0), (1, .int (nI j)), (2, .int 0)] := hl
  have hP : va_P D classes (cat [[(a0, .inr (13, mF qm x0Mo y0Mo))], [(qm 3, .inl (kA 0, 4, .inl (fun _ => 0)))], [(qm 2, .inl (kA 0, 66836, .inl all0))]]) s.heap := hP
  have hK : va_K D classes (TY kA) s := hK
  refine lv_iload_n (pc := 0) hx hb d_Mo_count_0 rfl (lv_at hl 1 rfl) ?_
  refine k_goI (gr := [[(a0, .inr (13, mF qm x0Mo y0Mo))], [(qm 3, .inl (kA 0, 4, .inl (fun _ => 0)))], [(qm 2, .inl (kA 0, 66836, .inl all0))]]) (k_rS (pc := 1) (As := [.int (nI j)]) (rest := []) X (c_Mo_isPlace l D kA (nI j) s.heap.size) rfl wm_2978 wm_9 wm_2976 wm_2977 1 (by decide +kernel) ⟨Nat.le_of_ble_eq_true rfl, Nat.le_of_ble_eq_true rfl⟩ rfl rfl (k_pre hN hK hP hD [] [0, 1, 2] 3 rfl (by decide) rfl) rfl hl.1 rfl (Nat.le_of_ble_eq_true rfl) d_Mo_count_1 ⟨Nat.le_of_ble_eq_true rfl, Nat.le_of_ble_eq_true rfl⟩) hP hD hS hA [] [0, 1, 2] 3 rfl (by decide) rfl rfl (fun r1 u2 H locs hu2 hP hD hS => ?_)
  subst hu2
  refine k_cst (v := 1) (placeM_ok hj) ?_
  have hP : va_P D classes (cat [[(a0, .inr (13, mF qm x0Mo y0Mo))], [(qm 3, .inl (kA 0, 4, .inl (fun _ => 0)))], [(qm 2, .inl (kA 0, 66836, .inl all0))]]) H := hP
  have hD : va_D A (cat [[(a0, .inr (13, mF qm x0Mo y0Mo))], [(qm 3, .inl (kA 0, 4, .inl (fun _ => 0)))], [(qm 2, .inl (kA 0, 66836, .inl all0))]]) := hD
  refine lv_if_ne (pc := 4) (tgt := 9) hx hb d_Mo_count_4 (by decide) (fun c1 => ?_) (fun c1 => absurd c1 (by decide))
  refine lv_aload_n (pc := 9) hx hb d_Mo_count_9 rfl (lv_at hl 0 rfl) ?_
  refine lv_iload_n (pc := 10) hx hb d_Mo_count_10 rfl (lv_at hl 1 rfl) ?_
  refine k_goV (gr := [[(qm 2, .inl (kA 0, 66836, .inl all0))]]) (k_rV (pc := 11) (As := [.int (nI j)]) (rest := []) X (c_Mo_take_z1 l D kA a0 j qm hj H.size) rfl wm_3091 wm_9 wm_3088 wm_3090 wv_14_2 1 (by decide +kernel) ⟨Nat.le_of_ble_eq_true rfl, Nat.le_of_ble_eq_true rfl⟩ rfl rfl (va_recv hK hP (ci := 13) (q0 := 0) rfl rfl) (k_pre hN hK hP hD [0, 1] [2] 3 rfl (by decide) rfl) rfl hl.1 rfl (Nat.le_of_ble_eq_true rfl) d_Mo_count_11 ⟨Nat.le_of_ble_eq_true rfl, Nat.le_of_ble_eq_true rfl⟩) hP hD hS hA [0, 1] [2] 3 rfl (by decide) rfl rfl (fun u3 H locs hu3 hP hD hS => ?_)
  have hP : va_P D classes (cat [[(qm 2, .inl (kA 0, 66836, .inl all0))], [(a0, .inr (13, mF qm (va_up x0Mo 5 (nI (539 * (31 * j + 0)))) y0Mo))], [(qm 3, .inl (kA 0, 4, .inl (fun _ => 0)))]]) H := hP
  have hD : va_D A (cat [[(qm 2, .inl (kA 0, 66836, .inl all0))], [(a0, .inr (13, mF qm (va_up x0Mo 5 (nI (539 * (31 * j + 0)))) y0Mo))], [(qm 3, .inl (kA 0, 4, .inl (fun _ => 0)))]]) := hD
  refine lv_iload_n (pc := 14) hx hb d_Mo_count_14 rfl (lv_at hl 2 rfl) ?_
  refine lv_tableIn (pc := 15) (tgt := 60) hx hb d_Mo_count_15 (by decide) (by decide) rfl (by decide) ?_
  refine lv_aload_n (pc := 60) hx hb d_Mo_count_60 rfl (lv_at hl 0 rfl) ?_
  refine k_goI (gr := [[(qm 3, .inl (kA 0, 4, .inl (fun _ => 0)))]]) (k_rV (pc := 61) (As := []) (rest := []) X (c_Mo_nodes_z1 l D kA a0 qm j hj H.size) rfl wm_3025 wm_9 wm_3022 wm_3024 wv_13_3 0 (by decide +kernel) ⟨Nat.le_of_ble_eq_true rfl, Nat.le_of_ble_eq_true rfl⟩ rfl rfl (va_recv hK hP (ci := 13) (q0 := 1) rfl rfl) (k_pre hN hK hP hD [1, 0] [2] 3 rfl (by decide) rfl) rfl hl.1 rfl (Nat.le_of_ble_eq_true rfl) d_Mo_count_61 ⟨Nat.le_of_ble_eq_true rfl, Nat.le_of_ble_eq_true rfl⟩) hP hD hS hA [1, 0] [2] 3 rfl (by decide) rfl rfl (fun r4 u5 H locs hu5 hP hD hS => ?_)
  subst hu5
  have hP : va_P D classes (cat [[(qm 3, .inl (kA 0, 4, .inl (fun _ => 0)))], [(a0, .inr (13, mF qm (va_up x0Mo 5 (nI (539 * (31 * j + 0)))) y0Mo))], [(qm 2, .inl (kA 0, 66836, .inl all0))]]) H := hP
  have hD : va_D A (cat [[(qm 3, .inl (kA 0, 4, .inl (fun _ => 0)))], [(a0, .inr (13, mF qm (va_up x0Mo 5 (nI (539 * (31 * j + 0)))) y0Mo))], [(qm 2, .inl (kA 0, 66836, .inl all0))]]) := hD
  refine W.widen (k := 0) (n := 0) (Nat.le_of_ble_eq_true rfl) (Nat.le_of_ble_eq_true rfl) ?_
  exact W.iret (v := 0) hx hb hr (fun t ht hW => ⟨⟨0, [[(qm 3, .inl (kA 0, 4, .inl (fun _ => 0)))], [(a0, .inr (13, mF qm (va_up x0Mo 5 (nI (539 * (31 * j + 0)))) y0Mo))], [(qm 2, .inl (kA 0, 66836, .inl all0))]], rfl, rfl, by rw [ht]; exact hP, va_K.moved hW.alike hK, hD⟩, hS.F ht⟩) hS.2.2 d_Mo_count_64
set_option maxRecDepth 100000 in
set_option maxHeartbeats 4000000 in
/-- count, a fresh house -/
theorem lf_count_3 {p : Program} {e : Env} {s : State} {m : MethodId} {below : List Frame} {meth : Method} {c : Code} (l : Launch) {b : Nat} {xs : Nat → Int32} (C0 : lw_At p s m meth c b 6 xs) {D : va_G} {kA : Nat → ClassId} (h : Nat) (h2 : Nat) (q : Nat → Nat) (qg : Nat → Nat) (qm : Nat → Nat) (g : Nat → Nat → Nat) (j : Nat) (hj : j < 4) (hv1 : xs 1 = nI j) (hv2 : xs 2 = 0) {H : Heap} {locs : List Loc} {ls : Array Slot} (hK : va_K D classes (TY kA) s) (hN : nst s) (hP : va_P D classes (cat [[(h, .inr (12, [.ref (q 0), .ref (q 1), .ref (q 2), .ref (q 3), .ref (q 4), .ref (q 5), .ref (q 6), .int 0, .int ((-1)), .ref (q 9), .ref (q 10), .int 0, .int 0, .ref (q 13), .int 0, .int 0, .null, .null, .null, .null, .null]))], [(q 0, .inl (kA 4, 4, .inr (.inr (.inr (.inr (rr (g 0)))))))], [(g 0 j, .inr (3, [.int 0, .int 0, .int 1, .ref (qg 3), .ref (qg 4), .ref (qg 5), .ref (qg 6), .ref (qg 7), .ref (qg 8), .ref (qg 9), .ref (qg 10), .ref (qg 11), .ref (qg 12), .ref (qg 13), .ref (qg 14), .ref (qg 15), .null, .int 0, .int 0]))], [(h2, .inr (13, mF qm x0Mo y0Mo))], [(qm 3, .inl (kA 0, 4, .inl (fun _ => 0)))], [(qm 2, .inl (kA 0, 66836, .inl all0))]]) H) (hD : va_D (fun q : Nat => s.heap.size ≤ q) (cat [[(h, .inr (12, [.ref (q 0), .ref (q 1), .ref (q 2), .ref (q 3), .ref (q 4), .ref (q 5), .ref (q 6), .int 0, .int ((-1)), .ref (q 9), .ref (q 10), .int 0, .int 0, .ref (q 13), .int 0, .int 0, .null, .null, .null, .null, .null]))], [(q 0, .inl (kA 4, 4, .inr (.inr (.inr (.inr (rr (g 0)))))))], [(g 0 j, .inr (3, [.int 0, .int 0, .int 1, .ref (qg 3), .ref (qg 4), .ref (qg 5), .ref (qg 6), .ref (qg 7), .ref (qg 8), .ref (qg 9), .ref (qg 10), .ref (qg 11), .ref (qg 12), .ref (qg 13), .ref (qg 14), .ref (qg 15), .null, .int 0, .int 0]))], [(h2, .inr (13, mF qm x0Mo y0Mo))], [(qm 3, .inl (kA 0, 4, .inl (fun _ => 0)))], [(qm 2, .inl (kA 0, 66836, .inl all0))]])) (hS : va_S (fun q : Nat => s.heap.size ≤ q) s.heap H locs) (hl : lv_has ls 4 [(3, .int 0), (2, .ref h2), (1, .ref h), (0, .ref b)]) : W p l e room_1 s m #[Value.ref b] below meth c H locs 368 365796 (lw_Z below #[Value.ref b] s) (F0 m 279 ls []) := by
  obtain ⟨hx, hb, hr, hml, hown, hts0, hX, hbl, hlocks, hgv⟩ := id C0
  have hts : ∀ w ∈ lw_g, w.before #[Value.ref b] s = true := fun w h => hts0 w (lw_gt h)
  have X : cx p s m #[Value.ref b] meth c b_law_law 4 ret "DrawingHouseLaw" meth.name := ⟨hx, hb, hml, hown, hts, hr, hlocks, rfl⟩
  obtain ⟨A, hAe⟩ : ∃ A : Nat → Prop, A = fun q : Nat => s.heap.size ≤ q := ⟨_, rfl⟩
  have hA : ∀ q : Nat, s.heap.size ≤ q → A q := fun q h => by rw [hAe]; exact h
  have hbA : ¬ A b := by rw [hAe]; exact Nat.not_le.mpr hbl
  rw [← hAe] at hD hS
  refine lv_aload_n (pc := 279) hx hb d_law_law_279 rfl (lv_at hl 2 rfl) ?_
  refine lv_aload_n (pc := 280) hx hb d_law_law_280 rfl (lv_at hl 3 rfl) ?_
  refine lv_iload_n (pc := 281) hx hb d_law_law_281 rfl (lv_at hl 0 rfl) ?_
  refine lv_iconst (pc := 282) (v := 1) hx hb d_law_law_282 (by decide) ?_
  refine lv_iadd (pc := 283) hx hb d_law_law_283 ?_
  refine k_cst (v := 1) (by decide) ?_
  refine va_sld (pc := 284) hx hb hX hbl hbA hS (by unfold vp_in; decide) d_law_law_284 ?_
  refine k_cst (v := nI j) hv1 ?_
  refine lv_aload_n (pc := 285) hx hb d_law_law_285 rfl (lv_at hl 3 rfl) ?_
  refine lv_iload_n (pc := 286) hx hb d_law_law_286 rfl (lv_at hl 0 rfl) ?_
  refine lv_iconst (pc := 287) (v := 2) hx hb d_law_law_287 (by decide) ?_
  refine lv_iadd (pc := 288) hx hb d_law_law_288 ?_
  refine k_cst (v := 2) (by decide) ?_
  refine va_sld (pc := 289) hx hb hX hbl hbA hS (by unfold vp_in; decide) d_law_law_289 ?_
  refine k_cst (v := 0) hv2 ?_
  refine k_goI (gr := [[(h2, .inr (13, mF qm x0Mo y0Mo))], [(qm 3, .inl (kA 0, 4, .inl (fun _ => 0)))], [(qm 2, .inl (kA 0, 66836, .inl all0))]]) (k_rV (pc := 290) (As := [.int (nI j), .int 0]) (rest := []) X (c_Ho_count_z3 l D kA h j (q 0) (q 1) (q 2) (q 3) (q 4) (q 5) (q 6) (q 9) (q 10) (q 13) g (qg 3) (qg 4) (qg 5) (qg 6) (qg 7) (qg 8) (qg 9) (qg 10) (qg 11) (qg 12) (qg 13) (qg 14) (qg 15) hj H.size) rfl wm_806 wm_1 wm_803 wm_804 wm_805 2 (by decide +kernel) ⟨Nat.le_of_ble_eq_true rfl, Nat.le_of_ble_eq_true rfl⟩ rfl rfl (va_recv hK hP (ci := 12) (q0 := 0) rfl rfl) (k_pre hN hK hP hD [0, 1, 2] [3, 4, 5] 6 rfl (by decide) rfl) rfl hl.1 rfl (Nat.le_of_ble_eq_true rfl) d_law_law_290 ⟨Nat.le_of_ble_eq_true rfl, Nat.le_of_ble_eq_true rfl⟩) hP hD hS hA [0, 1, 2] [3, 4, 5] 6 rfl (by decide) rfl rfl (fun r1 u2 H locs hu2 hP hD hS => ?_)
  obtain ⟨hP, hD⟩ := k_left hP hD
  subst hu2
  have hP : va_P D classes (cat [[(h2, .inr (13, mF qm x0Mo y0Mo))], [(qm 3, .inl (kA 0, 4, .inl (fun _ => 0)))], [(qm 2, .inl (kA 0, 66836, .inl all0))]]) H := hP
  have hD : va_D A (cat [[(h2, .inr (13, mF qm x0Mo y0Mo))], [(qm 3, .inl (kA 0, 4, .inl (fun _ => 0)))], [(qm 2, .inl (kA 0, 66836, .inl all0))]]) := hD
  refine lv_aload_n (pc := 293) hx hb d_law_law_293 rfl (lv_at hl 1 rfl) ?_
  refine lv_aload_n (pc := 294) hx hb d_law_law_294 rfl (lv_at hl 3 rfl) ?_
  refine lv_iload_n (pc := 295) hx hb d_law_law_295 rfl (lv_at hl 0 rfl) ?_
  refine lv_iconst (pc := 296) (v := 1) hx hb d_law_law_296 (by decide) ?_
  refine lv_iadd (pc := 297) hx hb d_law_law_297 ?_
  refine k_cst (v := 1) (by decide) ?_
  refine va_sld (pc := 298) hx hb hX hbl hbA hS (by unfold vp_in; decide) d_law_law_298 ?_
  refine k_cst (v := nI j) hv1 ?_
  refine lv_aload_n (pc := 299) hx hb d_law_law_299 rfl (lv_at hl 3 rfl) ?_
  refine lv_iload_n (pc := 300) hx hb d_law_law_300 rfl (lv_at hl 0 rfl) ?_
  refine lv_iconst (pc := 301) (v := 2) hx hb d_law_law_301 (by decide) ?_
  refine lv_iadd (pc := 302) hx hb d_law_law_302 ?_
  refine k_cst (v := 2) (by decide) ?_
  refine va_sld (pc := 303) hx hb hX hbl hbA hS (by unfold vp_in; decide) d_law_law_303 ?_
  refine k_cst (v := 0) hv2 ?_
  refine k_goI (gr := []) (k_rV (pc := 304) (As := [.int (nI j), .int 0]) (rest := [.int 0]) X (c_Mo_count_z3 l D kA h2 j qm hj H.size) rfl wm_3279 wm_9 wm_3276 wm_3277 wm_3278 2 (by decide +kernel) ⟨Nat.le_of_ble_eq_true rfl, Nat.le_of_ble_eq_true rfl⟩ rfl rfl (va_recv hK hP (ci := 13) (q0 := 0) rfl rfl) (k_pre hN hK hP hD [0, 1, 2] [] 3 rfl (by decide) rfl) rfl hl.1 rfl (Nat.le_of_ble_eq_true rfl) d_law_law_304 ⟨Nat.le_of_ble_eq_true rfl, Nat.le_of_ble_eq_true rfl⟩) hP hD hS hA [0, 1, 2] [] 3 rfl (by decide) rfl rfl (fun r3 u4 H locs hu4 hP hD hS => ?_)
  obtain ⟨hP, hD⟩ := k_left hP hD
  subst hu4
  have hP : va_P D classes (cat []) H := hP
  have hD : va_D A (cat []) := hD
  refine lv_icmp_eq (pc := 307) (tgt := 1295) hx hb d_law_law_307 (by decide) (fun _ => ?_) (fun c1 => absurd (by decide) c1)
  rw [hAe] at hS
  exact law_exit l C0 (Nat.le_of_ble_eq_true rfl) (Nat.le_of_ble_eq_true rfl) hS hl
set_option maxRecDepth 100000 in
set_option maxHeartbeats 4000000 in
/-- DrawingHouse.count(II)I -/
theorem c_Ho_count_z4 (l : Launch) (D : va_G) (kA : Nat → ClassId) (a0 : Nat) (j : Nat) (a1 : Nat) (a2 : Nat) (a3 : Nat) (a4 : Nat) (a5 : Nat) (a6 : Nat) (a7 : Nat) (a8 : Nat) (a9 : Nat) (a10 : Nat) (g : Nat → Nat → Nat) (a11 : Nat) (a12 : Nat) (a13 : Nat) (a14 : Nat) (a15 : Nat) (a16 : Nat) (a17 : Nat) (a18 : Nat) (a19 : Nat) (a20 : Nat) (a21 : Nat) (a22 : Nat) (a23 : Nat) (hj : j < 4) : Ci l y_Ho_count z_Ho_count { frames := 1, cells := 0, slots := 0, locals := 20 } D classes (TY kA) [.ref a0, .int (nI j), .int 1] [[(a0, .inr (12, [.ref a1, .ref a2, .ref a3, .ref a4, .ref a5, .ref a6, .ref a7, .int 0, .int ((-1)), .ref a8, .ref a9, .int 0, .int 0, .ref a10, .int 0, .int 0, .null, .null, .null, .null, .null]))], [(a1, .inl (kA 4, 4, .inr (.inr (.inr (.inr (rr (g 0)))))))], [(g 0 j, .inr (3, [.int 0, .int 0, .int 1, .ref a11, .ref a12, .ref a13, .ref a14, .ref a15, .ref a16, .ref a17, .ref a18, .ref a19, .ref a20, .ref a21, .ref a22, .ref a23, .null, .int 0, .int 0]))]] (fun r (_ : List va_W) => r = 0) (fun u => u) 0 0 := by
  intro sz
  refine k_met (cc := b_Ho_count) (maxL := 3) (ret := (some .int)) (by decide) rfl (Nat.le_of_ble_eq_true rfl) (fun p e s m below meth c ls X hl hB => ?_)
  obtain ⟨hsz, hP, hK, hD0, hN⟩ := hB
  subst hsz
  have hD := hD0.self (sz := s.heap.size)
  generalize hAe : va_A (cat [[(a0, .inr (12, [.ref a1, .ref a2, .ref a3, .ref a4, .ref a5, .ref a6, .ref a7, .int 0, .int ((-1)), .ref a8, .ref a9, .int 0, .int 0, .ref a10, .int 0, .int 0, .null, .null, .null, .null, .null]))], [(a1, .inl (kA 4, 4, .inr (.inr (.inr (.inr (rr (g 0)))))))], [(g 0 j, .inr (3, [.int 0, .int 0, .int 1, .ref a11, .ref a12, .ref a13, .ref a14, .ref a15, .ref a16, .ref a17, .ref a18, .ref a19, .ref a20, .ref a21, .ref a22, .ref a23, .null, .int 0, .int 0]))]]) s.heap.size = A at hD ⊢
  have hA : ∀ q : Nat, s.heap.size ≤ q → A q := fun q h => by rw [← hAe]; exact Or.inr h
  have hS : va_S A s.heap s.heap [] := va_S.rf
  obtain ⟨hx, hb, hml, hown, hts, hr, hlk, hnm⟩ := id X
  have hl : lv_has ls 3 [(0, .ref a0), (1, .int (nI j)), (2, .int 1)] := hl
  have hP : va_P D classes (cat [[(a0, .inr (12, [.ref a1, .ref a2, .ref a3, .ref a4, .ref a5, .ref a6, .ref a7, .int 0, .int ((-1)), .ref a8, .ref a9, .int 0, .int 0, .ref a10, .int 0, .int 0, .null, .null, .null, .null, .null]))], [(a1, .inl (kA 4, 4, .inr (.inr (.inr (.inr (rr (g 0)))))))], [(g 0 j, .inr (3, [.int 0, .int 0, .int 1, .ref a11, .ref a12, .ref a13, .ref a14, .ref a15, .ref a16, .ref a17, .ref a18, .ref a19, .ref a20, .ref a21, .ref a22, .ref a23, .null, .int 0, .int 0]))]]) s.heap := hP
  have hK : va_K D classes (TY kA) s := hK
  refine lv_iload_n (pc := 0) hx hb d_Ho_count_0 rfl (lv_at hl 1 rfl) ?_
  refine k_goI (gr := [[(a0, .inr (12, [.ref a1, .ref a2, .ref a3, .ref a4, .ref a5, .ref a6, .ref a7, .int 0, .int ((-1)), .ref a8, .ref a9, .int 0, .int 0, .ref a10, .int 0, .int 0, .null, .null, .null, .null, .null]))], [(a1, .inl (kA 4, 4, .inr (.inr (.inr (.inr (rr (g 0)))))))], [(g 0 j, .inr (3, [.int 0, .int 0, .int 1, .ref a11, .ref a12, .ref a13, .ref a14, .ref a15, .ref a16, .ref a17, .ref a18, .ref a19, .ref a20, .ref a21, .ref a22, .ref a23, .null, .int 0, .int 0]))]]) (k_rS (pc := 1) (As := [.int (nI j)]) (rest := []) X (c_Ho_isPlace l D kA (nI j) s.heap.size) rfl wm_633 wm_1 wm_631 wm_632 1 (by decide +kernel) ⟨Nat.le_of_ble_eq_true rfl, Nat.le_of_ble_eq_true rfl⟩ rfl rfl (k_pre hN hK hP hD [] [0, 1, 2] 3 rfl (by decide) rfl) rfl hl.1 rfl (Nat.le_of_ble_eq_true rfl) d_Ho_count_1 ⟨Nat.le_of_ble_eq_true rfl, Nat.le_of_ble_eq_true rfl⟩) hP hD hS hA [] [0, 1, 2] 3 rfl (by decide) rfl rfl (fun r1 u2 H locs hu2 hP hD hS => ?_)
  subst hu2
  refine k_cst (v := 1) (place_ok hj) ?_
  have hP : va_P D classes (cat [[(a0, .inr (12, [.ref a1, .ref a2, .ref a3, .ref a4, .ref a5, .ref a6, .ref a7, .int 0, .int ((-1)), .ref a8, .ref a9, .int 0, .int 0, .ref a10, .int 0, .int 0, .null, .null, .null, .null, .null]))], [(a1, .inl (kA 4, 4, .inr (.inr (.inr (.inr (rr (g 0)))))))], [(g 0 j, .inr (3, [.int 0, .int 0, .int 1, .ref a11, .ref a12, .ref a13, .ref a14, .ref a15, .ref a16, .ref a17, .ref a18, .ref a19, .ref a20, .ref a21, .ref a22, .ref a23, .null, .int 0, .int 0]))]]) H := hP
  have hD : va_D A (cat [[(a0, .inr (12, [.ref a1, .ref a2, .ref a3, .ref a4, .ref a5, .ref a6, .ref a7, .int 0, .int ((-1)), .ref a8, .ref a9, .int 0, .int 0, .ref a10, .int 0, .int 0, .null, .null, .null, .null, .null]))], [(a1, .inl (kA 4, 4, .inr (.inr (.inr (.inr (rr (g 0)))))))], [(g 0 j, .inr (3, [.int 0, .int 0, .int 1, .ref a11, .ref a12, .ref a13, .ref a14, .ref a15, .ref a16, .ref a17, .ref a18, .ref a19, .ref a20, .ref a21, .ref a22, .ref a23, .null, .int 0, .int 0]))]]) := hD
  refine lv_if_ne (pc := 4) (tgt := 9) hx hb d_Ho_count_4 (by decide) (fun c1 => ?_) (fun c1 => absurd c1 (by decide))
  refine lv_iload_n (pc := 9) hx hb d_Ho_count_9 rfl (lv_at hl 2 rfl) ?_
  refine lv_tableIn (pc := 10) (tgt := 66) hx hb d_Ho_count_10 (by decide) (by decide) rfl (by decide) ?_
  refine lv_aload_n (pc := 66) hx hb d_Ho_count_66 rfl (lv_at hl 0 rfl) ?_
  refine k_get (pc := 67) X hK hP 0 rfl rfl i_Ho 0 (by decide) wm_555 rfl rfl d_Ho_count_67 ?_
  refine lv_iload_n (pc := 70) hx hb d_Ho_count_70 rfl (lv_at hl 1 rfl) ?_
  refine k_ald (pc := 71) hx hb hK hP 1 4 rfl rfl (j) rfl (by omega) (by decide) (rr_at (by omega)) d_Ho_count_71 ?_
  refine k_get (pc := 72) X hK hP 2 rfl rfl i_Gr 1 (by decide) wm_73 rfl rfl d_Ho_count_72 ?_
  refine W.widen (k := 0) (n := 0) (Nat.le_of_ble_eq_true rfl) (Nat.le_of_ble_eq_true rfl) ?_
  exact W.iret (v := 0) hx hb hr (fun t ht hW => ⟨⟨0, [[(a0, .inr (12, [.ref a1, .ref a2, .ref a3, .ref a4, .ref a5, .ref a6, .ref a7, .int 0, .int ((-1)), .ref a8, .ref a9, .int 0, .int 0, .ref a10, .int 0, .int 0, .null, .null, .null, .null, .null]))], [(a1, .inl (kA 4, 4, .inr (.inr (.inr (.inr (rr (g 0)))))))], [(g 0 j, .inr (3, [.int 0, .int 0, .int 1, .ref a11, .ref a12, .ref a13, .ref a14, .ref a15, .ref a16, .ref a17, .ref a18, .ref a19, .ref a20, .ref a21, .ref a22, .ref a23, .null, .int 0, .int 0]))]], rfl, rfl, by rw [ht]; exact hP, va_K.moved hW.alike hK, hD⟩, hS.F ht⟩) hS.2.2 d_Ho_count_75
set_option maxRecDepth 100000 in
set_option maxHeartbeats 4000000 in
/-- DrawingHouseModel.count(II)I -/
theorem c_Mo_count_z4 (l : Launch) (D : va_G) (kA : Nat → ClassId) (a0 : Nat) (j : Nat) (qm : Nat → Nat) (hj : j < 4) : Ci l y_Mo_count z_Mo_count { frames := 2, cells := 0, slots := 0, locals := 42 } D classes (TY kA) [.ref a0, .int (nI j), .int 1] [[(a0, .inr (13, mF qm x0Mo y0Mo))], [(qm 3, .inl (kA 0, 4, .inl (fun _ => 0)))], [(qm 2, .inl (kA 0, 66836, .inl all0))]] (fun r (_ : List va_W) => r = 0) (fun u => u) 0 0 := by
  intro sz
  refine k_met (cc := b_Mo_count) (maxL := 3) (ret := (some .int)) (by decide) rfl (Nat.le_of_ble_eq_true rfl) (fun p e s m below meth c ls X hl hB => ?_)
  obtain ⟨hsz, hP, hK, hD0, hN⟩ := hB
  subst hsz
  have hD := hD0.self (sz := s.heap.size)
  generalize hAe : va_A (cat [[(a0, .inr (13, mF qm x0Mo y0Mo))], [(qm 3, .inl (kA 0, 4, .inl (fun _ => 0)))], [(qm 2, .inl (kA 0, 66836, .inl all0))]]) s.heap.size = A at hD ⊢
  have hA : ∀ q : Nat, s.heap.size ≤ q → A q := fun q h => by rw [← hAe]; exact Or.inr h
  have hS : va_S A s.heap s.heap [] := va_S.rf
  obtain ⟨hx, hb, hml, hown, hts, hr, hlk, hnm⟩ := id X
  have hl : lv_has ls 3 [(0, .ref a0), (1, .int (nI j)), (2, .int 1)] := hl
  have hP : va_P D classes (cat [[(a0, .inr (13, mF qm x0Mo y0Mo))], [(qm 3, .inl (kA 0, 4, .inl (fun _ => 0)))], [(qm 2, .inl (kA 0, 66836, .inl all0))]]) s.heap := hP
  have hK : va_K D classes (TY kA) s := hK
  refine lv_iload_n (pc := 0) hx hb d_Mo_count_0 rfl (lv_at hl 1 rfl) ?_
  refine k_goI (gr := [[(a0, .inr (13, mF qm x0Mo y0Mo))], [(qm 3, .inl (kA 0, 4, .inl (fun _ => 0)))], [(qm 2, .inl (kA 0, 66836, .inl all0))]]) (k_rS (pc := 1) (As := [.int (nI j)]) (rest := []) X (c_Mo_isPlace l D kA (nI j) s.heap.size) rfl wm_2978 wm_9 wm_2976 wm_2977 1 (by decide +kernel) ⟨Nat.le_of_ble_eq_true rfl, Nat.le_of_ble_eq_true rfl⟩ rfl rfl (k_pre hN hK hP hD [] [0, 1, 2] 3 rfl (by decide) rfl) rfl hl.1 rfl (Nat.le_of_ble_eq_true rfl) d_Mo_count_1 ⟨Nat.le_of_ble_eq_true rfl, Nat.le_of_ble_eq_true rfl⟩) hP hD hS hA [] [0, 1, 2] 3 rfl (by decide) rfl rfl (fun r1 u2 H locs hu2 hP hD hS => ?_)
  subst hu2
  refine k_cst (v := 1) (placeM_ok hj) ?_
  have hP : va_P D classes (cat [[(a0, .inr (13, mF qm x0Mo y0Mo))], [(qm 3, .inl (kA 0, 4, .inl (fun _ => 0)))], [(qm 2, .inl (kA 0, 66836, .inl all0))]]) H := hP
  have hD : va_D A (cat [[(a0, .inr (13, mF qm x0Mo y0Mo))], [(qm 3, .inl (kA 0, 4, .inl (fun _ => 0)))], [(qm 2, .inl (kA 0, 66836, .inl all0))]]) := hD
  refine lv_if_ne (pc := 4) (tgt := 9) hx hb d_Mo_count_4 (by decide) (fun c1 => ?_) (fun c1 => absurd c1 (by decide))
  refine lv_aload_n (pc := 9) hx hb d_Mo_count_9 rfl (lv_at hl 0 rfl) ?_
  refine lv_iload_n (pc := 10) hx hb d_Mo_count_10 rfl (lv_at hl 1 rfl) ?_
  refine k_goV (gr := [[(qm 2, .inl (kA 0, 66836, .inl all0))]]) (k_rV (pc := 11) (As := [.int (nI j)]) (rest := []) X (c_Mo_take_z1 l D kA a0 j qm hj H.size) rfl wm_3091 wm_9 wm_3088 wm_3090 wv_14_2 1 (by decide +kernel) ⟨Nat.le_of_ble_eq_true rfl, Nat.le_of_ble_eq_true rfl⟩ rfl rfl (va_recv hK hP (ci := 13) (q0 := 0) rfl rfl) (k_pre hN hK hP hD [0, 1] [2] 3 rfl (by decide) rfl) rfl hl.1 rfl (Nat.le_of_ble_eq_true rfl) d_Mo_count_11 ⟨Nat.le_of_ble_eq_true rfl, Nat.le_of_ble_eq_true rfl⟩) hP hD hS hA [0, 1] [2] 3 rfl (by decide) rfl rfl (fun u3 H locs hu3 hP hD hS => ?_)
  have hP : va_P D classes (cat [[(qm 2, .inl (kA 0, 66836, .inl all0))], [(a0, .inr (13, mF qm (va_up x0Mo 5 (nI (539 * (31 * j + 0)))) y0Mo))], [(qm 3, .inl (kA 0, 4, .inl (fun _ => 0)))]]) H := hP
  have hD : va_D A (cat [[(qm 2, .inl (kA 0, 66836, .inl all0))], [(a0, .inr (13, mF qm (va_up x0Mo 5 (nI (539 * (31 * j + 0)))) y0Mo))], [(qm 3, .inl (kA 0, 4, .inl (fun _ => 0)))]]) := hD
  refine lv_iload_n (pc := 14) hx hb d_Mo_count_14 rfl (lv_at hl 2 rfl) ?_
  refine lv_tableIn (pc := 15) (tgt := 65) hx hb d_Mo_count_15 (by decide) (by decide) rfl (by decide) ?_
  refine lv_aload_n (pc := 65) hx hb d_Mo_count_65 rfl (lv_at hl 0 rfl) ?_
  refine k_goI (gr := [[(qm 3, .inl (kA 0, 4, .inl (fun _ => 0)))]]) (k_rV (pc := 66) (As := []) (rest := []) X (c_Mo_edges_z1 l D kA a0 qm j hj H.size) rfl wm_3037 wm_9 wm_3034 wm_3036 wv_13_6 0 (by decide +kernel) ⟨Nat.le_of_ble_eq_true rfl, Nat.le_of_ble_eq_true rfl⟩ rfl rfl (va_recv hK hP (ci := 13) (q0 := 1) rfl rfl) (k_pre hN hK hP hD [1, 0] [2] 3 rfl (by decide) rfl) rfl hl.1 rfl (Nat.le_of_ble_eq_true rfl) d_Mo_count_66 ⟨Nat.le_of_ble_eq_true rfl, Nat.le_of_ble_eq_true rfl⟩) hP hD hS hA [1, 0] [2] 3 rfl (by decide) rfl rfl (fun r4 u5 H locs hu5 hP hD hS => ?_)
  subst hu5
  have hP : va_P D classes (cat [[(qm 3, .inl (kA 0, 4, .inl (fun _ => 0)))], [(a0, .inr (13, mF qm (va_up x0Mo 5 (nI (539 * (31 * j + 0)))) y0Mo))], [(qm 2, .inl (kA 0, 66836, .inl all0))]]) H := hP
  have hD : va_D A (cat [[(qm 3, .inl (kA 0, 4, .inl (fun _ => 0)))], [(a0, .inr (13, mF qm (va_up x0Mo 5 (nI (539 * (31 * j + 0)))) y0Mo))], [(qm 2, .inl (kA 0, 66836, .inl all0))]]) := hD
  refine W.widen (k := 0) (n := 0) (Nat.le_of_ble_eq_true rfl) (Nat.le_of_ble_eq_true rfl) ?_
  exact W.iret (v := 0) hx hb hr (fun t ht hW => ⟨⟨0, [[(qm 3, .inl (kA 0, 4, .inl (fun _ => 0)))], [(a0, .inr (13, mF qm (va_up x0Mo 5 (nI (539 * (31 * j + 0)))) y0Mo))], [(qm 2, .inl (kA 0, 66836, .inl all0))]], rfl, rfl, by rw [ht]; exact hP, va_K.moved hW.alike hK, hD⟩, hS.F ht⟩) hS.2.2 d_Mo_count_69
set_option maxRecDepth 100000 in
set_option maxHeartbeats 4000000 in
/-- count, a fresh house -/
theorem lf_count_4 {p : Program} {e : Env} {s : State} {m : MethodId} {below : List Frame} {meth : Method} {c : Code} (l : Launch) {b : Nat} {xs : Nat → Int32} (C0 : lw_At p s m meth c b 6 xs) {D : va_G} {kA : Nat → ClassId} (h : Nat) (h2 : Nat) (q : Nat → Nat) (qg : Nat → Nat) (qm : Nat → Nat) (g : Nat → Nat → Nat) (j : Nat) (hj : j < 4) (hv1 : xs 1 = nI j) (hv2 : xs 2 = 1) {H : Heap} {locs : List Loc} {ls : Array Slot} (hK : va_K D classes (TY kA) s) (hN : nst s) (hP : va_P D classes (cat [[(h, .inr (12, [.ref (q 0), .ref (q 1), .ref (q 2), .ref (q 3), .ref (q 4), .ref (q 5), .ref (q 6), .int 0, .int ((-1)), .ref (q 9), .ref (q 10), .int 0, .int 0, .ref (q 13), .int 0, .int 0, .null, .null, .null, .null, .null]))], [(q 0, .inl (kA 4, 4, .inr (.inr (.inr (.inr (rr (g 0)))))))], [(g 0 j, .inr (3, [.int 0, .int 0, .int 1, .ref (qg 3), .ref (qg 4), .ref (qg 5), .ref (qg 6), .ref (qg 7), .ref (qg 8), .ref (qg 9), .ref (qg 10), .ref (qg 11), .ref (qg 12), .ref (qg 13), .ref (qg 14), .ref (qg 15), .null, .int 0, .int 0]))], [(h2, .inr (13, mF qm x0Mo y0Mo))], [(qm 3, .inl (kA 0, 4, .inl (fun _ => 0)))], [(qm 2, .inl (kA 0, 66836, .inl all0))]]) H) (hD : va_D (fun q : Nat => s.heap.size ≤ q) (cat [[(h, .inr (12, [.ref (q 0), .ref (q 1), .ref (q 2), .ref (q 3), .ref (q 4), .ref (q 5), .ref (q 6), .int 0, .int ((-1)), .ref (q 9), .ref (q 10), .int 0, .int 0, .ref (q 13), .int 0, .int 0, .null, .null, .null, .null, .null]))], [(q 0, .inl (kA 4, 4, .inr (.inr (.inr (.inr (rr (g 0)))))))], [(g 0 j, .inr (3, [.int 0, .int 0, .int 1, .ref (qg 3), .ref (qg 4), .ref (qg 5), .ref (qg 6), .ref (qg 7), .ref (qg 8), .ref (qg 9), .ref (qg 10), .ref (qg 11), .ref (qg 12), .ref (qg 13), .ref (qg 14), .ref (qg 15), .null, .int 0, .int 0]))], [(h2, .inr (13, mF qm x0Mo y0Mo))], [(qm 3, .inl (kA 0, 4, .inl (fun _ => 0)))], [(qm 2, .inl (kA 0, 66836, .inl all0))]])) (hS : va_S (fun q : Nat => s.heap.size ≤ q) s.heap H locs) (hl : lv_has ls 4 [(3, .int 0), (2, .ref h2), (1, .ref h), (0, .ref b)]) : W p l e room_1 s m #[Value.ref b] below meth c H locs 368 365796 (lw_Z below #[Value.ref b] s) (F0 m 279 ls []) := by
  obtain ⟨hx, hb, hr, hml, hown, hts0, hX, hbl, hlocks, hgv⟩ := id C0
  have hts : ∀ w ∈ lw_g, w.before #[Value.ref b] s = true := fun w h => hts0 w (lw_gt h)
  have X : cx p s m #[Value.ref b] meth c b_law_law 4 ret "DrawingHouseLaw" meth.name := ⟨hx, hb, hml, hown, hts, hr, hlocks, rfl⟩
  obtain ⟨A, hAe⟩ : ∃ A : Nat → Prop, A = fun q : Nat => s.heap.size ≤ q := ⟨_, rfl⟩
  have hA : ∀ q : Nat, s.heap.size ≤ q → A q := fun q h => by rw [hAe]; exact h
  have hbA : ¬ A b := by rw [hAe]; exact Nat.not_le.mpr hbl
  rw [← hAe] at hD hS
  refine lv_aload_n (pc := 279) hx hb d_law_law_279 rfl (lv_at hl 2 rfl) ?_
  refine lv_aload_n (pc := 280) hx hb d_law_law_280 rfl (lv_at hl 3 rfl) ?_
  refine lv_iload_n (pc := 281) hx hb d_law_law_281 rfl (lv_at hl 0 rfl) ?_
  refine lv_iconst (pc := 282) (v := 1) hx hb d_law_law_282 (by decide) ?_
  refine lv_iadd (pc := 283) hx hb d_law_law_283 ?_
  refine k_cst (v := 1) (by decide) ?_
  refine va_sld (pc := 284) hx hb hX hbl hbA hS (by unfold vp_in; decide) d_law_law_284 ?_
  refine k_cst (v := nI j) hv1 ?_
  refine lv_aload_n (pc := 285) hx hb d_law_law_285 rfl (lv_at hl 3 rfl) ?_
  refine lv_iload_n (pc := 286) hx hb d_law_law_286 rfl (lv_at hl 0 rfl) ?_
  refine lv_iconst (pc := 287) (v := 2) hx hb d_law_law_287 (by decide) ?_
  refine lv_iadd (pc := 288) hx hb d_law_law_288 ?_
  refine k_cst (v := 2) (by decide) ?_
  refine va_sld (pc := 289) hx hb hX hbl hbA hS (by unfold vp_in; decide) d_law_law_289 ?_
  refine k_cst (v := 1) hv2 ?_
  refine k_goI (gr := [[(h2, .inr (13, mF qm x0Mo y0Mo))], [(qm 3, .inl (kA 0, 4, .inl (fun _ => 0)))], [(qm 2, .inl (kA 0, 66836, .inl all0))]]) (k_rV (pc := 290) (As := [.int (nI j), .int 1]) (rest := []) X (c_Ho_count_z4 l D kA h j (q 0) (q 1) (q 2) (q 3) (q 4) (q 5) (q 6) (q 9) (q 10) (q 13) g (qg 3) (qg 4) (qg 5) (qg 6) (qg 7) (qg 8) (qg 9) (qg 10) (qg 11) (qg 12) (qg 13) (qg 14) (qg 15) hj H.size) rfl wm_806 wm_1 wm_803 wm_804 wm_805 2 (by decide +kernel) ⟨Nat.le_of_ble_eq_true rfl, Nat.le_of_ble_eq_true rfl⟩ rfl rfl (va_recv hK hP (ci := 12) (q0 := 0) rfl rfl) (k_pre hN hK hP hD [0, 1, 2] [3, 4, 5] 6 rfl (by decide) rfl) rfl hl.1 rfl (Nat.le_of_ble_eq_true rfl) d_law_law_290 ⟨Nat.le_of_ble_eq_true rfl, Nat.le_of_ble_eq_true rfl⟩) hP hD hS hA [0, 1, 2] [3, 4, 5] 6 rfl (by decide) rfl rfl (fun r1 u2 H locs hu2 hP hD hS => ?_)
  obtain ⟨hP, hD⟩ := k_left hP hD
  subst hu2
  have hP : va_P D classes (cat [[(h2, .inr (13, mF qm x0Mo y0Mo))], [(qm 3, .inl (kA 0, 4, .inl (fun _ => 0)))], [(qm 2, .inl (kA 0, 66836, .inl all0))]]) H := hP
  have hD : va_D A (cat [[(h2, .inr (13, mF qm x0Mo y0Mo))], [(qm 3, .inl (kA 0, 4, .inl (fun _ => 0)))], [(qm 2, .inl (kA 0, 66836, .inl all0))]]) := hD
  refine lv_aload_n (pc := 293) hx hb d_law_law_293 rfl (lv_at hl 1 rfl) ?_
  refine lv_aload_n (pc := 294) hx hb d_law_law_294 rfl (lv_at hl 3 rfl) ?_
  refine lv_iload_n (pc := 295) hx hb d_law_law_295 rfl (lv_at hl 0 rfl) ?_
  refine lv_iconst (pc := 296) (v := 1) hx hb d_law_law_296 (by decide) ?_
  refine lv_iadd (pc := 297) hx hb d_law_law_297 ?_
  refine k_cst (v := 1) (by decide) ?_
  refine va_sld (pc := 298) hx hb hX hbl hbA hS (by unfold vp_in; decide) d_law_law_298 ?_
  refine k_cst (v := nI j) hv1 ?_
  refine lv_aload_n (pc := 299) hx hb d_law_law_299 rfl (lv_at hl 3 rfl) ?_
  refine lv_iload_n (pc := 300) hx hb d_law_law_300 rfl (lv_at hl 0 rfl) ?_
  refine lv_iconst (pc := 301) (v := 2) hx hb d_law_law_301 (by decide) ?_
  refine lv_iadd (pc := 302) hx hb d_law_law_302 ?_
  refine k_cst (v := 2) (by decide) ?_
  refine va_sld (pc := 303) hx hb hX hbl hbA hS (by unfold vp_in; decide) d_law_law_303 ?_
  refine k_cst (v := 1) hv2 ?_
  refine k_goI (gr := []) (k_rV (pc := 304) (As := [.int (nI j), .int 1]) (rest := [.int 0]) X (c_Mo_count_z4 l D kA h2 j qm hj H.size) rfl wm_3279 wm_9 wm_3276 wm_3277 wm_3278 2 (by decide +kernel) ⟨Nat.le_of_ble_eq_true rfl, Nat.le_of_ble_eq_true rfl⟩ rfl rfl (va_recv hK hP (ci := 13) (q0 := 0) rfl rfl) (k_pre hN hK hP hD [0, 1, 2] [] 3 rfl (by decide) rfl) rfl hl.1 rfl (Nat.le_of_ble_eq_true rfl) d_law_law_304 ⟨Nat.le_of_ble_eq_true rfl, Nat.le_of_ble_eq_true rfl⟩) hP hD hS hA [0, 1, 2] [] 3 rfl (by decide) rfl rfl (fun r3 u4 H locs hu4 hP hD hS => ?_)
  obtain ⟨hP, hD⟩ := k_left hP hD
  subst hu4
  have hP : va_P D classes (cat []) H := hP
  have hD : va_D A (cat []) := hD
  refine lv_icmp_eq (pc := 307) (tgt := 1295) hx hb d_law_law_307 (by decide) (fun _ => ?_) (fun c1 => absurd (by decide) c1)
  rw [hAe] at hS
  exact law_exit l C0 (Nat.le_of_ble_eq_true rfl) (Nat.le_of_ble_eq_true rfl) hS hl
set_option maxRecDepth 100000 in
set_option maxHeartbeats 4000000 in
/-- DrawingHouse.count(II)I -/
theorem c_Ho_count_z5 (l : Launch) (D : va_G) (kA : Nat → ClassId) (a0 : Nat) (j : Nat) (a1 : Nat) (a2 : Nat) (a3 : Nat) (a4 : Nat) (a5 : Nat) (a6 : Nat) (a7 : Nat) (a8 : Nat) (a9 : Nat) (a10 : Nat) (g : Nat → Nat → Nat) (a11 : Nat) (a12 : Nat) (a13 : Nat) (a14 : Nat) (a15 : Nat) (a16 : Nat) (a17 : Nat) (a18 : Nat) (a19 : Nat) (a20 : Nat) (a21 : Nat) (a22 : Nat) (a23 : Nat) (hj : j < 4) : Ci l y_Ho_count z_Ho_count { frames := 1, cells := 0, slots := 0, locals := 20 } D classes (TY kA) [.ref a0, .int (nI j), .int 2] [[(a0, .inr (12, [.ref a1, .ref a2, .ref a3, .ref a4, .ref a5, .ref a6, .ref a7, .int 0, .int ((-1)), .ref a8, .ref a9, .int 0, .int 0, .ref a10, .int 0, .int 0, .null, .null, .null, .null, .null]))], [(a1, .inl (kA 4, 4, .inr (.inr (.inr (.inr (rr (g 0)))))))], [(g 0 j, .inr (3, [.int 0, .int 0, .int 1, .ref a11, .ref a12, .ref a13, .ref a14, .ref a15, .ref a16, .ref a17, .ref a18, .ref a19, .ref a20, .ref a21, .ref a22, .ref a23, .null, .int 0, .int 0]))]] (fun r (_ : List va_W) => r = 1) (fun u => u) 0 0 := by
  intro sz
  refine k_met (cc := b_Ho_count) (maxL := 3) (ret := (some .int)) (by decide) rfl (Nat.le_of_ble_eq_true rfl) (fun p e s m below meth c ls X hl hB => ?_)
  obtain ⟨hsz, hP, hK, hD0, hN⟩ := hB
  subst hsz
  have hD := hD0.self (sz := s.heap.size)
  generalize hAe : va_A (cat [[(a0, .inr (12, [.ref a1, .ref a2, .ref a3, .ref a4, .ref a5, .ref a6, .ref a7, .int 0, .int ((-1)), .ref a8, .ref a9, .int 0, .int 0, .ref a10, .int 0, .int 0, .null, .null, .null, .null, .null]))], [(a1, .inl (kA 4, 4, .inr (.inr (.inr (.inr (rr (g 0)))))))], [(g 0 j, .inr (3, [.int 0, .int 0, .int 1, .ref a11, .ref a12, .ref a13, .ref a14, .ref a15, .ref a16, .ref a17, .ref a18, .ref a19, .ref a20, .ref a21, .ref a22, .ref a23, .null, .int 0, .int 0]))]]) s.heap.size = A at hD ⊢
  have hA : ∀ q : Nat, s.heap.size ≤ q → A q := fun q h => by rw [← hAe]; exact Or.inr h
  have hS : va_S A s.heap s.heap [] := va_S.rf
  obtain ⟨hx, hb, hml, hown, hts, hr, hlk, hnm⟩ := id X
  have hl : lv_has ls 3 [(0, .ref a0), (1, .int (nI j)), (2, .int 2)] := hl
  have hP : va_P D classes (cat [[(a0, .inr (12, [.ref a1, .ref a2, .ref a3, .ref a4, .ref a5, .ref a6, .ref a7, .int 0, .int ((-1)), .ref a8, .ref a9, .int 0, .int 0, .ref a10, .int 0, .int 0, .null, .null, .null, .null, .null]))], [(a1, .inl (kA 4, 4, .inr (.inr (.inr (.inr (rr (g 0)))))))], [(g 0 j, .inr (3, [.int 0, .int 0, .int 1, .ref a11, .ref a12, .ref a13, .ref a14, .ref a15, .ref a16, .ref a17, .ref a18, .ref a19, .ref a20, .ref a21, .ref a22, .ref a23, .null, .int 0, .int 0]))]]) s.heap := hP
  have hK : va_K D classes (TY kA) s := hK
  refine lv_iload_n (pc := 0) hx hb d_Ho_count_0 rfl (lv_at hl 1 rfl) ?_
  refine k_goI (gr := [[(a0, .inr (12, [.ref a1, .ref a2, .ref a3, .ref a4, .ref a5, .ref a6, .ref a7, .int 0, .int ((-1)), .ref a8, .ref a9, .int 0, .int 0, .ref a10, .int 0, .int 0, .null, .null, .null, .null, .null]))], [(a1, .inl (kA 4, 4, .inr (.inr (.inr (.inr (rr (g 0)))))))], [(g 0 j, .inr (3, [.int 0, .int 0, .int 1, .ref a11, .ref a12, .ref a13, .ref a14, .ref a15, .ref a16, .ref a17, .ref a18, .ref a19, .ref a20, .ref a21, .ref a22, .ref a23, .null, .int 0, .int 0]))]]) (k_rS (pc := 1) (As := [.int (nI j)]) (rest := []) X (c_Ho_isPlace l D kA (nI j) s.heap.size) rfl wm_633 wm_1 wm_631 wm_632 1 (by decide +kernel) ⟨Nat.le_of_ble_eq_true rfl, Nat.le_of_ble_eq_true rfl⟩ rfl rfl (k_pre hN hK hP hD [] [0, 1, 2] 3 rfl (by decide) rfl) rfl hl.1 rfl (Nat.le_of_ble_eq_true rfl) d_Ho_count_1 ⟨Nat.le_of_ble_eq_true rfl, Nat.le_of_ble_eq_true rfl⟩) hP hD hS hA [] [0, 1, 2] 3 rfl (by decide) rfl rfl (fun r1 u2 H locs hu2 hP hD hS => ?_)
  subst hu2
  refine k_cst (v := 1) (place_ok hj) ?_
  have hP : va_P D classes (cat [[(a0, .inr (12, [.ref a1, .ref a2, .ref a3, .ref a4, .ref a5, .ref a6, .ref a7, .int 0, .int ((-1)), .ref a8, .ref a9, .int 0, .int 0, .ref a10, .int 0, .int 0, .null, .null, .null, .null, .null]))], [(a1, .inl (kA 4, 4, .inr (.inr (.inr (.inr (rr (g 0)))))))], [(g 0 j, .inr (3, [.int 0, .int 0, .int 1, .ref a11, .ref a12, .ref a13, .ref a14, .ref a15, .ref a16, .ref a17, .ref a18, .ref a19, .ref a20, .ref a21, .ref a22, .ref a23, .null, .int 0, .int 0]))]]) H := hP
  have hD : va_D A (cat [[(a0, .inr (12, [.ref a1, .ref a2, .ref a3, .ref a4, .ref a5, .ref a6, .ref a7, .int 0, .int ((-1)), .ref a8, .ref a9, .int 0, .int 0, .ref a10, .int 0, .int 0, .null, .null, .null, .null, .null]))], [(a1, .inl (kA 4, 4, .inr (.inr (.inr (.inr (rr (g 0)))))))], [(g 0 j, .inr (3, [.int 0, .int 0, .int 1, .ref a11, .ref a12, .ref a13, .ref a14, .ref a15, .ref a16, .ref a17, .ref a18, .ref a19, .ref a20, .ref a21, .ref a22, .ref a23, .null, .int 0, .int 0]))]]) := hD
  refine lv_if_ne (pc := 4) (tgt := 9) hx hb d_Ho_count_4 (by decide) (fun c1 => ?_) (fun c1 => absurd c1 (by decide))
  refine lv_iload_n (pc := 9) hx hb d_Ho_count_9 rfl (lv_at hl 2 rfl) ?_
  refine lv_tableIn (pc := 10) (tgt := 76) hx hb d_Ho_count_10 (by decide) (by decide) rfl (by decide) ?_
  refine lv_aload_n (pc := 76) hx hb d_Ho_count_76 rfl (lv_at hl 0 rfl) ?_
  refine k_get (pc := 77) X hK hP 0 rfl rfl i_Ho 0 (by decide) wm_555 rfl rfl d_Ho_count_77 ?_
  refine lv_iload_n (pc := 80) hx hb d_Ho_count_80 rfl (lv_at hl 1 rfl) ?_
  refine k_ald (pc := 81) hx hb hK hP 1 4 rfl rfl (j) rfl (by omega) (by decide) (rr_at (by omega)) d_Ho_count_81 ?_
  refine k_get (pc := 82) X hK hP 2 rfl rfl i_Gr 2 (by decide) wm_80 rfl rfl d_Ho_count_82 ?_
  refine W.widen (k := 0) (n := 0) (Nat.le_of_ble_eq_true rfl) (Nat.le_of_ble_eq_true rfl) ?_
  exact W.iret (v := 1) hx hb hr (fun t ht hW => ⟨⟨1, [[(a0, .inr (12, [.ref a1, .ref a2, .ref a3, .ref a4, .ref a5, .ref a6, .ref a7, .int 0, .int ((-1)), .ref a8, .ref a9, .int 0, .int 0, .ref a10, .int 0, .int 0, .null, .null, .null, .null, .null]))], [(a1, .inl (kA 4, 4, .inr (.inr (.inr (.inr (rr (g 0)))))))], [(g 0 j, .inr (3, [.int 0, .int 0, .int 1, .ref a11, .ref a12, .ref a13, .ref a14, .ref a15, .ref a16, .ref a17, .ref a18, .ref a19, .ref a20, .ref a21, .ref a22, .ref a23, .null, .int 0, .int 0]))]], rfl, rfl, by rw [ht]; exact hP, va_K.moved hW.alike hK, hD⟩, hS.F ht⟩) hS.2.2 d_Ho_count_85
set_option maxRecDepth 100000 in
set_option maxHeartbeats 4000000 in
/-- DrawingHouseModel.count(II)I -/
theorem c_Mo_count_z5 (l : Launch) (D : va_G) (kA : Nat → ClassId) (a0 : Nat) (j : Nat) (qm : Nat → Nat) (hj : j < 4) : Ci l y_Mo_count z_Mo_count { frames := 2, cells := 0, slots := 0, locals := 42 } D classes (TY kA) [.ref a0, .int (nI j), .int 2] [[(a0, .inr (13, mF qm x0Mo y0Mo))], [(qm 3, .inl (kA 0, 4, .inl (fun _ => 0)))], [(qm 2, .inl (kA 0, 66836, .inl all0))]] (fun r (_ : List va_W) => r = 1) (fun u => u) 0 0 := by
  intro sz
  refine k_met (cc := b_Mo_count) (maxL := 3) (ret := (some .int)) (by decide) rfl (Nat.le_of_ble_eq_true rfl) (fun p e s m below meth c ls X hl hB => ?_)
  obtain ⟨hsz, hP, hK, hD0, hN⟩ := hB
  subst hsz
  have hD := hD0.self (sz := s.heap.size)
  generalize hAe : va_A (cat [[(a0, .inr (13, mF qm x0Mo y0Mo))], [(qm 3, .inl (kA 0, 4, .inl (fun _ => 0)))], [(qm 2, .inl (kA 0, 66836, .inl all0))]]) s.heap.size = A at hD ⊢
  have hA : ∀ q : Nat, s.heap.size ≤ q → A q := fun q h => by rw [← hAe]; exact Or.inr h
  have hS : va_S A s.heap s.heap [] := va_S.rf
  obtain ⟨hx, hb, hml, hown, hts, hr, hlk, hnm⟩ := id X
  have hl : lv_has ls 3 [(0, .ref a0), (1, .int (nI j)), (2, .int 2)] := hl
  have hP : va_P D classes (cat [[(a0, .inr (13, mF qm x0Mo y0Mo))], [(qm 3, .inl (kA 0, 4, .inl (fun _ => 0)))], [(qm 2, .inl (kA 0, 66836, .inl all0))]]) s.heap := hP
  have hK : va_K D classes (TY kA) s := hK
  refine lv_iload_n (pc := 0) hx hb d_Mo_count_0 rfl (lv_at hl 1 rfl) ?_
  refine k_goI (gr := [[(a0, .inr (13, mF qm x0Mo y0Mo))], [(qm 3, .inl (kA 0, 4, .inl (fun _ => 0)))], [(qm 2, .inl (kA 0, 66836, .inl all0))]]) (k_rS (pc := 1) (As := [.int (nI j)]) (rest := []) X (c_Mo_isPlace l D kA (nI j) s.heap.size) rfl wm_2978 wm_9 wm_2976 wm_2977 1 (by decide +kernel) ⟨Nat.le_of_ble_eq_true rfl, Nat.le_of_ble_eq_true rfl⟩ rfl rfl (k_pre hN hK hP hD [] [0, 1, 2] 3 rfl (by decide) rfl) rfl hl.1 rfl (Nat.le_of_ble_eq_true rfl) d_Mo_count_1 ⟨Nat.le_of_ble_eq_true rfl, Nat.le_of_ble_eq_true rfl⟩) hP hD hS hA [] [0, 1, 2] 3 rfl (by decide) rfl rfl (fun r1 u2 H locs hu2 hP hD hS => ?_)
  subst hu2
  refine k_cst (v := 1) (placeM_ok hj) ?_
  have hP : va_P D classes (cat [[(a0, .inr (13, mF qm x0Mo y0Mo))], [(qm 3, .inl (kA 0, 4, .inl (fun _ => 0)))], [(qm 2, .inl (kA 0, 66836, .inl all0))]]) H := hP
  have hD : va_D A (cat [[(a0, .inr (13, mF qm x0Mo y0Mo))], [(qm 3, .inl (kA 0, 4, .inl (fun _ => 0)))], [(qm 2, .inl (kA 0, 66836, .inl all0))]]) := hD
  refine lv_if_ne (pc := 4) (tgt := 9) hx hb d_Mo_count_4 (by decide) (fun c1 => ?_) (fun c1 => absurd c1 (by decide))
  refine lv_aload_n (pc := 9) hx hb d_Mo_count_9 rfl (lv_at hl 0 rfl) ?_
  refine lv_iload_n (pc := 10) hx hb d_Mo_count_10 rfl (lv_at hl 1 rfl) ?_
  refine k_goV (gr := [[(qm 2, .inl (kA 0, 66836, .inl all0))]]) (k_rV (pc := 11) (As := [.int (nI j)]) (rest := []) X (c_Mo_take_z1 l D kA a0 j qm hj H.size) rfl wm_3091 wm_9 wm_3088 wm_3090 wv_14_2 1 (by decide +kernel) ⟨Nat.le_of_ble_eq_true rfl, Nat.le_of_ble_eq_true rfl⟩ rfl rfl (va_recv hK hP (ci := 13) (q0 := 0) rfl rfl) (k_pre hN hK hP hD [0, 1] [2] 3 rfl (by decide) rfl) rfl hl.1 rfl (Nat.le_of_ble_eq_true rfl) d_Mo_count_11 ⟨Nat.le_of_ble_eq_true rfl, Nat.le_of_ble_eq_true rfl⟩) hP hD hS hA [0, 1] [2] 3 rfl (by decide) rfl rfl (fun u3 H locs hu3 hP hD hS => ?_)
  have hP : va_P D classes (cat [[(qm 2, .inl (kA 0, 66836, .inl all0))], [(a0, .inr (13, mF qm (va_up x0Mo 5 (nI (539 * (31 * j + 0)))) y0Mo))], [(qm 3, .inl (kA 0, 4, .inl (fun _ => 0)))]]) H := hP
  have hD : va_D A (cat [[(qm 2, .inl (kA 0, 66836, .inl all0))], [(a0, .inr (13, mF qm (va_up x0Mo 5 (nI (539 * (31 * j + 0)))) y0Mo))], [(qm 3, .inl (kA 0, 4, .inl (fun _ => 0)))]]) := hD
  refine lv_iload_n (pc := 14) hx hb d_Mo_count_14 rfl (lv_at hl 2 rfl) ?_
  refine lv_tableIn (pc := 15) (tgt := 70) hx hb d_Mo_count_15 (by decide) (by decide) rfl (by decide) ?_
  refine lv_aload_n (pc := 70) hx hb d_Mo_count_70 rfl (lv_at hl 0 rfl) ?_
  refine k_goI (gr := [[(qm 3, .inl (kA 0, 4, .inl (fun _ => 0)))]]) (k_rV (pc := 71) (As := []) (rest := []) X (c_Mo_groups_z1 l D kA a0 qm j hj H.size) rfl wm_3070 wm_9 wm_3067 wm_3069 wv_13_14 0 (by decide +kernel) ⟨Nat.le_of_ble_eq_true rfl, Nat.le_of_ble_eq_true rfl⟩ rfl rfl (va_recv hK hP (ci := 13) (q0 := 1) rfl rfl) (k_pre hN hK hP hD [1, 0] [2] 3 rfl (by decide) rfl) rfl hl.1 rfl (Nat.le_of_ble_eq_true rfl) d_Mo_count_71 ⟨Nat.le_of_ble_eq_true rfl, Nat.le_of_ble_eq_true rfl⟩) hP hD hS hA [1, 0] [2] 3 rfl (by decide) rfl rfl (fun r4 u5 H locs hu5 hP hD hS => ?_)
  subst hu5
  have hP : va_P D classes (cat [[(qm 3, .inl (kA 0, 4, .inl (fun _ => 0)))], [(a0, .inr (13, mF qm (va_up x0Mo 5 (nI (539 * (31 * j + 0)))) y0Mo))], [(qm 2, .inl (kA 0, 66836, .inl all0))]]) H := hP
  have hD : va_D A (cat [[(qm 3, .inl (kA 0, 4, .inl (fun _ => 0)))], [(a0, .inr (13, mF qm (va_up x0Mo 5 (nI (539 * (31 * j + 0)))) y0Mo))], [(qm 2, .inl (kA 0, 66836, .inl all0))]]) := hD
  refine W.widen (k := 0) (n := 0) (Nat.le_of_ble_eq_true rfl) (Nat.le_of_ble_eq_true rfl) ?_
  exact W.iret (v := 1) hx hb hr (fun t ht hW => ⟨⟨1, [[(qm 3, .inl (kA 0, 4, .inl (fun _ => 0)))], [(a0, .inr (13, mF qm (va_up x0Mo 5 (nI (539 * (31 * j + 0)))) y0Mo))], [(qm 2, .inl (kA 0, 66836, .inl all0))]], rfl, rfl, by rw [ht]; exact hP, va_K.moved hW.alike hK, hD⟩, hS.F ht⟩) hS.2.2 d_Mo_count_74
set_option maxRecDepth 100000 in
set_option maxHeartbeats 4000000 in
/-- count, a fresh house -/
theorem lf_count_5 {p : Program} {e : Env} {s : State} {m : MethodId} {below : List Frame} {meth : Method} {c : Code} (l : Launch) {b : Nat} {xs : Nat → Int32} (C0 : lw_At p s m meth c b 6 xs) {D : va_G} {kA : Nat → ClassId} (h : Nat) (h2 : Nat) (q : Nat → Nat) (qg : Nat → Nat) (qm : Nat → Nat) (g : Nat → Nat → Nat) (j : Nat) (hj : j < 4) (hv1 : xs 1 = nI j) (hv2 : xs 2 = 2) {H : Heap} {locs : List Loc} {ls : Array Slot} (hK : va_K D classes (TY kA) s) (hN : nst s) (hP : va_P D classes (cat [[(h, .inr (12, [.ref (q 0), .ref (q 1), .ref (q 2), .ref (q 3), .ref (q 4), .ref (q 5), .ref (q 6), .int 0, .int ((-1)), .ref (q 9), .ref (q 10), .int 0, .int 0, .ref (q 13), .int 0, .int 0, .null, .null, .null, .null, .null]))], [(q 0, .inl (kA 4, 4, .inr (.inr (.inr (.inr (rr (g 0)))))))], [(g 0 j, .inr (3, [.int 0, .int 0, .int 1, .ref (qg 3), .ref (qg 4), .ref (qg 5), .ref (qg 6), .ref (qg 7), .ref (qg 8), .ref (qg 9), .ref (qg 10), .ref (qg 11), .ref (qg 12), .ref (qg 13), .ref (qg 14), .ref (qg 15), .null, .int 0, .int 0]))], [(h2, .inr (13, mF qm x0Mo y0Mo))], [(qm 3, .inl (kA 0, 4, .inl (fun _ => 0)))], [(qm 2, .inl (kA 0, 66836, .inl all0))]]) H) (hD : va_D (fun q : Nat => s.heap.size ≤ q) (cat [[(h, .inr (12, [.ref (q 0), .ref (q 1), .ref (q 2), .ref (q 3), .ref (q 4), .ref (q 5), .ref (q 6), .int 0, .int ((-1)), .ref (q 9), .ref (q 10), .int 0, .int 0, .ref (q 13), .int 0, .int 0, .null, .null, .null, .null, .null]))], [(q 0, .inl (kA 4, 4, .inr (.inr (.inr (.inr (rr (g 0)))))))], [(g 0 j, .inr (3, [.int 0, .int 0, .int 1, .ref (qg 3), .ref (qg 4), .ref (qg 5), .ref (qg 6), .ref (qg 7), .ref (qg 8), .ref (qg 9), .ref (qg 10), .ref (qg 11), .ref (qg 12), .ref (qg 13), .ref (qg 14), .ref (qg 15), .null, .int 0, .int 0]))], [(h2, .inr (13, mF qm x0Mo y0Mo))], [(qm 3, .inl (kA 0, 4, .inl (fun _ => 0)))], [(qm 2, .inl (kA 0, 66836, .inl all0))]])) (hS : va_S (fun q : Nat => s.heap.size ≤ q) s.heap H locs) (hl : lv_has ls 4 [(3, .int 0), (2, .ref h2), (1, .ref h), (0, .ref b)]) : W p l e room_1 s m #[Value.ref b] below meth c H locs 368 365796 (lw_Z below #[Value.ref b] s) (F0 m 279 ls []) := by
  obtain ⟨hx, hb, hr, hml, hown, hts0, hX, hbl, hlocks, hgv⟩ := id C0
  have hts : ∀ w ∈ lw_g, w.before #[Value.ref b] s = true := fun w h => hts0 w (lw_gt h)
  have X : cx p s m #[Value.ref b] meth c b_law_law 4 ret "DrawingHouseLaw" meth.name := ⟨hx, hb, hml, hown, hts, hr, hlocks, rfl⟩
  obtain ⟨A, hAe⟩ : ∃ A : Nat → Prop, A = fun q : Nat => s.heap.size ≤ q := ⟨_, rfl⟩
  have hA : ∀ q : Nat, s.heap.size ≤ q → A q := fun q h => by rw [hAe]; exact h
  have hbA : ¬ A b := by rw [hAe]; exact Nat.not_le.mpr hbl
  rw [← hAe] at hD hS
  refine lv_aload_n (pc := 279) hx hb d_law_law_279 rfl (lv_at hl 2 rfl) ?_
  refine lv_aload_n (pc := 280) hx hb d_law_law_280 rfl (lv_at hl 3 rfl) ?_
  refine lv_iload_n (pc := 281) hx hb d_law_law_281 rfl (lv_at hl 0 rfl) ?_
  refine lv_iconst (pc := 282) (v := 1) hx hb d_law_law_282 (by decide) ?_
  refine lv_iadd (pc := 283) hx hb d_law_law_283 ?_
  refine k_cst (v := 1) (by decide) ?_
  refine va_sld (pc := 284) hx hb hX hbl hbA hS (by unfold vp_in; decide) d_law_law_284 ?_
  refine k_cst (v := nI j) hv1 ?_
  refine lv_aload_n (pc := 285) hx hb d_law_law_285 rfl (lv_at hl 3 rfl) ?_
  refine lv_iload_n (pc := 286) hx hb d_law_law_286 rfl (lv_at hl 0 rfl) ?_
  refine lv_iconst (pc := 287) (v := 2) hx hb d_law_law_287 (by decide) ?_
  refine lv_iadd (pc := 288) hx hb d_law_law_288 ?_
  refine k_cst (v := 2) (by decide) ?_
  refine va_sld (pc := 289) hx hb hX hbl hbA hS (by unfold vp_in; decide) d_law_law_289 ?_
  refine k_cst (v := 2) hv2 ?_
  refine k_goI (gr := [[(h2, .inr (13, mF qm x0Mo y0Mo))], [(qm 3, .inl (kA 0, 4, .inl (fun _ => 0)))], [(qm 2, .inl (kA 0, 66836, .inl all0))]]) (k_rV (pc := 290) (As := [.int (nI j), .int 2]) (rest := []) X (c_Ho_count_z5 l D kA h j (q 0) (q 1) (q 2) (q 3) (q 4) (q 5) (q 6) (q 9) (q 10) (q 13) g (qg 3) (qg 4) (qg 5) (qg 6) (qg 7) (qg 8) (qg 9) (qg 10) (qg 11) (qg 12) (qg 13) (qg 14) (qg 15) hj H.size) rfl wm_806 wm_1 wm_803 wm_804 wm_805 2 (by decide +kernel) ⟨Nat.le_of_ble_eq_true rfl, Nat.le_of_ble_eq_true rfl⟩ rfl rfl (va_recv hK hP (ci := 12) (q0 := 0) rfl rfl) (k_pre hN hK hP hD [0, 1, 2] [3, 4, 5] 6 rfl (by decide) rfl) rfl hl.1 rfl (Nat.le_of_ble_eq_true rfl) d_law_law_290 ⟨Nat.le_of_ble_eq_true rfl, Nat.le_of_ble_eq_true rfl⟩) hP hD hS hA [0, 1, 2] [3, 4, 5] 6 rfl (by decide) rfl rfl (fun r1 u2 H locs hu2 hP hD hS => ?_)
  obtain ⟨hP, hD⟩ := k_left hP hD
  subst hu2
  have hP : va_P D classes (cat [[(h2, .inr (13, mF qm x0Mo y0Mo))], [(qm 3, .inl (kA 0, 4, .inl (fun _ => 0)))], [(qm 2, .inl (kA 0, 66836, .inl all0))]]) H := hP
  have hD : va_D A (cat [[(h2, .inr (13, mF qm x0Mo y0Mo))], [(qm 3, .inl (kA 0, 4, .inl (fun _ => 0)))], [(qm 2, .inl (kA 0, 66836, .inl all0))]]) := hD
  refine lv_aload_n (pc := 293) hx hb d_law_law_293 rfl (lv_at hl 1 rfl) ?_
  refine lv_aload_n (pc := 294) hx hb d_law_law_294 rfl (lv_at hl 3 rfl) ?_
  refine lv_iload_n (pc := 295) hx hb d_law_law_295 rfl (lv_at hl 0 rfl) ?_
  refine lv_iconst (pc := 296) (v := 1) hx hb d_law_law_296 (by decide) ?_
  refine lv_iadd (pc := 297) hx hb d_law_law_297 ?_
  refine k_cst (v := 1) (by decide) ?_
  refine va_sld (pc := 298) hx hb hX hbl hbA hS (by unfold vp_in; decide) d_law_law_298 ?_
  refine k_cst (v := nI j) hv1 ?_
  refine lv_aload_n (pc := 299) hx hb d_law_law_299 rfl (lv_at hl 3 rfl) ?_
  refine lv_iload_n (pc := 300) hx hb d_law_law_300 rfl (lv_at hl 0 rfl) ?_
  refine lv_iconst (pc := 301) (v := 2) hx hb d_law_law_301 (by decide) ?_
  refine lv_iadd (pc := 302) hx hb d_law_law_302 ?_
  refine k_cst (v := 2) (by decide) ?_
  refine va_sld (pc := 303) hx hb hX hbl hbA hS (by unfold vp_in; decide) d_law_law_303 ?_
  refine k_cst (v := 2) hv2 ?_
  refine k_goI (gr := []) (k_rV (pc := 304) (As := [.int (nI j), .int 2]) (rest := [.int 1]) X (c_Mo_count_z5 l D kA h2 j qm hj H.size) rfl wm_3279 wm_9 wm_3276 wm_3277 wm_3278 2 (by decide +kernel) ⟨Nat.le_of_ble_eq_true rfl, Nat.le_of_ble_eq_true rfl⟩ rfl rfl (va_recv hK hP (ci := 13) (q0 := 0) rfl rfl) (k_pre hN hK hP hD [0, 1, 2] [] 3 rfl (by decide) rfl) rfl hl.1 rfl (Nat.le_of_ble_eq_true rfl) d_law_law_304 ⟨Nat.le_of_ble_eq_true rfl, Nat.le_of_ble_eq_true rfl⟩) hP hD hS hA [0, 1, 2] [] 3 rfl (by decide) rfl rfl (fun r3 u4 H locs hu4 hP hD hS => ?_)
  obtain ⟨hP, hD⟩ := k_left hP hD
  subst hu4
  have hP : va_P D classes (cat []) H := hP
  have hD : va_D A (cat []) := hD
  refine lv_icmp_eq (pc := 307) (tgt := 1295) hx hb d_law_law_307 (by decide) (fun _ => ?_) (fun c1 => absurd (by decide) c1)
  rw [hAe] at hS
  exact law_exit l C0 (Nat.le_of_ble_eq_true rfl) (Nat.le_of_ble_eq_true rfl) hS hl
set_option maxRecDepth 100000 in
set_option maxHeartbeats 4000000 in
/-- DrawingHouse$Facts.learnParts(LDrawingHouse$Graph;)V -/
theorem c_Fa_learnParts_z1 (l : Launch) (D : va_G) (kA : Nat → ClassId) (g : Nat → Nat → Nat) (j : Nat) (a0 : Nat) (a1 : Nat) (a2 : Nat) (a3 : Nat) (a4 : Nat) (a5 : Nat) (a6 : Nat) (a7 : Nat) (a8 : Nat) (a9 : Nat) (a10 : Nat) (a11 : Nat) (a12 : Nat) (a13 : Nat) (a14 : Nat) (a15 : Nat) (a16 : Nat) (a17 : Nat) (a18 : Nat) (a19 : Nat) (a20 : Nat) (a21 : Nat) (a22 : Nat) (a23 : Nat) (hj : j < 4) : Cv l y_Fa_learnParts z_Fa_learnParts { frames := 0, cells := 0, slots := 0, locals := 0 } D classes (TY kA) [.ref (g 1 j), .ref (g 0 j)] [[(g 1 j, .inr (2, [.int 1, .int 0, .int 0, .int 0, .ref a0, .ref a1, .ref a2, .ref a3, .ref a4, .ref a5, .ref a6, .ref a7, .ref a8, .ref a9, .ref a10]))], [(g 0 j, .inr (3, [.int 0, .int 0, .int 1, .ref a11, .ref a12, .ref a13, .ref a14, .ref a15, .ref a16, .ref a17, .ref a18, .ref a19, .ref a20, .ref a21, .ref a22, .ref a23, .null, .int 0, .int 0]))]] (fun _ : Unit => True) (fun u => [[(g 1 j, .inr (2, [.int 1, .int 0, .int 0, .int 0, .ref a0, .ref a1, .ref a2, .ref a3, .ref a4, .ref a5, .ref a6, .ref a7, .ref a8, .ref a9, .ref a10]))], [(g 0 j, .inr (3, [.int 0, .int 0, .int 1, .ref a11, .ref a12, .ref a13, .ref a14, .ref a15, .ref a16, .ref a17, .ref a18, .ref a19, .ref a20, .ref a21, .ref a22, .ref a23, .null, .int 0, .int 0]))]]) 0 0 := by
  intro sz
  refine k_met (cc := b_Fa_learnParts) (maxL := 5) (ret := none) (by decide) rfl (Nat.le_of_ble_eq_true rfl) (fun p e s m below meth c ls X hl hB => ?_)
  obtain ⟨hsz, hP, hK, hD0, hN⟩ := hB
  subst hsz
  have hD := hD0.self (sz := s.heap.size)
  generalize hAe : va_A (cat [[(g 1 j, .inr (2, [.int 1, .int 0, .int 0, .int 0, .ref a0, .ref a1, .ref a2, .ref a3, .ref a4, .ref a5, .ref a6, .ref a7, .ref a8, .ref a9, .ref a10]))], [(g 0 j, .inr (3, [.int 0, .int 0, .int 1, .ref a11, .ref a12, .ref a13, .ref a14, .ref a15, .ref a16, .ref a17, .ref a18, .ref a19, .ref a20, .ref a21, .ref a22, .ref a23, .null, .int 0, .int 0]))]]) s.heap.size = A at hD ⊢
  have hA : ∀ q : Nat, s.heap.size ≤ q → A q := fun q h => by rw [← hAe]; exact Or.inr h
  have hS : va_S A s.heap s.heap [] := va_S.rf
  obtain ⟨hx, hb, hml, hown, hts, hr, hlk, hnm⟩ := id X
  have hl : lv_has ls 5 [(0, .ref (g 1 j)), (1, .ref (g 0 j))] := hl
  have hP : va_P D classes (cat [[(g 1 j, .inr (2, [.int 1, .int 0, .int 0, .int 0, .ref a0, .ref a1, .ref a2, .ref a3, .ref a4, .ref a5, .ref a6, .ref a7, .ref a8, .ref a9, .ref a10]))], [(g 0 j, .inr (3, [.int 0, .int 0, .int 1, .ref a11, .ref a12, .ref a13, .ref a14, .ref a15, .ref a16, .ref a17, .ref a18, .ref a19, .ref a20, .ref a21, .ref a22, .ref a23, .null, .int 0, .int 0]))]]) s.heap := hP
  have hK : va_K D classes (TY kA) s := hK
  refine lv_aload_n (pc := 0) hx hb d_Fa_learnParts_0 rfl (lv_at hl 0 rfl) ?_
  refine lv_iconst (pc := 1) (v := 0) hx hb d_Fa_learnParts_1 (by decide) ?_
  refine k_put (pc := 2) X hK hP hD hS 0 rfl rfl i_Fa t_Fa t_Fa_ok n_Fa 1 (by decide) wm_396 rfl (Or.inl rfl) rfl rfl (Nat.le_of_ble_eq_true rfl) d_Fa_learnParts_2 (fun H locs hP hD hS => ?_)
  have hP : va_P D classes (cat [[(g 1 j, .inr (2, [.int 1, .int 0, .int 0, .int 0, .ref a0, .ref a1, .ref a2, .ref a3, .ref a4, .ref a5, .ref a6, .ref a7, .ref a8, .ref a9, .ref a10]))], [(g 0 j, .inr (3, [.int 0, .int 0, .int 1, .ref a11, .ref a12, .ref a13, .ref a14, .ref a15, .ref a16, .ref a17, .ref a18, .ref a19, .ref a20, .ref a21, .ref a22, .ref a23, .null, .int 0, .int 0]))]]) H := hP
  have hD : va_D A (cat [[(g 1 j, .inr (2, [.int 1, .int 0, .int 0, .int 0, .ref a0, .ref a1, .ref a2, .ref a3, .ref a4, .ref a5, .ref a6, .ref a7, .ref a8, .ref a9, .ref a10]))], [(g 0 j, .inr (3, [.int 0, .int 0, .int 1, .ref a11, .ref a12, .ref a13, .ref a14, .ref a15, .ref a16, .ref a17, .ref a18, .ref a19, .ref a20, .ref a21, .ref a22, .ref a23, .null, .int 0, .int 0]))]]) := hD
  refine lv_iconst (pc := 5) (v := 0) hx hb d_Fa_learnParts_5 (by decide) ?_
  refine lv_istore_n (pc := 6) (lv' := [(2, .int 0), (0, .ref (g 1 j)), (1, .ref (g 0 j))]) hx hb d_Fa_learnParts_6 rfl hl (by decide) rfl (fun ls hl => ?_)
  refine lv_iconst (pc := 7) (v := 0) hx hb d_Fa_learnParts_7 (by decide) ?_
  refine lv_istore_n (pc := 8) (lv' := [(3, .int 0), (2, .int 0), (0, .ref (g 1 j)), (1, .ref (g 0 j))]) hx hb d_Fa_learnParts_8 rfl hl (by decide) rfl (fun ls hl => ?_)
  refine lv_iload_n (pc := 9) hx hb d_Fa_learnParts_9 rfl (lv_at hl 0 rfl) ?_
  refine lv_aload_n (pc := 10) hx hb d_Fa_learnParts_10 rfl (lv_at hl 3 rfl) ?_
  refine k_get (pc := 11) X hK hP 1 rfl rfl i_Gr 0 (by decide) wm_57 rfl rfl d_Fa_learnParts_11 ?_
  refine lv_icmp_ge (pc := 14) (tgt := 80) hx hb d_Fa_learnParts_14 (by decide) (fun _ => ?_) (fun c1 => absurd (by decide) c1)
  refine W.widen (k := 0) (n := 0) (Nat.le_of_ble_eq_true rfl) (Nat.le_of_ble_eq_true rfl) ?_
  exact W.vret hx hb hr (fun t ht hW => ⟨⟨(), rfl, trivial, by rw [ht]; exact hP, va_K.moved hW.alike hK, hD⟩, hS.F ht⟩) hS.2.2 d_Fa_learnParts_80
set_option maxRecDepth 100000 in
set_option maxHeartbeats 4000000 in
/-- DrawingHouse$Facts.blocksOf(II[I[I[I[I)I -/
theorem c_Fa_blocksOf_z1 (l : Launch) (D : va_G) (kA : Nat → ClassId) (a0 : Nat) (a1 : Nat) (a2 : Nat) (a3 : Nat) : Ci l y_Fa_blocksOf z_Fa_blocksOf { frames := 0, cells := 0, slots := 0, locals := 0 } D classes (TY kA) [.int 0, .int 0, .ref a0, .ref a1, .ref a2, .ref a3] [] (fun r (_ : Unit) => r = 0) (fun u => []) 0 0 := by
  intro sz
  refine k_met (cc := b_Fa_blocksOf) (maxL := 11) (ret := (some .int)) (by decide) rfl (Nat.le_of_ble_eq_true rfl) (fun p e s m below meth c ls X hl hB => ?_)
  obtain ⟨hsz, hP, hK, hD0, hN⟩ := hB
  subst hsz
  have hD := hD0.self (sz := s.heap.size)
  generalize hAe : va_A (cat []) s.heap.size = A at hD ⊢
  have hA : ∀ q : Nat, s.heap.size ≤ q → A q := fun q h => by rw [← hAe]; exact Or.inr h
  have hS : va_S A s.heap s.heap [] := va_S.rf
  obtain ⟨hx, hb, hml, hown, hts, hr, hlk, hnm⟩ := id X
  have hl : lv_has ls 11 [(0, .int 0), (1, .int 0), (2, .ref a0), (3, .ref a1), (4, .ref a2), (5, .ref a3)] := hl
  have hP : va_P D classes (cat []) s.heap := hP
  have hK : va_K D classes (TY kA) s := hK
  refine lv_iconst (pc := 0) (v := 0) hx hb d_Fa_blocksOf_0 (by decide) ?_
  refine lv_istore (pc := 1) (lv' := [(6, .int 0), (0, .int 0), (1, .int 0), (2, .ref a0), (3, .ref a1), (4, .ref a2), (5, .ref a3)]) hx hb d_Fa_blocksOf_1 hl (by decide) rfl (fun ls hl => ?_)
  refine lv_iload (pc := 3) hx hb d_Fa_blocksOf_3 (lv_at hl 0 rfl) ?_
  refine lv_iload_n (pc := 5) hx hb d_Fa_blocksOf_5 rfl (lv_at hl 2 rfl) ?_
  refine lv_icmp_ge (pc := 6) (tgt := 22) hx hb d_Fa_blocksOf_6 (by decide) (fun _ => ?_) (fun c1 => absurd (by decide) c1)
  refine lv_iconst (pc := 22) (v := 1) hx hb d_Fa_blocksOf_22 (by decide) ?_
  refine lv_iload_n (pc := 23) hx hb d_Fa_blocksOf_23 rfl (lv_at hl 1 rfl) ?_
  refine lv_ishl (pc := 24) hx hb d_Fa_blocksOf_24 ?_
  refine k_cst (v := 1) (by decide) ?_
  refine lv_iconst (pc := 25) (v := 1) hx hb d_Fa_blocksOf_25 (by decide) ?_
  refine lv_isub (pc := 26) hx hb d_Fa_blocksOf_26 ?_
  refine k_cst (v := 0) (by decide) ?_
  refine lv_istore (pc := 27) (lv' := [(6, .int 0), (0, .int 0), (1, .int 0), (2, .ref a0), (3, .ref a1), (4, .ref a2), (5, .ref a3)]) hx hb d_Fa_blocksOf_27 hl (by decide) rfl (fun ls hl => ?_)
  refine lv_iconst (pc := 29) (v := 0) hx hb d_Fa_blocksOf_29 (by decide) ?_
  refine lv_istore (pc := 30) (lv' := [(7, .int 0), (6, .int 0), (0, .int 0), (1, .int 0), (2, .ref a0), (3, .ref a1), (4, .ref a2), (5, .ref a3)]) hx hb d_Fa_blocksOf_30 hl (by decide) rfl (fun ls hl => ?_)
  refine lv_iload (pc := 32) hx hb d_Fa_blocksOf_32 (lv_at hl 0 rfl) ?_
  refine lv_iload_n (pc := 34) hx hb d_Fa_blocksOf_34 rfl (lv_at hl 2 rfl) ?_
  refine lv_icmp_ge (pc := 35) (tgt := 118) hx hb d_Fa_blocksOf_35 (by decide) (fun _ => ?_) (fun c1 => absurd (by decide) c1)
  refine lv_iconst (pc := 118) (v := 0) hx hb d_Fa_blocksOf_118 (by decide) ?_
  refine lv_istore (pc := 119) (lv' := [(7, .int 0), (6, .int 0), (0, .int 0), (1, .int 0), (2, .ref a0), (3, .ref a1), (4, .ref a2), (5, .ref a3)]) hx hb d_Fa_blocksOf_119 hl (by decide) rfl (fun ls hl => ?_)
  refine lv_iconst (pc := 121) (v := 0) hx hb d_Fa_blocksOf_121 (by decide) ?_
  refine lv_istore (pc := 122) (lv' := [(8, .int 0), (7, .int 0), (6, .int 0), (0, .int 0), (1, .int 0), (2, .ref a0), (3, .ref a1), (4, .ref a2), (5, .ref a3)]) hx hb d_Fa_blocksOf_122 hl (by decide) rfl (fun ls hl => ?_)
  refine lv_iload (pc := 124) hx hb d_Fa_blocksOf_124 (lv_at hl 0 rfl) ?_
  refine lv_iload_n (pc := 126) hx hb d_Fa_blocksOf_126 rfl (lv_at hl 4 rfl) ?_
  refine lv_icmp_ge (pc := 127) (tgt := 172) hx hb d_Fa_blocksOf_127 (by decide) (fun _ => ?_) (fun c1 => absurd (by decide) c1)
  refine lv_iload (pc := 172) hx hb d_Fa_blocksOf_172 (lv_at hl 1 rfl) ?_
  refine W.widen (k := 0) (n := 0) (Nat.le_of_ble_eq_true rfl) (Nat.le_of_ble_eq_true rfl) ?_
  exact W.iret (v := 0) hx hb hr (fun t ht hW => ⟨⟨0, (), rfl, rfl, by rw [ht]; exact hP, va_K.moved hW.alike hK, hD⟩, hS.F ht⟩) hS.2.2 d_Fa_blocksOf_174
set_option maxRecDepth 100000 in
set_option maxHeartbeats 4000000 in
theorem lp1_Fa_learnBlocksAt_z1 {p : Program} {l : Launch} {e : Env} {R : Room} {s : State} {m : MethodId} {args : Array Value} {below : List Frame} {meth : Method} {c : Code} {cells slots : Nat} {Q : State → Prop} {D : va_G} {kA : Nat → ClassId} {A : Nat → Prop} (X : cx p s m args meth c b_Fa_learnBlocksAt 6 none "DrawingHouse$Facts" "learnBlocksAt") (hK : va_K D classes (TY kA) s) (g : Nat → Nat → Nat) (j : Nat) (a0 : Nat) (a1 : Nat) (a2 : Nat) (a3 : Nat) (a4 : Nat) (a5 : Nat) (a6 : Nat) (a7 : Nat) (a8 : Nat) (a9 : Nat) (a10 : Nat) (a11 : Nat) (a12 : Nat) (a13 : Nat) (a14 : Nat) (a15 : Nat) (a16 : Nat) (a17 : Nat) (a18 : Nat) (a19 : Nat) (a20 : Nat) (a21 : Nat) (a22 : Nat) (a23 : Nat) (hj : j < 4)
    (hex : ∀ (f80 : Nat → Int32) (H : Heap) (locs : List Loc) (ls : Array Slot), va_P D classes (cat [[(g 0 j, .inr (3, [.int 0, .int 0, .int 1, .ref a0, .ref a1, .ref a2, .ref a3, .ref a4, .ref a5, .ref a6, .ref a7, .ref a8, .ref a9, .ref a10, .ref a11, .ref a12, .null, .int 0, .int 0]))], [(g 1 j, .inr (2, [.int 1, .int 0, .int 0, .int 0, .ref a13, .ref a14, .ref a15, .ref a16, .ref a17, .ref a18, .ref a19, .ref a20, .ref a21, .ref a22, .ref a23]))], [(a14, .inl (kA 0, 48, .inl f80))]]) H → va_D A (cat [[(g 0 j, .inr (3, [.int 0, .int 0, .int 1, .ref a0, .ref a1, .ref a2, .ref a3, .ref a4, .ref a5, .ref a6, .ref a7, .ref a8, .ref a9, .ref a10, .ref a11, .ref a12, .null, .int 0, .int 0]))], [(g 1 j, .inr (2, [.int 1, .int 0, .int 0, .int 0, .ref a13, .ref a14, .ref a15, .ref a16, .ref a17, .ref a18, .ref a19, .ref a20, .ref a21, .ref a22, .ref a23]))], [(a14, .inl (kA 0, 48, .inl f80))]]) → va_S A s.heap H locs → lv_has ls 6 [(2, .int (nI 48)), (0, .ref (g 1 j)), (1, .ref (g 0 j))] → W p l e R s m args below meth c H locs cells slots Q (F0 m 24 ls [])) :
    ∀ (k i : Nat), i + k = 48 → ∀ (f80 : Nat → Int32) (H : Heap) (locs : List Loc) (ls : Array Slot), va_P D classes (cat [[(g 0 j, .inr (3, [.int 0, .int 0, .int 1, .ref a0, .ref a1, .ref a2, .ref a3, .ref a4, .ref a5, .ref a6, .ref a7, .ref a8, .ref a9, .ref a10, .ref a11, .ref a12, .null, .int 0, .int 0]))], [(g 1 j, .inr (2, [.int 1, .int 0, .int 0, .int 0, .ref a13, .ref a14, .ref a15, .ref a16, .ref a17, .ref a18, .ref a19, .ref a20, .ref a21, .ref a22, .ref a23]))], [(a14, .inl (kA 0, 48, .inl f80))]]) H → va_D A (cat [[(g 0 j, .inr (3, [.int 0, .int 0, .int 1, .ref a0, .ref a1, .ref a2, .ref a3, .ref a4, .ref a5, .ref a6, .ref a7, .ref a8, .ref a9, .ref a10, .ref a11, .ref a12, .null, .int 0, .int 0]))], [(g 1 j, .inr (2, [.int 1, .int 0, .int 0, .int 0, .ref a13, .ref a14, .ref a15, .ref a16, .ref a17, .ref a18, .ref a19, .ref a20, .ref a21, .ref a22, .ref a23]))], [(a14, .inl (kA 0, 48, .inl f80))]]) → va_S A s.heap H locs → lv_has ls 6 [(2, .int (nI i)), (0, .ref (g 1 j)), (1, .ref (g 0 j))] → W p l e R s m args below meth c H locs cells slots Q (F0 m 5 ls []) := by
  obtain ⟨hx, hb, hml, hown, hts, hr, hlk, hnm⟩ := id X
  intro k
  induction k with
  | zero =>
    intro i hi f80 H locs ls hP hD hS hl
    have hi : i = 48 := hi
    subst hi
    refine lv_iload_n (pc := 5) hx hb d_Fa_learnBlocksAt_5 rfl (lv_at hl 0 rfl) ?_
    refine lv_bipush (pc := 6) (v := 48) hx hb d_Fa_learnBlocksAt_6 (by decide) ?_
    refine k_cge (pc := 8) (x := 48) (y := 48) (tgt := 24) hx hb (by decide) (by decide) d_Fa_learnBlocksAt_8 (by decide) (fun c1 => ?_) (fun c1 => absurd c1 (by omega))
    exact hex f80 H locs ls hP hD hS hl
  | succ k ih =>
    intro i hi f80 H locs ls hP hD hS hl
    have hlt : i < 48 := by omega
    refine lv_iload_n (pc := 5) hx hb d_Fa_learnBlocksAt_5 rfl (lv_at hl 0 rfl) ?_
    refine lv_bipush (pc := 6) (v := 48) hx hb d_Fa_learnBlocksAt_6 (by decide) ?_
    refine k_cge (pc := 8) (x := i) (y := 48) (tgt := 24) hx hb (by omega) (by decide) d_Fa_learnBlocksAt_8 (by decide) (fun c1 => absurd c1 (by omega)) (fun c1 => ?_)
    refine lv_aload_n (pc := 11) hx hb d_Fa_learnBlocksAt_11 rfl (lv_at hl 1 rfl) ?_
    refine k_get (pc := 12) X hK hP 1 rfl rfl i_Fa 5 (by decide) wm_409 rfl rfl d_Fa_learnBlocksAt_12 ?_
    refine lv_iload_n (pc := 15) hx hb d_Fa_learnBlocksAt_15 rfl (lv_at hl 0 rfl) ?_
    refine lv_iconst (pc := 16) (v := -1) hx hb d_Fa_learnBlocksAt_16 (by decide) ?_
    refine k_ist (pc := 17) hx hb hK hP hD hS 2 0 rfl rfl (i) rfl (by omega) (by decide) d_Fa_learnBlocksAt_17 (fun H locs hP hD hS => ?_)
    have hP : va_P D classes (cat [[(g 0 j, .inr (3, [.int 0, .int 0, .int 1, .ref a0, .ref a1, .ref a2, .ref a3, .ref a4, .ref a5, .ref a6, .ref a7, .ref a8, .ref a9, .ref a10, .ref a11, .ref a12, .null, .int 0, .int 0]))], [(g 1 j, .inr (2, [.int 1, .int 0, .int 0, .int 0, .ref a13, .ref a14, .ref a15, .ref a16, .ref a17, .ref a18, .ref a19, .ref a20, .ref a21, .ref a22, .ref a23]))], [(a14, .inl (kA 0, 48, .inl (upd f80 i ((-1)))))]]) H := hP
    have hD : va_D A (cat [[(g 0 j, .inr (3, [.int 0, .int 0, .int 1, .ref a0, .ref a1, .ref a2, .ref a3, .ref a4, .ref a5, .ref a6, .ref a7, .ref a8, .ref a9, .ref a10, .ref a11, .ref a12, .null, .int 0, .int 0]))], [(g 1 j, .inr (2, [.int 1, .int 0, .int 0, .int 0, .ref a13, .ref a14, .ref a15, .ref a16, .ref a17, .ref a18, .ref a19, .ref a20, .ref a21, .ref a22, .ref a23]))], [(a14, .inl (kA 0, 48, .inl (upd f80 i ((-1)))))]]) := hD
    refine lv_iinc (pc := 18) (v := nI (i + 1)) (lv' := [(2, .int (nI (i + 1))), (0, .ref (g 1 j)), (1, .ref (g 0 j))]) hx hb d_Fa_learnBlocksAt_18 hl (k := 0) rfl (nI_add _ 1) (by decide) rfl (fun ls hl => ?_)
    refine lv_goto (pc := 21) (tgt := 5) hx hb d_Fa_learnBlocksAt_21 (by decide) ?_
    exact ih (i + 1) (by omega) _ H locs ls hP hD hS (lv_sub hl [0, 1, 2] rfl)
set_option maxRecDepth 100000 in
set_option maxHeartbeats 4000000 in
/-- DrawingHouse$Facts.learnBlocksAt(LDrawingHouse$Graph;)V -/
theorem c_Fa_learnBlocksAt_z1 (l : Launch) (D : va_G) (kA : Nat → ClassId) (g : Nat → Nat → Nat) (j : Nat) (a0 : Nat) (a1 : Nat) (a2 : Nat) (a3 : Nat) (a4 : Nat) (a5 : Nat) (a6 : Nat) (a7 : Nat) (a8 : Nat) (a9 : Nat) (a10 : Nat) (a11 : Nat) (a12 : Nat) (a13 : Nat) (a14 : Nat) (a15 : Nat) (a16 : Nat) (a17 : Nat) (a18 : Nat) (a19 : Nat) (a20 : Nat) (a21 : Nat) (a22 : Nat) (a23 : Nat) (f0 : Nat → Int32) (hj : j < 4) : Cv l y_Fa_learnBlocksAt z_Fa_learnBlocksAt { frames := 0, cells := 0, slots := 0, locals := 0 } D classes (TY kA) [.ref (g 1 j), .ref (g 0 j)] [[(g 0 j, .inr (3, [.int 0, .int 0, .int 1, .ref a0, .ref a1, .ref a2, .ref a3, .ref a4, .ref a5, .ref a6, .ref a7, .ref a8, .ref a9, .ref a10, .ref a11, .ref a12, .null, .int 0, .int 0]))], [(g 1 j, .inr (2, [.int 1, .int 0, .int 0, .int 0, .ref a13, .ref a14, .ref a15, .ref a16, .ref a17, .ref a18, .ref a19, .ref a20, .ref a21, .ref a22, .ref a23]))], [(a14, .inl (kA 0, 48, .inl f0))]] (fun _ : (Nat → Nat) × (Nat → Nat → Int32) => True) (fun u => [[(g 0 j, .inr (3, [.int 0, .int 0, .int 1, .ref a0, .ref a1, .ref a2, .ref a3, .ref a4, .ref a5, .ref a6, .ref a7, .ref a8, .ref a9, .ref a10, .ref a11, .ref a12, .null, .int 0, .int 0]))], [(g 1 j, .inr (2, [.int 1, .int 0, .int 0, .int 0, .ref a13, .ref a14, .ref a15, .ref a16, .ref a17, .ref a18, .ref a19, .ref a20, .ref a21, .ref a22, .ref a23]))], [(a14, .inl (kA 0, 48, .inl (u.2 0)))]]) 0 0 := by
  intro sz
  refine k_met (cc := b_Fa_learnBlocksAt) (maxL := 6) (ret := none) (by decide) rfl (Nat.le_of_ble_eq_true rfl) (fun p e s m below meth c ls X hl hB => ?_)
  obtain ⟨hsz, hP, hK, hD0, hN⟩ := hB
  subst hsz
  have hD := hD0.self (sz := s.heap.size)
  generalize hAe : va_A (cat [[(g 0 j, .inr (3, [.int 0, .int 0, .int 1, .ref a0, .ref a1, .ref a2, .ref a3, .ref a4, .ref a5, .ref a6, .ref a7, .ref a8, .ref a9, .ref a10, .ref a11, .ref a12, .null, .int 0, .int 0]))], [(g 1 j, .inr (2, [.int 1, .int 0, .int 0, .int 0, .ref a13, .ref a14, .ref a15, .ref a16, .ref a17, .ref a18, .ref a19, .ref a20, .ref a21, .ref a22, .ref a23]))], [(a14, .inl (kA 0, 48, .inl f0))]]) s.heap.size = A at hD ⊢
  have hA : ∀ q : Nat, s.heap.size ≤ q → A q := fun q h => by rw [← hAe]; exact Or.inr h
  have hS : va_S A s.heap s.heap [] := va_S.rf
  obtain ⟨hx, hb, hml, hown, hts, hr, hlk, hnm⟩ := id X
  have hl : lv_has ls 6 [(0, .ref (g 1 j)), (1, .ref (g 0 j))] := hl
  have hP : va_P D classes (cat [[(g 0 j, .inr (3, [.int 0, .int 0, .int 1, .ref a0, .ref a1, .ref a2, .ref a3, .ref a4, .ref a5, .ref a6, .ref a7, .ref a8, .ref a9, .ref a10, .ref a11, .ref a12, .null, .int 0, .int 0]))], [(g 1 j, .inr (2, [.int 1, .int 0, .int 0, .int 0, .ref a13, .ref a14, .ref a15, .ref a16, .ref a17, .ref a18, .ref a19, .ref a20, .ref a21, .ref a22, .ref a23]))], [(a14, .inl (kA 0, 48, .inl f0))]]) s.heap := hP
  have hK : va_K D classes (TY kA) s := hK
  refine lv_aload_n (pc := 0) hx hb d_Fa_learnBlocksAt_0 rfl (lv_at hl 1 rfl) ?_
  refine k_get (pc := 1) X hK hP 0 rfl rfl i_Gr 1 (by decide) wm_69 rfl rfl d_Fa_learnBlocksAt_1 ?_
  refine lv_istore_n (pc := 4) (lv' := [(2, .int 0), (0, .ref (g 1 j)), (1, .ref (g 0 j))]) hx hb d_Fa_learnBlocksAt_4 rfl hl (by decide) rfl (fun ls hl => ?_)
  refine lp1_Fa_learnBlocksAt_z1 X hK g j a0 a1 a2 a3 a4 a5 a6 a7 a8 a9 a10 a11 a12 a13 a14 a15 a16 a17 a18 a19 a20 a21 a22 a23 hj (fun f910 H locs ls hP hD hS hl => ?_) 48 0 (by omega) _ _ _ ls hP hD hS (lv_sub hl [0, 1, 2] rfl)
  refine lv_iconst (pc := 24) (v := 0) hx hb d_Fa_learnBlocksAt_24 (by decide) ?_
  refine lv_istore_n (pc := 25) (lv' := [(2, .int 0), (0, .ref (g 1 j)), (1, .ref (g 0 j))]) hx hb d_Fa_learnBlocksAt_25 rfl hl (by decide) rfl (fun ls hl => ?_)
  refine lv_iload_n (pc := 26) hx hb d_Fa_learnBlocksAt_26 rfl (lv_at hl 0 rfl) ?_
  refine lv_aload_n (pc := 27) hx hb d_Fa_learnBlocksAt_27 rfl (lv_at hl 2 rfl) ?_
  refine k_get (pc := 28) X hK hP 0 rfl rfl i_Gr 0 (by decide) wm_57 rfl rfl d_Fa_learnBlocksAt_28 ?_
  refine lv_icmp_ge (pc := 31) (tgt := 104) hx hb d_Fa_learnBlocksAt_31 (by decide) (fun _ => ?_) (fun c1 => absurd (by decide) c1)
  refine W.widen (k := 0) (n := 0) (Nat.le_of_ble_eq_true rfl) (Nat.le_of_ble_eq_true rfl) ?_
  exact W.vret hx hb hr (fun t ht hW => ⟨⟨((fun _ => 0), (fun k => match k with | 0 => f910 | _ => fun _ => 0)), rfl, trivial, by rw [ht]; exact hP, va_K.moved hW.alike hK, hD⟩, hS.F ht⟩) hS.2.2 d_Fa_learnBlocksAt_104
set_option maxRecDepth 100000 in
set_option maxHeartbeats 4000000 in
/-- DrawingHouse$Facts.numberStrong(I[I)I -/
theorem c_Fa_numberStrong_z1 (l : Launch) (D : va_G) (kA : Nat → ClassId) (g : Nat → Nat → Nat) (j : Nat) (a0 : Nat) (f0 : Nat → Int32) (hj : j < 4) : Ci l y_Fa_numberStrong z_Fa_numberStrong { frames := 1, cells := 0, slots := 0, locals := 23 } D classes (TY kA) [.ref (g 1 j), .int 0, .ref a0] [[(a0, .inl (kA 0, 24, .inl f0))]] (fun r (_ : Unit) => r = 0) (fun u => [[(a0, .inl (kA 0, 24, .inl (fl f0 24 (-1))))]]) 0 0 := by
  intro sz
  refine k_met (cc := b_Fa_numberStrong) (maxL := 6) (ret := (some .int)) (by decide) rfl (Nat.le_of_ble_eq_true rfl) (fun p e s m below meth c ls X hl hB => ?_)
  obtain ⟨hsz, hP, hK, hD0, hN⟩ := hB
  subst hsz
  have hD := hD0.self (sz := s.heap.size)
  generalize hAe : va_A (cat [[(a0, .inl (kA 0, 24, .inl f0))]]) s.heap.size = A at hD ⊢
  have hA : ∀ q : Nat, s.heap.size ≤ q → A q := fun q h => by rw [← hAe]; exact Or.inr h
  have hS : va_S A s.heap s.heap [] := va_S.rf
  obtain ⟨hx, hb, hml, hown, hts, hr, hlk, hnm⟩ := id X
  have hl : lv_has ls 6 [(0, .ref (g 1 j)), (1, .int 0), (2, .ref a0)] := hl
  have hP : va_P D classes (cat [[(a0, .inl (kA 0, 24, .inl f0))]]) s.heap := hP
  have hK : va_K D classes (TY kA) s := hK
  refine lv_iconst (pc := 0) (v := 0) hx hb d_Fa_numberStrong_0 (by decide) ?_
  refine lv_istore_n (pc := 1) (lv' := [(3, .int 0), (0, .ref (g 1 j)), (1, .int 0), (2, .ref a0)]) hx hb d_Fa_numberStrong_1 rfl hl (by decide) rfl (fun ls hl => ?_)
  refine lv_iload_n (pc := 2) hx hb d_Fa_numberStrong_2 rfl (lv_at hl 0 rfl) ?_
  refine lv_iload_n (pc := 3) hx hb d_Fa_numberStrong_3 rfl (lv_at hl 2 rfl) ?_
  refine lv_icmp_ge (pc := 4) (tgt := 58) hx hb d_Fa_numberStrong_4 (by decide) (fun _ => ?_) (fun c1 => absurd (by decide) c1)
  refine lv_iconst (pc := 58) (v := 0) hx hb d_Fa_numberStrong_58 (by decide) ?_
  refine lv_istore_n (pc := 59) (lv' := [(3, .int 0), (0, .ref (g 1 j)), (1, .int 0), (2, .ref a0)]) hx hb d_Fa_numberStrong_59 rfl hl (by decide) rfl (fun ls hl => ?_)
  refine lv_aload_n (pc := 60) hx hb d_Fa_numberStrong_60 rfl (lv_at hl 3 rfl) ?_
  refine lv_iconst (pc := 61) (v := -1) hx hb d_Fa_numberStrong_61 (by decide) ?_
  refine k_goV (gr := []) (k_rS (pc := 62) (As := [.ref a0, .int ((-1))]) (rest := []) X (c_fillI l D (TY kA) 0 (kA 0) rfl a0 24 (by decide) f0 (-1) s.heap.size) rfl wm_55 wm_4 wm_855 wm_54 2 (by decide +kernel) ⟨Nat.le_of_ble_eq_true rfl, Nat.le_of_ble_eq_true rfl⟩ rfl rfl (k_pre hN hK hP hD [0] [] 1 rfl (by decide) rfl) rfl hl.1 rfl (Nat.le_of_ble_eq_true rfl) d_Fa_numberStrong_62 ⟨Nat.le_of_ble_eq_true rfl, Nat.le_of_ble_eq_true rfl⟩) hP hD hS hA [0] [] 1 rfl (by decide) rfl rfl (fun u1 H locs hu1 hP hD hS => ?_)
  have hP : va_P D classes (cat [[(a0, .inl (kA 0, 24, .inl (fl f0 24 (-1))))]]) H := hP
  have hD : va_D A (cat [[(a0, .inl (kA 0, 24, .inl (fl f0 24 (-1))))]]) := hD
  refine lv_iconst (pc := 65) (v := 0) hx hb d_Fa_numberStrong_65 (by decide) ?_
  refine lv_istore (pc := 66) (lv' := [(4, .int 0), (3, .int 0), (0, .ref (g 1 j)), (1, .int 0), (2, .ref a0)]) hx hb d_Fa_numberStrong_66 hl (by decide) rfl (fun ls hl => ?_)
  refine lv_iload (pc := 68) hx hb d_Fa_numberStrong_68 (lv_at hl 0 rfl) ?_
  refine lv_iload_n (pc := 70) hx hb d_Fa_numberStrong_70 rfl (lv_at hl 3 rfl) ?_
  refine lv_icmp_ge (pc := 71) (tgt := 149) hx hb d_Fa_numberStrong_71 (by decide) (fun _ => ?_) (fun c1 => absurd (by decide) c1)
  refine lv_iload_n (pc := 149) hx hb d_Fa_numberStrong_149 rfl (lv_at hl 1 rfl) ?_
  refine W.widen (k := 0) (n := 0) (Nat.le_of_ble_eq_true rfl) (Nat.le_of_ble_eq_true rfl) ?_
  exact W.iret (v := 0) hx hb hr (fun t ht hW => ⟨⟨0, (), rfl, rfl, by rw [ht]; exact hP, va_K.moved hW.alike hK, hD⟩, hS.F ht⟩) hS.2.2 d_Fa_numberStrong_150
set_option maxRecDepth 100000 in
set_option maxHeartbeats 4000000 in
/-- DrawingHouse$Facts.learnStrong(LDrawingHouse$Graph;)V -/
theorem c_Fa_learnStrong_z1 (l : Launch) (D : va_G) (kA : Nat → ClassId) (g : Nat → Nat → Nat) (j : Nat) (a0 : Nat) (a1 : Nat) (a2 : Nat) (a3 : Nat) (a4 : Nat) (a5 : Nat) (a6 : Nat) (a7 : Nat) (a8 : Nat) (a9 : Nat) (a10 : Nat) (f0 : Nat → Int32) (a11 : Nat) (a12 : Nat) (a13 : Nat) (a14 : Nat) (a15 : Nat) (a16 : Nat) (a17 : Nat) (a18 : Nat) (a19 : Nat) (a20 : Nat) (a21 : Nat) (a22 : Nat) (a23 : Nat) (f1 : Nat → Int32) (hj : j < 4) : Cv l y_Fa_learnStrong z_Fa_learnStrong { frames := 2, cells := 0, slots := 0, locals := 48 } D classes (TY kA) [.ref (g 1 j), .ref (g 0 j)] [[(g 1 j, .inr (2, [.int 1, .int 0, .int 0, .int 0, .ref a0, .ref a1, .ref a2, .ref a3, .ref a4, .ref a5, .ref a6, .ref a7, .ref a8, .ref a9, .ref a10]))], [(a6, .inl (kA 0, 24, .inl f0))], [(g 0 j, .inr (3, [.int 0, .int 0, .int 1, .ref a11, .ref a12, .ref a13, .ref a14, .ref a15, .ref a16, .ref a17, .ref a18, .ref a19, .ref a20, .ref a21, .ref a22, .ref a23, .null, .int 0, .int 0]))], [(a2, .inl (kA 0, 24, .inl f1))]] (fun _ : Unit => True) (fun u => [[(g 1 j, .inr (2, [.int 1, .int 0, .int 0, .int 0, .ref a0, .ref a1, .ref a2, .ref a3, .ref a4, .ref a5, .ref a6, .ref a7, .ref a8, .ref a9, .ref a10]))], [(a6, .inl (kA 0, 24, .inl (fl f0 24 0)))], [(g 0 j, .inr (3, [.int 0, .int 0, .int 1, .ref a11, .ref a12, .ref a13, .ref a14, .ref a15, .ref a16, .ref a17, .ref a18, .ref a19, .ref a20, .ref a21, .ref a22, .ref a23, .null, .int 0, .int 0]))], [(a2, .inl (kA 0, 24, .inl (fl f1 24 (-1))))]]) 0 0 := by
  intro sz
  refine k_met (cc := b_Fa_learnStrong) (maxL := 3) (ret := none) (by decide) rfl (Nat.le_of_ble_eq_true rfl) (fun p e s m below meth c ls X hl hB => ?_)
  obtain ⟨hsz, hP, hK, hD0, hN⟩ := hB
  subst hsz
  have hD := hD0.self (sz := s.heap.size)
  generalize hAe : va_A (cat [[(g 1 j, .inr (2, [.int 1, .int 0, .int 0, .int 0, .ref a0, .ref a1, .ref a2, .ref a3, .ref a4, .ref a5, .ref a6, .ref a7, .ref a8, .ref a9, .ref a10]))], [(a6, .inl (kA 0, 24, .inl f0))], [(g 0 j, .inr (3, [.int 0, .int 0, .int 1, .ref a11, .ref a12, .ref a13, .ref a14, .ref a15, .ref a16, .ref a17, .ref a18, .ref a19, .ref a20, .ref a21, .ref a22, .ref a23, .null, .int 0, .int 0]))], [(a2, .inl (kA 0, 24, .inl f1))]]) s.heap.size = A at hD ⊢
  have hA : ∀ q : Nat, s.heap.size ≤ q → A q := fun q h => by rw [← hAe]; exact Or.inr h
  have hS : va_S A s.heap s.heap [] := va_S.rf
  obtain ⟨hx, hb, hml, hown, hts, hr, hlk, hnm⟩ := id X
  have hl : lv_has ls 3 [(0, .ref (g 1 j)), (1, .ref (g 0 j))] := hl
  have hP : va_P D classes (cat [[(g 1 j, .inr (2, [.int 1, .int 0, .int 0, .int 0, .ref a0, .ref a1, .ref a2, .ref a3, .ref a4, .ref a5, .ref a6, .ref a7, .ref a8, .ref a9, .ref a10]))], [(a6, .inl (kA 0, 24, .inl f0))], [(g 0 j, .inr (3, [.int 0, .int 0, .int 1, .ref a11, .ref a12, .ref a13, .ref a14, .ref a15, .ref a16, .ref a17, .ref a18, .ref a19, .ref a20, .ref a21, .ref a22, .ref a23, .null, .int 0, .int 0]))], [(a2, .inl (kA 0, 24, .inl f1))]]) s.heap := hP
  have hK : va_K D classes (TY kA) s := hK
  refine lv_aload_n (pc := 0) hx hb d_Fa_learnStrong_0 rfl (lv_at hl 0 rfl) ?_
  refine k_get (pc := 1) X hK hP 0 rfl rfl i_Fa 10 (by decide) wm_423 rfl rfl d_Fa_learnStrong_1 ?_
  refine lv_iconst (pc := 4) (v := 0) hx hb d_Fa_learnStrong_4 (by decide) ?_
  refine k_goV (gr := [[(g 1 j, .inr (2, [.int 1, .int 0, .int 0, .int 0, .ref a0, .ref a1, .ref a2, .ref a3, .ref a4, .ref a5, .ref a6, .ref a7, .ref a8, .ref a9, .ref a10]))], [(g 0 j, .inr (3, [.int 0, .int 0, .int 1, .ref a11, .ref a12, .ref a13, .ref a14, .ref a15, .ref a16, .ref a17, .ref a18, .ref a19, .ref a20, .ref a21, .ref a22, .ref a23, .null, .int 0, .int 0]))], [(a2, .inl (kA 0, 24, .inl f1))]]) (k_rS (pc := 5) (As := [.ref a6, .int 0]) (rest := []) X (c_fillI l D (TY kA) 0 (kA 0) rfl a6 24 (by decide) f0 0 s.heap.size) rfl wm_55 wm_4 wm_855 wm_54 2 (by decide +kernel) ⟨Nat.le_of_ble_eq_true rfl, Nat.le_of_ble_eq_true rfl⟩ rfl rfl (k_pre hN hK hP hD [1] [0, 2, 3] 4 rfl (by decide) rfl) rfl hl.1 rfl (Nat.le_of_ble_eq_true rfl) d_Fa_learnStrong_5 ⟨Nat.le_of_ble_eq_true rfl, Nat.le_of_ble_eq_true rfl⟩) hP hD hS hA [1] [0, 2, 3] 4 rfl (by decide) rfl rfl (fun u1 H locs hu1 hP hD hS => ?_)
  have hP : va_P D classes (cat [[(g 1 j, .inr (2, [.int 1, .int 0, .int 0, .int 0, .ref a0, .ref a1, .ref a2, .ref a3, .ref a4, .ref a5, .ref a6, .ref a7, .ref a8, .ref a9, .ref a10]))], [(g 0 j, .inr (3, [.int 0, .int 0, .int 1, .ref a11, .ref a12, .ref a13, .ref a14, .ref a15, .ref a16, .ref a17, .ref a18, .ref a19, .ref a20, .ref a21, .ref a22, .ref a23, .null, .int 0, .int 0]))], [(a2, .inl (kA 0, 24, .inl f1))], [(a6, .inl (kA 0, 24, .inl (fl f0 24 0)))]]) H := hP
  have hD : va_D A (cat [[(g 1 j, .inr (2, [.int 1, .int 0, .int 0, .int 0, .ref a0, .ref a1, .ref a2, .ref a3, .ref a4, .ref a5, .ref a6, .ref a7, .ref a8, .ref a9, .ref a10]))], [(g 0 j, .inr (3, [.int 0, .int 0, .int 1, .ref a11, .ref a12, .ref a13, .ref a14, .ref a15, .ref a16, .ref a17, .ref a18, .ref a19, .ref a20, .ref a21, .ref a22, .ref a23, .null, .int 0, .int 0]))], [(a2, .inl (kA 0, 24, .inl f1))], [(a6, .inl (kA 0, 24, .inl (fl f0 24 0)))]]) := hD
  refine lv_iconst (pc := 8) (v := 0) hx hb d_Fa_learnStrong_8 (by decide) ?_
  refine lv_istore_n (pc := 9) (lv' := [(2, .int 0), (0, .ref (g 1 j)), (1, .ref (g 0 j))]) hx hb d_Fa_learnStrong_9 rfl hl (by decide) rfl (fun ls hl => ?_)
  refine lv_iload_n (pc := 10) hx hb d_Fa_learnStrong_10 rfl (lv_at hl 0 rfl) ?_
  refine lv_aload_n (pc := 11) hx hb d_Fa_learnStrong_11 rfl (lv_at hl 2 rfl) ?_
  refine k_get (pc := 12) X hK hP 1 rfl rfl i_Gr 1 (by decide) wm_69 rfl rfl d_Fa_learnStrong_12 ?_
  refine lv_icmp_ge (pc := 15) (tgt := 77) hx hb d_Fa_learnStrong_15 (by decide) (fun _ => ?_) (fun c1 => absurd (by decide) c1)
  refine lv_aload_n (pc := 77) hx hb d_Fa_learnStrong_77 rfl (lv_at hl 1 rfl) ?_
  refine lv_aload_n (pc := 78) hx hb d_Fa_learnStrong_78 rfl (lv_at hl 1 rfl) ?_
  refine lv_aload_n (pc := 79) hx hb d_Fa_learnStrong_79 rfl (lv_at hl 2 rfl) ?_
  refine k_get (pc := 80) X hK hP 1 rfl rfl i_Gr 0 (by decide) wm_57 rfl rfl d_Fa_learnStrong_80 ?_
  refine lv_aload_n (pc := 83) hx hb d_Fa_learnStrong_83 rfl (lv_at hl 1 rfl) ?_
  refine k_get (pc := 84) X hK hP 0 rfl rfl i_Fa 6 (by decide) wm_412 rfl rfl d_Fa_learnStrong_84 ?_
  refine k_goI (gr := [[(g 1 j, .inr (2, [.int 1, .int 0, .int 0, .int 0, .ref a0, .ref a1, .ref a2, .ref a3, .ref a4, .ref a5, .ref a6, .ref a7, .ref a8, .ref a9, .ref a10]))], [(g 0 j, .inr (3, [.int 0, .int 0, .int 1, .ref a11, .ref a12, .ref a13, .ref a14, .ref a15, .ref a16, .ref a17, .ref a18, .ref a19, .ref a20, .ref a21, .ref a22, .ref a23, .null, .int 0, .int 0]))], [(a6, .inl (kA 0, 24, .inl (fl f0 24 0)))]]) (k_rV (pc := 87) (As := [.int 0, .ref a2]) (rest := [.ref (g 1 j)]) X (c_Fa_numberStrong_z1 l D kA g j a2 f1 hj H.size) rfl wm_859 wm_7 wm_856 wm_858 wv_2_2 2 (by decide +kernel) ⟨Nat.le_of_ble_eq_true rfl, Nat.le_of_ble_eq_true rfl⟩ rfl rfl (va_recv hK hP (ci := 2) (q0 := 0) rfl rfl) (k_pre hN hK hP hD [2] [0, 1, 3] 4 rfl (by decide) rfl) rfl hl.1 rfl (Nat.le_of_ble_eq_true rfl) d_Fa_learnStrong_87 ⟨Nat.le_of_ble_eq_true rfl, Nat.le_of_ble_eq_true rfl⟩) hP hD hS hA [2] [0, 1, 3] 4 rfl (by decide) rfl rfl (fun r2 u3 H locs hu3 hP hD hS => ?_)
  subst hu3
  have hP : va_P D classes (cat [[(g 1 j, .inr (2, [.int 1, .int 0, .int 0, .int 0, .ref a0, .ref a1, .ref a2, .ref a3, .ref a4, .ref a5, .ref a6, .ref a7, .ref a8, .ref a9, .ref a10]))], [(g 0 j, .inr (3, [.int 0, .int 0, .int 1, .ref a11, .ref a12, .ref a13, .ref a14, .ref a15, .ref a16, .ref a17, .ref a18, .ref a19, .ref a20, .ref a21, .ref a22, .ref a23, .null, .int 0, .int 0]))], [(a6, .inl (kA 0, 24, .inl (fl f0 24 0)))], [(a2, .inl (kA 0, 24, .inl (fl f1 24 (-1))))]]) H := hP
  have hD : va_D A (cat [[(g 1 j, .inr (2, [.int 1, .int 0, .int 0, .int 0, .ref a0, .ref a1, .ref a2, .ref a3, .ref a4, .ref a5, .ref a6, .ref a7, .ref a8, .ref a9, .ref a10]))], [(g 0 j, .inr (3, [.int 0, .int 0, .int 1, .ref a11, .ref a12, .ref a13, .ref a14, .ref a15, .ref a16, .ref a17, .ref a18, .ref a19, .ref a20, .ref a21, .ref a22, .ref a23, .null, .int 0, .int 0]))], [(a6, .inl (kA 0, 24, .inl (fl f0 24 0)))], [(a2, .inl (kA 0, 24, .inl (fl f1 24 (-1))))]]) := hD
  refine k_put (pc := 90) X hK hP hD hS 0 rfl rfl i_Fa t_Fa t_Fa_ok n_Fa 3 (by decide) wm_403 rfl (Or.inl rfl) rfl rfl (Nat.le_of_ble_eq_true rfl) d_Fa_learnStrong_90 (fun H locs hP hD hS => ?_)
  have hP : va_P D classes (cat [[(g 1 j, .inr (2, [.int 1, .int 0, .int 0, .int 0, .ref a0, .ref a1, .ref a2, .ref a3, .ref a4, .ref a5, .ref a6, .ref a7, .ref a8, .ref a9, .ref a10]))], [(g 0 j, .inr (3, [.int 0, .int 0, .int 1, .ref a11, .ref a12, .ref a13, .ref a14, .ref a15, .ref a16, .ref a17, .ref a18, .ref a19, .ref a20, .ref a21, .ref a22, .ref a23, .null, .int 0, .int 0]))], [(a6, .inl (kA 0, 24, .inl (fl f0 24 0)))], [(a2, .inl (kA 0, 24, .inl (fl f1 24 (-1))))]]) H := hP
  have hD : va_D A (cat [[(g 1 j, .inr (2, [.int 1, .int 0, .int 0, .int 0, .ref a0, .ref a1, .ref a2, .ref a3, .ref a4, .ref a5, .ref a6, .ref a7, .ref a8, .ref a9, .ref a10]))], [(g 0 j, .inr (3, [.int 0, .int 0, .int 1, .ref a11, .ref a12, .ref a13, .ref a14, .ref a15, .ref a16, .ref a17, .ref a18, .ref a19, .ref a20, .ref a21, .ref a22, .ref a23, .null, .int 0, .int 0]))], [(a6, .inl (kA 0, 24, .inl (fl f0 24 0)))], [(a2, .inl (kA 0, 24, .inl (fl f1 24 (-1))))]]) := hD
  obtain ⟨hP, hD⟩ := k_ord (gc := [[(g 1 j, .inr (2, [.int 1, .int 0, .int 0, .int 0, .ref a0, .ref a1, .ref a2, .ref a3, .ref a4, .ref a5, .ref a6, .ref a7, .ref a8, .ref a9, .ref a10]))], [(a6, .inl (kA 0, 24, .inl (fl f0 24 0)))], [(g 0 j, .inr (3, [.int 0, .int 0, .int 1, .ref a11, .ref a12, .ref a13, .ref a14, .ref a15, .ref a16, .ref a17, .ref a18, .ref a19, .ref a20, .ref a21, .ref a22, .ref a23, .null, .int 0, .int 0]))], [(a2, .inl (kA 0, 24, .inl (fl f1 24 (-1))))]]) hP hD [0, 2, 1, 3] 4 rfl (by decide) rfl
  refine W.widen (k := 0) (n := 0) (Nat.le_of_ble_eq_true rfl) (Nat.le_of_ble_eq_true rfl) ?_
  exact W.vret hx hb hr (fun t ht hW => ⟨⟨(), rfl, trivial, by rw [ht]; exact hP, va_K.moved hW.alike hK, hD⟩, hS.F ht⟩) hS.2.2 d_Fa_learnStrong_93
set_option maxRecDepth 100000 in
set_option maxHeartbeats 4000000 in
/-- DrawingHouse$Facts.learnCore(LDrawingHouse$Graph;)V -/
theorem c_Fa_learnCore_z1 (l : Launch) (D : va_G) (kA : Nat → ClassId) (g : Nat → Nat → Nat) (j : Nat) (a0 : Nat) (a1 : Nat) (a2 : Nat) (a3 : Nat) (a4 : Nat) (a5 : Nat) (a6 : Nat) (a7 : Nat) (a8 : Nat) (a9 : Nat) (a10 : Nat) (a11 : Nat) (a12 : Nat) (hj : j < 4) : Cv l y_Fa_learnCore z_Fa_learnCore { frames := 0, cells := 0, slots := 0, locals := 0 } D classes (TY kA) [.ref (g 1 j), .ref (g 0 j)] [[(g 0 j, .inr (3, [.int 0, .int 0, .int 1, .ref a0, .ref a1, .ref a2, .ref a3, .ref a4, .ref a5, .ref a6, .ref a7, .ref a8, .ref a9, .ref a10, .ref a11, .ref a12, .null, .int 0, .int 0]))]] (fun _ : Unit => True) (fun u => [[(g 0 j, .inr (3, [.int 0, .int 0, .int 1, .ref a0, .ref a1, .ref a2, .ref a3, .ref a4, .ref a5, .ref a6, .ref a7, .ref a8, .ref a9, .ref a10, .ref a11, .ref a12, .null, .int 0, .int 0]))]]) 0 0 := by
  intro sz
  refine k_met (cc := b_Fa_learnCore) (maxL := 6) (ret := none) (by decide) rfl (Nat.le_of_ble_eq_true rfl) (fun p e s m below meth c ls X hl hB => ?_)
  obtain ⟨hsz, hP, hK, hD0, hN⟩ := hB
  subst hsz
  have hD := hD0.self (sz := s.heap.size)
  generalize hAe : va_A (cat [[(g 0 j, .inr (3, [.int 0, .int 0, .int 1, .ref a0, .ref a1, .ref a2, .ref a3, .ref a4, .ref a5, .ref a6, .ref a7, .ref a8, .ref a9, .ref a10, .ref a11, .ref a12, .null, .int 0, .int 0]))]]) s.heap.size = A at hD ⊢
  have hA : ∀ q : Nat, s.heap.size ≤ q → A q := fun q h => by rw [← hAe]; exact Or.inr h
  have hS : va_S A s.heap s.heap [] := va_S.rf
  obtain ⟨hx, hb, hml, hown, hts, hr, hlk, hnm⟩ := id X
  have hl : lv_has ls 6 [(0, .ref (g 1 j)), (1, .ref (g 0 j))] := hl
  have hP : va_P D classes (cat [[(g 0 j, .inr (3, [.int 0, .int 0, .int 1, .ref a0, .ref a1, .ref a2, .ref a3, .ref a4, .ref a5, .ref a6, .ref a7, .ref a8, .ref a9, .ref a10, .ref a11, .ref a12, .null, .int 0, .int 0]))]]) s.heap := hP
  have hK : va_K D classes (TY kA) s := hK
  refine lv_iconst (pc := 0) (v := 1) hx hb d_Fa_learnCore_0 (by decide) ?_
  refine lv_aload_n (pc := 1) hx hb d_Fa_learnCore_1 rfl (lv_at hl 1 rfl) ?_
  refine k_get (pc := 2) X hK hP 0 rfl rfl i_Gr 0 (by decide) wm_57 rfl rfl d_Fa_learnCore_2 ?_
  refine lv_ishl (pc := 5) hx hb d_Fa_learnCore_5 ?_
  refine k_cst (v := 1) (by decide) ?_
  refine lv_iconst (pc := 6) (v := 1) hx hb d_Fa_learnCore_6 (by decide) ?_
  refine lv_isub (pc := 7) hx hb d_Fa_learnCore_7 ?_
  refine k_cst (v := 0) (by decide) ?_
  refine lv_istore_n (pc := 8) (lv' := [(2, .int 0), (0, .ref (g 1 j)), (1, .ref (g 0 j))]) hx hb d_Fa_learnCore_8 rfl hl (by decide) rfl (fun ls hl => ?_)
  refine lv_iconst (pc := 9) (v := 0) hx hb d_Fa_learnCore_9 (by decide) ?_
  refine lv_istore_n (pc := 10) (lv' := [(3, .int 0), (2, .int 0), (0, .ref (g 1 j)), (1, .ref (g 0 j))]) hx hb d_Fa_learnCore_10 rfl hl (by decide) rfl (fun ls hl => ?_)
  refine lv_iload_n (pc := 11) hx hb d_Fa_learnCore_11 rfl (lv_at hl 0 rfl) ?_
  refine lv_bipush (pc := 12) (v := 24) hx hb d_Fa_learnCore_12 (by decide) ?_
  refine lv_icmp_ge (pc := 14) (tgt := 63) hx hb d_Fa_learnCore_14 (by decide) (fun c1 => absurd c1 (by decide)) (fun _ => ?_)
  refine lv_iload_n (pc := 17) hx hb d_Fa_learnCore_17 rfl (lv_at hl 1 rfl) ?_
  refine lv_if_eq (pc := 18) (tgt := 63) hx hb d_Fa_learnCore_18 (by decide) (fun c1 => ?_) (fun c1 => absurd (by decide) c1)
  refine W.widen (k := 0) (n := 0) (Nat.le_of_ble_eq_true rfl) (Nat.le_of_ble_eq_true rfl) ?_
  exact W.vret hx hb hr (fun t ht hW => ⟨⟨(), rfl, trivial, by rw [ht]; exact hP, va_K.moved hW.alike hK, hD⟩, hS.F ht⟩) hS.2.2 d_Fa_learnCore_63
set_option maxRecDepth 100000 in
set_option maxHeartbeats 4000000 in
/-- DrawingHouse$Facts.learnTurned(LDrawingHouse$Graph;)V -/
theorem c_Fa_learnTurned_z1 (l : Launch) (D : va_G) (kA : Nat → ClassId) (g : Nat → Nat → Nat) (j : Nat) (a0 : Nat) (a1 : Nat) (a2 : Nat) (a3 : Nat) (a4 : Nat) (a5 : Nat) (a6 : Nat) (a7 : Nat) (a8 : Nat) (a9 : Nat) (a10 : Nat) (f0 : Nat → Int32) (a11 : Nat) (a12 : Nat) (a13 : Nat) (a14 : Nat) (a15 : Nat) (a16 : Nat) (a17 : Nat) (a18 : Nat) (a19 : Nat) (a20 : Nat) (a21 : Nat) (a22 : Nat) (a23 : Nat) (f1 : Nat → Int32) (hj : j < 4) : Cv l y_Fa_learnTurned z_Fa_learnTurned { frames := 2, cells := 0, slots := 0, locals := 48 } D classes (TY kA) [.ref (g 1 j), .ref (g 0 j)] [[(g 1 j, .inr (2, [.int 1, .int 0, .int 0, .int 0, .ref a0, .ref a1, .ref a2, .ref a3, .ref a4, .ref a5, .ref a6, .ref a7, .ref a8, .ref a9, .ref a10]))], [(a6, .inl (kA 0, 24, .inl f0))], [(g 0 j, .inr (3, [.int 0, .int 0, .int 1, .ref a11, .ref a12, .ref a13, .ref a14, .ref a15, .ref a16, .ref a17, .ref a18, .ref a19, .ref a20, .ref a21, .ref a22, .ref a23, .null, .int 0, .int 0]))], [(a7, .inl (kA 0, 24, .inl f1))]] (fun _ : Unit => True) (fun u => [[(g 1 j, .inr (2, [.int 1, .int 0, .int 0, .int 0, .ref a0, .ref a1, .ref a2, .ref a3, .ref a4, .ref a5, .ref a6, .ref a7, .ref a8, .ref a9, .ref a10]))], [(a6, .inl (kA 0, 24, .inl (fl f0 24 0)))], [(g 0 j, .inr (3, [.int 0, .int 0, .int 1, .ref a11, .ref a12, .ref a13, .ref a14, .ref a15, .ref a16, .ref a17, .ref a18, .ref a19, .ref a20, .ref a21, .ref a22, .ref a23, .null, .int 0, .int 0]))], [(a7, .inl (kA 0, 24, .inl (fl f1 24 (-1))))]]) 0 0 := by
  intro sz
  refine k_met (cc := b_Fa_learnTurned) (maxL := 6) (ret := none) (by decide) rfl (Nat.le_of_ble_eq_true rfl) (fun p e s m below meth c ls X hl hB => ?_)
  obtain ⟨hsz, hP, hK, hD0, hN⟩ := hB
  subst hsz
  have hD := hD0.self (sz := s.heap.size)
  generalize hAe : va_A (cat [[(g 1 j, .inr (2, [.int 1, .int 0, .int 0, .int 0, .ref a0, .ref a1, .ref a2, .ref a3, .ref a4, .ref a5, .ref a6, .ref a7, .ref a8, .ref a9, .ref a10]))], [(a6, .inl (kA 0, 24, .inl f0))], [(g 0 j, .inr (3, [.int 0, .int 0, .int 1, .ref a11, .ref a12, .ref a13, .ref a14, .ref a15, .ref a16, .ref a17, .ref a18, .ref a19, .ref a20, .ref a21, .ref a22, .ref a23, .null, .int 0, .int 0]))], [(a7, .inl (kA 0, 24, .inl f1))]]) s.heap.size = A at hD ⊢
  have hA : ∀ q : Nat, s.heap.size ≤ q → A q := fun q h => by rw [← hAe]; exact Or.inr h
  have hS : va_S A s.heap s.heap [] := va_S.rf
  obtain ⟨hx, hb, hml, hown, hts, hr, hlk, hnm⟩ := id X
  have hl : lv_has ls 6 [(0, .ref (g 1 j)), (1, .ref (g 0 j))] := hl
  have hP : va_P D classes (cat [[(g 1 j, .inr (2, [.int 1, .int 0, .int 0, .int 0, .ref a0, .ref a1, .ref a2, .ref a3, .ref a4, .ref a5, .ref a6, .ref a7, .ref a8, .ref a9, .ref a10]))], [(a6, .inl (kA 0, 24, .inl f0))], [(g 0 j, .inr (3, [.int 0, .int 0, .int 1, .ref a11, .ref a12, .ref a13, .ref a14, .ref a15, .ref a16, .ref a17, .ref a18, .ref a19, .ref a20, .ref a21, .ref a22, .ref a23, .null, .int 0, .int 0]))], [(a7, .inl (kA 0, 24, .inl f1))]]) s.heap := hP
  have hK : va_K D classes (TY kA) s := hK
  refine lv_aload_n (pc := 0) hx hb d_Fa_learnTurned_0 rfl (lv_at hl 0 rfl) ?_
  refine k_get (pc := 1) X hK hP 0 rfl rfl i_Fa 10 (by decide) wm_423 rfl rfl d_Fa_learnTurned_1 ?_
  refine lv_iconst (pc := 4) (v := 0) hx hb d_Fa_learnTurned_4 (by decide) ?_
  refine k_goV (gr := [[(g 1 j, .inr (2, [.int 1, .int 0, .int 0, .int 0, .ref a0, .ref a1, .ref a2, .ref a3, .ref a4, .ref a5, .ref a6, .ref a7, .ref a8, .ref a9, .ref a10]))], [(g 0 j, .inr (3, [.int 0, .int 0, .int 1, .ref a11, .ref a12, .ref a13, .ref a14, .ref a15, .ref a16, .ref a17, .ref a18, .ref a19, .ref a20, .ref a21, .ref a22, .ref a23, .null, .int 0, .int 0]))], [(a7, .inl (kA 0, 24, .inl f1))]]) (k_rS (pc := 5) (As := [.ref a6, .int 0]) (rest := []) X (c_fillI l D (TY kA) 0 (kA 0) rfl a6 24 (by decide) f0 0 s.heap.size) rfl wm_55 wm_4 wm_855 wm_54 2 (by decide +kernel) ⟨Nat.le_of_ble_eq_true rfl, Nat.le_of_ble_eq_true rfl⟩ rfl rfl (k_pre hN hK hP hD [1] [0, 2, 3] 4 rfl (by decide) rfl) rfl hl.1 rfl (Nat.le_of_ble_eq_true rfl) d_Fa_learnTurned_5 ⟨Nat.le_of_ble_eq_true rfl, Nat.le_of_ble_eq_true rfl⟩) hP hD hS hA [1] [0, 2, 3] 4 rfl (by decide) rfl rfl (fun u1 H locs hu1 hP hD hS => ?_)
  have hP : va_P D classes (cat [[(g 1 j, .inr (2, [.int 1, .int 0, .int 0, .int 0, .ref a0, .ref a1, .ref a2, .ref a3, .ref a4, .ref a5, .ref a6, .ref a7, .ref a8, .ref a9, .ref a10]))], [(g 0 j, .inr (3, [.int 0, .int 0, .int 1, .ref a11, .ref a12, .ref a13, .ref a14, .ref a15, .ref a16, .ref a17, .ref a18, .ref a19, .ref a20, .ref a21, .ref a22, .ref a23, .null, .int 0, .int 0]))], [(a7, .inl (kA 0, 24, .inl f1))], [(a6, .inl (kA 0, 24, .inl (fl f0 24 0)))]]) H := hP
  have hD : va_D A (cat [[(g 1 j, .inr (2, [.int 1, .int 0, .int 0, .int 0, .ref a0, .ref a1, .ref a2, .ref a3, .ref a4, .ref a5, .ref a6, .ref a7, .ref a8, .ref a9, .ref a10]))], [(g 0 j, .inr (3, [.int 0, .int 0, .int 1, .ref a11, .ref a12, .ref a13, .ref a14, .ref a15, .ref a16, .ref a17, .ref a18, .ref a19, .ref a20, .ref a21, .ref a22, .ref a23, .null, .int 0, .int 0]))], [(a7, .inl (kA 0, 24, .inl f1))], [(a6, .inl (kA 0, 24, .inl (fl f0 24 0)))]]) := hD
  refine lv_iconst (pc := 8) (v := 0) hx hb d_Fa_learnTurned_8 (by decide) ?_
  refine lv_istore_n (pc := 9) (lv' := [(2, .int 0), (0, .ref (g 1 j)), (1, .ref (g 0 j))]) hx hb d_Fa_learnTurned_9 rfl hl (by decide) rfl (fun ls hl => ?_)
  refine lv_iload_n (pc := 10) hx hb d_Fa_learnTurned_10 rfl (lv_at hl 0 rfl) ?_
  refine lv_aload_n (pc := 11) hx hb d_Fa_learnTurned_11 rfl (lv_at hl 2 rfl) ?_
  refine k_get (pc := 12) X hK hP 1 rfl rfl i_Gr 1 (by decide) wm_69 rfl rfl d_Fa_learnTurned_12 ?_
  refine lv_icmp_ge (pc := 15) (tgt := 46) hx hb d_Fa_learnTurned_15 (by decide) (fun _ => ?_) (fun c1 => absurd (by decide) c1)
  refine lv_aload_n (pc := 46) hx hb d_Fa_learnTurned_46 rfl (lv_at hl 1 rfl) ?_
  refine lv_aload_n (pc := 47) hx hb d_Fa_learnTurned_47 rfl (lv_at hl 2 rfl) ?_
  refine k_get (pc := 48) X hK hP 1 rfl rfl i_Gr 0 (by decide) wm_57 rfl rfl d_Fa_learnTurned_48 ?_
  refine lv_aload_n (pc := 51) hx hb d_Fa_learnTurned_51 rfl (lv_at hl 1 rfl) ?_
  refine k_get (pc := 52) X hK hP 0 rfl rfl i_Fa 11 (by decide) wm_424 rfl rfl d_Fa_learnTurned_52 ?_
  refine k_goI (gr := [[(g 1 j, .inr (2, [.int 1, .int 0, .int 0, .int 0, .ref a0, .ref a1, .ref a2, .ref a3, .ref a4, .ref a5, .ref a6, .ref a7, .ref a8, .ref a9, .ref a10]))], [(g 0 j, .inr (3, [.int 0, .int 0, .int 1, .ref a11, .ref a12, .ref a13, .ref a14, .ref a15, .ref a16, .ref a17, .ref a18, .ref a19, .ref a20, .ref a21, .ref a22, .ref a23, .null, .int 0, .int 0]))], [(a6, .inl (kA 0, 24, .inl (fl f0 24 0)))]]) (k_rV (pc := 55) (As := [.int 0, .ref a7]) (rest := []) X (c_Fa_numberStrong_z1 l D kA g j a7 f1 hj H.size) rfl wm_859 wm_7 wm_856 wm_858 wv_2_2 2 (by decide +kernel) ⟨Nat.le_of_ble_eq_true rfl, Nat.le_of_ble_eq_true rfl⟩ rfl rfl (va_recv hK hP (ci := 2) (q0 := 0) rfl rfl) (k_pre hN hK hP hD [2] [0, 1, 3] 4 rfl (by decide) rfl) rfl hl.1 rfl (Nat.le_of_ble_eq_true rfl) d_Fa_learnTurned_55 ⟨Nat.le_of_ble_eq_true rfl, Nat.le_of_ble_eq_true rfl⟩) hP hD hS hA [2] [0, 1, 3] 4 rfl (by decide) rfl rfl (fun r2 u3 H locs hu3 hP hD hS => ?_)
  subst hu3
  have hP : va_P D classes (cat [[(g 1 j, .inr (2, [.int 1, .int 0, .int 0, .int 0, .ref a0, .ref a1, .ref a2, .ref a3, .ref a4, .ref a5, .ref a6, .ref a7, .ref a8, .ref a9, .ref a10]))], [(g 0 j, .inr (3, [.int 0, .int 0, .int 1, .ref a11, .ref a12, .ref a13, .ref a14, .ref a15, .ref a16, .ref a17, .ref a18, .ref a19, .ref a20, .ref a21, .ref a22, .ref a23, .null, .int 0, .int 0]))], [(a6, .inl (kA 0, 24, .inl (fl f0 24 0)))], [(a7, .inl (kA 0, 24, .inl (fl f1 24 (-1))))]]) H := hP
  have hD : va_D A (cat [[(g 1 j, .inr (2, [.int 1, .int 0, .int 0, .int 0, .ref a0, .ref a1, .ref a2, .ref a3, .ref a4, .ref a5, .ref a6, .ref a7, .ref a8, .ref a9, .ref a10]))], [(g 0 j, .inr (3, [.int 0, .int 0, .int 1, .ref a11, .ref a12, .ref a13, .ref a14, .ref a15, .ref a16, .ref a17, .ref a18, .ref a19, .ref a20, .ref a21, .ref a22, .ref a23, .null, .int 0, .int 0]))], [(a6, .inl (kA 0, 24, .inl (fl f0 24 0)))], [(a7, .inl (kA 0, 24, .inl (fl f1 24 (-1))))]]) := hD
  refine lv_istore_n (pc := 58) (lv' := [(2, .int 0), (0, .ref (g 1 j)), (1, .ref (g 0 j))]) hx hb d_Fa_learnTurned_58 rfl hl (by decide) rfl (fun ls hl => ?_)
  refine lv_iconst (pc := 59) (v := 0) hx hb d_Fa_learnTurned_59 (by decide) ?_
  refine lv_istore_n (pc := 60) (lv' := [(3, .int 0), (2, .int 0), (0, .ref (g 1 j)), (1, .ref (g 0 j))]) hx hb d_Fa_learnTurned_60 rfl hl (by decide) rfl (fun ls hl => ?_)
  refine lv_iload_n (pc := 61) hx hb d_Fa_learnTurned_61 rfl (lv_at hl 0 rfl) ?_
  refine lv_iload_n (pc := 62) hx hb d_Fa_learnTurned_62 rfl (lv_at hl 1 rfl) ?_
  refine lv_icmp_ge (pc := 63) (tgt := 113) hx hb d_Fa_learnTurned_63 (by decide) (fun _ => ?_) (fun c1 => absurd (by decide) c1)
  refine lv_iconst (pc := 113) (v := 0) hx hb d_Fa_learnTurned_113 (by decide) ?_
  refine lv_istore_n (pc := 114) (lv' := [(3, .int 0), (2, .int 0), (0, .ref (g 1 j)), (1, .ref (g 0 j))]) hx hb d_Fa_learnTurned_114 rfl hl (by decide) rfl (fun ls hl => ?_)
  refine lv_iload_n (pc := 115) hx hb d_Fa_learnTurned_115 rfl (lv_at hl 0 rfl) ?_
  refine lv_aload_n (pc := 116) hx hb d_Fa_learnTurned_116 rfl (lv_at hl 3 rfl) ?_
  refine k_get (pc := 117) X hK hP 1 rfl rfl i_Gr 1 (by decide) wm_69 rfl rfl d_Fa_learnTurned_117 ?_
  refine lv_icmp_ge (pc := 120) (tgt := 190) hx hb d_Fa_learnTurned_120 (by decide) (fun _ => ?_) (fun c1 => absurd (by decide) c1)
  obtain ⟨hP, hD⟩ := k_ord (gc := [[(g 1 j, .inr (2, [.int 1, .int 0, .int 0, .int 0, .ref a0, .ref a1, .ref a2, .ref a3, .ref a4, .ref a5, .ref a6, .ref a7, .ref a8, .ref a9, .ref a10]))], [(a6, .inl (kA 0, 24, .inl (fl f0 24 0)))], [(g 0 j, .inr (3, [.int 0, .int 0, .int 1, .ref a11, .ref a12, .ref a13, .ref a14, .ref a15, .ref a16, .ref a17, .ref a18, .ref a19, .ref a20, .ref a21, .ref a22, .ref a23, .null, .int 0, .int 0]))], [(a7, .inl (kA 0, 24, .inl (fl f1 24 (-1))))]]) hP hD [0, 2, 1, 3] 4 rfl (by decide) rfl
  refine W.widen (k := 0) (n := 0) (Nat.le_of_ble_eq_true rfl) (Nat.le_of_ble_eq_true rfl) ?_
  exact W.vret hx hb hr (fun t ht hW => ⟨⟨(), rfl, trivial, by rw [ht]; exact hP, va_K.moved hW.alike hK, hD⟩, hS.F ht⟩) hS.2.2 d_Fa_learnTurned_190
set_option maxRecDepth 100000 in
set_option maxHeartbeats 4000000 in
/-- DrawingHouse$Facts.learn(LDrawingHouse$Graph;)V -/
theorem c_Fa_learn_z1 (l : Launch) (D : va_G) (kA : Nat → ClassId) (g : Nat → Nat → Nat) (j : Nat) (a0 : Nat) (a1 : Nat) (a2 : Nat) (a3 : Nat) (a4 : Nat) (a5 : Nat) (a6 : Nat) (a7 : Nat) (a8 : Nat) (a9 : Nat) (a10 : Nat) (a11 : Nat) (a12 : Nat) (a13 : Nat) (a14 : Nat) (a15 : Nat) (a16 : Nat) (a17 : Nat) (a18 : Nat) (a19 : Nat) (a20 : Nat) (a21 : Nat) (a22 : Nat) (a23 : Nat) (f0 : Nat → Int32) (f1 : Nat → Int32) (f2 : Nat → Int32) (f3 : Nat → Int32) (hj : j < 4) : Cv l y_Fa_learn z_Fa_learn { frames := 3, cells := 0, slots := 0, locals := 73 } D classes (TY kA) [.ref (g 1 j), .ref (g 0 j)] [[(g 1 j, .inr (2, [.int 0, .int 0, .int 0, .int 0, .ref a0, .ref a1, .ref a2, .ref a3, .ref a4, .ref a5, .ref a6, .ref a7, .ref a8, .ref a9, .ref a10]))], [(g 0 j, .inr (3, [.int 0, .int 0, .int 1, .ref a11, .ref a12, .ref a13, .ref a14, .ref a15, .ref a16, .ref a17, .ref a18, .ref a19, .ref a20, .ref a21, .ref a22, .ref a23, .null, .int 0, .int 0]))], [(a1, .inl (kA 0, 48, .inl f0))], [(a6, .inl (kA 0, 24, .inl f1))], [(a2, .inl (kA 0, 24, .inl f2))], [(a7, .inl (kA 0, 24, .inl f3))]] (fun _ : (Nat → Nat) × (Nat → Nat → Int32) => True) (fun u => [[(g 1 j, .inr (2, [.int 1, .int 0, .int 0, .int 0, .ref a0, .ref a1, .ref a2, .ref a3, .ref a4, .ref a5, .ref a6, .ref a7, .ref a8, .ref a9, .ref a10]))], [(g 0 j, .inr (3, [.int 0, .int 0, .int 1, .ref a11, .ref a12, .ref a13, .ref a14, .ref a15, .ref a16, .ref a17, .ref a18, .ref a19, .ref a20, .ref a21, .ref a22, .ref a23, .null, .int 0, .int 0]))], [(a1, .inl (kA 0, 48, .inl (u.2 0)))], [(a6, .inl (kA 0, 24, .inl (fl (fl f1 24 0) 24 0)))], [(a2, .inl (kA 0, 24, .inl (fl f2 24 (-1))))], [(a7, .inl (kA 0, 24, .inl (fl f3 24 (-1))))]]) 0 0 := by
  intro sz
  refine k_met (cc := b_Fa_learn) (maxL := 2) (ret := none) (by decide) rfl (Nat.le_of_ble_eq_true rfl) (fun p e s m below meth c ls X hl hB => ?_)
  obtain ⟨hsz, hP, hK, hD0, hN⟩ := hB
  subst hsz
  have hD := hD0.self (sz := s.heap.size)
  generalize hAe : va_A (cat [[(g 1 j, .inr (2, [.int 0, .int 0, .int 0, .int 0, .ref a0, .ref a1, .ref a2, .ref a3, .ref a4, .ref a5, .ref a6, .ref a7, .ref a8, .ref a9, .ref a10]))], [(g 0 j, .inr (3, [.int 0, .int 0, .int 1, .ref a11, .ref a12, .ref a13, .ref a14, .ref a15, .ref a16, .ref a17, .ref a18, .ref a19, .ref a20, .ref a21, .ref a22, .ref a23, .null, .int 0, .int 0]))], [(a1, .inl (kA 0, 48, .inl f0))], [(a6, .inl (kA 0, 24, .inl f1))], [(a2, .inl (kA 0, 24, .inl f2))], [(a7, .inl (kA 0, 24, .inl f3))]]) s.heap.size = A at hD ⊢
  have hA : ∀ q : Nat, s.heap.size ≤ q → A q := fun q h => by rw [← hAe]; exact Or.inr h
  have hS : va_S A s.heap s.heap [] := va_S.rf
  obtain ⟨hx, hb, hml, hown, hts, hr, hlk, hnm⟩ := id X
  have hl : lv_has ls 2 [(0, .ref (g 1 j)), (1, .ref (g 0 j))] := hl
  have hP : va_P D classes (cat [[(g 1 j, .inr (2, [.int 0, .int 0, .int 0, .int 0, .ref a0, .ref a1, .ref a2, .ref a3, .ref a4, .ref a5, .ref a6, .ref a7, .ref a8, .ref a9, .ref a10]))], [(g 0 j, .inr (3, [.int 0, .int 0, .int 1, .ref a11, .ref a12, .ref a13, .ref a14, .ref a15, .ref a16, .ref a17, .ref a18, .ref a19, .ref a20, .ref a21, .ref a22, .ref a23, .null, .int 0, .int 0]))], [(a1, .inl (kA 0, 48, .inl f0))], [(a6, .inl (kA 0, 24, .inl f1))], [(a2, .inl (kA 0, 24, .inl f2))], [(a7, .inl (kA 0, 24, .inl f3))]]) s.heap := hP
  have hK : va_K D classes (TY kA) s := hK
  refine lv_aload_n (pc := 0) hx hb d_Fa_learn_0 rfl (lv_at hl 0 rfl) ?_
  refine lv_iconst (pc := 1) (v := 1) hx hb d_Fa_learn_1 (by decide) ?_
  refine k_put (pc := 2) X hK hP hD hS 0 rfl rfl i_Fa t_Fa t_Fa_ok n_Fa 0 (by decide) wm_394 rfl (Or.inl rfl) rfl rfl (Nat.le_of_ble_eq_true rfl) d_Fa_learn_2 (fun H locs hP hD hS => ?_)
  have hP : va_P D classes (cat [[(g 1 j, .inr (2, [.int 1, .int 0, .int 0, .int 0, .ref a0, .ref a1, .ref a2, .ref a3, .ref a4, .ref a5, .ref a6, .ref a7, .ref a8, .ref a9, .ref a10]))], [(g 0 j, .inr (3, [.int 0, .int 0, .int 1, .ref a11, .ref a12, .ref a13, .ref a14, .ref a15, .ref a16, .ref a17, .ref a18, .ref a19, .ref a20, .ref a21, .ref a22, .ref a23, .null, .int 0, .int 0]))], [(a1, .inl (kA 0, 48, .inl f0))], [(a6, .inl (kA 0, 24, .inl f1))], [(a2, .inl (kA 0, 24, .inl f2))], [(a7, .inl (kA 0, 24, .inl f3))]]) H := hP
  have hD : va_D A (cat [[(g 1 j, .inr (2, [.int 1, .int 0, .int 0, .int 0, .ref a0, .ref a1, .ref a2, .ref a3, .ref a4, .ref a5, .ref a6, .ref a7, .ref a8, .ref a9, .ref a10]))], [(g 0 j, .inr (3, [.int 0, .int 0, .int 1, .ref a11, .ref a12, .ref a13, .ref a14, .ref a15, .ref a16, .ref a17, .ref a18, .ref a19, .ref a20, .ref a21, .ref a22, .ref a23, .null, .int 0, .int 0]))], [(a1, .inl (kA 0, 48, .inl f0))], [(a6, .inl (kA 0, 24, .inl f1))], [(a2, .inl (kA 0, 24, .inl f2))], [(a7, .inl (kA 0, 24, .inl f3))]]) := hD
  refine lv_aload_n (pc := 5) hx hb d_Fa_learn_5 rfl (lv_at hl 0 rfl) ?_
  refine lv_aload_n (pc := 6) hx hb d_Fa_learn_6 rfl (lv_at hl 1 rfl) ?_
  refine k_goV (gr := [[(a1, .inl (kA 0, 48, .inl f0))], [(a6, .inl (kA 0, 24, .inl f1))], [(a2, .inl (kA 0, 24, .inl f2))], [(a7, .inl (kA 0, 24, .inl f3))]]) (k_rV (pc := 7) (As := [.ref (g 0 j)]) (rest := []) X (c_Fa_learnParts_z1 l D kA g j a0 a1 a2 a3 a4 a5 a6 a7 a8 a9 a10 a11 a12 a13 a14 a15 a16 a17 a18 a19 a20 a21 a22 a23 hj H.size) rfl wm_818 wm_7 wm_815 wm_817 wv_1_15 1 (by decide +kernel) ⟨Nat.le_of_ble_eq_true rfl, Nat.le_of_ble_eq_true rfl⟩ rfl rfl (va_recv hK hP (ci := 2) (q0 := 0) rfl rfl) (k_pre hN hK hP hD [0, 1] [2, 3, 4, 5] 6 rfl (by decide) rfl) rfl hl.1 rfl (Nat.le_of_ble_eq_true rfl) d_Fa_learn_7 ⟨Nat.le_of_ble_eq_true rfl, Nat.le_of_ble_eq_true rfl⟩) hP hD hS hA [0, 1] [2, 3, 4, 5] 6 rfl (by decide) rfl rfl (fun u1 H locs hu1 hP hD hS => ?_)
  have hP : va_P D classes (cat [[(a1, .inl (kA 0, 48, .inl f0))], [(a6, .inl (kA 0, 24, .inl f1))], [(a2, .inl (kA 0, 24, .inl f2))], [(a7, .inl (kA 0, 24, .inl f3))], [(g 1 j, .inr (2, [.int 1, .int 0, .int 0, .int 0, .ref a0, .ref a1, .ref a2, .ref a3, .ref a4, .ref a5, .ref a6, .ref a7, .ref a8, .ref a9, .ref a10]))], [(g 0 j, .inr (3, [.int 0, .int 0, .int 1, .ref a11, .ref a12, .ref a13, .ref a14, .ref a15, .ref a16, .ref a17, .ref a18, .ref a19, .ref a20, .ref a21, .ref a22, .ref a23, .null, .int 0, .int 0]))]]) H := hP
  have hD : va_D A (cat [[(a1, .inl (kA 0, 48, .inl f0))], [(a6, .inl (kA 0, 24, .inl f1))], [(a2, .inl (kA 0, 24, .inl f2))], [(a7, .inl (kA 0, 24, .inl f3))], [(g 1 j, .inr (2, [.int 1, .int 0, .int 0, .int 0, .ref a0, .ref a1, .ref a2, .ref a3, .ref a4, .ref a5, .ref a6, .ref a7, .ref a8, .ref a9, .ref a10]))], [(g 0 j, .inr (3, [.int 0, .int 0, .int 1, .ref a11, .ref a12, .ref a13, .ref a14, .ref a15, .ref a16, .ref a17, .ref a18, .ref a19, .ref a20, .ref a21, .ref a22, .ref a23, .null, .int 0, .int 0]))]]) := hD
  refine lv_aload_n (pc := 10) hx hb d_Fa_learn_10 rfl (lv_at hl 0 rfl) ?_
  refine lv_aload_n (pc := 11) hx hb d_Fa_learn_11 rfl (lv_at hl 1 rfl) ?_
  refine k_get (pc := 12) X hK hP 5 rfl rfl i_Gr 0 (by decide) wm_57 rfl rfl d_Fa_learn_12 ?_
  refine lv_aload_n (pc := 15) hx hb d_Fa_learn_15 rfl (lv_at hl 1 rfl) ?_
  refine k_get (pc := 16) X hK hP 5 rfl rfl i_Gr 1 (by decide) wm_69 rfl rfl d_Fa_learn_16 ?_
  refine lv_aload_n (pc := 19) hx hb d_Fa_learn_19 rfl (lv_at hl 1 rfl) ?_
  refine k_get (pc := 20) X hK hP 5 rfl rfl i_Gr 7 (by decide) wm_97 rfl rfl d_Fa_learn_20 ?_
  refine lv_aload_n (pc := 23) hx hb d_Fa_learn_23 rfl (lv_at hl 1 rfl) ?_
  refine k_get (pc := 24) X hK hP 5 rfl rfl i_Gr 8 (by decide) wm_108 rfl rfl d_Fa_learn_24 ?_
  refine lv_aload_n (pc := 27) hx hb d_Fa_learn_27 rfl (lv_at hl 1 rfl) ?_
  refine k_get (pc := 28) X hK hP 5 rfl rfl i_Gr 14 (by decide) wm_141 rfl rfl d_Fa_learn_28 ?_
  refine lv_aload_n (pc := 31) hx hb d_Fa_learn_31 rfl (lv_at hl 0 rfl) ?_
  refine k_get (pc := 32) X hK hP 4 rfl rfl i_Fa 5 (by decide) wm_409 rfl rfl d_Fa_learn_32 ?_
  refine k_goI (gr := [[(a1, .inl (kA 0, 48, .inl f0))], [(a6, .inl (kA 0, 24, .inl f1))], [(a2, .inl (kA 0, 24, .inl f2))], [(a7, .inl (kA 0, 24, .inl f3))], [(g 1 j, .inr (2, [.int 1, .int 0, .int 0, .int 0, .ref a0, .ref a1, .ref a2, .ref a3, .ref a4, .ref a5, .ref a6, .ref a7, .ref a8, .ref a9, .ref a10]))], [(g 0 j, .inr (3, [.int 0, .int 0, .int 1, .ref a11, .ref a12, .ref a13, .ref a14, .ref a15, .ref a16, .ref a17, .ref a18, .ref a19, .ref a20, .ref a21, .ref a22, .ref a23, .null, .int 0, .int 0]))]]) (k_rS (pc := 35) (As := [.int 0, .int 0, .ref a15, .ref a16, .ref a22, .ref a1]) (rest := [.ref (g 1 j)]) X (c_Fa_blocksOf_z1 l D kA a15 a16 a22 a1 H.size) rfl wm_830 wm_7 wm_828 wm_829 6 (by decide +kernel) ⟨Nat.le_of_ble_eq_true rfl, Nat.le_of_ble_eq_true rfl⟩ rfl rfl (k_pre hN hK hP hD [] [0, 1, 2, 3, 4, 5] 6 rfl (by decide) rfl) rfl hl.1 rfl (Nat.le_of_ble_eq_true rfl) d_Fa_learn_35 ⟨Nat.le_of_ble_eq_true rfl, Nat.le_of_ble_eq_true rfl⟩) hP hD hS hA [] [0, 1, 2, 3, 4, 5] 6 rfl (by decide) rfl rfl (fun r2 u3 H locs hu3 hP hD hS => ?_)
  subst hu3
  have hP : va_P D classes (cat [[(a1, .inl (kA 0, 48, .inl f0))], [(a6, .inl (kA 0, 24, .inl f1))], [(a2, .inl (kA 0, 24, .inl f2))], [(a7, .inl (kA 0, 24, .inl f3))], [(g 1 j, .inr (2, [.int 1, .int 0, .int 0, .int 0, .ref a0, .ref a1, .ref a2, .ref a3, .ref a4, .ref a5, .ref a6, .ref a7, .ref a8, .ref a9, .ref a10]))], [(g 0 j, .inr (3, [.int 0, .int 0, .int 1, .ref a11, .ref a12, .ref a13, .ref a14, .ref a15, .ref a16, .ref a17, .ref a18, .ref a19, .ref a20, .ref a21, .ref a22, .ref a23, .null, .int 0, .int 0]))]]) H := hP
  have hD : va_D A (cat [[(a1, .inl (kA 0, 48, .inl f0))], [(a6, .inl (kA 0, 24, .inl f1))], [(a2, .inl (kA 0, 24, .inl f2))], [(a7, .inl (kA 0, 24, .inl f3))], [(g 1 j, .inr (2, [.int 1, .int 0, .int 0, .int 0, .ref a0, .ref a1, .ref a2, .ref a3, .ref a4, .ref a5, .ref a6, .ref a7, .ref a8, .ref a9, .ref a10]))], [(g 0 j, .inr (3, [.int 0, .int 0, .int 1, .ref a11, .ref a12, .ref a13, .ref a14, .ref a15, .ref a16, .ref a17, .ref a18, .ref a19, .ref a20, .ref a21, .ref a22, .ref a23, .null, .int 0, .int 0]))]]) := hD
  refine k_put (pc := 38) X hK hP hD hS 4 rfl rfl i_Fa t_Fa t_Fa_ok n_Fa 2 (by decide) wm_400 rfl (Or.inl rfl) rfl rfl (Nat.le_of_ble_eq_true rfl) d_Fa_learn_38 (fun H locs hP hD hS => ?_)
  have hP : va_P D classes (cat [[(a1, .inl (kA 0, 48, .inl f0))], [(a6, .inl (kA 0, 24, .inl f1))], [(a2, .inl (kA 0, 24, .inl f2))], [(a7, .inl (kA 0, 24, .inl f3))], [(g 1 j, .inr (2, [.int 1, .int 0, .int 0, .int 0, .ref a0, .ref a1, .ref a2, .ref a3, .ref a4, .ref a5, .ref a6, .ref a7, .ref a8, .ref a9, .ref a10]))], [(g 0 j, .inr (3, [.int 0, .int 0, .int 1, .ref a11, .ref a12, .ref a13, .ref a14, .ref a15, .ref a16, .ref a17, .ref a18, .ref a19, .ref a20, .ref a21, .ref a22, .ref a23, .null, .int 0, .int 0]))]]) H := hP
  have hD : va_D A (cat [[(a1, .inl (kA 0, 48, .inl f0))], [(a6, .inl (kA 0, 24, .inl f1))], [(a2, .inl (kA 0, 24, .inl f2))], [(a7, .inl (kA 0, 24, .inl f3))], [(g 1 j, .inr (2, [.int 1, .int 0, .int 0, .int 0, .ref a0, .ref a1, .ref a2, .ref a3, .ref a4, .ref a5, .ref a6, .ref a7, .ref a8, .ref a9, .ref a10]))], [(g 0 j, .inr (3, [.int 0, .int 0, .int 1, .ref a11, .ref a12, .ref a13, .ref a14, .ref a15, .ref a16, .ref a17, .ref a18, .ref a19, .ref a20, .ref a21, .ref a22, .ref a23, .null, .int 0, .int 0]))]]) := hD
  refine lv_aload_n (pc := 41) hx hb d_Fa_learn_41 rfl (lv_at hl 0 rfl) ?_
  refine lv_aload_n (pc := 42) hx hb d_Fa_learn_42 rfl (lv_at hl 1 rfl) ?_
  refine k_goV (gr := [[(a6, .inl (kA 0, 24, .inl f1))], [(a2, .inl (kA 0, 24, .inl f2))], [(a7, .inl (kA 0, 24, .inl f3))]]) (k_rV (pc := 43) (As := [.ref (g 0 j)]) (rest := []) X (c_Fa_learnBlocksAt_z1 l D kA g j a11 a12 a13 a14 a15 a16 a17 a18 a19 a20 a21 a22 a23 a0 a1 a2 a3 a4 a5 a6 a7 a8 a9 a10 f0 hj H.size) rfl wm_844 wm_7 wm_841 wm_843 wv_2_0 1 (by decide +kernel) ⟨Nat.le_of_ble_eq_true rfl, Nat.le_of_ble_eq_true rfl⟩ rfl rfl (va_recv hK hP (ci := 2) (q0 := 4) rfl rfl) (k_pre hN hK hP hD [5, 4, 0] [1, 2, 3] 6 rfl (by decide) rfl) rfl hl.1 rfl (Nat.le_of_ble_eq_true rfl) d_Fa_learn_43 ⟨Nat.le_of_ble_eq_true rfl, Nat.le_of_ble_eq_true rfl⟩) hP hD hS hA [5, 4, 0] [1, 2, 3] 6 rfl (by decide) rfl rfl (fun u4 H locs hu4 hP hD hS => ?_)
  have hP : va_P D classes (cat [[(a6, .inl (kA 0, 24, .inl f1))], [(a2, .inl (kA 0, 24, .inl f2))], [(a7, .inl (kA 0, 24, .inl f3))], [(g 0 j, .inr (3, [.int 0, .int 0, .int 1, .ref a11, .ref a12, .ref a13, .ref a14, .ref a15, .ref a16, .ref a17, .ref a18, .ref a19, .ref a20, .ref a21, .ref a22, .ref a23, .null, .int 0, .int 0]))], [(g 1 j, .inr (2, [.int 1, .int 0, .int 0, .int 0, .ref a0, .ref a1, .ref a2, .ref a3, .ref a4, .ref a5, .ref a6, .ref a7, .ref a8, .ref a9, .ref a10]))], [(a1, .inl (kA 0, 48, .inl (u4.2 0)))]]) H := hP
  have hD : va_D A (cat [[(a6, .inl (kA 0, 24, .inl f1))], [(a2, .inl (kA 0, 24, .inl f2))], [(a7, .inl (kA 0, 24, .inl f3))], [(g 0 j, .inr (3, [.int 0, .int 0, .int 1, .ref a11, .ref a12, .ref a13, .ref a14, .ref a15, .ref a16, .ref a17, .ref a18, .ref a19, .ref a20, .ref a21, .ref a22, .ref a23, .null, .int 0, .int 0]))], [(g 1 j, .inr (2, [.int 1, .int 0, .int 0, .int 0, .ref a0, .ref a1, .ref a2, .ref a3, .ref a4, .ref a5, .ref a6, .ref a7, .ref a8, .ref a9, .ref a10]))], [(a1, .inl (kA 0, 48, .inl (u4.2 0)))]]) := hD
  obtain ⟨f950, hf950⟩ : ∃ z : Nat → Int32, u4.2 0 = z := ⟨_, rfl⟩
  rw [hf950] at hP hD
  refine lv_aload_n (pc := 46) hx hb d_Fa_learn_46 rfl (lv_at hl 0 rfl) ?_
  refine lv_aload_n (pc := 47) hx hb d_Fa_learn_47 rfl (lv_at hl 1 rfl) ?_
  refine k_goV (gr := [[(a7, .inl (kA 0, 24, .inl f3))], [(a1, .inl (kA 0, 48, .inl f950))]]) (k_rV (pc := 48) (As := [.ref (g 0 j)]) (rest := []) X (c_Fa_learnStrong_z1 l D kA g j a0 a1 a2 a3 a4 a5 a6 a7 a8 a9 a10 f1 a11 a12 a13 a14 a15 a16 a17 a18 a19 a20 a21 a22 a23 f2 hj H.size) rfl wm_854 wm_7 wm_851 wm_853 wv_2_1 1 (by decide +kernel) ⟨Nat.le_of_ble_eq_true rfl, Nat.le_of_ble_eq_true rfl⟩ rfl rfl (va_recv hK hP (ci := 2) (q0 := 4) rfl rfl) (k_pre hN hK hP hD [4, 0, 3, 1] [2, 5] 6 rfl (by decide) rfl) rfl hl.1 rfl (Nat.le_of_ble_eq_true rfl) d_Fa_learn_48 ⟨Nat.le_of_ble_eq_true rfl, Nat.le_of_ble_eq_true rfl⟩) hP hD hS hA [4, 0, 3, 1] [2, 5] 6 rfl (by decide) rfl rfl (fun u5 H locs hu5 hP hD hS => ?_)
  have hP : va_P D classes (cat [[(a7, .inl (kA 0, 24, .inl f3))], [(a1, .inl (kA 0, 48, .inl f950))], [(g 1 j, .inr (2, [.int 1, .int 0, .int 0, .int 0, .ref a0, .ref a1, .ref a2, .ref a3, .ref a4, .ref a5, .ref a6, .ref a7, .ref a8, .ref a9, .ref a10]))], [(a6, .inl (kA 0, 24, .inl (fl f1 24 0)))], [(g 0 j, .inr (3, [.int 0, .int 0, .int 1, .ref a11, .ref a12, .ref a13, .ref a14, .ref a15, .ref a16, .ref a17, .ref a18, .ref a19, .ref a20, .ref a21, .ref a22, .ref a23, .null, .int 0, .int 0]))], [(a2, .inl (kA 0, 24, .inl (fl f2 24 (-1))))]]) H := hP
  have hD : va_D A (cat [[(a7, .inl (kA 0, 24, .inl f3))], [(a1, .inl (kA 0, 48, .inl f950))], [(g 1 j, .inr (2, [.int 1, .int 0, .int 0, .int 0, .ref a0, .ref a1, .ref a2, .ref a3, .ref a4, .ref a5, .ref a6, .ref a7, .ref a8, .ref a9, .ref a10]))], [(a6, .inl (kA 0, 24, .inl (fl f1 24 0)))], [(g 0 j, .inr (3, [.int 0, .int 0, .int 1, .ref a11, .ref a12, .ref a13, .ref a14, .ref a15, .ref a16, .ref a17, .ref a18, .ref a19, .ref a20, .ref a21, .ref a22, .ref a23, .null, .int 0, .int 0]))], [(a2, .inl (kA 0, 24, .inl (fl f2 24 (-1))))]]) := hD
  refine lv_aload_n (pc := 51) hx hb d_Fa_learn_51 rfl (lv_at hl 0 rfl) ?_
  refine lv_aload_n (pc := 52) hx hb d_Fa_learn_52 rfl (lv_at hl 1 rfl) ?_
  refine k_goV (gr := [[(a7, .inl (kA 0, 24, .inl f3))], [(a1, .inl (kA 0, 48, .inl f950))], [(g 1 j, .inr (2, [.int 1, .int 0, .int 0, .int 0, .ref a0, .ref a1, .ref a2, .ref a3, .ref a4, .ref a5, .ref a6, .ref a7, .ref a8, .ref a9, .ref a10]))], [(a6, .inl (kA 0, 24, .inl (fl f1 24 0)))], [(a2, .inl (kA 0, 24, .inl (fl f2 24 (-1))))]]) (k_rV (pc := 53) (As := [.ref (g 0 j)]) (rest := []) X (c_Fa_learnCore_z1 l D kA g j a11 a12 a13 a14 a15 a16 a17 a18 a19 a20 a21 a22 a23 hj H.size) rfl wm_863 wm_7 wm_860 wm_862 wv_2_3 1 (by decide +kernel) ⟨Nat.le_of_ble_eq_true rfl, Nat.le_of_ble_eq_true rfl⟩ rfl rfl (va_recv hK hP (ci := 2) (q0 := 2) rfl rfl) (k_pre hN hK hP hD [4] [0, 1, 2, 3, 5] 6 rfl (by decide) rfl) rfl hl.1 rfl (Nat.le_of_ble_eq_true rfl) d_Fa_learn_53 ⟨Nat.le_of_ble_eq_true rfl, Nat.le_of_ble_eq_true rfl⟩) hP hD hS hA [4] [0, 1, 2, 3, 5] 6 rfl (by decide) rfl rfl (fun u6 H locs hu6 hP hD hS => ?_)
  have hP : va_P D classes (cat [[(a7, .inl (kA 0, 24, .inl f3))], [(a1, .inl (kA 0, 48, .inl f950))], [(g 1 j, .inr (2, [.int 1, .int 0, .int 0, .int 0, .ref a0, .ref a1, .ref a2, .ref a3, .ref a4, .ref a5, .ref a6, .ref a7, .ref a8, .ref a9, .ref a10]))], [(a6, .inl (kA 0, 24, .inl (fl f1 24 0)))], [(a2, .inl (kA 0, 24, .inl (fl f2 24 (-1))))], [(g 0 j, .inr (3, [.int 0, .int 0, .int 1, .ref a11, .ref a12, .ref a13, .ref a14, .ref a15, .ref a16, .ref a17, .ref a18, .ref a19, .ref a20, .ref a21, .ref a22, .ref a23, .null, .int 0, .int 0]))]]) H := hP
  have hD : va_D A (cat [[(a7, .inl (kA 0, 24, .inl f3))], [(a1, .inl (kA 0, 48, .inl f950))], [(g 1 j, .inr (2, [.int 1, .int 0, .int 0, .int 0, .ref a0, .ref a1, .ref a2, .ref a3, .ref a4, .ref a5, .ref a6, .ref a7, .ref a8, .ref a9, .ref a10]))], [(a6, .inl (kA 0, 24, .inl (fl f1 24 0)))], [(a2, .inl (kA 0, 24, .inl (fl f2 24 (-1))))], [(g 0 j, .inr (3, [.int 0, .int 0, .int 1, .ref a11, .ref a12, .ref a13, .ref a14, .ref a15, .ref a16, .ref a17, .ref a18, .ref a19, .ref a20, .ref a21, .ref a22, .ref a23, .null, .int 0, .int 0]))]]) := hD
  refine lv_aload_n (pc := 56) hx hb d_Fa_learn_56 rfl (lv_at hl 0 rfl) ?_
  refine lv_aload_n (pc := 57) hx hb d_Fa_learn_57 rfl (lv_at hl 1 rfl) ?_
  refine k_goV (gr := [[(a1, .inl (kA 0, 48, .inl f950))], [(a2, .inl (kA 0, 24, .inl (fl f2 24 (-1))))]]) (k_rV (pc := 58) (As := [.ref (g 0 j)]) (rest := []) X (c_Fa_learnTurned_z1 l D kA g j a0 a1 a2 a3 a4 a5 a6 a7 a8 a9 a10 (fl f1 24 0) a11 a12 a13 a14 a15 a16 a17 a18 a19 a20 a21 a22 a23 f3 hj H.size) rfl wm_877 wm_7 wm_874 wm_876 wv_2_5 1 (by decide +kernel) ⟨Nat.le_of_ble_eq_true rfl, Nat.le_of_ble_eq_true rfl⟩ rfl rfl (va_recv hK hP (ci := 2) (q0 := 2) rfl rfl) (k_pre hN hK hP hD [2, 3, 5, 0] [1, 4] 6 rfl (by decide) rfl) rfl hl.1 rfl (Nat.le_of_ble_eq_true rfl) d_Fa_learn_58 ⟨Nat.le_of_ble_eq_true rfl, Nat.le_of_ble_eq_true rfl⟩) hP hD hS hA [2, 3, 5, 0] [1, 4] 6 rfl (by decide) rfl rfl (fun u7 H locs hu7 hP hD hS => ?_)
  have hP : va_P D classes (cat [[(a1, .inl (kA 0, 48, .inl f950))], [(a2, .inl (kA 0, 24, .inl (fl f2 24 (-1))))], [(g 1 j, .inr (2, [.int 1, .int 0, .int 0, .int 0, .ref a0, .ref a1, .ref a2, .ref a3, .ref a4, .ref a5, .ref a6, .ref a7, .ref a8, .ref a9, .ref a10]))], [(a6, .inl (kA 0, 24, .inl (fl (fl f1 24 0) 24 0)))], [(g 0 j, .inr (3, [.int 0, .int 0, .int 1, .ref a11, .ref a12, .ref a13, .ref a14, .ref a15, .ref a16, .ref a17, .ref a18, .ref a19, .ref a20, .ref a21, .ref a22, .ref a23, .null, .int 0, .int 0]))], [(a7, .inl (kA 0, 24, .inl (fl f3 24 (-1))))]]) H := hP
  have hD : va_D A (cat [[(a1, .inl (kA 0, 48, .inl f950))], [(a2, .inl (kA 0, 24, .inl (fl f2 24 (-1))))], [(g 1 j, .inr (2, [.int 1, .int 0, .int 0, .int 0, .ref a0, .ref a1, .ref a2, .ref a3, .ref a4, .ref a5, .ref a6, .ref a7, .ref a8, .ref a9, .ref a10]))], [(a6, .inl (kA 0, 24, .inl (fl (fl f1 24 0) 24 0)))], [(g 0 j, .inr (3, [.int 0, .int 0, .int 1, .ref a11, .ref a12, .ref a13, .ref a14, .ref a15, .ref a16, .ref a17, .ref a18, .ref a19, .ref a20, .ref a21, .ref a22, .ref a23, .null, .int 0, .int 0]))], [(a7, .inl (kA 0, 24, .inl (fl f3 24 (-1))))]]) := hD
  obtain ⟨hP, hD⟩ := k_ord (gc := [[(g 1 j, .inr (2, [.int 1, .int 0, .int 0, .int 0, .ref a0, .ref a1, .ref a2, .ref a3, .ref a4, .ref a5, .ref a6, .ref a7, .ref a8, .ref a9, .ref a10]))], [(g 0 j, .inr (3, [.int 0, .int 0, .int 1, .ref a11, .ref a12, .ref a13, .ref a14, .ref a15, .ref a16, .ref a17, .ref a18, .ref a19, .ref a20, .ref a21, .ref a22, .ref a23, .null, .int 0, .int 0]))], [(a1, .inl (kA 0, 48, .inl f950))], [(a6, .inl (kA 0, 24, .inl (fl (fl f1 24 0) 24 0)))], [(a2, .inl (kA 0, 24, .inl (fl f2 24 (-1))))], [(a7, .inl (kA 0, 24, .inl (fl f3 24 (-1))))]]) hP hD [2, 4, 0, 3, 1, 5] 6 rfl (by decide) rfl
  refine W.widen (k := 0) (n := 0) (Nat.le_of_ble_eq_true rfl) (Nat.le_of_ble_eq_true rfl) ?_
  exact W.vret hx hb hr (fun t ht hW => ⟨⟨((fun _ => 0), (fun k => match k with | 0 => f950 | _ => fun _ => 0)), rfl, trivial, by rw [ht]; exact hP, va_K.moved hW.alike hK, hD⟩, hS.F ht⟩) hS.2.2 d_Fa_learn_61
set_option maxRecDepth 100000 in
set_option maxHeartbeats 4000000 in
/-- DrawingHouse.learned(I)LDrawingHouse$Facts; -/
theorem c_Ho_learned_z1 (l : Launch) (D : va_G) (kA : Nat → ClassId) (a0 : Nat) (j : Nat) (a1 : Nat) (a2 : Nat) (a3 : Nat) (a4 : Nat) (a5 : Nat) (a6 : Nat) (a7 : Nat) (a8 : Nat) (a9 : Nat) (a10 : Nat) (g : Nat → Nat → Nat) (a11 : Nat) (a12 : Nat) (a13 : Nat) (a14 : Nat) (a15 : Nat) (a16 : Nat) (a17 : Nat) (a18 : Nat) (a19 : Nat) (a20 : Nat) (a21 : Nat) (a22 : Nat) (a23 : Nat) (a24 : Nat) (a25 : Nat) (a26 : Nat) (a27 : Nat) (a28 : Nat) (a29 : Nat) (a30 : Nat) (a31 : Nat) (a32 : Nat) (a33 : Nat) (a34 : Nat) (f0 : Nat → Int32) (f1 : Nat → Int32) (f2 : Nat → Int32) (f3 : Nat → Int32) (hj : j < 4) : Cr l y_Ho_learned z_Ho_learned { frames := 4, cells := 0, slots := 0, locals := 94 } D classes (TY kA) (g 1 j) [.ref a0, .int (nI j)] [[(a0, .inr (12, [.ref a1, .ref a2, .ref a3, .ref a4, .ref a5, .ref a6, .ref a7, .int 0, .int ((-1)), .ref a8, .ref a9, .int 0, .int 0, .ref a10, .int 0, .int 0, .null, .null, .null, .null, .null]))], [(a2, .inl (kA 5, 4, .inr (.inr (.inr (.inr (rr (g 1)))))))], [(g 1 j, .inr (2, [.int 0, .int 0, .int 0, .int 0, .ref a11, .ref a12, .ref a13, .ref a14, .ref a15, .ref a16, .ref a17, .ref a18, .ref a19, .ref a20, .ref a21]))], [(a1, .inl (kA 4, 4, .inr (.inr (.inr (.inr (rr (g 0)))))))], [(g 0 j, .inr (3, [.int 0, .int 0, .int 1, .ref a22, .ref a23, .ref a24, .ref a25, .ref a26, .ref a27, .ref a28, .ref a29, .ref a30, .ref a31, .ref a32, .ref a33, .ref a34, .null, .int 0, .int 0]))], [(a12, .inl (kA 0, 48, .inl f0))], [(a17, .inl (kA 0, 24, .inl f1))], [(a13, .inl (kA 0, 24, .inl f2))], [(a18, .inl (kA 0, 24, .inl f3))]] (fun _ : (Nat → Nat) × (Nat → Nat → Int32) => True) (fun u => [[(a0, .inr (12, [.ref a1, .ref a2, .ref a3, .ref a4, .ref a5, .ref a6, .ref a7, .int 0, .int ((-1)), .ref a8, .ref a9, .int 0, .int 0, .ref a10, .int 0, .int 0, .null, .null, .null, .null, .null]))], [(a2, .inl (kA 5, 4, .inr (.inr (.inr (.inr (rr (g 1)))))))], [(g 1 j, .inr (2, [.int 1, .int 0, .int 0, .int 0, .ref a11, .ref a12, .ref a13, .ref a14, .ref a15, .ref a16, .ref a17, .ref a18, .ref a19, .ref a20, .ref a21]))], [(a1, .inl (kA 4, 4, .inr (.inr (.inr (.inr (rr (g 0)))))))], [(g 0 j, .inr (3, [.int 0, .int 0, .int 1, .ref a22, .ref a23, .ref a24, .ref a25, .ref a26, .ref a27, .ref a28, .ref a29, .ref a30, .ref a31, .ref a32, .ref a33, .ref a34, .null, .int 0, .int 0]))], [(a12, .inl (kA 0, 48, .inl (u.2 0)))], [(a17, .inl (kA 0, 24, .inl (fl (fl f1 24 0) 24 0)))], [(a13, .inl (kA 0, 24, .inl (fl f2 24 (-1))))], [(a18, .inl (kA 0, 24, .inl (fl f3 24 (-1))))]]) 0 0 := by
  intro sz
  refine k_met (cc := b_Ho_learned) (maxL := 2) (ret := (some (.object "DrawingHouse$Facts"))) (by decide) rfl (Nat.le_of_ble_eq_true rfl) (fun p e s m below meth c ls X hl hB => ?_)
  obtain ⟨hsz, hP, hK, hD0, hN⟩ := hB
  subst hsz
  have hD := hD0.self (sz := s.heap.size)
  generalize hAe : va_A (cat [[(a0, .inr (12, [.ref a1, .ref a2, .ref a3, .ref a4, .ref a5, .ref a6, .ref a7, .int 0, .int ((-1)), .ref a8, .ref a9, .int 0, .int 0, .ref a10, .int 0, .int 0, .null, .null, .null, .null, .null]))], [(a2, .inl (kA 5, 4, .inr (.inr (.inr (.inr (rr (g 1)))))))], [(g 1 j, .inr (2, [.int 0, .int 0, .int 0, .int 0, .ref a11, .ref a12, .ref a13, .ref a14, .ref a15, .ref a16, .ref a17, .ref a18, .ref a19, .ref a20, .ref a21]))], [(a1, .inl (kA 4, 4, .inr (.inr (.inr (.inr (rr (g 0)))))))], [(g 0 j, .inr (3, [.int 0, .int 0, .int 1, .ref a22, .ref a23, .ref a24, .ref a25, .ref a26, .ref a27, .ref a28, .ref a29, .ref a30, .ref a31, .ref a32, .ref a33, .ref a34, .null, .int 0, .int 0]))], [(a12, .inl (kA 0, 48, .inl f0))], [(a17, .inl (kA 0, 24, .inl f1))], [(a13, .inl (kA 0, 24, .inl f2))], [(a18, .inl (kA 0, 24, .inl f3))]]) s.heap.size = A at hD ⊢
  have hA : ∀ q : Nat, s.heap.size ≤ q → A q := fun q h => by rw [← hAe]; exact Or.inr h
  have hS : va_S A s.heap s.heap [] := va_S.rf
  obtain ⟨hx, hb, hml, hown, hts, hr, hlk, hnm⟩ := id X
  have hl : lv_has ls 2 [(0, .ref a0), (1, .int (nI j))] := hl
  have hP : va_P D classes (cat [[(a0, .inr (12, [.ref a1, .ref a2, .ref a3, .ref a4, .ref a5, .ref a6, .ref a7, .int 0, .int ((-1)), .ref a8, .ref a9, .int 0, .int 0, .ref a10, .int 0, .int 0, .null, .null, .null, .null, .null]))], [(a2, .inl (kA 5, 4, .inr (.inr (.inr (.inr (rr (g 1)))))))], [(g 1 j, .inr (2, [.int 0, .int 0, .int 0, .int 0, .ref a11, .ref a12, .ref a13, .ref a14, .ref a15, .ref a16, .ref a17, .ref a18, .ref a19, .ref a20, .ref a21]))], [(a1, .inl (kA 4, 4, .inr (.inr (.inr (.inr (rr (g 0)))))))], [(g 0 j, .inr (3, [.int 0, .int 0, .int 1, .ref a22, .ref a23, .ref a24, .ref a25, .ref a26, .ref a27, .ref a28, .ref a29, .ref a30, .ref a31, .ref a32, .ref a33, .ref a34, .null, .int 0, .int 0]))], [(a12, .inl (kA 0, 48, .inl f0))], [(a17, .inl (kA 0, 24, .inl f1))], [(a13, .inl (kA 0, 24, .inl f2))], [(a18, .inl (kA 0, 24, .inl f3))]]) s.heap := hP
  have hK : va_K D classes (TY kA) s := hK
  refine lv_aload_n (pc := 0) hx hb d_Ho_learned_0 rfl (lv_at hl 0 rfl) ?_
  refine k_get (pc := 1) X hK hP 0 rfl rfl i_Ho 1 (by decide) wm_556 rfl rfl d_Ho_learned_1 ?_
  refine lv_iload_n (pc := 4) hx hb d_Ho_learned_4 rfl (lv_at hl 1 rfl) ?_
  refine k_ald (pc := 5) hx hb hK hP 1 5 rfl rfl (j) rfl (by omega) (by decide) (rr_at (by omega)) d_Ho_learned_5 ?_
  refine k_get (pc := 6) X hK hP 2 rfl rfl i_Fa 0 (by decide) wm_395 rfl rfl d_Ho_learned_6 ?_
  refine lv_if_ne (pc := 9) (tgt := 27) hx hb d_Ho_learned_9 (by decide) (fun c1 => absurd (by decide) c1) (fun c1 => ?_)
  refine lv_aload_n (pc := 12) hx hb d_Ho_learned_12 rfl (lv_at hl 0 rfl) ?_
  refine k_get (pc := 13) X hK hP 0 rfl rfl i_Ho 1 (by decide) wm_556 rfl rfl d_Ho_learned_13 ?_
  refine lv_iload_n (pc := 16) hx hb d_Ho_learned_16 rfl (lv_at hl 1 rfl) ?_
  refine k_ald (pc := 17) hx hb hK hP 1 5 rfl rfl (j) rfl (by omega) (by decide) (rr_at (by omega)) d_Ho_learned_17 ?_
  refine lv_aload_n (pc := 18) hx hb d_Ho_learned_18 rfl (lv_at hl 0 rfl) ?_
  refine k_get (pc := 19) X hK hP 0 rfl rfl i_Ho 0 (by decide) wm_555 rfl rfl d_Ho_learned_19 ?_
  refine lv_iload_n (pc := 22) hx hb d_Ho_learned_22 rfl (lv_at hl 1 rfl) ?_
  refine k_ald (pc := 23) hx hb hK hP 3 4 rfl rfl (j) rfl (by omega) (by decide) (rr_at (by omega)) d_Ho_learned_23 ?_
  refine k_goV (gr := [[(a0, .inr (12, [.ref a1, .ref a2, .ref a3, .ref a4, .ref a5, .ref a6, .ref a7, .int 0, .int ((-1)), .ref a8, .ref a9, .int 0, .int 0, .ref a10, .int 0, .int 0, .null, .null, .null, .null, .null]))], [(a2, .inl (kA 5, 4, .inr (.inr (.inr (.inr (rr (g 1)))))))], [(a1, .inl (kA 4, 4, .inr (.inr (.inr (.inr (rr (g 0)))))))]]) (k_rV (pc := 24) (As := [.ref (g 0 j)]) (rest := []) X (c_Fa_learn_z1 l D kA g j a11 a12 a13 a14 a15 a16 a17 a18 a19 a20 a21 a22 a23 a24 a25 a26 a27 a28 a29 a30 a31 a32 a33 a34 f0 f1 f2 f3 hj s.heap.size) rfl wm_814 wm_7 wm_811 wm_812 wm_813 1 (by decide +kernel) ⟨Nat.le_of_ble_eq_true rfl, Nat.le_of_ble_eq_true rfl⟩ rfl rfl (va_recv hK hP (ci := 2) (q0 := 2) rfl rfl) (k_pre hN hK hP hD [2, 4, 5, 6, 7, 8] [0, 1, 3] 9 rfl (by decide) rfl) rfl hl.1 rfl (Nat.le_of_ble_eq_true rfl) d_Ho_learned_24 ⟨Nat.le_of_ble_eq_true rfl, Nat.le_of_ble_eq_true rfl⟩) hP hD hS hA [2, 4, 5, 6, 7, 8] [0, 1, 3] 9 rfl (by decide) rfl rfl (fun u1 H locs hu1 hP hD hS => ?_)
  have hP : va_P D classes (cat [[(a0, .inr (12, [.ref a1, .ref a2, .ref a3, .ref a4, .ref a5, .ref a6, .ref a7, .int 0, .int ((-1)), .ref a8, .ref a9, .int 0, .int 0, .ref a10, .int 0, .int 0, .null, .null, .null, .null, .null]))], [(a2, .inl (kA 5, 4, .inr (.inr (.inr (.inr (rr (g 1)))))))], [(a1, .inl (kA 4, 4, .inr (.inr (.inr (.inr (rr (g 0)))))))], [(g 1 j, .inr (2, [.int 1, .int 0, .int 0, .int 0, .ref a11, .ref a12, .ref a13, .ref a14, .ref a15, .ref a16, .ref a17, .ref a18, .ref a19, .ref a20, .ref a21]))], [(g 0 j, .inr (3, [.int 0, .int 0, .int 1, .ref a22, .ref a23, .ref a24, .ref a25, .ref a26, .ref a27, .ref a28, .ref a29, .ref a30, .ref a31, .ref a32, .ref a33, .ref a34, .null, .int 0, .int 0]))], [(a12, .inl (kA 0, 48, .inl (u1.2 0)))], [(a17, .inl (kA 0, 24, .inl (fl (fl f1 24 0) 24 0)))], [(a13, .inl (kA 0, 24, .inl (fl f2 24 (-1))))], [(a18, .inl (kA 0, 24, .inl (fl f3 24 (-1))))]]) H := hP
  have hD : va_D A (cat [[(a0, .inr (12, [.ref a1, .ref a2, .ref a3, .ref a4, .ref a5, .ref a6, .ref a7, .int 0, .int ((-1)), .ref a8, .ref a9, .int 0, .int 0, .ref a10, .int 0, .int 0, .null, .null, .null, .null, .null]))], [(a2, .inl (kA 5, 4, .inr (.inr (.inr (.inr (rr (g 1)))))))], [(a1, .inl (kA 4, 4, .inr (.inr (.inr (.inr (rr (g 0)))))))], [(g 1 j, .inr (2, [.int 1, .int 0, .int 0, .int 0, .ref a11, .ref a12, .ref a13, .ref a14, .ref a15, .ref a16, .ref a17, .ref a18, .ref a19, .ref a20, .ref a21]))], [(g 0 j, .inr (3, [.int 0, .int 0, .int 1, .ref a22, .ref a23, .ref a24, .ref a25, .ref a26, .ref a27, .ref a28, .ref a29, .ref a30, .ref a31, .ref a32, .ref a33, .ref a34, .null, .int 0, .int 0]))], [(a12, .inl (kA 0, 48, .inl (u1.2 0)))], [(a17, .inl (kA 0, 24, .inl (fl (fl f1 24 0) 24 0)))], [(a13, .inl (kA 0, 24, .inl (fl f2 24 (-1))))], [(a18, .inl (kA 0, 24, .inl (fl f3 24 (-1))))]]) := hD
  obtain ⟨f950, hf950⟩ : ∃ z : Nat → Int32, u1.2 0 = z := ⟨_, rfl⟩
  rw [hf950] at hP hD
  refine lv_aload_n (pc := 27) hx hb d_Ho_learned_27 rfl (lv_at hl 0 rfl) ?_
  refine k_get (pc := 28) X hK hP 0 rfl rfl i_Ho 1 (by decide) wm_556 rfl rfl d_Ho_learned_28 ?_
  refine lv_iload_n (pc := 31) hx hb d_Ho_learned_31 rfl (lv_at hl 1 rfl) ?_
  refine k_ald (pc := 32) hx hb hK hP 1 5 rfl rfl (j) rfl (by omega) (by decide) (rr_at (by omega)) d_Ho_learned_32 ?_
  obtain ⟨hP, hD⟩ := k_ord (gc := [[(a0, .inr (12, [.ref a1, .ref a2, .ref a3, .ref a4, .ref a5, .ref a6, .ref a7, .int 0, .int ((-1)), .ref a8, .ref a9, .int 0, .int 0, .ref a10, .int 0, .int 0, .null, .null, .null, .null, .null]))], [(a2, .inl (kA 5, 4, .inr (.inr (.inr (.inr (rr (g 1)))))))], [(g 1 j, .inr (2, [.int 1, .int 0, .int 0, .int 0, .ref a11, .ref a12, .ref a13, .ref a14, .ref a15, .ref a16, .ref a17, .ref a18, .ref a19, .ref a20, .ref a21]))], [(a1, .inl (kA 4, 4, .inr (.inr (.inr (.inr (rr (g 0)))))))], [(g 0 j, .inr (3, [.int 0, .int 0, .int 1, .ref a22, .ref a23, .ref a24, .ref a25, .ref a26, .ref a27, .ref a28, .ref a29, .ref a30, .ref a31, .ref a32, .ref a33, .ref a34, .null, .int 0, .int 0]))], [(a12, .inl (kA 0, 48, .inl f950))], [(a17, .inl (kA 0, 24, .inl (fl (fl f1 24 0) 24 0)))], [(a13, .inl (kA 0, 24, .inl (fl f2 24 (-1))))], [(a18, .inl (kA 0, 24, .inl (fl f3 24 (-1))))]]) hP hD [0, 1, 3, 2, 4, 5, 6, 7, 8] 9 rfl (by decide) rfl
  refine W.widen (k := 0) (n := 0) (Nat.le_of_ble_eq_true rfl) (Nat.le_of_ble_eq_true rfl) ?_
  exact W.aret hx hb hr (Or.inl ⟨_, rfl⟩) (Or.inr ⟨_, rfl⟩) (fun t ht hW => ⟨⟨((fun _ => 0), (fun k => match k with | 0 => f950 | _ => fun _ => 0)), (g 1 j), rfl, trivial, rfl, by rw [ht]; exact hP, va_K.moved hW.alike hK, hD⟩, hS.F ht⟩) hS.2.2 d_Ho_learned_33
set_option maxRecDepth 100000 in
set_option maxHeartbeats 4000000 in
/-- DrawingHouse.count(II)I -/
theorem c_Ho_count_z6 (l : Launch) (D : va_G) (kA : Nat → ClassId) (a0 : Nat) (j : Nat) (a1 : Nat) (a2 : Nat) (a3 : Nat) (a4 : Nat) (a5 : Nat) (a6 : Nat) (a7 : Nat) (a8 : Nat) (a9 : Nat) (a10 : Nat) (g : Nat → Nat → Nat) (a11 : Nat) (a12 : Nat) (a13 : Nat) (a14 : Nat) (a15 : Nat) (a16 : Nat) (a17 : Nat) (a18 : Nat) (a19 : Nat) (a20 : Nat) (a21 : Nat) (a22 : Nat) (a23 : Nat) (a24 : Nat) (a25 : Nat) (a26 : Nat) (a27 : Nat) (a28 : Nat) (a29 : Nat) (a30 : Nat) (a31 : Nat) (a32 : Nat) (a33 : Nat) (a34 : Nat) (f0 : Nat → Int32) (f1 : Nat → Int32) (f2 : Nat → Int32) (f3 : Nat → Int32) (hj : j < 4) : Ci l y_Ho_count z_Ho_count { frames := 5, cells := 0, slots := 0, locals := 115 } D classes (TY kA) [.ref a0, .int (nI j), .int 3] [[(a0, .inr (12, [.ref a1, .ref a2, .ref a3, .ref a4, .ref a5, .ref a6, .ref a7, .int 0, .int ((-1)), .ref a8, .ref a9, .int 0, .int 0, .ref a10, .int 0, .int 0, .null, .null, .null, .null, .null]))], [(a2, .inl (kA 5, 4, .inr (.inr (.inr (.inr (rr (g 1)))))))], [(g 1 j, .inr (2, [.int 0, .int 0, .int 0, .int 0, .ref a11, .ref a12, .ref a13, .ref a14, .ref a15, .ref a16, .ref a17, .ref a18, .ref a19, .ref a20, .ref a21]))], [(a1, .inl (kA 4, 4, .inr (.inr (.inr (.inr (rr (g 0)))))))], [(g 0 j, .inr (3, [.int 0, .int 0, .int 1, .ref a22, .ref a23, .ref a24, .ref a25, .ref a26, .ref a27, .ref a28, .ref a29, .ref a30, .ref a31, .ref a32, .ref a33, .ref a34, .null, .int 0, .int 0]))], [(a12, .inl (kA 0, 48, .inl f0))], [(a17, .inl (kA 0, 24, .inl f1))], [(a13, .inl (kA 0, 24, .inl f2))], [(a18, .inl (kA 0, 24, .inl f3))]] (fun r (_ : List va_W) => r = 0) (fun u => u) 0 0 := by
  intro sz
  refine k_met (cc := b_Ho_count) (maxL := 3) (ret := (some .int)) (by decide) rfl (Nat.le_of_ble_eq_true rfl) (fun p e s m below meth c ls X hl hB => ?_)
  obtain ⟨hsz, hP, hK, hD0, hN⟩ := hB
  subst hsz
  have hD := hD0.self (sz := s.heap.size)
  generalize hAe : va_A (cat [[(a0, .inr (12, [.ref a1, .ref a2, .ref a3, .ref a4, .ref a5, .ref a6, .ref a7, .int 0, .int ((-1)), .ref a8, .ref a9, .int 0, .int 0, .ref a10, .int 0, .int 0, .null, .null, .null, .null, .null]))], [(a2, .inl (kA 5, 4, .inr (.inr (.inr (.inr (rr (g 1)))))))], [(g 1 j, .inr (2, [.int 0, .int 0, .int 0, .int 0, .ref a11, .ref a12, .ref a13, .ref a14, .ref a15, .ref a16, .ref a17, .ref a18, .ref a19, .ref a20, .ref a21]))], [(a1, .inl (kA 4, 4, .inr (.inr (.inr (.inr (rr (g 0)))))))], [(g 0 j, .inr (3, [.int 0, .int 0, .int 1, .ref a22, .ref a23, .ref a24, .ref a25, .ref a26, .ref a27, .ref a28, .ref a29, .ref a30, .ref a31, .ref a32, .ref a33, .ref a34, .null, .int 0, .int 0]))], [(a12, .inl (kA 0, 48, .inl f0))], [(a17, .inl (kA 0, 24, .inl f1))], [(a13, .inl (kA 0, 24, .inl f2))], [(a18, .inl (kA 0, 24, .inl f3))]]) s.heap.size = A at hD ⊢
  have hA : ∀ q : Nat, s.heap.size ≤ q → A q := fun q h => by rw [← hAe]; exact Or.inr h
  have hS : va_S A s.heap s.heap [] := va_S.rf
  obtain ⟨hx, hb, hml, hown, hts, hr, hlk, hnm⟩ := id X
  have hl : lv_has ls 3 [(0, .ref a0), (1, .int (nI j)), (2, .int 3)] := hl
  have hP : va_P D classes (cat [[(a0, .inr (12, [.ref a1, .ref a2, .ref a3, .ref a4, .ref a5, .ref a6, .ref a7, .int 0, .int ((-1)), .ref a8, .ref a9, .int 0, .int 0, .ref a10, .int 0, .int 0, .null, .null, .null, .null, .null]))], [(a2, .inl (kA 5, 4, .inr (.inr (.inr (.inr (rr (g 1)))))))], [(g 1 j, .inr (2, [.int 0, .int 0, .int 0, .int 0, .ref a11, .ref a12, .ref a13, .ref a14, .ref a15, .ref a16, .ref a17, .ref a18, .ref a19, .ref a20, .ref a21]))], [(a1, .inl (kA 4, 4, .inr (.inr (.inr (.inr (rr (g 0)))))))], [(g 0 j, .inr (3, [.int 0, .int 0, .int 1, .ref a22, .ref a23, .ref a24, .ref a25, .ref a26, .ref a27, .ref a28, .ref a29, .ref a30, .ref a31, .ref a32, .ref a33, .ref a34, .null, .int 0, .int 0]))], [(a12, .inl (kA 0, 48, .inl f0))], [(a17, .inl (kA 0, 24, .inl f1))], [(a13, .inl (kA 0, 24, .inl f2))], [(a18, .inl (kA 0, 24, .inl f3))]]) s.heap := hP
  have hK : va_K D classes (TY kA) s := hK
  refine lv_iload_n (pc := 0) hx hb d_Ho_count_0 rfl (lv_at hl 1 rfl) ?_
  refine k_goI (gr := [[(a0, .inr (12, [.ref a1, .ref a2, .ref a3, .ref a4, .ref a5, .ref a6, .ref a7, .int 0, .int ((-1)), .ref a8, .ref a9, .int 0, .int 0, .ref a10, .int 0, .int 0, .null, .null, .null, .null, .null]))], [(a2, .inl (kA 5, 4, .inr (.inr (.inr (.inr (rr (g 1)))))))], [(g 1 j, .inr (2, [.int 0, .int 0, .int 0, .int 0, .ref a11, .ref a12, .ref a13, .ref a14, .ref a15, .ref a16, .ref a17, .ref a18, .ref a19, .ref a20, .ref a21]))], [(a1, .inl (kA 4, 4, .inr (.inr (.inr (.inr (rr (g 0)))))))], [(g 0 j, .inr (3, [.int 0, .int 0, .int 1, .ref a22, .ref a23, .ref a24, .ref a25, .ref a26, .ref a27, .ref a28, .ref a29, .ref a30, .ref a31, .ref a32, .ref a33, .ref a34, .null, .int 0, .int 0]))], [(a12, .inl (kA 0, 48, .inl f0))], [(a17, .inl (kA 0, 24, .inl f1))], [(a13, .inl (kA 0, 24, .inl f2))], [(a18, .inl (kA 0, 24, .inl f3))]]) (k_rS (pc := 1) (As := [.int (nI j)]) (rest := []) X (c_Ho_isPlace l D kA (nI j) s.heap.size) rfl wm_633 wm_1 wm_631 wm_632 1 (by decide +kernel) ⟨Nat.le_of_ble_eq_true rfl, Nat.le_of_ble_eq_true rfl⟩ rfl rfl (k_pre hN hK hP hD [] [0, 1, 2, 3, 4, 5, 6, 7, 8] 9 rfl (by decide) rfl) rfl hl.1 rfl (Nat.le_of_ble_eq_true rfl) d_Ho_count_1 ⟨Nat.le_of_ble_eq_true rfl, Nat.le_of_ble_eq_true rfl⟩) hP hD hS hA [] [0, 1, 2, 3, 4, 5, 6, 7, 8] 9 rfl (by decide) rfl rfl (fun r1 u2 H locs hu2 hP hD hS => ?_)
  subst hu2
  refine k_cst (v := 1) (place_ok hj) ?_
  have hP : va_P D classes (cat [[(a0, .inr (12, [.ref a1, .ref a2, .ref a3, .ref a4, .ref a5, .ref a6, .ref a7, .int 0, .int ((-1)), .ref a8, .ref a9, .int 0, .int 0, .ref a10, .int 0, .int 0, .null, .null, .null, .null, .null]))], [(a2, .inl (kA 5, 4, .inr (.inr (.inr (.inr (rr (g 1)))))))], [(g 1 j, .inr (2, [.int 0, .int 0, .int 0, .int 0, .ref a11, .ref a12, .ref a13, .ref a14, .ref a15, .ref a16, .ref a17, .ref a18, .ref a19, .ref a20, .ref a21]))], [(a1, .inl (kA 4, 4, .inr (.inr (.inr (.inr (rr (g 0)))))))], [(g 0 j, .inr (3, [.int 0, .int 0, .int 1, .ref a22, .ref a23, .ref a24, .ref a25, .ref a26, .ref a27, .ref a28, .ref a29, .ref a30, .ref a31, .ref a32, .ref a33, .ref a34, .null, .int 0, .int 0]))], [(a12, .inl (kA 0, 48, .inl f0))], [(a17, .inl (kA 0, 24, .inl f1))], [(a13, .inl (kA 0, 24, .inl f2))], [(a18, .inl (kA 0, 24, .inl f3))]]) H := hP
  have hD : va_D A (cat [[(a0, .inr (12, [.ref a1, .ref a2, .ref a3, .ref a4, .ref a5, .ref a6, .ref a7, .int 0, .int ((-1)), .ref a8, .ref a9, .int 0, .int 0, .ref a10, .int 0, .int 0, .null, .null, .null, .null, .null]))], [(a2, .inl (kA 5, 4, .inr (.inr (.inr (.inr (rr (g 1)))))))], [(g 1 j, .inr (2, [.int 0, .int 0, .int 0, .int 0, .ref a11, .ref a12, .ref a13, .ref a14, .ref a15, .ref a16, .ref a17, .ref a18, .ref a19, .ref a20, .ref a21]))], [(a1, .inl (kA 4, 4, .inr (.inr (.inr (.inr (rr (g 0)))))))], [(g 0 j, .inr (3, [.int 0, .int 0, .int 1, .ref a22, .ref a23, .ref a24, .ref a25, .ref a26, .ref a27, .ref a28, .ref a29, .ref a30, .ref a31, .ref a32, .ref a33, .ref a34, .null, .int 0, .int 0]))], [(a12, .inl (kA 0, 48, .inl f0))], [(a17, .inl (kA 0, 24, .inl f1))], [(a13, .inl (kA 0, 24, .inl f2))], [(a18, .inl (kA 0, 24, .inl f3))]]) := hD
  refine lv_if_ne (pc := 4) (tgt := 9) hx hb d_Ho_count_4 (by decide) (fun c1 => ?_) (fun c1 => absurd c1 (by decide))
  refine lv_iload_n (pc := 9) hx hb d_Ho_count_9 rfl (lv_at hl 2 rfl) ?_
  refine lv_tableIn (pc := 10) (tgt := 86) hx hb d_Ho_count_10 (by decide) (by decide) rfl (by decide) ?_
  refine lv_aload_n (pc := 86) hx hb d_Ho_count_86 rfl (lv_at hl 0 rfl) ?_
  refine lv_iload_n (pc := 87) hx hb d_Ho_count_87 rfl (lv_at hl 1 rfl) ?_
  refine k_goR (gr := []) (k_rV (pc := 88) (As := [.int (nI j)]) (rest := []) X (c_Ho_learned_z1 l D kA a0 j a1 a2 a3 a4 a5 a6 a7 a8 a9 a10 g a11 a12 a13 a14 a15 a16 a17 a18 a19 a20 a21 a22 a23 a24 a25 a26 a27 a28 a29 a30 a31 a32 a33 a34 f0 f1 f2 f3 hj H.size) rfl wm_810 wm_1 wm_807 wm_809 wv_1_14 1 (by decide +kernel) ⟨Nat.le_of_ble_eq_true rfl, Nat.le_of_ble_eq_true rfl⟩ rfl rfl (va_recv hK hP (ci := 12) (q0 := 0) rfl rfl) (k_pre hN hK hP hD [0, 1, 2, 3, 4, 5, 6, 7, 8] [] 9 rfl (by decide) rfl) rfl hl.1 rfl (Nat.le_of_ble_eq_true rfl) d_Ho_count_88 ⟨Nat.le_of_ble_eq_true rfl, Nat.le_of_ble_eq_true rfl⟩) hP hD hS hA [0, 1, 2, 3, 4, 5, 6, 7, 8] [] 9 rfl (by decide) rfl rfl (fun u4 H locs hu4 hP hD hS => ?_)
  have hP : va_P D classes (cat [[(a0, .inr (12, [.ref a1, .ref a2, .ref a3, .ref a4, .ref a5, .ref a6, .ref a7, .int 0, .int ((-1)), .ref a8, .ref a9, .int 0, .int 0, .ref a10, .int 0, .int 0, .null, .null, .null, .null, .null]))], [(a2, .inl (kA 5, 4, .inr (.inr (.inr (.inr (rr (g 1)))))))], [(g 1 j, .inr (2, [.int 1, .int 0, .int 0, .int 0, .ref a11, .ref a12, .ref a13, .ref a14, .ref a15, .ref a16, .ref a17, .ref a18, .ref a19, .ref a20, .ref a21]))], [(a1, .inl (kA 4, 4, .inr (.inr (.inr (.inr (rr (g 0)))))))], [(g 0 j, .inr (3, [.int 0, .int 0, .int 1, .ref a22, .ref a23, .ref a24, .ref a25, .ref a26, .ref a27, .ref a28, .ref a29, .ref a30, .ref a31, .ref a32, .ref a33, .ref a34, .null, .int 0, .int 0]))], [(a12, .inl (kA 0, 48, .inl (u4.2 0)))], [(a17, .inl (kA 0, 24, .inl (fl (fl f1 24 0) 24 0)))], [(a13, .inl (kA 0, 24, .inl (fl f2 24 (-1))))], [(a18, .inl (kA 0, 24, .inl (fl f3 24 (-1))))]]) H := hP
  have hD : va_D A (cat [[(a0, .inr (12, [.ref a1, .ref a2, .ref a3, .ref a4, .ref a5, .ref a6, .ref a7, .int 0, .int ((-1)), .ref a8, .ref a9, .int 0, .int 0, .ref a10, .int 0, .int 0, .null, .null, .null, .null, .null]))], [(a2, .inl (kA 5, 4, .inr (.inr (.inr (.inr (rr (g 1)))))))], [(g 1 j, .inr (2, [.int 1, .int 0, .int 0, .int 0, .ref a11, .ref a12, .ref a13, .ref a14, .ref a15, .ref a16, .ref a17, .ref a18, .ref a19, .ref a20, .ref a21]))], [(a1, .inl (kA 4, 4, .inr (.inr (.inr (.inr (rr (g 0)))))))], [(g 0 j, .inr (3, [.int 0, .int 0, .int 1, .ref a22, .ref a23, .ref a24, .ref a25, .ref a26, .ref a27, .ref a28, .ref a29, .ref a30, .ref a31, .ref a32, .ref a33, .ref a34, .null, .int 0, .int 0]))], [(a12, .inl (kA 0, 48, .inl (u4.2 0)))], [(a17, .inl (kA 0, 24, .inl (fl (fl f1 24 0) 24 0)))], [(a13, .inl (kA 0, 24, .inl (fl f2 24 (-1))))], [(a18, .inl (kA 0, 24, .inl (fl f3 24 (-1))))]]) := hD
  obtain ⟨f950, hf950⟩ : ∃ z : Nat → Int32, u4.2 0 = z := ⟨_, rfl⟩
  rw [hf950] at hP hD
  refine k_get (pc := 91) X hK hP 2 rfl rfl i_Fa 1 (by decide) wm_399 rfl rfl d_Ho_count_91 ?_
  refine W.widen (k := 0) (n := 0) (Nat.le_of_ble_eq_true rfl) (Nat.le_of_ble_eq_true rfl) ?_
  exact W.iret (v := 0) hx hb hr (fun t ht hW => ⟨⟨0, [[(a0, .inr (12, [.ref a1, .ref a2, .ref a3, .ref a4, .ref a5, .ref a6, .ref a7, .int 0, .int ((-1)), .ref a8, .ref a9, .int 0, .int 0, .ref a10, .int 0, .int 0, .null, .null, .null, .null, .null]))], [(a2, .inl (kA 5, 4, .inr (.inr (.inr (.inr (rr (g 1)))))))], [(g 1 j, .inr (2, [.int 1, .int 0, .int 0, .int 0, .ref a11, .ref a12, .ref a13, .ref a14, .ref a15, .ref a16, .ref a17, .ref a18, .ref a19, .ref a20, .ref a21]))], [(a1, .inl (kA 4, 4, .inr (.inr (.inr (.inr (rr (g 0)))))))], [(g 0 j, .inr (3, [.int 0, .int 0, .int 1, .ref a22, .ref a23, .ref a24, .ref a25, .ref a26, .ref a27, .ref a28, .ref a29, .ref a30, .ref a31, .ref a32, .ref a33, .ref a34, .null, .int 0, .int 0]))], [(a12, .inl (kA 0, 48, .inl f950))], [(a17, .inl (kA 0, 24, .inl (fl (fl f1 24 0) 24 0)))], [(a13, .inl (kA 0, 24, .inl (fl f2 24 (-1))))], [(a18, .inl (kA 0, 24, .inl (fl f3 24 (-1))))]], rfl, rfl, by rw [ht]; exact hP, va_K.moved hW.alike hK, hD⟩, hS.F ht⟩) hS.2.2 d_Ho_count_94
set_option maxRecDepth 100000 in
set_option maxHeartbeats 4000000 in
/-- DrawingHouseModel.parts()I -/
theorem c_Mo_parts_z1 (l : Launch) (D : va_G) (kA : Nat → ClassId) (a0 : Nat) (qm : Nat → Nat) (j : Nat) (hj : j < 4) : Ci l y_Mo_parts z_Mo_parts { frames := 1, cells := 0, slots := 0, locals := 20 } D classes (TY kA) [.ref a0] [[(a0, .inr (13, mF qm (va_up x0Mo 5 (nI (539 * (31 * j + 0)))) y0Mo))], [(qm 2, .inl (kA 0, 66836, .inl all0))]] (fun r (_ : Unit) => r = 0) (fun u => [[(a0, .inr (13, mF qm (va_up x0Mo 5 (nI (539 * (31 * j + 0)))) y0Mo))], [(qm 2, .inl (kA 0, 66836, .inl all0))]]) 0 0 := by
  intro sz
  refine k_met (cc := b_Mo_parts) (maxL := 4) (ret := (some .int)) (by decide) rfl (Nat.le_of_ble_eq_true rfl) (fun p e s m below meth c ls X hl hB => ?_)
  obtain ⟨hsz, hP, hK, hD0, hN⟩ := hB
  subst hsz
  have hD := hD0.self (sz := s.heap.size)
  generalize hAe : va_A (cat [[(a0, .inr (13, mF qm (va_up x0Mo 5 (nI (539 * (31 * j + 0)))) y0Mo))], [(qm 2, .inl (kA 0, 66836, .inl all0))]]) s.heap.size = A at hD ⊢
  have hA : ∀ q : Nat, s.heap.size ≤ q → A q := fun q h => by rw [← hAe]; exact Or.inr h
  have hS : va_S A s.heap s.heap [] := va_S.rf
  obtain ⟨hx, hb, hml, hown, hts, hr, hlk, hnm⟩ := id X
  have hl : lv_has ls 4 [(0, .ref a0)] := hl
  have hP : va_P D classes (cat [[(a0, .inr (13, mF qm (va_up x0Mo 5 (nI (539 * (31 * j + 0)))) y0Mo))], [(qm 2, .inl (kA 0, 66836, .inl all0))]]) s.heap := hP
  have hK : va_K D classes (TY kA) s := hK
  refine lv_iconst (pc := 0) (v := 0) hx hb d_Mo_parts_0 (by decide) ?_
  refine lv_istore_n (pc := 1) (lv' := [(1, .int 0), (0, .ref a0)]) hx hb d_Mo_parts_1 rfl hl (by decide) rfl (fun ls hl => ?_)
  refine lv_iconst (pc := 2) (v := 0) hx hb d_Mo_parts_2 (by decide) ?_
  refine lv_istore_n (pc := 3) (lv' := [(2, .int 0), (1, .int 0), (0, .ref a0)]) hx hb d_Mo_parts_3 rfl hl (by decide) rfl (fun ls hl => ?_)
  refine lv_iload_n (pc := 4) hx hb d_Mo_parts_4 rfl (lv_at hl 0 rfl) ?_
  refine lv_aload_n (pc := 5) hx hb d_Mo_parts_5 rfl (lv_at hl 2 rfl) ?_
  refine k_goI (gr := []) (k_rV (pc := 6) (As := []) (rest := [.int 0]) X (c_Mo_nodes_z1 l D kA a0 qm j hj s.heap.size) rfl wm_3025 wm_9 wm_3022 wm_3024 wv_13_3 0 (by decide +kernel) ⟨Nat.le_of_ble_eq_true rfl, Nat.le_of_ble_eq_true rfl⟩ rfl rfl (va_recv hK hP (ci := 13) (q0 := 0) rfl rfl) (k_pre hN hK hP hD [0, 1] [] 2 rfl (by decide) rfl) rfl hl.1 rfl (Nat.le_of_ble_eq_true rfl) d_Mo_parts_6 ⟨Nat.le_of_ble_eq_true rfl, Nat.le_of_ble_eq_true rfl⟩) hP hD hS hA [0, 1] [] 2 rfl (by decide) rfl rfl (fun r1 u2 H locs hu2 hP hD hS => ?_)
  subst hu2
  have hP : va_P D classes (cat [[(a0, .inr (13, mF qm (va_up x0Mo 5 (nI (539 * (31 * j + 0)))) y0Mo))], [(qm 2, .inl (kA 0, 66836, .inl all0))]]) H := hP
  have hD : va_D A (cat [[(a0, .inr (13, mF qm (va_up x0Mo 5 (nI (539 * (31 * j + 0)))) y0Mo))], [(qm 2, .inl (kA 0, 66836, .inl all0))]]) := hD
  refine lv_icmp_ge (pc := 9) (tgt := 25) hx hb d_Mo_parts_9 (by decide) (fun _ => ?_) (fun c1 => absurd (by decide) c1)
  refine lv_iconst (pc := 25) (v := 0) hx hb d_Mo_parts_25 (by decide) ?_
  refine lv_istore_n (pc := 26) (lv' := [(2, .int 0), (1, .int 0), (0, .ref a0)]) hx hb d_Mo_parts_26 rfl hl (by decide) rfl (fun ls hl => ?_)
  refine lv_iload_n (pc := 27) hx hb d_Mo_parts_27 rfl (lv_at hl 0 rfl) ?_
  refine lv_aload_n (pc := 28) hx hb d_Mo_parts_28 rfl (lv_at hl 2 rfl) ?_
  refine k_goI (gr := []) (k_rV (pc := 29) (As := []) (rest := [.int 0]) X (c_Mo_nodes_z1 l D kA a0 qm j hj H.size) rfl wm_3025 wm_9 wm_3022 wm_3024 wv_13_3 0 (by decide +kernel) ⟨Nat.le_of_ble_eq_true rfl, Nat.le_of_ble_eq_true rfl⟩ rfl rfl (va_recv hK hP (ci := 13) (q0 := 0) rfl rfl) (k_pre hN hK hP hD [0, 1] [] 2 rfl (by decide) rfl) rfl hl.1 rfl (Nat.le_of_ble_eq_true rfl) d_Mo_parts_29 ⟨Nat.le_of_ble_eq_true rfl, Nat.le_of_ble_eq_true rfl⟩) hP hD hS hA [0, 1] [] 2 rfl (by decide) rfl rfl (fun r3 u4 H locs hu4 hP hD hS => ?_)
  subst hu4
  have hP : va_P D classes (cat [[(a0, .inr (13, mF qm (va_up x0Mo 5 (nI (539 * (31 * j + 0)))) y0Mo))], [(qm 2, .inl (kA 0, 66836, .inl all0))]]) H := hP
  have hD : va_D A (cat [[(a0, .inr (13, mF qm (va_up x0Mo 5 (nI (539 * (31 * j + 0)))) y0Mo))], [(qm 2, .inl (kA 0, 66836, .inl all0))]]) := hD
  refine lv_icmp_ge (pc := 32) (tgt := 96) hx hb d_Mo_parts_32 (by decide) (fun _ => ?_) (fun c1 => absurd (by decide) c1)
  refine lv_iload_n (pc := 96) hx hb d_Mo_parts_96 rfl (lv_at hl 1 rfl) ?_
  refine W.widen (k := 0) (n := 0) (Nat.le_of_ble_eq_true rfl) (Nat.le_of_ble_eq_true rfl) ?_
  exact W.iret (v := 0) hx hb hr (fun t ht hW => ⟨⟨0, (), rfl, rfl, by rw [ht]; exact hP, va_K.moved hW.alike hK, hD⟩, hS.F ht⟩) hS.2.2 d_Mo_parts_97
set_option maxRecDepth 100000 in
set_option maxHeartbeats 4000000 in
/-- DrawingHouseModel.count(II)I -/
theorem c_Mo_count_z6 (l : Launch) (D : va_G) (kA : Nat → ClassId) (a0 : Nat) (j : Nat) (qm : Nat → Nat) (hj : j < 4) : Ci l y_Mo_count z_Mo_count { frames := 2, cells := 0, slots := 0, locals := 43 } D classes (TY kA) [.ref a0, .int (nI j), .int 3] [[(a0, .inr (13, mF qm x0Mo y0Mo))], [(qm 3, .inl (kA 0, 4, .inl (fun _ => 0)))], [(qm 2, .inl (kA 0, 66836, .inl all0))]] (fun r (_ : List va_W) => r = 0) (fun u => u) 0 0 := by
  intro sz
  refine k_met (cc := b_Mo_count) (maxL := 3) (ret := (some .int)) (by decide) rfl (Nat.le_of_ble_eq_true rfl) (fun p e s m below meth c ls X hl hB => ?_)
  obtain ⟨hsz, hP, hK, hD0, hN⟩ := hB
  subst hsz
  have hD := hD0.self (sz := s.heap.size)
  generalize hAe : va_A (cat [[(a0, .inr (13, mF qm x0Mo y0Mo))], [(qm 3, .inl (kA 0, 4, .inl (fun _ => 0)))], [(qm 2, .inl (kA 0, 66836, .inl all0))]]) s.heap.size = A at hD ⊢
  have hA : ∀ q : Nat, s.heap.size ≤ q → A q := fun q h => by rw [← hAe]; exact Or.inr h
  have hS : va_S A s.heap s.heap [] := va_S.rf
  obtain ⟨hx, hb, hml, hown, hts, hr, hlk, hnm⟩ := id X
  have hl : lv_has ls 3 [(0, .ref a0), (1, .int (nI j)), (2, .int 3)] := hl
  have hP : va_P D classes (cat [[(a0, .inr (13, mF qm x0Mo y0Mo))], [(qm 3, .inl (kA 0, 4, .inl (fun _ => 0)))], [(qm 2, .inl (kA 0, 66836, .inl all0))]]) s.heap := hP
  have hK : va_K D classes (TY kA) s := hK
  refine lv_iload_n (pc := 0) hx hb d_Mo_count_0 rfl (lv_at hl 1 rfl) ?_
  refine k_goI (gr := [[(a0, .inr (13, mF qm x0Mo y0Mo))], [(qm 3, .inl (kA 0, 4, .inl (fun _ => 0)))], [(qm 2, .inl (kA 0, 66836, .inl all0))]]) (k_rS (pc := 1) (As := [.int (nI j)]) (rest := []) X (c_Mo_isPlace l D kA (nI j) s.heap.size) rfl wm_2978 wm_9 wm_2976 wm_2977 1 (by decide +kernel) ⟨Nat.le_of_ble_eq_true rfl, Nat.le_of_ble_eq_true rfl⟩ rfl rfl (k_pre hN hK hP hD [] [0, 1, 2] 3 rfl (by decide) rfl) rfl hl.1 rfl (Nat.le_of_ble_eq_true rfl) d_Mo_count_1 ⟨Nat.le_of_ble_eq_true rfl, Nat.le_of_ble_eq_true rfl⟩) hP hD hS hA [] [0, 1, 2] 3 rfl (by decide) rfl rfl (fun r1 u2 H locs hu2 hP hD hS => ?_)
  subst hu2
  refine k_cst (v := 1) (placeM_ok hj) ?_
  have hP : va_P D classes (cat [[(a0, .inr (13, mF qm x0Mo y0Mo))], [(qm 3, .inl (kA 0, 4, .inl (fun _ => 0)))], [(qm 2, .inl (kA 0, 66836, .inl all0))]]) H := hP
  have hD : va_D A (cat [[(a0, .inr (13, mF qm x0Mo y0Mo))], [(qm 3, .inl (kA 0, 4, .inl (fun _ => 0)))], [(qm 2, .inl (kA 0, 66836, .inl all0))]]) := hD
  refine lv_if_ne (pc := 4) (tgt := 9) hx hb d_Mo_count_4 (by decide) (fun c1 => ?_) (fun c1 => absurd c1 (by decide))
  refine lv_aload_n (pc := 9) hx hb d_Mo_count_9 rfl (lv_at hl 0 rfl) ?_
  refine lv_iload_n (pc := 10) hx hb d_Mo_count_10 rfl (lv_at hl 1 rfl) ?_
  refine k_goV (gr := [[(qm 2, .inl (kA 0, 66836, .inl all0))]]) (k_rV (pc := 11) (As := [.int (nI j)]) (rest := []) X (c_Mo_take_z1 l D kA a0 j qm hj H.size) rfl wm_3091 wm_9 wm_3088 wm_3090 wv_14_2 1 (by decide +kernel) ⟨Nat.le_of_ble_eq_true rfl, Nat.le_of_ble_eq_true rfl⟩ rfl rfl (va_recv hK hP (ci := 13) (q0 := 0) rfl rfl) (k_pre hN hK hP hD [0, 1] [2] 3 rfl (by decide) rfl) rfl hl.1 rfl (Nat.le_of_ble_eq_true rfl) d_Mo_count_11 ⟨Nat.le_of_ble_eq_true rfl, Nat.le_of_ble_eq_true rfl⟩) hP hD hS hA [0, 1] [2] 3 rfl (by decide) rfl rfl (fun u3 H locs hu3 hP hD hS => ?_)
  have hP : va_P D classes (cat [[(qm 2, .inl (kA 0, 66836, .inl all0))], [(a0, .inr (13, mF qm (va_up x0Mo 5 (nI (539 * (31 * j + 0)))) y0Mo))], [(qm 3, .inl (kA 0, 4, .inl (fun _ => 0)))]]) H := hP
  have hD : va_D A (cat [[(qm 2, .inl (kA 0, 66836, .inl all0))], [(a0, .inr (13, mF qm (va_up x0Mo 5 (nI (539 * (31 * j + 0)))) y0Mo))], [(qm 3, .inl (kA 0, 4, .inl (fun _ => 0)))]]) := hD
  refine lv_iload_n (pc := 14) hx hb d_Mo_count_14 rfl (lv_at hl 2 rfl) ?_
  refine lv_tableIn (pc := 15) (tgt := 75) hx hb d_Mo_count_15 (by decide) (by decide) rfl (by decide) ?_
  refine lv_aload_n (pc := 75) hx hb d_Mo_count_75 rfl (lv_at hl 0 rfl) ?_
  refine k_goI (gr := [[(qm 3, .inl (kA 0, 4, .inl (fun _ => 0)))]]) (k_rV (pc := 76) (As := []) (rest := []) X (c_Mo_parts_z1 l D kA a0 qm j hj H.size) rfl wm_3283 wm_9 wm_3280 wm_3282 wv_16_11 0 (by decide +kernel) ⟨Nat.le_of_ble_eq_true rfl, Nat.le_of_ble_eq_true rfl⟩ rfl rfl (va_recv hK hP (ci := 13) (q0 := 1) rfl rfl) (k_pre hN hK hP hD [1, 0] [2] 3 rfl (by decide) rfl) rfl hl.1 rfl (Nat.le_of_ble_eq_true rfl) d_Mo_count_76 ⟨Nat.le_of_ble_eq_true rfl, Nat.le_of_ble_eq_true rfl⟩) hP hD hS hA [1, 0] [2] 3 rfl (by decide) rfl rfl (fun r4 u5 H locs hu5 hP hD hS => ?_)
  subst hu5
  have hP : va_P D classes (cat [[(qm 3, .inl (kA 0, 4, .inl (fun _ => 0)))], [(a0, .inr (13, mF qm (va_up x0Mo 5 (nI (539 * (31 * j + 0)))) y0Mo))], [(qm 2, .inl (kA 0, 66836, .inl all0))]]) H := hP
  have hD : va_D A (cat [[(qm 3, .inl (kA 0, 4, .inl (fun _ => 0)))], [(a0, .inr (13, mF qm (va_up x0Mo 5 (nI (539 * (31 * j + 0)))) y0Mo))], [(qm 2, .inl (kA 0, 66836, .inl all0))]]) := hD
  refine W.widen (k := 0) (n := 0) (Nat.le_of_ble_eq_true rfl) (Nat.le_of_ble_eq_true rfl) ?_
  exact W.iret (v := 0) hx hb hr (fun t ht hW => ⟨⟨0, [[(qm 3, .inl (kA 0, 4, .inl (fun _ => 0)))], [(a0, .inr (13, mF qm (va_up x0Mo 5 (nI (539 * (31 * j + 0)))) y0Mo))], [(qm 2, .inl (kA 0, 66836, .inl all0))]], rfl, rfl, by rw [ht]; exact hP, va_K.moved hW.alike hK, hD⟩, hS.F ht⟩) hS.2.2 d_Mo_count_79
set_option maxRecDepth 100000 in
set_option maxHeartbeats 4000000 in
/-- count, a fresh house -/
theorem lf_count_6 {p : Program} {e : Env} {s : State} {m : MethodId} {below : List Frame} {meth : Method} {c : Code} (l : Launch) {b : Nat} {xs : Nat → Int32} (C0 : lw_At p s m meth c b 6 xs) {D : va_G} {kA : Nat → ClassId} (h : Nat) (h2 : Nat) (q : Nat → Nat) (qg : Nat → Nat) (qf : Nat → Nat) (qm : Nat → Nat) (g : Nat → Nat → Nat) (j : Nat) (hj : j < 4) (hv1 : xs 1 = nI j) (hv2 : xs 2 = 3) {H : Heap} {locs : List Loc} {ls : Array Slot} (hK : va_K D classes (TY kA) s) (hN : nst s) (hP : va_P D classes (cat [[(h, .inr (12, [.ref (q 0), .ref (q 1), .ref (q 2), .ref (q 3), .ref (q 4), .ref (q 5), .ref (q 6), .int 0, .int ((-1)), .ref (q 9), .ref (q 10), .int 0, .int 0, .ref (q 13), .int 0, .int 0, .null, .null, .null, .null, .null]))], [(q 1, .inl (kA 5, 4, .inr (.inr (.inr (.inr (rr (g 1)))))))], [(g 1 j, .inr (2, [.int 0, .int 0, .int 0, .int 0, .ref (qf 4), .ref (qf 5), .ref (qf 6), .ref (qf 7), .ref (qf 8), .ref (qf 9), .ref (qf 10), .ref (qf 11), .ref (qf 12), .ref (qf 13), .ref (qf 14)]))], [(q 0, .inl (kA 4, 4, .inr (.inr (.inr (.inr (rr (g 0)))))))], [(g 0 j, .inr (3, [.int 0, .int 0, .int 1, .ref (qg 3), .ref (qg 4), .ref (qg 5), .ref (qg 6), .ref (qg 7), .ref (qg 8), .ref (qg 9), .ref (qg 10), .ref (qg 11), .ref (qg 12), .ref (qg 13), .ref (qg 14), .ref (qg 15), .null, .int 0, .int 0]))], [(qf 5, .inl (kA 0, 48, .inl (fun _ => 0)))], [(qf 10, .inl (kA 0, 24, .inl (fun _ => 0)))], [(qf 6, .inl (kA 0, 24, .inl (fun _ => 0)))], [(qf 11, .inl (kA 0, 24, .inl (fun _ => 0)))], [(h2, .inr (13, mF qm x0Mo y0Mo))], [(qm 3, .inl (kA 0, 4, .inl (fun _ => 0)))], [(qm 2, .inl (kA 0, 66836, .inl all0))]]) H) (hD : va_D (fun q : Nat => s.heap.size ≤ q) (cat [[(h, .inr (12, [.ref (q 0), .ref (q 1), .ref (q 2), .ref (q 3), .ref (q 4), .ref (q 5), .ref (q 6), .int 0, .int ((-1)), .ref (q 9), .ref (q 10), .int 0, .int 0, .ref (q 13), .int 0, .int 0, .null, .null, .null, .null, .null]))], [(q 1, .inl (kA 5, 4, .inr (.inr (.inr (.inr (rr (g 1)))))))], [(g 1 j, .inr (2, [.int 0, .int 0, .int 0, .int 0, .ref (qf 4), .ref (qf 5), .ref (qf 6), .ref (qf 7), .ref (qf 8), .ref (qf 9), .ref (qf 10), .ref (qf 11), .ref (qf 12), .ref (qf 13), .ref (qf 14)]))], [(q 0, .inl (kA 4, 4, .inr (.inr (.inr (.inr (rr (g 0)))))))], [(g 0 j, .inr (3, [.int 0, .int 0, .int 1, .ref (qg 3), .ref (qg 4), .ref (qg 5), .ref (qg 6), .ref (qg 7), .ref (qg 8), .ref (qg 9), .ref (qg 10), .ref (qg 11), .ref (qg 12), .ref (qg 13), .ref (qg 14), .ref (qg 15), .null, .int 0, .int 0]))], [(qf 5, .inl (kA 0, 48, .inl (fun _ => 0)))], [(qf 10, .inl (kA 0, 24, .inl (fun _ => 0)))], [(qf 6, .inl (kA 0, 24, .inl (fun _ => 0)))], [(qf 11, .inl (kA 0, 24, .inl (fun _ => 0)))], [(h2, .inr (13, mF qm x0Mo y0Mo))], [(qm 3, .inl (kA 0, 4, .inl (fun _ => 0)))], [(qm 2, .inl (kA 0, 66836, .inl all0))]])) (hS : va_S (fun q : Nat => s.heap.size ≤ q) s.heap H locs) (hl : lv_has ls 4 [(3, .int 0), (2, .ref h2), (1, .ref h), (0, .ref b)]) : W p l e room_1 s m #[Value.ref b] below meth c H locs 368 365796 (lw_Z below #[Value.ref b] s) (F0 m 279 ls []) := by
  obtain ⟨hx, hb, hr, hml, hown, hts0, hX, hbl, hlocks, hgv⟩ := id C0
  have hts : ∀ w ∈ lw_g, w.before #[Value.ref b] s = true := fun w h => hts0 w (lw_gt h)
  have X : cx p s m #[Value.ref b] meth c b_law_law 4 ret "DrawingHouseLaw" meth.name := ⟨hx, hb, hml, hown, hts, hr, hlocks, rfl⟩
  obtain ⟨A, hAe⟩ : ∃ A : Nat → Prop, A = fun q : Nat => s.heap.size ≤ q := ⟨_, rfl⟩
  have hA : ∀ q : Nat, s.heap.size ≤ q → A q := fun q h => by rw [hAe]; exact h
  have hbA : ¬ A b := by rw [hAe]; exact Nat.not_le.mpr hbl
  rw [← hAe] at hD hS
  refine lv_aload_n (pc := 279) hx hb d_law_law_279 rfl (lv_at hl 2 rfl) ?_
  refine lv_aload_n (pc := 280) hx hb d_law_law_280 rfl (lv_at hl 3 rfl) ?_
  refine lv_iload_n (pc := 281) hx hb d_law_law_281 rfl (lv_at hl 0 rfl) ?_
  refine lv_iconst (pc := 282) (v := 1) hx hb d_law_law_282 (by decide) ?_
  refine lv_iadd (pc := 283) hx hb d_law_law_283 ?_
  refine k_cst (v := 1) (by decide) ?_
  refine va_sld (pc := 284) hx hb hX hbl hbA hS (by unfold vp_in; decide) d_law_law_284 ?_
  refine k_cst (v := nI j) hv1 ?_
  refine lv_aload_n (pc := 285) hx hb d_law_law_285 rfl (lv_at hl 3 rfl) ?_
  refine lv_iload_n (pc := 286) hx hb d_law_law_286 rfl (lv_at hl 0 rfl) ?_
  refine lv_iconst (pc := 287) (v := 2) hx hb d_law_law_287 (by decide) ?_
  refine lv_iadd (pc := 288) hx hb d_law_law_288 ?_
  refine k_cst (v := 2) (by decide) ?_
  refine va_sld (pc := 289) hx hb hX hbl hbA hS (by unfold vp_in; decide) d_law_law_289 ?_
  refine k_cst (v := 3) hv2 ?_
  refine k_goI (gr := [[(h2, .inr (13, mF qm x0Mo y0Mo))], [(qm 3, .inl (kA 0, 4, .inl (fun _ => 0)))], [(qm 2, .inl (kA 0, 66836, .inl all0))]]) (k_rV (pc := 290) (As := [.int (nI j), .int 3]) (rest := []) X (c_Ho_count_z6 l D kA h j (q 0) (q 1) (q 2) (q 3) (q 4) (q 5) (q 6) (q 9) (q 10) (q 13) g (qf 4) (qf 5) (qf 6) (qf 7) (qf 8) (qf 9) (qf 10) (qf 11) (qf 12) (qf 13) (qf 14) (qg 3) (qg 4) (qg 5) (qg 6) (qg 7) (qg 8) (qg 9) (qg 10) (qg 11) (qg 12) (qg 13) (qg 14) (qg 15) (fun _ => 0) (fun _ => 0) (fun _ => 0) (fun _ => 0) hj H.size) rfl wm_806 wm_1 wm_803 wm_804 wm_805 2 (by decide +kernel) ⟨Nat.le_of_ble_eq_true rfl, Nat.le_of_ble_eq_true rfl⟩ rfl rfl (va_recv hK hP (ci := 12) (q0 := 0) rfl rfl) (k_pre hN hK hP hD [0, 1, 2, 3, 4, 5, 6, 7, 8] [9, 10, 11] 12 rfl (by decide) rfl) rfl hl.1 rfl (Nat.le_of_ble_eq_true rfl) d_law_law_290 ⟨Nat.le_of_ble_eq_true rfl, Nat.le_of_ble_eq_true rfl⟩) hP hD hS hA [0, 1, 2, 3, 4, 5, 6, 7, 8] [9, 10, 11] 12 rfl (by decide) rfl rfl (fun r1 u2 H locs hu2 hP hD hS => ?_)
  obtain ⟨hP, hD⟩ := k_left hP hD
  subst hu2
  have hP : va_P D classes (cat [[(h2, .inr (13, mF qm x0Mo y0Mo))], [(qm 3, .inl (kA 0, 4, .inl (fun _ => 0)))], [(qm 2, .inl (kA 0, 66836, .inl all0))]]) H := hP
  have hD : va_D A (cat [[(h2, .inr (13, mF qm x0Mo y0Mo))], [(qm 3, .inl (kA 0, 4, .inl (fun _ => 0)))], [(qm 2, .inl (kA 0, 66836, .inl all0))]]) := hD
  refine lv_aload_n (pc := 293) hx hb d_law_law_293 rfl (lv_at hl 1 rfl) ?_
  refine lv_aload_n (pc := 294) hx hb d_law_law_294 rfl (lv_at hl 3 rfl) ?_
  refine lv_iload_n (pc := 295) hx hb d_law_law_295 rfl (lv_at hl 0 rfl) ?_
  refine lv_iconst (pc := 296) (v := 1) hx hb d_law_law_296 (by decide) ?_
  refine lv_iadd (pc := 297) hx hb d_law_law_297 ?_
  refine k_cst (v := 1) (by decide) ?_
  refine va_sld (pc := 298) hx hb hX hbl hbA hS (by unfold vp_in; decide) d_law_law_298 ?_
  refine k_cst (v := nI j) hv1 ?_
  refine lv_aload_n (pc := 299) hx hb d_law_law_299 rfl (lv_at hl 3 rfl) ?_
  refine lv_iload_n (pc := 300) hx hb d_law_law_300 rfl (lv_at hl 0 rfl) ?_
  refine lv_iconst (pc := 301) (v := 2) hx hb d_law_law_301 (by decide) ?_
  refine lv_iadd (pc := 302) hx hb d_law_law_302 ?_
  refine k_cst (v := 2) (by decide) ?_
  refine va_sld (pc := 303) hx hb hX hbl hbA hS (by unfold vp_in; decide) d_law_law_303 ?_
  refine k_cst (v := 3) hv2 ?_
  refine k_goI (gr := []) (k_rV (pc := 304) (As := [.int (nI j), .int 3]) (rest := [.int 0]) X (c_Mo_count_z6 l D kA h2 j qm hj H.size) rfl wm_3279 wm_9 wm_3276 wm_3277 wm_3278 2 (by decide +kernel) ⟨Nat.le_of_ble_eq_true rfl, Nat.le_of_ble_eq_true rfl⟩ rfl rfl (va_recv hK hP (ci := 13) (q0 := 0) rfl rfl) (k_pre hN hK hP hD [0, 1, 2] [] 3 rfl (by decide) rfl) rfl hl.1 rfl (Nat.le_of_ble_eq_true rfl) d_law_law_304 ⟨Nat.le_of_ble_eq_true rfl, Nat.le_of_ble_eq_true rfl⟩) hP hD hS hA [0, 1, 2] [] 3 rfl (by decide) rfl rfl (fun r3 u4 H locs hu4 hP hD hS => ?_)
  obtain ⟨hP, hD⟩ := k_left hP hD
  subst hu4
  have hP : va_P D classes (cat []) H := hP
  have hD : va_D A (cat []) := hD
  refine lv_icmp_eq (pc := 307) (tgt := 1295) hx hb d_law_law_307 (by decide) (fun _ => ?_) (fun c1 => absurd (by decide) c1)
  rw [hAe] at hS
  exact law_exit l C0 (Nat.le_of_ble_eq_true rfl) (Nat.le_of_ble_eq_true rfl) hS hl
set_option maxRecDepth 100000 in
set_option maxHeartbeats 4000000 in
/-- DrawingHouse.count(II)I -/
theorem c_Ho_count_z7 (l : Launch) (D : va_G) (kA : Nat → ClassId) (a0 : Nat) (j : Nat) (a1 : Nat) (a2 : Nat) (a3 : Nat) (a4 : Nat) (a5 : Nat) (a6 : Nat) (a7 : Nat) (a8 : Nat) (a9 : Nat) (a10 : Nat) (g : Nat → Nat → Nat) (a11 : Nat) (a12 : Nat) (a13 : Nat) (a14 : Nat) (a15 : Nat) (a16 : Nat) (a17 : Nat) (a18 : Nat) (a19 : Nat) (a20 : Nat) (a21 : Nat) (a22 : Nat) (a23 : Nat) (a24 : Nat) (a25 : Nat) (a26 : Nat) (a27 : Nat) (a28 : Nat) (a29 : Nat) (a30 : Nat) (a31 : Nat) (a32 : Nat) (a33 : Nat) (a34 : Nat) (f0 : Nat → Int32) (f1 : Nat → Int32) (f2 : Nat → Int32) (f3 : Nat → Int32) (hj : j < 4) : Ci l y_Ho_count z_Ho_count { frames := 5, cells := 0, slots := 0, locals := 115 } D classes (TY kA) [.ref a0, .int (nI j), .int 4] [[(a0, .inr (12, [.ref a1, .ref a2, .ref a3, .ref a4, .ref a5, .ref a6, .ref a7, .int 0, .int ((-1)), .ref a8, .ref a9, .int 0, .int 0, .ref a10, .int 0, .int 0, .null, .null, .null, .null, .null]))], [(a2, .inl (kA 5, 4, .inr (.inr (.inr (.inr (rr (g 1)))))))], [(g 1 j, .inr (2, [.int 0, .int 0, .int 0, .int 0, .ref a11, .ref a12, .ref a13, .ref a14, .ref a15, .ref a16, .ref a17, .ref a18, .ref a19, .ref a20, .ref a21]))], [(a1, .inl (kA 4, 4, .inr (.inr (.inr (.inr (rr (g 0)))))))], [(g 0 j, .inr (3, [.int 0, .int 0, .int 1, .ref a22, .ref a23, .ref a24, .ref a25, .ref a26, .ref a27, .ref a28, .ref a29, .ref a30, .ref a31, .ref a32, .ref a33, .ref a34, .null, .int 0, .int 0]))], [(a12, .inl (kA 0, 48, .inl f0))], [(a17, .inl (kA 0, 24, .inl f1))], [(a13, .inl (kA 0, 24, .inl f2))], [(a18, .inl (kA 0, 24, .inl f3))]] (fun r (_ : List va_W) => r = 0) (fun u => u) 0 0 := by
  intro sz
  refine k_met (cc := b_Ho_count) (maxL := 3) (ret := (some .int)) (by decide) rfl (Nat.le_of_ble_eq_true rfl) (fun p e s m below meth c ls X hl hB => ?_)
  obtain ⟨hsz, hP, hK, hD0, hN⟩ := hB
  subst hsz
  have hD := hD0.self (sz := s.heap.size)
  generalize hAe : va_A (cat [[(a0, .inr (12, [.ref a1, .ref a2, .ref a3, .ref a4, .ref a5, .ref a6, .ref a7, .int 0, .int ((-1)), .ref a8, .ref a9, .int 0, .int 0, .ref a10, .int 0, .int 0, .null, .null, .null, .null, .null]))], [(a2, .inl (kA 5, 4, .inr (.inr (.inr (.inr (rr (g 1)))))))], [(g 1 j, .inr (2, [.int 0, .int 0, .int 0, .int 0, .ref a11, .ref a12, .ref a13, .ref a14, .ref a15, .ref a16, .ref a17, .ref a18, .ref a19, .ref a20, .ref a21]))], [(a1, .inl (kA 4, 4, .inr (.inr (.inr (.inr (rr (g 0)))))))], [(g 0 j, .inr (3, [.int 0, .int 0, .int 1, .ref a22, .ref a23, .ref a24, .ref a25, .ref a26, .ref a27, .ref a28, .ref a29, .ref a30, .ref a31, .ref a32, .ref a33, .ref a34, .null, .int 0, .int 0]))], [(a12, .inl (kA 0, 48, .inl f0))], [(a17, .inl (kA 0, 24, .inl f1))], [(a13, .inl (kA 0, 24, .inl f2))], [(a18, .inl (kA 0, 24, .inl f3))]]) s.heap.size = A at hD ⊢
  have hA : ∀ q : Nat, s.heap.size ≤ q → A q := fun q h => by rw [← hAe]; exact Or.inr h
  have hS : va_S A s.heap s.heap [] := va_S.rf
  obtain ⟨hx, hb, hml, hown, hts, hr, hlk, hnm⟩ := id X
  have hl : lv_has ls 3 [(0, .ref a0), (1, .int (nI j)), (2, .int 4)] := hl
  have hP : va_P D classes (cat [[(a0, .inr (12, [.ref a1, .ref a2, .ref a3, .ref a4, .ref a5, .ref a6, .ref a7, .int 0, .int ((-1)), .ref a8, .ref a9, .int 0, .int 0, .ref a10, .int 0, .int 0, .null, .null, .null, .null, .null]))], [(a2, .inl (kA 5, 4, .inr (.inr (.inr (.inr (rr (g 1)))))))], [(g 1 j, .inr (2, [.int 0, .int 0, .int 0, .int 0, .ref a11, .ref a12, .ref a13, .ref a14, .ref a15, .ref a16, .ref a17, .ref a18, .ref a19, .ref a20, .ref a21]))], [(a1, .inl (kA 4, 4, .inr (.inr (.inr (.inr (rr (g 0)))))))], [(g 0 j, .inr (3, [.int 0, .int 0, .int 1, .ref a22, .ref a23, .ref a24, .ref a25, .ref a26, .ref a27, .ref a28, .ref a29, .ref a30, .ref a31, .ref a32, .ref a33, .ref a34, .null, .int 0, .int 0]))], [(a12, .inl (kA 0, 48, .inl f0))], [(a17, .inl (kA 0, 24, .inl f1))], [(a13, .inl (kA 0, 24, .inl f2))], [(a18, .inl (kA 0, 24, .inl f3))]]) s.heap := hP
  have hK : va_K D classes (TY kA) s := hK
  refine lv_iload_n (pc := 0) hx hb d_Ho_count_0 rfl (lv_at hl 1 rfl) ?_
  refine k_goI (gr := [[(a0, .inr (12, [.ref a1, .ref a2, .ref a3, .ref a4, .ref a5, .ref a6, .ref a7, .int 0, .int ((-1)), .ref a8, .ref a9, .int 0, .int 0, .ref a10, .int 0, .int 0, .null, .null, .null, .null, .null]))], [(a2, .inl (kA 5, 4, .inr (.inr (.inr (.inr (rr (g 1)))))))], [(g 1 j, .inr (2, [.int 0, .int 0, .int 0, .int 0, .ref a11, .ref a12, .ref a13, .ref a14, .ref a15, .ref a16, .ref a17, .ref a18, .ref a19, .ref a20, .ref a21]))], [(a1, .inl (kA 4, 4, .inr (.inr (.inr (.inr (rr (g 0)))))))], [(g 0 j, .inr (3, [.int 0, .int 0, .int 1, .ref a22, .ref a23, .ref a24, .ref a25, .ref a26, .ref a27, .ref a28, .ref a29, .ref a30, .ref a31, .ref a32, .ref a33, .ref a34, .null, .int 0, .int 0]))], [(a12, .inl (kA 0, 48, .inl f0))], [(a17, .inl (kA 0, 24, .inl f1))], [(a13, .inl (kA 0, 24, .inl f2))], [(a18, .inl (kA 0, 24, .inl f3))]]) (k_rS (pc := 1) (As := [.int (nI j)]) (rest := []) X (c_Ho_isPlace l D kA (nI j) s.heap.size) rfl wm_633 wm_1 wm_631 wm_632 1 (by decide +kernel) ⟨Nat.le_of_ble_eq_true rfl, Nat.le_of_ble_eq_true rfl⟩ rfl rfl (k_pre hN hK hP hD [] [0, 1, 2, 3, 4, 5, 6, 7, 8] 9 rfl (by decide) rfl) rfl hl.1 rfl (Nat.le_of_ble_eq_true rfl) d_Ho_count_1 ⟨Nat.le_of_ble_eq_true rfl, Nat.le_of_ble_eq_true rfl⟩) hP hD hS hA [] [0, 1, 2, 3, 4, 5, 6, 7, 8] 9 rfl (by decide) rfl rfl (fun r1 u2 H locs hu2 hP hD hS => ?_)
  subst hu2
  refine k_cst (v := 1) (place_ok hj) ?_
  have hP : va_P D classes (cat [[(a0, .inr (12, [.ref a1, .ref a2, .ref a3, .ref a4, .ref a5, .ref a6, .ref a7, .int 0, .int ((-1)), .ref a8, .ref a9, .int 0, .int 0, .ref a10, .int 0, .int 0, .null, .null, .null, .null, .null]))], [(a2, .inl (kA 5, 4, .inr (.inr (.inr (.inr (rr (g 1)))))))], [(g 1 j, .inr (2, [.int 0, .int 0, .int 0, .int 0, .ref a11, .ref a12, .ref a13, .ref a14, .ref a15, .ref a16, .ref a17, .ref a18, .ref a19, .ref a20, .ref a21]))], [(a1, .inl (kA 4, 4, .inr (.inr (.inr (.inr (rr (g 0)))))))], [(g 0 j, .inr (3, [.int 0, .int 0, .int 1, .ref a22, .ref a23, .ref a24, .ref a25, .ref a26, .ref a27, .ref a28, .ref a29, .ref a30, .ref a31, .ref a32, .ref a33, .ref a34, .null, .int 0, .int 0]))], [(a12, .inl (kA 0, 48, .inl f0))], [(a17, .inl (kA 0, 24, .inl f1))], [(a13, .inl (kA 0, 24, .inl f2))], [(a18, .inl (kA 0, 24, .inl f3))]]) H := hP
  have hD : va_D A (cat [[(a0, .inr (12, [.ref a1, .ref a2, .ref a3, .ref a4, .ref a5, .ref a6, .ref a7, .int 0, .int ((-1)), .ref a8, .ref a9, .int 0, .int 0, .ref a10, .int 0, .int 0, .null, .null, .null, .null, .null]))], [(a2, .inl (kA 5, 4, .inr (.inr (.inr (.inr (rr (g 1)))))))], [(g 1 j, .inr (2, [.int 0, .int 0, .int 0, .int 0, .ref a11, .ref a12, .ref a13, .ref a14, .ref a15, .ref a16, .ref a17, .ref a18, .ref a19, .ref a20, .ref a21]))], [(a1, .inl (kA 4, 4, .inr (.inr (.inr (.inr (rr (g 0)))))))], [(g 0 j, .inr (3, [.int 0, .int 0, .int 1, .ref a22, .ref a23, .ref a24, .ref a25, .ref a26, .ref a27, .ref a28, .ref a29, .ref a30, .ref a31, .ref a32, .ref a33, .ref a34, .null, .int 0, .int 0]))], [(a12, .inl (kA 0, 48, .inl f0))], [(a17, .inl (kA 0, 24, .inl f1))], [(a13, .inl (kA 0, 24, .inl f2))], [(a18, .inl (kA 0, 24, .inl f3))]]) := hD
  refine lv_if_ne (pc := 4) (tgt := 9) hx hb d_Ho_count_4 (by decide) (fun c1 => ?_) (fun c1 => absurd c1 (by decide))
  refine lv_iload_n (pc := 9) hx hb d_Ho_count_9 rfl (lv_at hl 2 rfl) ?_
  refine lv_tableIn (pc := 10) (tgt := 95) hx hb d_Ho_count_10 (by decide) (by decide) rfl (by decide) ?_
  refine lv_aload_n (pc := 95) hx hb d_Ho_count_95 rfl (lv_at hl 0 rfl) ?_
  refine lv_iload_n (pc := 96) hx hb d_Ho_count_96 rfl (lv_at hl 1 rfl) ?_
  refine k_goR (gr := []) (k_rV (pc := 97) (As := [.int (nI j)]) (rest := []) X (c_Ho_learned_z1 l D kA a0 j a1 a2 a3 a4 a5 a6 a7 a8 a9 a10 g a11 a12 a13 a14 a15 a16 a17 a18 a19 a20 a21 a22 a23 a24 a25 a26 a27 a28 a29 a30 a31 a32 a33 a34 f0 f1 f2 f3 hj H.size) rfl wm_810 wm_1 wm_807 wm_809 wv_1_14 1 (by decide +kernel) ⟨Nat.le_of_ble_eq_true rfl, Nat.le_of_ble_eq_true rfl⟩ rfl rfl (va_recv hK hP (ci := 12) (q0 := 0) rfl rfl) (k_pre hN hK hP hD [0, 1, 2, 3, 4, 5, 6, 7, 8] [] 9 rfl (by decide) rfl) rfl hl.1 rfl (Nat.le_of_ble_eq_true rfl) d_Ho_count_97 ⟨Nat.le_of_ble_eq_true rfl, Nat.le_of_ble_eq_true rfl⟩) hP hD hS hA [0, 1, 2, 3, 4, 5, 6, 7, 8] [] 9 rfl (by decide) rfl rfl (fun u4 H locs hu4 hP hD hS => ?_)
  have hP : va_P D classes (cat [[(a0, .inr (12, [.ref a1, .ref a2, .ref a3, .ref a4, .ref a5, .ref a6, .ref a7, .int 0, .int ((-1)), .ref a8, .ref a9, .int 0, .int 0, .ref a10, .int 0, .int 0, .null, .null, .null, .null, .null]))], [(a2, .inl (kA 5, 4, .inr (.inr (.inr (.inr (rr (g 1)))))))], [(g 1 j, .inr (2, [.int 1, .int 0, .int 0, .int 0, .ref a11, .ref a12, .ref a13, .ref a14, .ref a15, .ref a16, .ref a17, .ref a18, .ref a19, .ref a20, .ref a21]))], [(a1, .inl (kA 4, 4, .inr (.inr (.inr (.inr (rr (g 0)))))))], [(g 0 j, .inr (3, [.int 0, .int 0, .int 1, .ref a22, .ref a23, .ref a24, .ref a25, .ref a26, .ref a27, .ref a28, .ref a29, .ref a30, .ref a31, .ref a32, .ref a33, .ref a34, .null, .int 0, .int 0]))], [(a12, .inl (kA 0, 48, .inl (u4.2 0)))], [(a17, .inl (kA 0, 24, .inl (fl (fl f1 24 0) 24 0)))], [(a13, .inl (kA 0, 24, .inl (fl f2 24 (-1))))], [(a18, .inl (kA 0, 24, .inl (fl f3 24 (-1))))]]) H := hP
  have hD : va_D A (cat [[(a0, .inr (12, [.ref a1, .ref a2, .ref a3, .ref a4, .ref a5, .ref a6, .ref a7, .int 0, .int ((-1)), .ref a8, .ref a9, .int 0, .int 0, .ref a10, .int 0, .int 0, .null, .null, .null, .null, .null]))], [(a2, .inl (kA 5, 4, .inr (.inr (.inr (.inr (rr (g 1)))))))], [(g 1 j, .inr (2, [.int 1, .int 0, .int 0, .int 0, .ref a11, .ref a12, .ref a13, .ref a14, .ref a15, .ref a16, .ref a17, .ref a18, .ref a19, .ref a20, .ref a21]))], [(a1, .inl (kA 4, 4, .inr (.inr (.inr (.inr (rr (g 0)))))))], [(g 0 j, .inr (3, [.int 0, .int 0, .int 1, .ref a22, .ref a23, .ref a24, .ref a25, .ref a26, .ref a27, .ref a28, .ref a29, .ref a30, .ref a31, .ref a32, .ref a33, .ref a34, .null, .int 0, .int 0]))], [(a12, .inl (kA 0, 48, .inl (u4.2 0)))], [(a17, .inl (kA 0, 24, .inl (fl (fl f1 24 0) 24 0)))], [(a13, .inl (kA 0, 24, .inl (fl f2 24 (-1))))], [(a18, .inl (kA 0, 24, .inl (fl f3 24 (-1))))]]) := hD
  obtain ⟨f950, hf950⟩ : ∃ z : Nat → Int32, u4.2 0 = z := ⟨_, rfl⟩
  rw [hf950] at hP hD
  refine k_get (pc := 100) X hK hP 2 rfl rfl i_Fa 2 (by decide) wm_402 rfl rfl d_Ho_count_100 ?_
  refine W.widen (k := 0) (n := 0) (Nat.le_of_ble_eq_true rfl) (Nat.le_of_ble_eq_true rfl) ?_
  exact W.iret (v := 0) hx hb hr (fun t ht hW => ⟨⟨0, [[(a0, .inr (12, [.ref a1, .ref a2, .ref a3, .ref a4, .ref a5, .ref a6, .ref a7, .int 0, .int ((-1)), .ref a8, .ref a9, .int 0, .int 0, .ref a10, .int 0, .int 0, .null, .null, .null, .null, .null]))], [(a2, .inl (kA 5, 4, .inr (.inr (.inr (.inr (rr (g 1)))))))], [(g 1 j, .inr (2, [.int 1, .int 0, .int 0, .int 0, .ref a11, .ref a12, .ref a13, .ref a14, .ref a15, .ref a16, .ref a17, .ref a18, .ref a19, .ref a20, .ref a21]))], [(a1, .inl (kA 4, 4, .inr (.inr (.inr (.inr (rr (g 0)))))))], [(g 0 j, .inr (3, [.int 0, .int 0, .int 1, .ref a22, .ref a23, .ref a24, .ref a25, .ref a26, .ref a27, .ref a28, .ref a29, .ref a30, .ref a31, .ref a32, .ref a33, .ref a34, .null, .int 0, .int 0]))], [(a12, .inl (kA 0, 48, .inl f950))], [(a17, .inl (kA 0, 24, .inl (fl (fl f1 24 0) 24 0)))], [(a13, .inl (kA 0, 24, .inl (fl f2 24 (-1))))], [(a18, .inl (kA 0, 24, .inl (fl f3 24 (-1))))]], rfl, rfl, by rw [ht]; exact hP, va_K.moved hW.alike hK, hD⟩, hS.F ht⟩) hS.2.2 d_Ho_count_103
set_option maxRecDepth 100000 in
set_option maxHeartbeats 4000000 in
/-- DrawingHouseModel.plane()V -/
theorem c_Mo_plane_z1 (l : Launch) (D : va_G) (kA : Nat → ClassId) (a0 : Nat) (qm : Nat → Nat) (j : Nat) (hj : j < 4) : Cv l y_Mo_plane z_Mo_plane { frames := 1, cells := 0, slots := 0, locals := 20 } D classes (TY kA) [.ref a0] [[(a0, .inr (13, mF qm (va_up x0Mo 5 (nI (539 * (31 * j + 0)))) y0Mo))], [(qm 2, .inl (kA 0, 66836, .inl all0))]] (fun _ : Unit => True) (fun u => [[(a0, .inr (13, mF qm (va_up x0Mo 5 (nI (539 * (31 * j + 0)))) y0Mo))], [(qm 2, .inl (kA 0, 66836, .inl all0))]]) 0 0 := by
  intro sz
  refine k_met (cc := b_Mo_plane) (maxL := 2) (ret := none) (by decide) rfl (Nat.le_of_ble_eq_true rfl) (fun p e s m below meth c ls X hl hB => ?_)
  obtain ⟨hsz, hP, hK, hD0, hN⟩ := hB
  subst hsz
  have hD := hD0.self (sz := s.heap.size)
  generalize hAe : va_A (cat [[(a0, .inr (13, mF qm (va_up x0Mo 5 (nI (539 * (31 * j + 0)))) y0Mo))], [(qm 2, .inl (kA 0, 66836, .inl all0))]]) s.heap.size = A at hD ⊢
  have hA : ∀ q : Nat, s.heap.size ≤ q → A q := fun q h => by rw [← hAe]; exact Or.inr h
  have hS : va_S A s.heap s.heap [] := va_S.rf
  obtain ⟨hx, hb, hml, hown, hts, hr, hlk, hnm⟩ := id X
  have hl : lv_has ls 2 [(0, .ref a0)] := hl
  have hP : va_P D classes (cat [[(a0, .inr (13, mF qm (va_up x0Mo 5 (nI (539 * (31 * j + 0)))) y0Mo))], [(qm 2, .inl (kA 0, 66836, .inl all0))]]) s.heap := hP
  have hK : va_K D classes (TY kA) s := hK
  refine lv_aload_n (pc := 0) hx hb d_Mo_plane_0 rfl (lv_at hl 0 rfl) ?_
  refine lv_aload_n (pc := 1) hx hb d_Mo_plane_1 rfl (lv_at hl 0 rfl) ?_
  refine k_goI (gr := []) (k_rV (pc := 2) (As := []) (rest := [.ref a0]) X (c_Mo_nodes_z1 l D kA a0 qm j hj s.heap.size) rfl wm_3025 wm_9 wm_3022 wm_3024 wv_13_3 0 (by decide +kernel) ⟨Nat.le_of_ble_eq_true rfl, Nat.le_of_ble_eq_true rfl⟩ rfl rfl (va_recv hK hP (ci := 13) (q0 := 0) rfl rfl) (k_pre hN hK hP hD [0, 1] [] 2 rfl (by decide) rfl) rfl hl.1 rfl (Nat.le_of_ble_eq_true rfl) d_Mo_plane_2 ⟨Nat.le_of_ble_eq_true rfl, Nat.le_of_ble_eq_true rfl⟩) hP hD hS hA [0, 1] [] 2 rfl (by decide) rfl rfl (fun r1 u2 H locs hu2 hP hD hS => ?_)
  subst hu2
  have hP : va_P D classes (cat [[(a0, .inr (13, mF qm (va_up x0Mo 5 (nI (539 * (31 * j + 0)))) y0Mo))], [(qm 2, .inl (kA 0, 66836, .inl all0))]]) H := hP
  have hD : va_D A (cat [[(a0, .inr (13, mF qm (va_up x0Mo 5 (nI (539 * (31 * j + 0)))) y0Mo))], [(qm 2, .inl (kA 0, 66836, .inl all0))]]) := hD
  refine k_put (pc := 5) X hK hP hD hS 0 rfl rfl i_Mo t_Mo t_Mo_ok n_Mo 31 (by decide) wm_2464 rfl (Or.inl rfl) rfl rfl (Nat.le_of_ble_eq_true rfl) d_Mo_plane_5 (fun H locs hP hD hS => ?_)
  have hP : va_P D classes (cat [[(a0, .inr (13, mF qm (va_up x0Mo 5 (nI (539 * (31 * j + 0)))) y0Mo))], [(qm 2, .inl (kA 0, 66836, .inl all0))]]) H := hP
  have hD : va_D A (cat [[(a0, .inr (13, mF qm (va_up x0Mo 5 (nI (539 * (31 * j + 0)))) y0Mo))], [(qm 2, .inl (kA 0, 66836, .inl all0))]]) := hD
  refine lv_aload_n (pc := 8) hx hb d_Mo_plane_8 rfl (lv_at hl 0 rfl) ?_
  refine lv_aload_n (pc := 9) hx hb d_Mo_plane_9 rfl (lv_at hl 0 rfl) ?_
  refine k_goI (gr := []) (k_rV (pc := 10) (As := []) (rest := [.ref a0]) X (c_Mo_edges_z1 l D kA a0 qm j hj H.size) rfl wm_3037 wm_9 wm_3034 wm_3036 wv_13_6 0 (by decide +kernel) ⟨Nat.le_of_ble_eq_true rfl, Nat.le_of_ble_eq_true rfl⟩ rfl rfl (va_recv hK hP (ci := 13) (q0 := 0) rfl rfl) (k_pre hN hK hP hD [0, 1] [] 2 rfl (by decide) rfl) rfl hl.1 rfl (Nat.le_of_ble_eq_true rfl) d_Mo_plane_10 ⟨Nat.le_of_ble_eq_true rfl, Nat.le_of_ble_eq_true rfl⟩) hP hD hS hA [0, 1] [] 2 rfl (by decide) rfl rfl (fun r3 u4 H locs hu4 hP hD hS => ?_)
  subst hu4
  have hP : va_P D classes (cat [[(a0, .inr (13, mF qm (va_up x0Mo 5 (nI (539 * (31 * j + 0)))) y0Mo))], [(qm 2, .inl (kA 0, 66836, .inl all0))]]) H := hP
  have hD : va_D A (cat [[(a0, .inr (13, mF qm (va_up x0Mo 5 (nI (539 * (31 * j + 0)))) y0Mo))], [(qm 2, .inl (kA 0, 66836, .inl all0))]]) := hD
  refine k_put (pc := 13) X hK hP hD hS 0 rfl rfl i_Mo t_Mo t_Mo_ok n_Mo 32 (by decide) wm_2465 rfl (Or.inl rfl) rfl rfl (Nat.le_of_ble_eq_true rfl) d_Mo_plane_13 (fun H locs hP hD hS => ?_)
  have hP : va_P D classes (cat [[(a0, .inr (13, mF qm (va_up x0Mo 5 (nI (539 * (31 * j + 0)))) y0Mo))], [(qm 2, .inl (kA 0, 66836, .inl all0))]]) H := hP
  have hD : va_D A (cat [[(a0, .inr (13, mF qm (va_up x0Mo 5 (nI (539 * (31 * j + 0)))) y0Mo))], [(qm 2, .inl (kA 0, 66836, .inl all0))]]) := hD
  refine lv_iconst (pc := 16) (v := 0) hx hb d_Mo_plane_16 (by decide) ?_
  refine lv_istore_n (pc := 17) (lv' := [(1, .int 0), (0, .ref a0)]) hx hb d_Mo_plane_17 rfl hl (by decide) rfl (fun ls hl => ?_)
  refine lv_iload_n (pc := 18) hx hb d_Mo_plane_18 rfl (lv_at hl 0 rfl) ?_
  refine lv_aload_n (pc := 19) hx hb d_Mo_plane_19 rfl (lv_at hl 1 rfl) ?_
  refine k_get (pc := 20) (v := .int 0) X hK hP 0 rfl rfl i_Mo 32 (by decide) wm_2465 rfl rfl d_Mo_plane_20 ?_
  refine lv_icmp_ge (pc := 23) (tgt := 61) hx hb d_Mo_plane_23 (by decide) (fun _ => ?_) (fun c1 => absurd (by decide) c1)
  refine W.widen (k := 0) (n := 0) (Nat.le_of_ble_eq_true rfl) (Nat.le_of_ble_eq_true rfl) ?_
  exact W.vret hx hb hr (fun t ht hW => ⟨⟨(), rfl, trivial, by rw [ht]; exact hP, va_K.moved hW.alike hK, hD⟩, hS.F ht⟩) hS.2.2 d_Mo_plane_61
set_option maxRecDepth 100000 in
set_option maxHeartbeats 4000000 in
/-- DrawingHouseModel.blocks()I -/
theorem c_Mo_blocks_z1 (l : Launch) (D : va_G) (kA : Nat → ClassId) (a0 : Nat) (qm : Nat → Nat) (j : Nat) (hj : j < 4) : Ci l y_Mo_blocks z_Mo_blocks { frames := 0, cells := 0, slots := 0, locals := 0 } D classes (TY kA) [.ref a0] [[(a0, .inr (13, mF qm (va_up x0Mo 5 (nI (539 * (31 * j + 0)))) y0Mo))]] (fun r (_ : Unit) => r = 0) (fun u => [[(a0, .inr (13, mF qm (va_up x0Mo 5 (nI (539 * (31 * j + 0)))) y0Mo))]]) 0 0 := by
  intro sz
  refine k_met (cc := b_Mo_blocks) (maxL := 4) (ret := (some .int)) (by decide) rfl (Nat.le_of_ble_eq_true rfl) (fun p e s m below meth c ls X hl hB => ?_)
  obtain ⟨hsz, hP, hK, hD0, hN⟩ := hB
  subst hsz
  have hD := hD0.self (sz := s.heap.size)
  generalize hAe : va_A (cat [[(a0, .inr (13, mF qm (va_up x0Mo 5 (nI (539 * (31 * j + 0)))) y0Mo))]]) s.heap.size = A at hD ⊢
  have hA : ∀ q : Nat, s.heap.size ≤ q → A q := fun q h => by rw [← hAe]; exact Or.inr h
  have hS : va_S A s.heap s.heap [] := va_S.rf
  obtain ⟨hx, hb, hml, hown, hts, hr, hlk, hnm⟩ := id X
  have hl : lv_has ls 4 [(0, .ref a0)] := hl
  have hP : va_P D classes (cat [[(a0, .inr (13, mF qm (va_up x0Mo 5 (nI (539 * (31 * j + 0)))) y0Mo))]]) s.heap := hP
  have hK : va_K D classes (TY kA) s := hK
  refine lv_iconst (pc := 0) (v := 0) hx hb d_Mo_blocks_0 (by decide) ?_
  refine lv_istore_n (pc := 1) (lv' := [(1, .int 0), (0, .ref a0)]) hx hb d_Mo_blocks_1 rfl hl (by decide) rfl (fun ls hl => ?_)
  refine lv_iload_n (pc := 2) hx hb d_Mo_blocks_2 rfl (lv_at hl 0 rfl) ?_
  refine lv_aload_n (pc := 3) hx hb d_Mo_blocks_3 rfl (lv_at hl 1 rfl) ?_
  refine k_get (pc := 4) (v := .int 0) X hK hP 0 rfl rfl i_Mo 32 (by decide) wm_2465 rfl rfl d_Mo_blocks_4 ?_
  refine lv_icmp_ge (pc := 7) (tgt := 23) hx hb d_Mo_blocks_7 (by decide) (fun _ => ?_) (fun c1 => absurd (by decide) c1)
  refine lv_iconst (pc := 23) (v := 0) hx hb d_Mo_blocks_23 (by decide) ?_
  refine lv_istore_n (pc := 24) (lv' := [(1, .int 0), (0, .ref a0)]) hx hb d_Mo_blocks_24 rfl hl (by decide) rfl (fun ls hl => ?_)
  refine lv_iload_n (pc := 25) hx hb d_Mo_blocks_25 rfl (lv_at hl 0 rfl) ?_
  refine lv_aload_n (pc := 26) hx hb d_Mo_blocks_26 rfl (lv_at hl 1 rfl) ?_
  refine k_get (pc := 27) (v := .int 0) X hK hP 0 rfl rfl i_Mo 31 (by decide) wm_2464 rfl rfl d_Mo_blocks_27 ?_
  refine lv_icmp_ge (pc := 30) (tgt := 135) hx hb d_Mo_blocks_30 (by decide) (fun _ => ?_) (fun c1 => absurd (by decide) c1)
  refine lv_iconst (pc := 135) (v := 0) hx hb d_Mo_blocks_135 (by decide) ?_
  refine lv_istore_n (pc := 136) (lv' := [(1, .int 0), (0, .ref a0)]) hx hb d_Mo_blocks_136 rfl hl (by decide) rfl (fun ls hl => ?_)
  refine lv_iconst (pc := 137) (v := 0) hx hb d_Mo_blocks_137 (by decide) ?_
  refine lv_istore_n (pc := 138) (lv' := [(2, .int 0), (1, .int 0), (0, .ref a0)]) hx hb d_Mo_blocks_138 rfl hl (by decide) rfl (fun ls hl => ?_)
  refine lv_iload_n (pc := 139) hx hb d_Mo_blocks_139 rfl (lv_at hl 0 rfl) ?_
  refine lv_aload_n (pc := 140) hx hb d_Mo_blocks_140 rfl (lv_at hl 2 rfl) ?_
  refine k_get (pc := 141) (v := .int 0) X hK hP 0 rfl rfl i_Mo 32 (by decide) wm_2465 rfl rfl d_Mo_blocks_141 ?_
  refine lv_icmp_ge (pc := 144) (tgt := 160) hx hb d_Mo_blocks_144 (by decide) (fun _ => ?_) (fun c1 => absurd (by decide) c1)
  refine lv_iconst (pc := 160) (v := 0) hx hb d_Mo_blocks_160 (by decide) ?_
  refine lv_istore_n (pc := 161) (lv' := [(2, .int 0), (1, .int 0), (0, .ref a0)]) hx hb d_Mo_blocks_161 rfl hl (by decide) rfl (fun ls hl => ?_)
  refine lv_iload_n (pc := 162) hx hb d_Mo_blocks_162 rfl (lv_at hl 0 rfl) ?_
  refine lv_aload_n (pc := 163) hx hb d_Mo_blocks_163 rfl (lv_at hl 2 rfl) ?_
  refine k_get (pc := 164) (v := .int 0) X hK hP 0 rfl rfl i_Mo 32 (by decide) wm_2465 rfl rfl d_Mo_blocks_164 ?_
  refine lv_icmp_ge (pc := 167) (tgt := 233) hx hb d_Mo_blocks_167 (by decide) (fun _ => ?_) (fun c1 => absurd (by decide) c1)
  refine lv_iload_n (pc := 233) hx hb d_Mo_blocks_233 rfl (lv_at hl 1 rfl) ?_
  refine W.widen (k := 0) (n := 0) (Nat.le_of_ble_eq_true rfl) (Nat.le_of_ble_eq_true rfl) ?_
  exact W.iret (v := 0) hx hb hr (fun t ht hW => ⟨⟨0, (), rfl, rfl, by rw [ht]; exact hP, va_K.moved hW.alike hK, hD⟩, hS.F ht⟩) hS.2.2 d_Mo_blocks_234
set_option maxRecDepth 100000 in
set_option maxHeartbeats 4000000 in
/-- DrawingHouseModel.count(II)I -/
theorem c_Mo_count_z7 (l : Launch) (D : va_G) (kA : Nat → ClassId) (a0 : Nat) (j : Nat) (qm : Nat → Nat) (hj : j < 4) : Ci l y_Mo_count z_Mo_count { frames := 2, cells := 0, slots := 0, locals := 42 } D classes (TY kA) [.ref a0, .int (nI j), .int 4] [[(a0, .inr (13, mF qm x0Mo y0Mo))], [(qm 3, .inl (kA 0, 4, .inl (fun _ => 0)))], [(qm 2, .inl (kA 0, 66836, .inl all0))]] (fun r (_ : List va_W) => r = 0) (fun u => u) 0 0 := by
  intro sz
  refine k_met (cc := b_Mo_count) (maxL := 3) (ret := (some .int)) (by decide) rfl (Nat.le_of_ble_eq_true rfl) (fun p e s m below meth c ls X hl hB => ?_)
  obtain ⟨hsz, hP, hK, hD0, hN⟩ := hB
  subst hsz
  have hD := hD0.self (sz := s.heap.size)
  generalize hAe : va_A (cat [[(a0, .inr (13, mF qm x0Mo y0Mo))], [(qm 3, .inl (kA 0, 4, .inl (fun _ => 0)))], [(qm 2, .inl (kA 0, 66836, .inl all0))]]) s.heap.size = A at hD ⊢
  have hA : ∀ q : Nat, s.heap.size ≤ q → A q := fun q h => by rw [← hAe]; exact Or.inr h
  have hS : va_S A s.heap s.heap [] := va_S.rf
  obtain ⟨hx, hb, hml, hown, hts, hr, hlk, hnm⟩ := id X
  have hl : lv_has ls 3 [(0, .ref a0), (1, .int (nI j)), (2, .int 4)] := hl
  have hP : va_P D classes (cat [[(a0, .inr (13, mF qm x0Mo y0Mo))], [(qm 3, .inl (kA 0, 4, .inl (fun _ => 0)))], [(qm 2, .inl (kA 0, 66836, .inl all0))]]) s.heap := hP
  have hK : va_K D classes (TY kA) s := hK
  refine lv_iload_n (pc := 0) hx hb d_Mo_count_0 rfl (lv_at hl 1 rfl) ?_
  refine k_goI (gr := [[(a0, .inr (13, mF qm x0Mo y0Mo))], [(qm 3, .inl (kA 0, 4, .inl (fun _ => 0)))], [(qm 2, .inl (kA 0, 66836, .inl all0))]]) (k_rS (pc := 1) (As := [.int (nI j)]) (rest := []) X (c_Mo_isPlace l D kA (nI j) s.heap.size) rfl wm_2978 wm_9 wm_2976 wm_2977 1 (by decide +kernel) ⟨Nat.le_of_ble_eq_true rfl, Nat.le_of_ble_eq_true rfl⟩ rfl rfl (k_pre hN hK hP hD [] [0, 1, 2] 3 rfl (by decide) rfl) rfl hl.1 rfl (Nat.le_of_ble_eq_true rfl) d_Mo_count_1 ⟨Nat.le_of_ble_eq_true rfl, Nat.le_of_ble_eq_true rfl⟩) hP hD hS hA [] [0, 1, 2] 3 rfl (by decide) rfl rfl (fun r1 u2 H locs hu2 hP hD hS => ?_)
  subst hu2
  refine k_cst (v := 1) (placeM_ok hj) ?_
  have hP : va_P D classes (cat [[(a0, .inr (13, mF qm x0Mo y0Mo))], [(qm 3, .inl (kA 0, 4, .inl (fun _ => 0)))], [(qm 2, .inl (kA 0, 66836, .inl all0))]]) H := hP
  have hD : va_D A (cat [[(a0, .inr (13, mF qm x0Mo y0Mo))], [(qm 3, .inl (kA 0, 4, .inl (fun _ => 0)))], [(qm 2, .inl (kA 0, 66836, .inl all0))]]) := hD
  refine lv_if_ne (pc := 4) (tgt := 9) hx hb d_Mo_count_4 (by decide) (fun c1 => ?_) (fun c1 => absurd c1 (by decide))
  refine lv_aload_n (pc := 9) hx hb d_Mo_count_9 rfl (lv_at hl 0 rfl) ?_
  refine lv_iload_n (pc := 10) hx hb d_Mo_count_10 rfl (lv_at hl 1 rfl) ?_
  refine k_goV (gr := [[(qm 2, .inl (kA 0, 66836, .inl all0))]]) (k_rV (pc := 11) (As := [.int (nI j)]) (rest := []) X (c_Mo_take_z1 l D kA a0 j qm hj H.size) rfl wm_3091 wm_9 wm_3088 wm_3090 wv_14_2 1 (by decide +kernel) ⟨Nat.le_of_ble_eq_true rfl, Nat.le_of_ble_eq_true rfl⟩ rfl rfl (va_recv hK hP (ci := 13) (q0 := 0) rfl rfl) (k_pre hN hK hP hD [0, 1] [2] 3 rfl (by decide) rfl) rfl hl.1 rfl (Nat.le_of_ble_eq_true rfl) d_Mo_count_11 ⟨Nat.le_of_ble_eq_true rfl, Nat.le_of_ble_eq_true rfl⟩) hP hD hS hA [0, 1] [2] 3 rfl (by decide) rfl rfl (fun u3 H locs hu3 hP hD hS => ?_)
  have hP : va_P D classes (cat [[(qm 2, .inl (kA 0, 66836, .inl all0))], [(a0, .inr (13, mF qm (va_up x0Mo 5 (nI (539 * (31 * j + 0)))) y0Mo))], [(qm 3, .inl (kA 0, 4, .inl (fun _ => 0)))]]) H := hP
  have hD : va_D A (cat [[(qm 2, .inl (kA 0, 66836, .inl all0))], [(a0, .inr (13, mF qm (va_up x0Mo 5 (nI (539 * (31 * j + 0)))) y0Mo))], [(qm 3, .inl (kA 0, 4, .inl (fun _ => 0)))]]) := hD
  refine lv_iload_n (pc := 14) hx hb d_Mo_count_14 rfl (lv_at hl 2 rfl) ?_
  refine lv_tableIn (pc := 15) (tgt := 80) hx hb d_Mo_count_15 (by decide) (by decide) rfl (by decide) ?_
  refine lv_aload_n (pc := 80) hx hb d_Mo_count_80 rfl (lv_at hl 0 rfl) ?_
  refine k_goV (gr := [[(qm 3, .inl (kA 0, 4, .inl (fun _ => 0)))]]) (k_rV (pc := 81) (As := []) (rest := []) X (c_Mo_plane_z1 l D kA a0 qm j hj H.size) rfl wm_3147 wm_9 wm_3144 wm_3146 wv_14_12 0 (by decide +kernel) ⟨Nat.le_of_ble_eq_true rfl, Nat.le_of_ble_eq_true rfl⟩ rfl rfl (va_recv hK hP (ci := 13) (q0 := 1) rfl rfl) (k_pre hN hK hP hD [1, 0] [2] 3 rfl (by decide) rfl) rfl hl.1 rfl (Nat.le_of_ble_eq_true rfl) d_Mo_count_81 ⟨Nat.le_of_ble_eq_true rfl, Nat.le_of_ble_eq_true rfl⟩) hP hD hS hA [1, 0] [2] 3 rfl (by decide) rfl rfl (fun u4 H locs hu4 hP hD hS => ?_)
  have hP : va_P D classes (cat [[(qm 3, .inl (kA 0, 4, .inl (fun _ => 0)))], [(a0, .inr (13, mF qm (va_up x0Mo 5 (nI (539 * (31 * j + 0)))) y0Mo))], [(qm 2, .inl (kA 0, 66836, .inl all0))]]) H := hP
  have hD : va_D A (cat [[(qm 3, .inl (kA 0, 4, .inl (fun _ => 0)))], [(a0, .inr (13, mF qm (va_up x0Mo 5 (nI (539 * (31 * j + 0)))) y0Mo))], [(qm 2, .inl (kA 0, 66836, .inl all0))]]) := hD
  refine lv_aload_n (pc := 84) hx hb d_Mo_count_84 rfl (lv_at hl 0 rfl) ?_
  refine k_goI (gr := [[(qm 3, .inl (kA 0, 4, .inl (fun _ => 0)))], [(qm 2, .inl (kA 0, 66836, .inl all0))]]) (k_rV (pc := 85) (As := []) (rest := []) X (c_Mo_blocks_z1 l D kA a0 qm j hj H.size) rfl wm_3155 wm_9 wm_3152 wm_3154 wv_14_14 0 (by decide +kernel) ⟨Nat.le_of_ble_eq_true rfl, Nat.le_of_ble_eq_true rfl⟩ rfl rfl (va_recv hK hP (ci := 13) (q0 := 1) rfl rfl) (k_pre hN hK hP hD [1] [0, 2] 3 rfl (by decide) rfl) rfl hl.1 rfl (Nat.le_of_ble_eq_true rfl) d_Mo_count_85 ⟨Nat.le_of_ble_eq_true rfl, Nat.le_of_ble_eq_true rfl⟩) hP hD hS hA [1] [0, 2] 3 rfl (by decide) rfl rfl (fun r5 u6 H locs hu6 hP hD hS => ?_)
  subst hu6
  have hP : va_P D classes (cat [[(qm 3, .inl (kA 0, 4, .inl (fun _ => 0)))], [(qm 2, .inl (kA 0, 66836, .inl all0))], [(a0, .inr (13, mF qm (va_up x0Mo 5 (nI (539 * (31 * j + 0)))) y0Mo))]]) H := hP
  have hD : va_D A (cat [[(qm 3, .inl (kA 0, 4, .inl (fun _ => 0)))], [(qm 2, .inl (kA 0, 66836, .inl all0))], [(a0, .inr (13, mF qm (va_up x0Mo 5 (nI (539 * (31 * j + 0)))) y0Mo))]]) := hD
  refine W.widen (k := 0) (n := 0) (Nat.le_of_ble_eq_true rfl) (Nat.le_of_ble_eq_true rfl) ?_
  exact W.iret (v := 0) hx hb hr (fun t ht hW => ⟨⟨0, [[(qm 3, .inl (kA 0, 4, .inl (fun _ => 0)))], [(qm 2, .inl (kA 0, 66836, .inl all0))], [(a0, .inr (13, mF qm (va_up x0Mo 5 (nI (539 * (31 * j + 0)))) y0Mo))]], rfl, rfl, by rw [ht]; exact hP, va_K.moved hW.alike hK, hD⟩, hS.F ht⟩) hS.2.2 d_Mo_count_88
set_option maxRecDepth 100000 in
set_option maxHeartbeats 4000000 in
/-- count, a fresh house -/
theorem lf_count_7 {p : Program} {e : Env} {s : State} {m : MethodId} {below : List Frame} {meth : Method} {c : Code} (l : Launch) {b : Nat} {xs : Nat → Int32} (C0 : lw_At p s m meth c b 6 xs) {D : va_G} {kA : Nat → ClassId} (h : Nat) (h2 : Nat) (q : Nat → Nat) (qg : Nat → Nat) (qf : Nat → Nat) (qm : Nat → Nat) (g : Nat → Nat → Nat) (j : Nat) (hj : j < 4) (hv1 : xs 1 = nI j) (hv2 : xs 2 = 4) {H : Heap} {locs : List Loc} {ls : Array Slot} (hK : va_K D classes (TY kA) s) (hN : nst s) (hP : va_P D classes (cat [[(h, .inr (12, [.ref (q 0), .ref (q 1), .ref (q 2), .ref (q 3), .ref (q 4), .ref (q 5), .ref (q 6), .int 0, .int ((-1)), .ref (q 9), .ref (q 10), .int 0, .int 0, .ref (q 13), .int 0, .int 0, .null, .null, .null, .null, .null]))], [(q 1, .inl (kA 5, 4, .inr (.inr (.inr (.inr (rr (g 1)))))))], [(g 1 j, .inr (2, [.int 0, .int 0, .int 0, .int 0, .ref (qf 4), .ref (qf 5), .ref (qf 6), .ref (qf 7), .ref (qf 8), .ref (qf 9), .ref (qf 10), .ref (qf 11), .ref (qf 12), .ref (qf 13), .ref (qf 14)]))], [(q 0, .inl (kA 4, 4, .inr (.inr (.inr (.inr (rr (g 0)))))))], [(g 0 j, .inr (3, [.int 0, .int 0, .int 1, .ref (qg 3), .ref (qg 4), .ref (qg 5), .ref (qg 6), .ref (qg 7), .ref (qg 8), .ref (qg 9), .ref (qg 10), .ref (qg 11), .ref (qg 12), .ref (qg 13), .ref (qg 14), .ref (qg 15), .null, .int 0, .int 0]))], [(qf 5, .inl (kA 0, 48, .inl (fun _ => 0)))], [(qf 10, .inl (kA 0, 24, .inl (fun _ => 0)))], [(qf 6, .inl (kA 0, 24, .inl (fun _ => 0)))], [(qf 11, .inl (kA 0, 24, .inl (fun _ => 0)))], [(h2, .inr (13, mF qm x0Mo y0Mo))], [(qm 3, .inl (kA 0, 4, .inl (fun _ => 0)))], [(qm 2, .inl (kA 0, 66836, .inl all0))]]) H) (hD : va_D (fun q : Nat => s.heap.size ≤ q) (cat [[(h, .inr (12, [.ref (q 0), .ref (q 1), .ref (q 2), .ref (q 3), .ref (q 4), .ref (q 5), .ref (q 6), .int 0, .int ((-1)), .ref (q 9), .ref (q 10), .int 0, .int 0, .ref (q 13), .int 0, .int 0, .null, .null, .null, .null, .null]))], [(q 1, .inl (kA 5, 4, .inr (.inr (.inr (.inr (rr (g 1)))))))], [(g 1 j, .inr (2, [.int 0, .int 0, .int 0, .int 0, .ref (qf 4), .ref (qf 5), .ref (qf 6), .ref (qf 7), .ref (qf 8), .ref (qf 9), .ref (qf 10), .ref (qf 11), .ref (qf 12), .ref (qf 13), .ref (qf 14)]))], [(q 0, .inl (kA 4, 4, .inr (.inr (.inr (.inr (rr (g 0)))))))], [(g 0 j, .inr (3, [.int 0, .int 0, .int 1, .ref (qg 3), .ref (qg 4), .ref (qg 5), .ref (qg 6), .ref (qg 7), .ref (qg 8), .ref (qg 9), .ref (qg 10), .ref (qg 11), .ref (qg 12), .ref (qg 13), .ref (qg 14), .ref (qg 15), .null, .int 0, .int 0]))], [(qf 5, .inl (kA 0, 48, .inl (fun _ => 0)))], [(qf 10, .inl (kA 0, 24, .inl (fun _ => 0)))], [(qf 6, .inl (kA 0, 24, .inl (fun _ => 0)))], [(qf 11, .inl (kA 0, 24, .inl (fun _ => 0)))], [(h2, .inr (13, mF qm x0Mo y0Mo))], [(qm 3, .inl (kA 0, 4, .inl (fun _ => 0)))], [(qm 2, .inl (kA 0, 66836, .inl all0))]])) (hS : va_S (fun q : Nat => s.heap.size ≤ q) s.heap H locs) (hl : lv_has ls 4 [(3, .int 0), (2, .ref h2), (1, .ref h), (0, .ref b)]) : W p l e room_1 s m #[Value.ref b] below meth c H locs 368 365796 (lw_Z below #[Value.ref b] s) (F0 m 279 ls []) := by
  obtain ⟨hx, hb, hr, hml, hown, hts0, hX, hbl, hlocks, hgv⟩ := id C0
  have hts : ∀ w ∈ lw_g, w.before #[Value.ref b] s = true := fun w h => hts0 w (lw_gt h)
  have X : cx p s m #[Value.ref b] meth c b_law_law 4 ret "DrawingHouseLaw" meth.name := ⟨hx, hb, hml, hown, hts, hr, hlocks, rfl⟩
  obtain ⟨A, hAe⟩ : ∃ A : Nat → Prop, A = fun q : Nat => s.heap.size ≤ q := ⟨_, rfl⟩
  have hA : ∀ q : Nat, s.heap.size ≤ q → A q := fun q h => by rw [hAe]; exact h
  have hbA : ¬ A b := by rw [hAe]; exact Nat.not_le.mpr hbl
  rw [← hAe] at hD hS
  refine lv_aload_n (pc := 279) hx hb d_law_law_279 rfl (lv_at hl 2 rfl) ?_
  refine lv_aload_n (pc := 280) hx hb d_law_law_280 rfl (lv_at hl 3 rfl) ?_
  refine lv_iload_n (pc := 281) hx hb d_law_law_281 rfl (lv_at hl 0 rfl) ?_
  refine lv_iconst (pc := 282) (v := 1) hx hb d_law_law_282 (by decide) ?_
  refine lv_iadd (pc := 283) hx hb d_law_law_283 ?_
  refine k_cst (v := 1) (by decide) ?_
  refine va_sld (pc := 284) hx hb hX hbl hbA hS (by unfold vp_in; decide) d_law_law_284 ?_
  refine k_cst (v := nI j) hv1 ?_
  refine lv_aload_n (pc := 285) hx hb d_law_law_285 rfl (lv_at hl 3 rfl) ?_
  refine lv_iload_n (pc := 286) hx hb d_law_law_286 rfl (lv_at hl 0 rfl) ?_
  refine lv_iconst (pc := 287) (v := 2) hx hb d_law_law_287 (by decide) ?_
  refine lv_iadd (pc := 288) hx hb d_law_law_288 ?_
  refine k_cst (v := 2) (by decide) ?_
  refine va_sld (pc := 289) hx hb hX hbl hbA hS (by unfold vp_in; decide) d_law_law_289 ?_
  refine k_cst (v := 4) hv2 ?_
  refine k_goI (gr := [[(h2, .inr (13, mF qm x0Mo y0Mo))], [(qm 3, .inl (kA 0, 4, .inl (fun _ => 0)))], [(qm 2, .inl (kA 0, 66836, .inl all0))]]) (k_rV (pc := 290) (As := [.int (nI j), .int 4]) (rest := []) X (c_Ho_count_z7 l D kA h j (q 0) (q 1) (q 2) (q 3) (q 4) (q 5) (q 6) (q 9) (q 10) (q 13) g (qf 4) (qf 5) (qf 6) (qf 7) (qf 8) (qf 9) (qf 10) (qf 11) (qf 12) (qf 13) (qf 14) (qg 3) (qg 4) (qg 5) (qg 6) (qg 7) (qg 8) (qg 9) (qg 10) (qg 11) (qg 12) (qg 13) (qg 14) (qg 15) (fun _ => 0) (fun _ => 0) (fun _ => 0) (fun _ => 0) hj H.size) rfl wm_806 wm_1 wm_803 wm_804 wm_805 2 (by decide +kernel) ⟨Nat.le_of_ble_eq_true rfl, Nat.le_of_ble_eq_true rfl⟩ rfl rfl (va_recv hK hP (ci := 12) (q0 := 0) rfl rfl) (k_pre hN hK hP hD [0, 1, 2, 3, 4, 5, 6, 7, 8] [9, 10, 11] 12 rfl (by decide) rfl) rfl hl.1 rfl (Nat.le_of_ble_eq_true rfl) d_law_law_290 ⟨Nat.le_of_ble_eq_true rfl, Nat.le_of_ble_eq_true rfl⟩) hP hD hS hA [0, 1, 2, 3, 4, 5, 6, 7, 8] [9, 10, 11] 12 rfl (by decide) rfl rfl (fun r1 u2 H locs hu2 hP hD hS => ?_)
  obtain ⟨hP, hD⟩ := k_left hP hD
  subst hu2
  have hP : va_P D classes (cat [[(h2, .inr (13, mF qm x0Mo y0Mo))], [(qm 3, .inl (kA 0, 4, .inl (fun _ => 0)))], [(qm 2, .inl (kA 0, 66836, .inl all0))]]) H := hP
  have hD : va_D A (cat [[(h2, .inr (13, mF qm x0Mo y0Mo))], [(qm 3, .inl (kA 0, 4, .inl (fun _ => 0)))], [(qm 2, .inl (kA 0, 66836, .inl all0))]]) := hD
  refine lv_aload_n (pc := 293) hx hb d_law_law_293 rfl (lv_at hl 1 rfl) ?_
  refine lv_aload_n (pc := 294) hx hb d_law_law_294 rfl (lv_at hl 3 rfl) ?_
  refine lv_iload_n (pc := 295) hx hb d_law_law_295 rfl (lv_at hl 0 rfl) ?_
  refine lv_iconst (pc := 296) (v := 1) hx hb d_law_law_296 (by decide) ?_
  refine lv_iadd (pc := 297) hx hb d_law_law_297 ?_
  refine k_cst (v := 1) (by decide) ?_
  refine va_sld (pc := 298) hx hb hX hbl hbA hS (by unfold vp_in; decide) d_law_law_298 ?_
  refine k_cst (v := nI j) hv1 ?_
  refine lv_aload_n (pc := 299) hx hb d_law_law_299 rfl (lv_at hl 3 rfl) ?_
  refine lv_iload_n (pc := 300) hx hb d_law_law_300 rfl (lv_at hl 0 rfl) ?_
  refine lv_iconst (pc := 301) (v := 2) hx hb d_law_law_301 (by decide) ?_
  refine lv_iadd (pc := 302) hx hb d_law_law_302 ?_
  refine k_cst (v := 2) (by decide) ?_
  refine va_sld (pc := 303) hx hb hX hbl hbA hS (by unfold vp_in; decide) d_law_law_303 ?_
  refine k_cst (v := 4) hv2 ?_
  refine k_goI (gr := []) (k_rV (pc := 304) (As := [.int (nI j), .int 4]) (rest := [.int 0]) X (c_Mo_count_z7 l D kA h2 j qm hj H.size) rfl wm_3279 wm_9 wm_3276 wm_3277 wm_3278 2 (by decide +kernel) ⟨Nat.le_of_ble_eq_true rfl, Nat.le_of_ble_eq_true rfl⟩ rfl rfl (va_recv hK hP (ci := 13) (q0 := 0) rfl rfl) (k_pre hN hK hP hD [0, 1, 2] [] 3 rfl (by decide) rfl) rfl hl.1 rfl (Nat.le_of_ble_eq_true rfl) d_law_law_304 ⟨Nat.le_of_ble_eq_true rfl, Nat.le_of_ble_eq_true rfl⟩) hP hD hS hA [0, 1, 2] [] 3 rfl (by decide) rfl rfl (fun r3 u4 H locs hu4 hP hD hS => ?_)
  obtain ⟨hP, hD⟩ := k_left hP hD
  subst hu4
  have hP : va_P D classes (cat []) H := hP
  have hD : va_D A (cat []) := hD
  refine lv_icmp_eq (pc := 307) (tgt := 1295) hx hb d_law_law_307 (by decide) (fun _ => ?_) (fun c1 => absurd (by decide) c1)
  rw [hAe] at hS
  exact law_exit l C0 (Nat.le_of_ble_eq_true rfl) (Nat.le_of_ble_eq_true rfl) hS hl
set_option maxRecDepth 100000 in
set_option maxHeartbeats 4000000 in
/-- DrawingHouse.count(II)I -/
theorem c_Ho_count_z8 (l : Launch) (D : va_G) (kA : Nat → ClassId) (a0 : Nat) (j : Nat) (a1 : Nat) (a2 : Nat) (a3 : Nat) (a4 : Nat) (a5 : Nat) (a6 : Nat) (a7 : Nat) (a8 : Nat) (a9 : Nat) (a10 : Nat) (g : Nat → Nat → Nat) (a11 : Nat) (a12 : Nat) (a13 : Nat) (a14 : Nat) (a15 : Nat) (a16 : Nat) (a17 : Nat) (a18 : Nat) (a19 : Nat) (a20 : Nat) (a21 : Nat) (a22 : Nat) (a23 : Nat) (a24 : Nat) (a25 : Nat) (a26 : Nat) (a27 : Nat) (a28 : Nat) (a29 : Nat) (a30 : Nat) (a31 : Nat) (a32 : Nat) (a33 : Nat) (a34 : Nat) (f0 : Nat → Int32) (f1 : Nat → Int32) (f2 : Nat → Int32) (f3 : Nat → Int32) (hj : j < 4) : Ci l y_Ho_count z_Ho_count { frames := 5, cells := 0, slots := 0, locals := 115 } D classes (TY kA) [.ref a0, .int (nI j), .int 5] [[(a0, .inr (12, [.ref a1, .ref a2, .ref a3, .ref a4, .ref a5, .ref a6, .ref a7, .int 0, .int ((-1)), .ref a8, .ref a9, .int 0, .int 0, .ref a10, .int 0, .int 0, .null, .null, .null, .null, .null]))], [(a2, .inl (kA 5, 4, .inr (.inr (.inr (.inr (rr (g 1)))))))], [(g 1 j, .inr (2, [.int 0, .int 0, .int 0, .int 0, .ref a11, .ref a12, .ref a13, .ref a14, .ref a15, .ref a16, .ref a17, .ref a18, .ref a19, .ref a20, .ref a21]))], [(a1, .inl (kA 4, 4, .inr (.inr (.inr (.inr (rr (g 0)))))))], [(g 0 j, .inr (3, [.int 0, .int 0, .int 1, .ref a22, .ref a23, .ref a24, .ref a25, .ref a26, .ref a27, .ref a28, .ref a29, .ref a30, .ref a31, .ref a32, .ref a33, .ref a34, .null, .int 0, .int 0]))], [(a12, .inl (kA 0, 48, .inl f0))], [(a17, .inl (kA 0, 24, .inl f1))], [(a13, .inl (kA 0, 24, .inl f2))], [(a18, .inl (kA 0, 24, .inl f3))]] (fun r (_ : List va_W) => r = 0) (fun u => u) 0 0 := by
  intro sz
  refine k_met (cc := b_Ho_count) (maxL := 3) (ret := (some .int)) (by decide) rfl (Nat.le_of_ble_eq_true rfl) (fun p e s m below meth c ls X hl hB => ?_)
  obtain ⟨hsz, hP, hK, hD0, hN⟩ := hB
  subst hsz
  have hD := hD0.self (sz := s.heap.size)
  generalize hAe : va_A (cat [[(a0, .inr (12, [.ref a1, .ref a2, .ref a3, .ref a4, .ref a5, .ref a6, .ref a7, .int 0, .int ((-1)), .ref a8, .ref a9, .int 0, .int 0, .ref a10, .int 0, .int 0, .null, .null, .null, .null, .null]))], [(a2, .inl (kA 5, 4, .inr (.inr (.inr (.inr (rr (g 1)))))))], [(g 1 j, .inr (2, [.int 0, .int 0, .int 0, .int 0, .ref a11, .ref a12, .ref a13, .ref a14, .ref a15, .ref a16, .ref a17, .ref a18, .ref a19, .ref a20, .ref a21]))], [(a1, .inl (kA 4, 4, .inr (.inr (.inr (.inr (rr (g 0)))))))], [(g 0 j, .inr (3, [.int 0, .int 0, .int 1, .ref a22, .ref a23, .ref a24, .ref a25, .ref a26, .ref a27, .ref a28, .ref a29, .ref a30, .ref a31, .ref a32, .ref a33, .ref a34, .null, .int 0, .int 0]))], [(a12, .inl (kA 0, 48, .inl f0))], [(a17, .inl (kA 0, 24, .inl f1))], [(a13, .inl (kA 0, 24, .inl f2))], [(a18, .inl (kA 0, 24, .inl f3))]]) s.heap.size = A at hD ⊢
  have hA : ∀ q : Nat, s.heap.size ≤ q → A q := fun q h => by rw [← hAe]; exact Or.inr h
  have hS : va_S A s.heap s.heap [] := va_S.rf
  obtain ⟨hx, hb, hml, hown, hts, hr, hlk, hnm⟩ := id X
  have hl : lv_has ls 3 [(0, .ref a0), (1, .int (nI j)), (2, .int 5)] := hl
  have hP : va_P D classes (cat [[(a0, .inr (12, [.ref a1, .ref a2, .ref a3, .ref a4, .ref a5, .ref a6, .ref a7, .int 0, .int ((-1)), .ref a8, .ref a9, .int 0, .int 0, .ref a10, .int 0, .int 0, .null, .null, .null, .null, .null]))], [(a2, .inl (kA 5, 4, .inr (.inr (.inr (.inr (rr (g 1)))))))], [(g 1 j, .inr (2, [.int 0, .int 0, .int 0, .int 0, .ref a11, .ref a12, .ref a13, .ref a14, .ref a15, .ref a16, .ref a17, .ref a18, .ref a19, .ref a20, .ref a21]))], [(a1, .inl (kA 4, 4, .inr (.inr (.inr (.inr (rr (g 0)))))))], [(g 0 j, .inr (3, [.int 0, .int 0, .int 1, .ref a22, .ref a23, .ref a24, .ref a25, .ref a26, .ref a27, .ref a28, .ref a29, .ref a30, .ref a31, .ref a32, .ref a33, .ref a34, .null, .int 0, .int 0]))], [(a12, .inl (kA 0, 48, .inl f0))], [(a17, .inl (kA 0, 24, .inl f1))], [(a13, .inl (kA 0, 24, .inl f2))], [(a18, .inl (kA 0, 24, .inl f3))]]) s.heap := hP
  have hK : va_K D classes (TY kA) s := hK
  refine lv_iload_n (pc := 0) hx hb d_Ho_count_0 rfl (lv_at hl 1 rfl) ?_
  refine k_goI (gr := [[(a0, .inr (12, [.ref a1, .ref a2, .ref a3, .ref a4, .ref a5, .ref a6, .ref a7, .int 0, .int ((-1)), .ref a8, .ref a9, .int 0, .int 0, .ref a10, .int 0, .int 0, .null, .null, .null, .null, .null]))], [(a2, .inl (kA 5, 4, .inr (.inr (.inr (.inr (rr (g 1)))))))], [(g 1 j, .inr (2, [.int 0, .int 0, .int 0, .int 0, .ref a11, .ref a12, .ref a13, .ref a14, .ref a15, .ref a16, .ref a17, .ref a18, .ref a19, .ref a20, .ref a21]))], [(a1, .inl (kA 4, 4, .inr (.inr (.inr (.inr (rr (g 0)))))))], [(g 0 j, .inr (3, [.int 0, .int 0, .int 1, .ref a22, .ref a23, .ref a24, .ref a25, .ref a26, .ref a27, .ref a28, .ref a29, .ref a30, .ref a31, .ref a32, .ref a33, .ref a34, .null, .int 0, .int 0]))], [(a12, .inl (kA 0, 48, .inl f0))], [(a17, .inl (kA 0, 24, .inl f1))], [(a13, .inl (kA 0, 24, .inl f2))], [(a18, .inl (kA 0, 24, .inl f3))]]) (k_rS (pc := 1) (As := [.int (nI j)]) (rest := []) X (c_Ho_isPlace l D kA (nI j) s.heap.size) rfl wm_633 wm_1 wm_631 wm_632 1 (by decide +kernel) ⟨Nat.le_of_ble_eq_true rfl, Nat.le_of_ble_eq_true rfl⟩ rfl rfl (k_pre hN hK hP hD [] [0, 1, 2, 3, 4, 5, 6, 7, 8] 9 rfl (by decide) rfl) rfl hl.1 rfl (Nat.le_of_ble_eq_true rfl) d_Ho_count_1 ⟨Nat.le_of_ble_eq_true rfl, Nat.le_of_ble_eq_true rfl⟩) hP hD hS hA [] [0, 1, 2, 3, 4, 5, 6, 7, 8] 9 rfl (by decide) rfl rfl (fun r1 u2 H locs hu2 hP hD hS => ?_)
  subst hu2
  refine k_cst (v := 1) (place_ok hj) ?_
  have hP : va_P D classes (cat [[(a0, .inr (12, [.ref a1, .ref a2, .ref a3, .ref a4, .ref a5, .ref a6, .ref a7, .int 0, .int ((-1)), .ref a8, .ref a9, .int 0, .int 0, .ref a10, .int 0, .int 0, .null, .null, .null, .null, .null]))], [(a2, .inl (kA 5, 4, .inr (.inr (.inr (.inr (rr (g 1)))))))], [(g 1 j, .inr (2, [.int 0, .int 0, .int 0, .int 0, .ref a11, .ref a12, .ref a13, .ref a14, .ref a15, .ref a16, .ref a17, .ref a18, .ref a19, .ref a20, .ref a21]))], [(a1, .inl (kA 4, 4, .inr (.inr (.inr (.inr (rr (g 0)))))))], [(g 0 j, .inr (3, [.int 0, .int 0, .int 1, .ref a22, .ref a23, .ref a24, .ref a25, .ref a26, .ref a27, .ref a28, .ref a29, .ref a30, .ref a31, .ref a32, .ref a33, .ref a34, .null, .int 0, .int 0]))], [(a12, .inl (kA 0, 48, .inl f0))], [(a17, .inl (kA 0, 24, .inl f1))], [(a13, .inl (kA 0, 24, .inl f2))], [(a18, .inl (kA 0, 24, .inl f3))]]) H := hP
  have hD : va_D A (cat [[(a0, .inr (12, [.ref a1, .ref a2, .ref a3, .ref a4, .ref a5, .ref a6, .ref a7, .int 0, .int ((-1)), .ref a8, .ref a9, .int 0, .int 0, .ref a10, .int 0, .int 0, .null, .null, .null, .null, .null]))], [(a2, .inl (kA 5, 4, .inr (.inr (.inr (.inr (rr (g 1)))))))], [(g 1 j, .inr (2, [.int 0, .int 0, .int 0, .int 0, .ref a11, .ref a12, .ref a13, .ref a14, .ref a15, .ref a16, .ref a17, .ref a18, .ref a19, .ref a20, .ref a21]))], [(a1, .inl (kA 4, 4, .inr (.inr (.inr (.inr (rr (g 0)))))))], [(g 0 j, .inr (3, [.int 0, .int 0, .int 1, .ref a22, .ref a23, .ref a24, .ref a25, .ref a26, .ref a27, .ref a28, .ref a29, .ref a30, .ref a31, .ref a32, .ref a33, .ref a34, .null, .int 0, .int 0]))], [(a12, .inl (kA 0, 48, .inl f0))], [(a17, .inl (kA 0, 24, .inl f1))], [(a13, .inl (kA 0, 24, .inl f2))], [(a18, .inl (kA 0, 24, .inl f3))]]) := hD
  refine lv_if_ne (pc := 4) (tgt := 9) hx hb d_Ho_count_4 (by decide) (fun c1 => ?_) (fun c1 => absurd c1 (by decide))
  refine lv_iload_n (pc := 9) hx hb d_Ho_count_9 rfl (lv_at hl 2 rfl) ?_
  refine lv_tableIn (pc := 10) (tgt := 104) hx hb d_Ho_count_10 (by decide) (by decide) rfl (by decide) ?_
  refine lv_aload_n (pc := 104) hx hb d_Ho_count_104 rfl (lv_at hl 0 rfl) ?_
  refine lv_iload_n (pc := 105) hx hb d_Ho_count_105 rfl (lv_at hl 1 rfl) ?_
  refine k_goR (gr := []) (k_rV (pc := 106) (As := [.int (nI j)]) (rest := []) X (c_Ho_learned_z1 l D kA a0 j a1 a2 a3 a4 a5 a6 a7 a8 a9 a10 g a11 a12 a13 a14 a15 a16 a17 a18 a19 a20 a21 a22 a23 a24 a25 a26 a27 a28 a29 a30 a31 a32 a33 a34 f0 f1 f2 f3 hj H.size) rfl wm_810 wm_1 wm_807 wm_809 wv_1_14 1 (by decide +kernel) ⟨Nat.le_of_ble_eq_true rfl, Nat.le_of_ble_eq_true rfl⟩ rfl rfl (va_recv hK hP (ci := 12) (q0 := 0) rfl rfl) (k_pre hN hK hP hD [0, 1, 2, 3, 4, 5, 6, 7, 8] [] 9 rfl (by decide) rfl) rfl hl.1 rfl (Nat.le_of_ble_eq_true rfl) d_Ho_count_106 ⟨Nat.le_of_ble_eq_true rfl, Nat.le_of_ble_eq_true rfl⟩) hP hD hS hA [0, 1, 2, 3, 4, 5, 6, 7, 8] [] 9 rfl (by decide) rfl rfl (fun u4 H locs hu4 hP hD hS => ?_)
  have hP : va_P D classes (cat [[(a0, .inr (12, [.ref a1, .ref a2, .ref a3, .ref a4, .ref a5, .ref a6, .ref a7, .int 0, .int ((-1)), .ref a8, .ref a9, .int 0, .int 0, .ref a10, .int 0, .int 0, .null, .null, .null, .null, .null]))], [(a2, .inl (kA 5, 4, .inr (.inr (.inr (.inr (rr (g 1)))))))], [(g 1 j, .inr (2, [.int 1, .int 0, .int 0, .int 0, .ref a11, .ref a12, .ref a13, .ref a14, .ref a15, .ref a16, .ref a17, .ref a18, .ref a19, .ref a20, .ref a21]))], [(a1, .inl (kA 4, 4, .inr (.inr (.inr (.inr (rr (g 0)))))))], [(g 0 j, .inr (3, [.int 0, .int 0, .int 1, .ref a22, .ref a23, .ref a24, .ref a25, .ref a26, .ref a27, .ref a28, .ref a29, .ref a30, .ref a31, .ref a32, .ref a33, .ref a34, .null, .int 0, .int 0]))], [(a12, .inl (kA 0, 48, .inl (u4.2 0)))], [(a17, .inl (kA 0, 24, .inl (fl (fl f1 24 0) 24 0)))], [(a13, .inl (kA 0, 24, .inl (fl f2 24 (-1))))], [(a18, .inl (kA 0, 24, .inl (fl f3 24 (-1))))]]) H := hP
  have hD : va_D A (cat [[(a0, .inr (12, [.ref a1, .ref a2, .ref a3, .ref a4, .ref a5, .ref a6, .ref a7, .int 0, .int ((-1)), .ref a8, .ref a9, .int 0, .int 0, .ref a10, .int 0, .int 0, .null, .null, .null, .null, .null]))], [(a2, .inl (kA 5, 4, .inr (.inr (.inr (.inr (rr (g 1)))))))], [(g 1 j, .inr (2, [.int 1, .int 0, .int 0, .int 0, .ref a11, .ref a12, .ref a13, .ref a14, .ref a15, .ref a16, .ref a17, .ref a18, .ref a19, .ref a20, .ref a21]))], [(a1, .inl (kA 4, 4, .inr (.inr (.inr (.inr (rr (g 0)))))))], [(g 0 j, .inr (3, [.int 0, .int 0, .int 1, .ref a22, .ref a23, .ref a24, .ref a25, .ref a26, .ref a27, .ref a28, .ref a29, .ref a30, .ref a31, .ref a32, .ref a33, .ref a34, .null, .int 0, .int 0]))], [(a12, .inl (kA 0, 48, .inl (u4.2 0)))], [(a17, .inl (kA 0, 24, .inl (fl (fl f1 24 0) 24 0)))], [(a13, .inl (kA 0, 24, .inl (fl f2 24 (-1))))], [(a18, .inl (kA 0, 24, .inl (fl f3 24 (-1))))]]) := hD
  obtain ⟨f950, hf950⟩ : ∃ z : Nat → Int32, u4.2 0 = z := ⟨_, rfl⟩
  rw [hf950] at hP hD
  refine k_get (pc := 109) X hK hP 2 rfl rfl i_Fa 3 (by decide) wm_404 rfl rfl d_Ho_count_109 ?_
  refine W.widen (k := 0) (n := 0) (Nat.le_of_ble_eq_true rfl) (Nat.le_of_ble_eq_true rfl) ?_
  exact W.iret (v := 0) hx hb hr (fun t ht hW => ⟨⟨0, [[(a0, .inr (12, [.ref a1, .ref a2, .ref a3, .ref a4, .ref a5, .ref a6, .ref a7, .int 0, .int ((-1)), .ref a8, .ref a9, .int 0, .int 0, .ref a10, .int 0, .int 0, .null, .null, .null, .null, .null]))], [(a2, .inl (kA 5, 4, .inr (.inr (.inr (.inr (rr (g 1)))))))], [(g 1 j, .inr (2, [.int 1, .int 0, .int 0, .int 0, .ref a11, .ref a12, .ref a13, .ref a14, .ref a15, .ref a16, .ref a17, .ref a18, .ref a19, .ref a20, .ref a21]))], [(a1, .inl (kA 4, 4, .inr (.inr (.inr (.inr (rr (g 0)))))))], [(g 0 j, .inr (3, [.int 0, .int 0, .int 1, .ref a22, .ref a23, .ref a24, .ref a25, .ref a26, .ref a27, .ref a28, .ref a29, .ref a30, .ref a31, .ref a32, .ref a33, .ref a34, .null, .int 0, .int 0]))], [(a12, .inl (kA 0, 48, .inl f950))], [(a17, .inl (kA 0, 24, .inl (fl (fl f1 24 0) 24 0)))], [(a13, .inl (kA 0, 24, .inl (fl f2 24 (-1))))], [(a18, .inl (kA 0, 24, .inl (fl f3 24 (-1))))]], rfl, rfl, by rw [ht]; exact hP, va_K.moved hW.alike hK, hD⟩, hS.F ht⟩) hS.2.2 d_Ho_count_112
set_option maxRecDepth 100000 in
set_option maxHeartbeats 4000000 in
theorem lp1_Mo_reaching_z1 {p : Program} {l : Launch} {e : Env} {R : Room} {s : State} {m : MethodId} {args : Array Value} {below : List Frame} {meth : Method} {c : Code} {cells slots : Nat} {Q : State → Prop} {D : va_G} {kA : Nat → ClassId} {A : Nat → Prop} (X : cx p s m args meth c b_Mo_reaching 6 none "DrawingHouseModel" "reaching") (hK : va_K D classes (TY kA) s) (qm : Nat → Nat) (a0 : Nat) (j : Nat) (hj : j < 4)
    (hex : ∀ (f80 : Nat → Int32) (H : Heap) (locs : List Loc) (ls : Array Slot), va_P D classes (cat [[(qm 21, .inl (kA 2, 576, .inl f80))], [(a0, .inr (13, mF qm (va_up x0Mo 5 (nI (539 * (31 * j + 0)))) y0Mo))], [(qm 2, .inl (kA 0, 66836, .inl all0))]]) H → va_D A (cat [[(qm 21, .inl (kA 2, 576, .inl f80))], [(a0, .inr (13, mF qm (va_up x0Mo 5 (nI (539 * (31 * j + 0)))) y0Mo))], [(qm 2, .inl (kA 0, 66836, .inl all0))]]) → va_S A s.heap H locs → lv_has ls 6 [(3, .int (nI 576)), (2, .int 0), (0, .ref a0), (1, .int 0)] → W p l e R s m args below meth c H locs cells slots Q (F0 m 27 ls [])) :
    ∀ (k i : Nat), i + k = 576 → ∀ (f80 : Nat → Int32) (H : Heap) (locs : List Loc) (ls : Array Slot), va_P D classes (cat [[(qm 21, .inl (kA 2, 576, .inl f80))], [(a0, .inr (13, mF qm (va_up x0Mo 5 (nI (539 * (31 * j + 0)))) y0Mo))], [(qm 2, .inl (kA 0, 66836, .inl all0))]]) H → va_D A (cat [[(qm 21, .inl (kA 2, 576, .inl f80))], [(a0, .inr (13, mF qm (va_up x0Mo 5 (nI (539 * (31 * j + 0)))) y0Mo))], [(qm 2, .inl (kA 0, 66836, .inl all0))]]) → va_S A s.heap H locs → lv_has ls 6 [(3, .int (nI i)), (2, .int 0), (0, .ref a0), (1, .int 0)] → W p l e R s m args below meth c H locs cells slots Q (F0 m 7 ls []) := by
  obtain ⟨hx, hb, hml, hown, hts, hr, hlk, hnm⟩ := id X
  intro k
  induction k with
  | zero =>
    intro i hi f80 H locs ls hP hD hS hl
    have hi : i = 576 := hi
    subst hi
    refine lv_iload_n (pc := 7) hx hb d_Mo_reaching_7 rfl (lv_at hl 0 rfl) ?_
    refine lv_sipush (pc := 8) (v := 576) hx hb d_Mo_reaching_8 (by decide) ?_
    refine k_cge (pc := 11) (x := 576) (y := 576) (tgt := 27) hx hb (by decide) (by decide) d_Mo_reaching_11 (by decide) (fun c1 => ?_) (fun c1 => absurd c1 (by omega))
    exact hex f80 H locs ls hP hD hS hl
  | succ k ih =>
    intro i hi f80 H locs ls hP hD hS hl
    have hlt : i < 576 := by omega
    refine lv_iload_n (pc := 7) hx hb d_Mo_reaching_7 rfl (lv_at hl 0 rfl) ?_
    refine lv_sipush (pc := 8) (v := 576) hx hb d_Mo_reaching_8 (by decide) ?_
    refine k_cge (pc := 11) (x := i) (y := 576) (tgt := 27) hx hb (by omega) (by decide) d_Mo_reaching_11 (by decide) (fun c1 => absurd c1 (by omega)) (fun c1 => ?_)
    refine lv_aload_n (pc := 14) hx hb d_Mo_reaching_14 rfl (lv_at hl 2 rfl) ?_
    refine k_get (pc := 15) (v := .ref (qm 21)) X hK hP 1 rfl rfl i_Mo 21 (by decide) wm_2454 rfl rfl d_Mo_reaching_15 ?_
    refine lv_iload_n (pc := 18) hx hb d_Mo_reaching_18 rfl (lv_at hl 0 rfl) ?_
    refine lv_iconst (pc := 19) (v := 0) hx hb d_Mo_reaching_19 (by decide) ?_
    refine k_zst (pc := 20) hx hb hK hP hD hS 0 2 rfl rfl (i) rfl (by omega) (by decide) d_Mo_reaching_20 (fun H locs hP hD hS => ?_)
    have hP : va_P D classes (cat [[(qm 21, .inl (kA 2, 576, .inl (upd f80 i (vp_nar .boolean 0))))], [(a0, .inr (13, mF qm (va_up x0Mo 5 (nI (539 * (31 * j + 0)))) y0Mo))], [(qm 2, .inl (kA 0, 66836, .inl all0))]]) H := hP
    have hD : va_D A (cat [[(qm 21, .inl (kA 2, 576, .inl (upd f80 i (vp_nar .boolean 0))))], [(a0, .inr (13, mF qm (va_up x0Mo 5 (nI (539 * (31 * j + 0)))) y0Mo))], [(qm 2, .inl (kA 0, 66836, .inl all0))]]) := hD
    refine lv_iinc (pc := 21) (v := nI (i + 1)) (lv' := [(3, .int (nI (i + 1))), (2, .int 0), (0, .ref a0), (1, .int 0)]) hx hb d_Mo_reaching_21 hl (k := 0) rfl (nI_add _ 1) (by decide) rfl (fun ls hl => ?_)
    refine lv_goto (pc := 24) (tgt := 7) hx hb d_Mo_reaching_24 (by decide) ?_
    exact ih (i + 1) (by omega) _ H locs ls hP hD hS (lv_sub hl [0, 1, 2, 3] rfl)
set_option maxRecDepth 100000 in
set_option maxHeartbeats 4000000 in
/-- DrawingHouseModel.reaching(Z)V -/
theorem c_Mo_reaching_z1 (l : Launch) (D : va_G) (kA : Nat → ClassId) (a0 : Nat) (qm : Nat → Nat) (j : Nat) (f0 : Nat → Int32) (hj : j < 4) : Cv l y_Mo_reaching z_Mo_reaching { frames := 1, cells := 0, slots := 0, locals := 20 } D classes (TY kA) [.ref a0, .int 0] [[(a0, .inr (13, mF qm (va_up x0Mo 5 (nI (539 * (31 * j + 0)))) y0Mo))], [(qm 2, .inl (kA 0, 66836, .inl all0))], [(qm 21, .inl (kA 2, 576, .inl f0))]] (fun _ : (Nat → Nat) × (Nat → Nat → Int32) => True) (fun u => [[(a0, .inr (13, mF qm (va_up x0Mo 5 (nI (539 * (31 * j + 0)))) y0Mo))], [(qm 2, .inl (kA 0, 66836, .inl all0))], [(qm 21, .inl (kA 2, 576, .inl (u.2 0)))]]) 0 0 := by
  intro sz
  refine k_met (cc := b_Mo_reaching) (maxL := 6) (ret := none) (by decide) rfl (Nat.le_of_ble_eq_true rfl) (fun p e s m below meth c ls X hl hB => ?_)
  obtain ⟨hsz, hP, hK, hD0, hN⟩ := hB
  subst hsz
  have hD := hD0.self (sz := s.heap.size)
  generalize hAe : va_A (cat [[(a0, .inr (13, mF qm (va_up x0Mo 5 (nI (539 * (31 * j + 0)))) y0Mo))], [(qm 2, .inl (kA 0, 66836, .inl all0))], [(qm 21, .inl (kA 2, 576, .inl f0))]]) s.heap.size = A at hD ⊢
  have hA : ∀ q : Nat, s.heap.size ≤ q → A q := fun q h => by rw [← hAe]; exact Or.inr h
  have hS : va_S A s.heap s.heap [] := va_S.rf
  obtain ⟨hx, hb, hml, hown, hts, hr, hlk, hnm⟩ := id X
  have hl : lv_has ls 6 [(0, .ref a0), (1, .int 0)] := hl
  have hP : va_P D classes (cat [[(a0, .inr (13, mF qm (va_up x0Mo 5 (nI (539 * (31 * j + 0)))) y0Mo))], [(qm 2, .inl (kA 0, 66836, .inl all0))], [(qm 21, .inl (kA 2, 576, .inl f0))]]) s.heap := hP
  have hK : va_K D classes (TY kA) s := hK
  refine lv_aload_n (pc := 0) hx hb d_Mo_reaching_0 rfl (lv_at hl 0 rfl) ?_
  refine k_goI (gr := [[(qm 21, .inl (kA 2, 576, .inl f0))]]) (k_rV (pc := 1) (As := []) (rest := []) X (c_Mo_nodes_z1 l D kA a0 qm j hj s.heap.size) rfl wm_3025 wm_9 wm_3022 wm_3024 wv_13_3 0 (by decide +kernel) ⟨Nat.le_of_ble_eq_true rfl, Nat.le_of_ble_eq_true rfl⟩ rfl rfl (va_recv hK hP (ci := 13) (q0 := 0) rfl rfl) (k_pre hN hK hP hD [0, 1] [2] 3 rfl (by decide) rfl) rfl hl.1 rfl (Nat.le_of_ble_eq_true rfl) d_Mo_reaching_1 ⟨Nat.le_of_ble_eq_true rfl, Nat.le_of_ble_eq_true rfl⟩) hP hD hS hA [0, 1] [2] 3 rfl (by decide) rfl rfl (fun r1 u2 H locs hu2 hP hD hS => ?_)
  subst hu2
  have hP : va_P D classes (cat [[(qm 21, .inl (kA 2, 576, .inl f0))], [(a0, .inr (13, mF qm (va_up x0Mo 5 (nI (539 * (31 * j + 0)))) y0Mo))], [(qm 2, .inl (kA 0, 66836, .inl all0))]]) H := hP
  have hD : va_D A (cat [[(qm 21, .inl (kA 2, 576, .inl f0))], [(a0, .inr (13, mF qm (va_up x0Mo 5 (nI (539 * (31 * j + 0)))) y0Mo))], [(qm 2, .inl (kA 0, 66836, .inl all0))]]) := hD
  refine lv_istore_n (pc := 4) (lv' := [(2, .int 0), (0, .ref a0), (1, .int 0)]) hx hb d_Mo_reaching_4 rfl hl (by decide) rfl (fun ls hl => ?_)
  refine lv_iconst (pc := 5) (v := 0) hx hb d_Mo_reaching_5 (by decide) ?_
  refine lv_istore_n (pc := 6) (lv' := [(3, .int 0), (2, .int 0), (0, .ref a0), (1, .int 0)]) hx hb d_Mo_reaching_6 rfl hl (by decide) rfl (fun ls hl => ?_)
  refine lp1_Mo_reaching_z1 X hK qm a0 j hj (fun f910 H locs ls hP hD hS hl => ?_) 576 0 (by omega) _ _ _ ls hP hD hS (lv_sub hl [0, 1, 2, 3] rfl)
  refine lv_iconst (pc := 27) (v := 0) hx hb d_Mo_reaching_27 (by decide) ?_
  refine lv_istore_n (pc := 28) (lv' := [(3, .int 0), (2, .int 0), (0, .ref a0), (1, .int 0)]) hx hb d_Mo_reaching_28 rfl hl (by decide) rfl (fun ls hl => ?_)
  refine lv_iload_n (pc := 29) hx hb d_Mo_reaching_29 rfl (lv_at hl 0 rfl) ?_
  refine lv_iload_n (pc := 30) hx hb d_Mo_reaching_30 rfl (lv_at hl 1 rfl) ?_
  refine lv_icmp_ge (pc := 31) (tgt := 52) hx hb d_Mo_reaching_31 (by decide) (fun _ => ?_) (fun c1 => absurd (by decide) c1)
  refine lv_iconst (pc := 52) (v := 0) hx hb d_Mo_reaching_52 (by decide) ?_
  refine lv_istore_n (pc := 53) (lv' := [(3, .int 0), (2, .int 0), (0, .ref a0), (1, .int 0)]) hx hb d_Mo_reaching_53 rfl hl (by decide) rfl (fun ls hl => ?_)
  refine lv_iload_n (pc := 54) hx hb d_Mo_reaching_54 rfl (lv_at hl 0 rfl) ?_
  refine lv_aload_n (pc := 55) hx hb d_Mo_reaching_55 rfl (lv_at hl 2 rfl) ?_
  refine k_goI (gr := [[(qm 21, .inl (kA 2, 576, .inl f910))]]) (k_rV (pc := 56) (As := []) (rest := [.int 0]) X (c_Mo_edges_z1 l D kA a0 qm j hj H.size) rfl wm_3037 wm_9 wm_3034 wm_3036 wv_13_6 0 (by decide +kernel) ⟨Nat.le_of_ble_eq_true rfl, Nat.le_of_ble_eq_true rfl⟩ rfl rfl (va_recv hK hP (ci := 13) (q0 := 1) rfl rfl) (k_pre hN hK hP hD [1, 2] [0] 3 rfl (by decide) rfl) rfl hl.1 rfl (Nat.le_of_ble_eq_true rfl) d_Mo_reaching_56 ⟨Nat.le_of_ble_eq_true rfl, Nat.le_of_ble_eq_true rfl⟩) hP hD hS hA [1, 2] [0] 3 rfl (by decide) rfl rfl (fun r4 u5 H locs hu5 hP hD hS => ?_)
  subst hu5
  have hP : va_P D classes (cat [[(qm 21, .inl (kA 2, 576, .inl f910))], [(a0, .inr (13, mF qm (va_up x0Mo 5 (nI (539 * (31 * j + 0)))) y0Mo))], [(qm 2, .inl (kA 0, 66836, .inl all0))]]) H := hP
  have hD : va_D A (cat [[(qm 21, .inl (kA 2, 576, .inl f910))], [(a0, .inr (13, mF qm (va_up x0Mo 5 (nI (539 * (31 * j + 0)))) y0Mo))], [(qm 2, .inl (kA 0, 66836, .inl all0))]]) := hD
  refine lv_icmp_ge (pc := 59) (tgt := 120) hx hb d_Mo_reaching_59 (by decide) (fun _ => ?_) (fun c1 => absurd (by decide) c1)
  refine lv_iconst (pc := 120) (v := 0) hx hb d_Mo_reaching_120 (by decide) ?_
  refine lv_istore_n (pc := 121) (lv' := [(3, .int 0), (2, .int 0), (0, .ref a0), (1, .int 0)]) hx hb d_Mo_reaching_121 rfl hl (by decide) rfl (fun ls hl => ?_)
  refine lv_iload_n (pc := 122) hx hb d_Mo_reaching_122 rfl (lv_at hl 0 rfl) ?_
  refine lv_iload_n (pc := 123) hx hb d_Mo_reaching_123 rfl (lv_at hl 1 rfl) ?_
  refine lv_icmp_ge (pc := 124) (tgt := 227) hx hb d_Mo_reaching_124 (by decide) (fun _ => ?_) (fun c1 => absurd (by decide) c1)
  obtain ⟨hP, hD⟩ := k_ord (gc := [[(a0, .inr (13, mF qm (va_up x0Mo 5 (nI (539 * (31 * j + 0)))) y0Mo))], [(qm 2, .inl (kA 0, 66836, .inl all0))], [(qm 21, .inl (kA 2, 576, .inl f910))]]) hP hD [1, 2, 0] 3 rfl (by decide) rfl
  refine W.widen (k := 0) (n := 0) (Nat.le_of_ble_eq_true rfl) (Nat.le_of_ble_eq_true rfl) ?_
  exact W.vret hx hb hr (fun t ht hW => ⟨⟨((fun _ => 0), (fun k => match k with | 0 => f910 | _ => fun _ => 0)), rfl, trivial, by rw [ht]; exact hP, va_K.moved hW.alike hK, hD⟩, hS.F ht⟩) hS.2.2 d_Mo_reaching_227
set_option maxRecDepth 100000 in
set_option maxHeartbeats 4000000 in
/-- DrawingHouseModel.strong(Z)I -/
theorem c_Mo_strong_z1 (l : Launch) (D : va_G) (kA : Nat → ClassId) (a0 : Nat) (qm : Nat → Nat) (j : Nat) (f0 : Nat → Int32) (hj : j < 4) : Ci l y_Mo_strong z_Mo_strong { frames := 2, cells := 0, slots := 0, locals := 45 } D classes (TY kA) [.ref a0, .int 0] [[(a0, .inr (13, mF qm (va_up x0Mo 5 (nI (539 * (31 * j + 0)))) y0Mo))], [(qm 2, .inl (kA 0, 66836, .inl all0))], [(qm 21, .inl (kA 2, 576, .inl f0))]] (fun r (_ : (Nat → Nat) × (Nat → Nat → Int32)) => r = 0) (fun u => [[(a0, .inr (13, mF qm (va_up x0Mo 5 (nI (539 * (31 * j + 0)))) y0Mo))], [(qm 2, .inl (kA 0, 66836, .inl all0))], [(qm 21, .inl (kA 2, 576, .inl (u.2 0)))]]) 0 0 := by
  intro sz
  refine k_met (cc := b_Mo_strong) (maxL := 5) (ret := (some .int)) (by decide) rfl (Nat.le_of_ble_eq_true rfl) (fun p e s m below meth c ls X hl hB => ?_)
  obtain ⟨hsz, hP, hK, hD0, hN⟩ := hB
  subst hsz
  have hD := hD0.self (sz := s.heap.size)
  generalize hAe : va_A (cat [[(a0, .inr (13, mF qm (va_up x0Mo 5 (nI (539 * (31 * j + 0)))) y0Mo))], [(qm 2, .inl (kA 0, 66836, .inl all0))], [(qm 21, .inl (kA 2, 576, .inl f0))]]) s.heap.size = A at hD ⊢
  have hA : ∀ q : Nat, s.heap.size ≤ q → A q := fun q h => by rw [← hAe]; exact Or.inr h
  have hS : va_S A s.heap s.heap [] := va_S.rf
  obtain ⟨hx, hb, hml, hown, hts, hr, hlk, hnm⟩ := id X
  have hl : lv_has ls 5 [(0, .ref a0), (1, .int 0)] := hl
  have hP : va_P D classes (cat [[(a0, .inr (13, mF qm (va_up x0Mo 5 (nI (539 * (31 * j + 0)))) y0Mo))], [(qm 2, .inl (kA 0, 66836, .inl all0))], [(qm 21, .inl (kA 2, 576, .inl f0))]]) s.heap := hP
  have hK : va_K D classes (TY kA) s := hK
  refine lv_aload_n (pc := 0) hx hb d_Mo_strong_0 rfl (lv_at hl 0 rfl) ?_
  refine lv_iload_n (pc := 1) hx hb d_Mo_strong_1 rfl (lv_at hl 1 rfl) ?_
  refine k_goV (gr := []) (k_rV (pc := 2) (As := [.int 0]) (rest := []) X (c_Mo_reaching_z1 l D kA a0 qm j f0 hj s.heap.size) rfl wm_3295 wm_9 wm_3292 wm_3294 wv_16_14 1 (by decide +kernel) ⟨Nat.le_of_ble_eq_true rfl, Nat.le_of_ble_eq_true rfl⟩ rfl rfl (va_recv hK hP (ci := 13) (q0 := 0) rfl rfl) (k_pre hN hK hP hD [0, 1, 2] [] 3 rfl (by decide) rfl) rfl hl.1 rfl (Nat.le_of_ble_eq_true rfl) d_Mo_strong_2 ⟨Nat.le_of_ble_eq_true rfl, Nat.le_of_ble_eq_true rfl⟩) hP hD hS hA [0, 1, 2] [] 3 rfl (by decide) rfl rfl (fun u1 H locs hu1 hP hD hS => ?_)
  have hP : va_P D classes (cat [[(a0, .inr (13, mF qm (va_up x0Mo 5 (nI (539 * (31 * j + 0)))) y0Mo))], [(qm 2, .inl (kA 0, 66836, .inl all0))], [(qm 21, .inl (kA 2, 576, .inl (u1.2 0)))]]) H := hP
  have hD : va_D A (cat [[(a0, .inr (13, mF qm (va_up x0Mo 5 (nI (539 * (31 * j + 0)))) y0Mo))], [(qm 2, .inl (kA 0, 66836, .inl all0))], [(qm 21, .inl (kA 2, 576, .inl (u1.2 0)))]]) := hD
  obtain ⟨f950, hf950⟩ : ∃ z : Nat → Int32, u1.2 0 = z := ⟨_, rfl⟩
  rw [hf950] at hP hD
  refine lv_iconst (pc := 5) (v := 0) hx hb d_Mo_strong_5 (by decide) ?_
  refine lv_istore_n (pc := 6) (lv' := [(2, .int 0), (0, .ref a0), (1, .int 0)]) hx hb d_Mo_strong_6 rfl hl (by decide) rfl (fun ls hl => ?_)
  refine lv_iconst (pc := 7) (v := 0) hx hb d_Mo_strong_7 (by decide) ?_
  refine lv_istore_n (pc := 8) (lv' := [(3, .int 0), (2, .int 0), (0, .ref a0), (1, .int 0)]) hx hb d_Mo_strong_8 rfl hl (by decide) rfl (fun ls hl => ?_)
  refine lv_iload_n (pc := 9) hx hb d_Mo_strong_9 rfl (lv_at hl 0 rfl) ?_
  refine lv_aload_n (pc := 10) hx hb d_Mo_strong_10 rfl (lv_at hl 2 rfl) ?_
  refine k_goI (gr := [[(qm 21, .inl (kA 2, 576, .inl f950))]]) (k_rV (pc := 11) (As := []) (rest := [.int 0]) X (c_Mo_nodes_z1 l D kA a0 qm j hj H.size) rfl wm_3025 wm_9 wm_3022 wm_3024 wv_13_3 0 (by decide +kernel) ⟨Nat.le_of_ble_eq_true rfl, Nat.le_of_ble_eq_true rfl⟩ rfl rfl (va_recv hK hP (ci := 13) (q0 := 0) rfl rfl) (k_pre hN hK hP hD [0, 1] [2] 3 rfl (by decide) rfl) rfl hl.1 rfl (Nat.le_of_ble_eq_true rfl) d_Mo_strong_11 ⟨Nat.le_of_ble_eq_true rfl, Nat.le_of_ble_eq_true rfl⟩) hP hD hS hA [0, 1] [2] 3 rfl (by decide) rfl rfl (fun r2 u3 H locs hu3 hP hD hS => ?_)
  subst hu3
  have hP : va_P D classes (cat [[(qm 21, .inl (kA 2, 576, .inl f950))], [(a0, .inr (13, mF qm (va_up x0Mo 5 (nI (539 * (31 * j + 0)))) y0Mo))], [(qm 2, .inl (kA 0, 66836, .inl all0))]]) H := hP
  have hD : va_D A (cat [[(qm 21, .inl (kA 2, 576, .inl f950))], [(a0, .inr (13, mF qm (va_up x0Mo 5 (nI (539 * (31 * j + 0)))) y0Mo))], [(qm 2, .inl (kA 0, 66836, .inl all0))]]) := hD
  refine lv_icmp_ge (pc := 14) (tgt := 30) hx hb d_Mo_strong_14 (by decide) (fun _ => ?_) (fun c1 => absurd (by decide) c1)
  refine lv_iconst (pc := 30) (v := 0) hx hb d_Mo_strong_30 (by decide) ?_
  refine lv_istore_n (pc := 31) (lv' := [(3, .int 0), (2, .int 0), (0, .ref a0), (1, .int 0)]) hx hb d_Mo_strong_31 rfl hl (by decide) rfl (fun ls hl => ?_)
  refine lv_iload_n (pc := 32) hx hb d_Mo_strong_32 rfl (lv_at hl 0 rfl) ?_
  refine lv_aload_n (pc := 33) hx hb d_Mo_strong_33 rfl (lv_at hl 2 rfl) ?_
  refine k_goI (gr := [[(qm 21, .inl (kA 2, 576, .inl f950))]]) (k_rV (pc := 34) (As := []) (rest := [.int 0]) X (c_Mo_nodes_z1 l D kA a0 qm j hj H.size) rfl wm_3025 wm_9 wm_3022 wm_3024 wv_13_3 0 (by decide +kernel) ⟨Nat.le_of_ble_eq_true rfl, Nat.le_of_ble_eq_true rfl⟩ rfl rfl (va_recv hK hP (ci := 13) (q0 := 1) rfl rfl) (k_pre hN hK hP hD [1, 2] [0] 3 rfl (by decide) rfl) rfl hl.1 rfl (Nat.le_of_ble_eq_true rfl) d_Mo_strong_34 ⟨Nat.le_of_ble_eq_true rfl, Nat.le_of_ble_eq_true rfl⟩) hP hD hS hA [1, 2] [0] 3 rfl (by decide) rfl rfl (fun r4 u5 H locs hu5 hP hD hS => ?_)
  subst hu5
  have hP : va_P D classes (cat [[(qm 21, .inl (kA 2, 576, .inl f950))], [(a0, .inr (13, mF qm (va_up x0Mo 5 (nI (539 * (31 * j + 0)))) y0Mo))], [(qm 2, .inl (kA 0, 66836, .inl all0))]]) H := hP
  have hD : va_D A (cat [[(qm 21, .inl (kA 2, 576, .inl f950))], [(a0, .inr (13, mF qm (va_up x0Mo 5 (nI (539 * (31 * j + 0)))) y0Mo))], [(qm 2, .inl (kA 0, 66836, .inl all0))]]) := hD
  refine lv_icmp_ge (pc := 37) (tgt := 117) hx hb d_Mo_strong_37 (by decide) (fun _ => ?_) (fun c1 => absurd (by decide) c1)
  refine lv_iload_n (pc := 117) hx hb d_Mo_strong_117 rfl (lv_at hl 1 rfl) ?_
  obtain ⟨hP, hD⟩ := k_ord (gc := [[(a0, .inr (13, mF qm (va_up x0Mo 5 (nI (539 * (31 * j + 0)))) y0Mo))], [(qm 2, .inl (kA 0, 66836, .inl all0))], [(qm 21, .inl (kA 2, 576, .inl f950))]]) hP hD [1, 2, 0] 3 rfl (by decide) rfl
  refine W.widen (k := 0) (n := 0) (Nat.le_of_ble_eq_true rfl) (Nat.le_of_ble_eq_true rfl) ?_
  exact W.iret (v := 0) hx hb hr (fun t ht hW => ⟨⟨0, ((fun _ => 0), (fun k => match k with | 0 => f950 | _ => fun _ => 0)), rfl, rfl, by rw [ht]; exact hP, va_K.moved hW.alike hK, hD⟩, hS.F ht⟩) hS.2.2 d_Mo_strong_118
set_option maxRecDepth 100000 in
set_option maxHeartbeats 4000000 in
/-- DrawingHouseModel.count(II)I -/
theorem c_Mo_count_z8 (l : Launch) (D : va_G) (kA : Nat → ClassId) (a0 : Nat) (j : Nat) (qm : Nat → Nat) (f0 : Nat → Int32) (hj : j < 4) : Ci l y_Mo_count z_Mo_count { frames := 3, cells := 0, slots := 0, locals := 69 } D classes (TY kA) [.ref a0, .int (nI j), .int 5] [[(a0, .inr (13, mF qm x0Mo y0Mo))], [(qm 3, .inl (kA 0, 4, .inl (fun _ => 0)))], [(qm 2, .inl (kA 0, 66836, .inl all0))], [(qm 21, .inl (kA 2, 576, .inl f0))]] (fun r (_ : List va_W) => r = 0) (fun u => u) 0 0 := by
  intro sz
  refine k_met (cc := b_Mo_count) (maxL := 3) (ret := (some .int)) (by decide) rfl (Nat.le_of_ble_eq_true rfl) (fun p e s m below meth c ls X hl hB => ?_)
  obtain ⟨hsz, hP, hK, hD0, hN⟩ := hB
  subst hsz
  have hD := hD0.self (sz := s.heap.size)
  generalize hAe : va_A (cat [[(a0, .inr (13, mF qm x0Mo y0Mo))], [(qm 3, .inl (kA 0, 4, .inl (fun _ => 0)))], [(qm 2, .inl (kA 0, 66836, .inl all0))], [(qm 21, .inl (kA 2, 576, .inl f0))]]) s.heap.size = A at hD ⊢
  have hA : ∀ q : Nat, s.heap.size ≤ q → A q := fun q h => by rw [← hAe]; exact Or.inr h
  have hS : va_S A s.heap s.heap [] := va_S.rf
  obtain ⟨hx, hb, hml, hown, hts, hr, hlk, hnm⟩ := id X
  have hl : lv_has ls 3 [(0, .ref a0), (1, .int (nI j)), (2, .int 5)] := hl
  have hP : va_P D classes (cat [[(a0, .inr (13, mF qm x0Mo y0Mo))], [(qm 3, .inl (kA 0, 4, .inl (fun _ => 0)))], [(qm 2, .inl (kA 0, 66836, .inl all0))], [(qm 21, .inl (kA 2, 576, .inl f0))]]) s.heap := hP
  have hK : va_K D classes (TY kA) s := hK
  refine lv_iload_n (pc := 0) hx hb d_Mo_count_0 rfl (lv_at hl 1 rfl) ?_
  refine k_goI (gr := [[(a0, .inr (13, mF qm x0Mo y0Mo))], [(qm 3, .inl (kA 0, 4, .inl (fun _ => 0)))], [(qm 2, .inl (kA 0, 66836, .inl all0))], [(qm 21, .inl (kA 2, 576, .inl f0))]]) (k_rS (pc := 1) (As := [.int (nI j)]) (rest := []) X (c_Mo_isPlace l D kA (nI j) s.heap.size) rfl wm_2978 wm_9 wm_2976 wm_2977 1 (by decide +kernel) ⟨Nat.le_of_ble_eq_true rfl, Nat.le_of_ble_eq_true rfl⟩ rfl rfl (k_pre hN hK hP hD [] [0, 1, 2, 3] 4 rfl (by decide) rfl) rfl hl.1 rfl (Nat.le_of_ble_eq_true rfl) d_Mo_count_1 ⟨Nat.le_of_ble_eq_true rfl, Nat.le_of_ble_eq_true rfl⟩) hP hD hS hA [] [0, 1, 2, 3] 4 rfl (by decide) rfl rfl (fun r1 u2 H locs hu2 hP hD hS => ?_)
  subst hu2
  refine k_cst (v := 1) (placeM_ok hj) ?_
  have hP : va_P D classes (cat [[(a0, .inr (13, mF qm x0Mo y0Mo))], [(qm 3, .inl (kA 0, 4, .inl (fun _ => 0)))], [(qm 2, .inl (kA 0, 66836, .inl all0))], [(qm 21, .inl (kA 2, 576, .inl f0))]]) H := hP
  have hD : va_D A (cat [[(a0, .inr (13, mF qm x0Mo y0Mo))], [(qm 3, .inl (kA 0, 4, .inl (fun _ => 0)))], [(qm 2, .inl (kA 0, 66836, .inl all0))], [(qm 21, .inl (kA 2, 576, .inl f0))]]) := hD
  refine lv_if_ne (pc := 4) (tgt := 9) hx hb d_Mo_count_4 (by decide) (fun c1 => ?_) (fun c1 => absurd c1 (by decide))
  refine lv_aload_n (pc := 9) hx hb d_Mo_count_9 rfl (lv_at hl 0 rfl) ?_
  refine lv_iload_n (pc := 10) hx hb d_Mo_count_10 rfl (lv_at hl 1 rfl) ?_
  refine k_goV (gr := [[(qm 2, .inl (kA 0, 66836, .inl all0))], [(qm 21, .inl (kA 2, 576, .inl f0))]]) (k_rV (pc := 11) (As := [.int (nI j)]) (rest := []) X (c_Mo_take_z1 l D kA a0 j qm hj H.size) rfl wm_3091 wm_9 wm_3088 wm_3090 wv_14_2 1 (by decide +kernel) ⟨Nat.le_of_ble_eq_true rfl, Nat.le_of_ble_eq_true rfl⟩ rfl rfl (va_recv hK hP (ci := 13) (q0 := 0) rfl rfl) (k_pre hN hK hP hD [0, 1] [2, 3] 4 rfl (by decide) rfl) rfl hl.1 rfl (Nat.le_of_ble_eq_true rfl) d_Mo_count_11 ⟨Nat.le_of_ble_eq_true rfl, Nat.le_of_ble_eq_true rfl⟩) hP hD hS hA [0, 1] [2, 3] 4 rfl (by decide) rfl rfl (fun u3 H locs hu3 hP hD hS => ?_)
  have hP : va_P D classes (cat [[(qm 2, .inl (kA 0, 66836, .inl all0))], [(qm 21, .inl (kA 2, 576, .inl f0))], [(a0, .inr (13, mF qm (va_up x0Mo 5 (nI (539 * (31 * j + 0)))) y0Mo))], [(qm 3, .inl (kA 0, 4, .inl (fun _ => 0)))]]) H := hP
  have hD : va_D A (cat [[(qm 2, .inl (kA 0, 66836, .inl all0))], [(qm 21, .inl (kA 2, 576, .inl f0))], [(a0, .inr (13, mF qm (va_up x0Mo 5 (nI (539 * (31 * j + 0)))) y0Mo))], [(qm 3, .inl (kA 0, 4, .inl (fun _ => 0)))]]) := hD
  refine lv_iload_n (pc := 14) hx hb d_Mo_count_14 rfl (lv_at hl 2 rfl) ?_
  refine lv_tableIn (pc := 15) (tgt := 89) hx hb d_Mo_count_15 (by decide) (by decide) rfl (by decide) ?_
  refine lv_aload_n (pc := 89) hx hb d_Mo_count_89 rfl (lv_at hl 0 rfl) ?_
  refine lv_iconst (pc := 90) (v := 0) hx hb d_Mo_count_90 (by decide) ?_
  refine k_goI (gr := [[(qm 3, .inl (kA 0, 4, .inl (fun _ => 0)))]]) (k_rV (pc := 91) (As := [.int 0]) (rest := []) X (c_Mo_strong_z1 l D kA a0 qm j f0 hj H.size) rfl wm_3291 wm_9 wm_3288 wm_3290 wv_16_13 1 (by decide +kernel) ⟨Nat.le_of_ble_eq_true rfl, Nat.le_of_ble_eq_true rfl⟩ rfl rfl (va_recv hK hP (ci := 13) (q0 := 2) rfl rfl) (k_pre hN hK hP hD [2, 0, 1] [3] 4 rfl (by decide) rfl) rfl hl.1 rfl (Nat.le_of_ble_eq_true rfl) d_Mo_count_91 ⟨Nat.le_of_ble_eq_true rfl, Nat.le_of_ble_eq_true rfl⟩) hP hD hS hA [2, 0, 1] [3] 4 rfl (by decide) rfl rfl (fun r4 u5 H locs hu5 hP hD hS => ?_)
  have hP : va_P D classes (cat [[(qm 3, .inl (kA 0, 4, .inl (fun _ => 0)))], [(a0, .inr (13, mF qm (va_up x0Mo 5 (nI (539 * (31 * j + 0)))) y0Mo))], [(qm 2, .inl (kA 0, 66836, .inl all0))], [(qm 21, .inl (kA 2, 576, .inl (u5.2 0)))]]) H := hP
  have hD : va_D A (cat [[(qm 3, .inl (kA 0, 4, .inl (fun _ => 0)))], [(a0, .inr (13, mF qm (va_up x0Mo 5 (nI (539 * (31 * j + 0)))) y0Mo))], [(qm 2, .inl (kA 0, 66836, .inl all0))], [(qm 21, .inl (kA 2, 576, .inl (u5.2 0)))]]) := hD
  obtain ⟨f950, hf950⟩ : ∃ z : Nat → Int32, u5.2 0 = z := ⟨_, rfl⟩
  rw [hf950] at hP hD
  subst hu5
  refine W.widen (k := 0) (n := 0) (Nat.le_of_ble_eq_true rfl) (Nat.le_of_ble_eq_true rfl) ?_
  exact W.iret (v := 0) hx hb hr (fun t ht hW => ⟨⟨0, [[(qm 3, .inl (kA 0, 4, .inl (fun _ => 0)))], [(a0, .inr (13, mF qm (va_up x0Mo 5 (nI (539 * (31 * j + 0)))) y0Mo))], [(qm 2, .inl (kA 0, 66836, .inl all0))], [(qm 21, .inl (kA 2, 576, .inl f950))]], rfl, rfl, by rw [ht]; exact hP, va_K.moved hW.alike hK, hD⟩, hS.F ht⟩) hS.2.2 d_Mo_count_94
set_option maxRecDepth 100000 in
set_option maxHeartbeats 4000000 in
/-- count, a fresh house -/
theorem lf_count_8 {p : Program} {e : Env} {s : State} {m : MethodId} {below : List Frame} {meth : Method} {c : Code} (l : Launch) {b : Nat} {xs : Nat → Int32} (C0 : lw_At p s m meth c b 6 xs) {D : va_G} {kA : Nat → ClassId} (h : Nat) (h2 : Nat) (q : Nat → Nat) (qg : Nat → Nat) (qf : Nat → Nat) (qm : Nat → Nat) (g : Nat → Nat → Nat) (j : Nat) (hj : j < 4) (hv1 : xs 1 = nI j) (hv2 : xs 2 = 5) {H : Heap} {locs : List Loc} {ls : Array Slot} (hK : va_K D classes (TY kA) s) (hN : nst s) (hP : va_P D classes (cat [[(h, .inr (12, [.ref (q 0), .ref (q 1), .ref (q 2), .ref (q 3), .ref (q 4), .ref (q 5), .ref (q 6), .int 0, .int ((-1)), .ref (q 9), .ref (q 10), .int 0, .int 0, .ref (q 13), .int 0, .int 0, .null, .null, .null, .null, .null]))], [(q 1, .inl (kA 5, 4, .inr (.inr (.inr (.inr (rr (g 1)))))))], [(g 1 j, .inr (2, [.int 0, .int 0, .int 0, .int 0, .ref (qf 4), .ref (qf 5), .ref (qf 6), .ref (qf 7), .ref (qf 8), .ref (qf 9), .ref (qf 10), .ref (qf 11), .ref (qf 12), .ref (qf 13), .ref (qf 14)]))], [(q 0, .inl (kA 4, 4, .inr (.inr (.inr (.inr (rr (g 0)))))))], [(g 0 j, .inr (3, [.int 0, .int 0, .int 1, .ref (qg 3), .ref (qg 4), .ref (qg 5), .ref (qg 6), .ref (qg 7), .ref (qg 8), .ref (qg 9), .ref (qg 10), .ref (qg 11), .ref (qg 12), .ref (qg 13), .ref (qg 14), .ref (qg 15), .null, .int 0, .int 0]))], [(qf 5, .inl (kA 0, 48, .inl (fun _ => 0)))], [(qf 10, .inl (kA 0, 24, .inl (fun _ => 0)))], [(qf 6, .inl (kA 0, 24, .inl (fun _ => 0)))], [(qf 11, .inl (kA 0, 24, .inl (fun _ => 0)))], [(h2, .inr (13, mF qm x0Mo y0Mo))], [(qm 3, .inl (kA 0, 4, .inl (fun _ => 0)))], [(qm 2, .inl (kA 0, 66836, .inl all0))], [(qm 21, .inl (kA 2, 576, .inl (fun _ => 0)))]]) H) (hD : va_D (fun q : Nat => s.heap.size ≤ q) (cat [[(h, .inr (12, [.ref (q 0), .ref (q 1), .ref (q 2), .ref (q 3), .ref (q 4), .ref (q 5), .ref (q 6), .int 0, .int ((-1)), .ref (q 9), .ref (q 10), .int 0, .int 0, .ref (q 13), .int 0, .int 0, .null, .null, .null, .null, .null]))], [(q 1, .inl (kA 5, 4, .inr (.inr (.inr (.inr (rr (g 1)))))))], [(g 1 j, .inr (2, [.int 0, .int 0, .int 0, .int 0, .ref (qf 4), .ref (qf 5), .ref (qf 6), .ref (qf 7), .ref (qf 8), .ref (qf 9), .ref (qf 10), .ref (qf 11), .ref (qf 12), .ref (qf 13), .ref (qf 14)]))], [(q 0, .inl (kA 4, 4, .inr (.inr (.inr (.inr (rr (g 0)))))))], [(g 0 j, .inr (3, [.int 0, .int 0, .int 1, .ref (qg 3), .ref (qg 4), .ref (qg 5), .ref (qg 6), .ref (qg 7), .ref (qg 8), .ref (qg 9), .ref (qg 10), .ref (qg 11), .ref (qg 12), .ref (qg 13), .ref (qg 14), .ref (qg 15), .null, .int 0, .int 0]))], [(qf 5, .inl (kA 0, 48, .inl (fun _ => 0)))], [(qf 10, .inl (kA 0, 24, .inl (fun _ => 0)))], [(qf 6, .inl (kA 0, 24, .inl (fun _ => 0)))], [(qf 11, .inl (kA 0, 24, .inl (fun _ => 0)))], [(h2, .inr (13, mF qm x0Mo y0Mo))], [(qm 3, .inl (kA 0, 4, .inl (fun _ => 0)))], [(qm 2, .inl (kA 0, 66836, .inl all0))], [(qm 21, .inl (kA 2, 576, .inl (fun _ => 0)))]])) (hS : va_S (fun q : Nat => s.heap.size ≤ q) s.heap H locs) (hl : lv_has ls 4 [(3, .int 0), (2, .ref h2), (1, .ref h), (0, .ref b)]) : W p l e room_1 s m #[Value.ref b] below meth c H locs 368 365796 (lw_Z below #[Value.ref b] s) (F0 m 279 ls []) := by
  obtain ⟨hx, hb, hr, hml, hown, hts0, hX, hbl, hlocks, hgv⟩ := id C0
  have hts : ∀ w ∈ lw_g, w.before #[Value.ref b] s = true := fun w h => hts0 w (lw_gt h)
  have X : cx p s m #[Value.ref b] meth c b_law_law 4 ret "DrawingHouseLaw" meth.name := ⟨hx, hb, hml, hown, hts, hr, hlocks, rfl⟩
  obtain ⟨A, hAe⟩ : ∃ A : Nat → Prop, A = fun q : Nat => s.heap.size ≤ q := ⟨_, rfl⟩
  have hA : ∀ q : Nat, s.heap.size ≤ q → A q := fun q h => by rw [hAe]; exact h
  have hbA : ¬ A b := by rw [hAe]; exact Nat.not_le.mpr hbl
  rw [← hAe] at hD hS
  refine lv_aload_n (pc := 279) hx hb d_law_law_279 rfl (lv_at hl 2 rfl) ?_
  refine lv_aload_n (pc := 280) hx hb d_law_law_280 rfl (lv_at hl 3 rfl) ?_
  refine lv_iload_n (pc := 281) hx hb d_law_law_281 rfl (lv_at hl 0 rfl) ?_
  refine lv_iconst (pc := 282) (v := 1) hx hb d_law_law_282 (by decide) ?_
  refine lv_iadd (pc := 283) hx hb d_law_law_283 ?_
  refine k_cst (v := 1) (by decide) ?_
  refine va_sld (pc := 284) hx hb hX hbl hbA hS (by unfold vp_in; decide) d_law_law_284 ?_
  refine k_cst (v := nI j) hv1 ?_
  refine lv_aload_n (pc := 285) hx hb d_law_law_285 rfl (lv_at hl 3 rfl) ?_
  refine lv_iload_n (pc := 286) hx hb d_law_law_286 rfl (lv_at hl 0 rfl) ?_
  refine lv_iconst (pc := 287) (v := 2) hx hb d_law_law_287 (by decide) ?_
  refine lv_iadd (pc := 288) hx hb d_law_law_288 ?_
  refine k_cst (v := 2) (by decide) ?_
  refine va_sld (pc := 289) hx hb hX hbl hbA hS (by unfold vp_in; decide) d_law_law_289 ?_
  refine k_cst (v := 5) hv2 ?_
  refine k_goI (gr := [[(h2, .inr (13, mF qm x0Mo y0Mo))], [(qm 3, .inl (kA 0, 4, .inl (fun _ => 0)))], [(qm 2, .inl (kA 0, 66836, .inl all0))], [(qm 21, .inl (kA 2, 576, .inl (fun _ => 0)))]]) (k_rV (pc := 290) (As := [.int (nI j), .int 5]) (rest := []) X (c_Ho_count_z8 l D kA h j (q 0) (q 1) (q 2) (q 3) (q 4) (q 5) (q 6) (q 9) (q 10) (q 13) g (qf 4) (qf 5) (qf 6) (qf 7) (qf 8) (qf 9) (qf 10) (qf 11) (qf 12) (qf 13) (qf 14) (qg 3) (qg 4) (qg 5) (qg 6) (qg 7) (qg 8) (qg 9) (qg 10) (qg 11) (qg 12) (qg 13) (qg 14) (qg 15) (fun _ => 0) (fun _ => 0) (fun _ => 0) (fun _ => 0) hj H.size) rfl wm_806 wm_1 wm_803 wm_804 wm_805 2 (by decide +kernel) ⟨Nat.le_of_ble_eq_true rfl, Nat.le_of_ble_eq_true rfl⟩ rfl rfl (va_recv hK hP (ci := 12) (q0 := 0) rfl rfl) (k_pre hN hK hP hD [0, 1, 2, 3, 4, 5, 6, 7, 8] [9, 10, 11, 12] 13 rfl (by decide) rfl) rfl hl.1 rfl (Nat.le_of_ble_eq_true rfl) d_law_law_290 ⟨Nat.le_of_ble_eq_true rfl, Nat.le_of_ble_eq_true rfl⟩) hP hD hS hA [0, 1, 2, 3, 4, 5, 6, 7, 8] [9, 10, 11, 12] 13 rfl (by decide) rfl rfl (fun r1 u2 H locs hu2 hP hD hS => ?_)
  obtain ⟨hP, hD⟩ := k_left hP hD
  subst hu2
  have hP : va_P D classes (cat [[(h2, .inr (13, mF qm x0Mo y0Mo))], [(qm 3, .inl (kA 0, 4, .inl (fun _ => 0)))], [(qm 2, .inl (kA 0, 66836, .inl all0))], [(qm 21, .inl (kA 2, 576, .inl (fun _ => 0)))]]) H := hP
  have hD : va_D A (cat [[(h2, .inr (13, mF qm x0Mo y0Mo))], [(qm 3, .inl (kA 0, 4, .inl (fun _ => 0)))], [(qm 2, .inl (kA 0, 66836, .inl all0))], [(qm 21, .inl (kA 2, 576, .inl (fun _ => 0)))]]) := hD
  refine lv_aload_n (pc := 293) hx hb d_law_law_293 rfl (lv_at hl 1 rfl) ?_
  refine lv_aload_n (pc := 294) hx hb d_law_law_294 rfl (lv_at hl 3 rfl) ?_
  refine lv_iload_n (pc := 295) hx hb d_law_law_295 rfl (lv_at hl 0 rfl) ?_
  refine lv_iconst (pc := 296) (v := 1) hx hb d_law_law_296 (by decide) ?_
  refine lv_iadd (pc := 297) hx hb d_law_law_297 ?_
  refine k_cst (v := 1) (by decide) ?_
  refine va_sld (pc := 298) hx hb hX hbl hbA hS (by unfold vp_in; decide) d_law_law_298 ?_
  refine k_cst (v := nI j) hv1 ?_
  refine lv_aload_n (pc := 299) hx hb d_law_law_299 rfl (lv_at hl 3 rfl) ?_
  refine lv_iload_n (pc := 300) hx hb d_law_law_300 rfl (lv_at hl 0 rfl) ?_
  refine lv_iconst (pc := 301) (v := 2) hx hb d_law_law_301 (by decide) ?_
  refine lv_iadd (pc := 302) hx hb d_law_law_302 ?_
  refine k_cst (v := 2) (by decide) ?_
  refine va_sld (pc := 303) hx hb hX hbl hbA hS (by unfold vp_in; decide) d_law_law_303 ?_
  refine k_cst (v := 5) hv2 ?_
  refine k_goI (gr := []) (k_rV (pc := 304) (As := [.int (nI j), .int 5]) (rest := [.int 0]) X (c_Mo_count_z8 l D kA h2 j qm (fun _ => 0) hj H.size) rfl wm_3279 wm_9 wm_3276 wm_3277 wm_3278 2 (by decide +kernel) ⟨Nat.le_of_ble_eq_true rfl, Nat.le_of_ble_eq_true rfl⟩ rfl rfl (va_recv hK hP (ci := 13) (q0 := 0) rfl rfl) (k_pre hN hK hP hD [0, 1, 2, 3] [] 4 rfl (by decide) rfl) rfl hl.1 rfl (Nat.le_of_ble_eq_true rfl) d_law_law_304 ⟨Nat.le_of_ble_eq_true rfl, Nat.le_of_ble_eq_true rfl⟩) hP hD hS hA [0, 1, 2, 3] [] 4 rfl (by decide) rfl rfl (fun r3 u4 H locs hu4 hP hD hS => ?_)
  obtain ⟨hP, hD⟩ := k_left hP hD
  subst hu4
  have hP : va_P D classes (cat []) H := hP
  have hD : va_D A (cat []) := hD
  refine lv_icmp_eq (pc := 307) (tgt := 1295) hx hb d_law_law_307 (by decide) (fun _ => ?_) (fun c1 => absurd (by decide) c1)
  rw [hAe] at hS
  exact law_exit l C0 (Nat.le_of_ble_eq_true rfl) (Nat.le_of_ble_eq_true rfl) hS hl
set_option maxRecDepth 100000 in
set_option maxHeartbeats 4000000 in
/-- DrawingHouse.count(II)I -/
theorem c_Ho_count_z9 (l : Launch) (D : va_G) (kA : Nat → ClassId) (a0 : Nat) (j : Nat) (a1 : Nat) (a2 : Nat) (a3 : Nat) (a4 : Nat) (a5 : Nat) (a6 : Nat) (a7 : Nat) (a8 : Nat) (a9 : Nat) (a10 : Nat) (g : Nat → Nat → Nat) (a11 : Nat) (a12 : Nat) (a13 : Nat) (a14 : Nat) (a15 : Nat) (a16 : Nat) (a17 : Nat) (a18 : Nat) (a19 : Nat) (a20 : Nat) (a21 : Nat) (a22 : Nat) (a23 : Nat) (hj : j < 4) : Ci l y_Ho_count z_Ho_count { frames := 1, cells := 0, slots := 0, locals := 20 } D classes (TY kA) [.ref a0, .int (nI j), .int 6] [[(a0, .inr (12, [.ref a1, .ref a2, .ref a3, .ref a4, .ref a5, .ref a6, .ref a7, .int 0, .int ((-1)), .ref a8, .ref a9, .int 0, .int 0, .ref a10, .int 0, .int 0, .null, .null, .null, .null, .null]))], [(a1, .inl (kA 4, 4, .inr (.inr (.inr (.inr (rr (g 0)))))))], [(g 0 j, .inr (3, [.int 0, .int 0, .int 1, .ref a11, .ref a12, .ref a13, .ref a14, .ref a15, .ref a16, .ref a17, .ref a18, .ref a19, .ref a20, .ref a21, .ref a22, .ref a23, .null, .int 0, .int 0]))]] (fun r (_ : List va_W) => r = 0) (fun u => u) 0 0 := by
  intro sz
  refine k_met (cc := b_Ho_count) (maxL := 3) (ret := (some .int)) (by decide) rfl (Nat.le_of_ble_eq_true rfl) (fun p e s m below meth c ls X hl hB => ?_)
  obtain ⟨hsz, hP, hK, hD0, hN⟩ := hB
  subst hsz
  have hD := hD0.self (sz := s.heap.size)
  generalize hAe : va_A (cat [[(a0, .inr (12, [.ref a1, .ref a2, .ref a3, .ref a4, .ref a5, .ref a6, .ref a7, .int 0, .int ((-1)), .ref a8, .ref a9, .int 0, .int 0, .ref a10, .int 0, .int 0, .null, .null, .null, .null, .null]))], [(a1, .inl (kA 4, 4, .inr (.inr (.inr (.inr (rr (g 0)))))))], [(g 0 j, .inr (3, [.int 0, .int 0, .int 1, .ref a11, .ref a12, .ref a13, .ref a14, .ref a15, .ref a16, .ref a17, .ref a18, .ref a19, .ref a20, .ref a21, .ref a22, .ref a23, .null, .int 0, .int 0]))]]) s.heap.size = A at hD ⊢
  have hA : ∀ q : Nat, s.heap.size ≤ q → A q := fun q h => by rw [← hAe]; exact Or.inr h
  have hS : va_S A s.heap s.heap [] := va_S.rf
  obtain ⟨hx, hb, hml, hown, hts, hr, hlk, hnm⟩ := id X
  have hl : lv_has ls 3 [(0, .ref a0), (1, .int (nI j)), (2, .int 6)] := hl
  have hP : va_P D classes (cat [[(a0, .inr (12, [.ref a1, .ref a2, .ref a3, .ref a4, .ref a5, .ref a6, .ref a7, .int 0, .int ((-1)), .ref a8, .ref a9, .int 0, .int 0, .ref a10, .int 0, .int 0, .null, .null, .null, .null, .null]))], [(a1, .inl (kA 4, 4, .inr (.inr (.inr (.inr (rr (g 0)))))))], [(g 0 j, .inr (3, [.int 0, .int 0, .int 1, .ref a11, .ref a12, .ref a13, .ref a14, .ref a15, .ref a16, .ref a17, .ref a18, .ref a19, .ref a20, .ref a21, .ref a22, .ref a23, .null, .int 0, .int 0]))]]) s.heap := hP
  have hK : va_K D classes (TY kA) s := hK
  refine lv_iload_n (pc := 0) hx hb d_Ho_count_0 rfl (lv_at hl 1 rfl) ?_
  refine k_goI (gr := [[(a0, .inr (12, [.ref a1, .ref a2, .ref a3, .ref a4, .ref a5, .ref a6, .ref a7, .int 0, .int ((-1)), .ref a8, .ref a9, .int 0, .int 0, .ref a10, .int 0, .int 0, .null, .null, .null, .null, .null]))], [(a1, .inl (kA 4, 4, .inr (.inr (.inr (.inr (rr (g 0)))))))], [(g 0 j, .inr (3, [.int 0, .int 0, .int 1, .ref a11, .ref a12, .ref a13, .ref a14, .ref a15, .ref a16, .ref a17, .ref a18, .ref a19, .ref a20, .ref a21, .ref a22, .ref a23, .null, .int 0, .int 0]))]]) (k_rS (pc := 1) (As := [.int (nI j)]) (rest := []) X (c_Ho_isPlace l D kA (nI j) s.heap.size) rfl wm_633 wm_1 wm_631 wm_632 1 (by decide +kernel) ⟨Nat.le_of_ble_eq_true rfl, Nat.le_of_ble_eq_true rfl⟩ rfl rfl (k_pre hN hK hP hD [] [0, 1, 2] 3 rfl (by decide) rfl) rfl hl.1 rfl (Nat.le_of_ble_eq_true rfl) d_Ho_count_1 ⟨Nat.le_of_ble_eq_true rfl, Nat.le_of_ble_eq_true rfl⟩) hP hD hS hA [] [0, 1, 2] 3 rfl (by decide) rfl rfl (fun r1 u2 H locs hu2 hP hD hS => ?_)
  subst hu2
  refine k_cst (v := 1) (place_ok hj) ?_
  have hP : va_P D classes (cat [[(a0, .inr (12, [.ref a1, .ref a2, .ref a3, .ref a4, .ref a5, .ref a6, .ref a7, .int 0, .int ((-1)), .ref a8, .ref a9, .int 0, .int 0, .ref a10, .int 0, .int 0, .null, .null, .null, .null, .null]))], [(a1, .inl (kA 4, 4, .inr (.inr (.inr (.inr (rr (g 0)))))))], [(g 0 j, .inr (3, [.int 0, .int 0, .int 1, .ref a11, .ref a12, .ref a13, .ref a14, .ref a15, .ref a16, .ref a17, .ref a18, .ref a19, .ref a20, .ref a21, .ref a22, .ref a23, .null, .int 0, .int 0]))]]) H := hP
  have hD : va_D A (cat [[(a0, .inr (12, [.ref a1, .ref a2, .ref a3, .ref a4, .ref a5, .ref a6, .ref a7, .int 0, .int ((-1)), .ref a8, .ref a9, .int 0, .int 0, .ref a10, .int 0, .int 0, .null, .null, .null, .null, .null]))], [(a1, .inl (kA 4, 4, .inr (.inr (.inr (.inr (rr (g 0)))))))], [(g 0 j, .inr (3, [.int 0, .int 0, .int 1, .ref a11, .ref a12, .ref a13, .ref a14, .ref a15, .ref a16, .ref a17, .ref a18, .ref a19, .ref a20, .ref a21, .ref a22, .ref a23, .null, .int 0, .int 0]))]]) := hD
  refine lv_if_ne (pc := 4) (tgt := 9) hx hb d_Ho_count_4 (by decide) (fun c1 => ?_) (fun c1 => absurd c1 (by decide))
  refine lv_iload_n (pc := 9) hx hb d_Ho_count_9 rfl (lv_at hl 2 rfl) ?_
  refine lv_tableIn (pc := 10) (tgt := 113) hx hb d_Ho_count_10 (by decide) (by decide) rfl (by decide) ?_
  refine lv_aload_n (pc := 113) hx hb d_Ho_count_113 rfl (lv_at hl 0 rfl) ?_
  refine k_get (pc := 114) X hK hP 0 rfl rfl i_Ho 0 (by decide) wm_555 rfl rfl d_Ho_count_114 ?_
  refine lv_iload_n (pc := 117) hx hb d_Ho_count_117 rfl (lv_at hl 1 rfl) ?_
  refine k_ald (pc := 118) hx hb hK hP 1 4 rfl rfl (j) rfl (by omega) (by decide) (rr_at (by omega)) d_Ho_count_118 ?_
  refine k_get (pc := 119) X hK hP 2 rfl rfl i_Gr 17 (by decide) wm_150 rfl rfl d_Ho_count_119 ?_
  refine W.widen (k := 0) (n := 0) (Nat.le_of_ble_eq_true rfl) (Nat.le_of_ble_eq_true rfl) ?_
  exact W.iret (v := 0) hx hb hr (fun t ht hW => ⟨⟨0, [[(a0, .inr (12, [.ref a1, .ref a2, .ref a3, .ref a4, .ref a5, .ref a6, .ref a7, .int 0, .int ((-1)), .ref a8, .ref a9, .int 0, .int 0, .ref a10, .int 0, .int 0, .null, .null, .null, .null, .null]))], [(a1, .inl (kA 4, 4, .inr (.inr (.inr (.inr (rr (g 0)))))))], [(g 0 j, .inr (3, [.int 0, .int 0, .int 1, .ref a11, .ref a12, .ref a13, .ref a14, .ref a15, .ref a16, .ref a17, .ref a18, .ref a19, .ref a20, .ref a21, .ref a22, .ref a23, .null, .int 0, .int 0]))]], rfl, rfl, by rw [ht]; exact hP, va_K.moved hW.alike hK, hD⟩, hS.F ht⟩) hS.2.2 d_Ho_count_122
set_option maxRecDepth 100000 in
set_option maxHeartbeats 4000000 in
/-- DrawingHouseModel.count(II)I -/
theorem c_Mo_count_z9 (l : Launch) (D : va_G) (kA : Nat → ClassId) (a0 : Nat) (j : Nat) (qm : Nat → Nat) (hj : j < 4) : Ci l y_Mo_count z_Mo_count { frames := 2, cells := 0, slots := 0, locals := 42 } D classes (TY kA) [.ref a0, .int (nI j), .int 6] [[(a0, .inr (13, mF qm x0Mo y0Mo))], [(qm 3, .inl (kA 0, 4, .inl (fun _ => 0)))]] (fun r (_ : List va_W) => r = 0) (fun u => u) 0 0 := by
  intro sz
  refine k_met (cc := b_Mo_count) (maxL := 3) (ret := (some .int)) (by decide) rfl (Nat.le_of_ble_eq_true rfl) (fun p e s m below meth c ls X hl hB => ?_)
  obtain ⟨hsz, hP, hK, hD0, hN⟩ := hB
  subst hsz
  have hD := hD0.self (sz := s.heap.size)
  generalize hAe : va_A (cat [[(a0, .inr (13, mF qm x0Mo y0Mo))], [(qm 3, .inl (kA 0, 4, .inl (fun _ => 0)))]]) s.heap.size = A at hD ⊢
  have hA : ∀ q : Nat, s.heap.size ≤ q → A q := fun q h => by rw [← hAe]; exact Or.inr h
  have hS : va_S A s.heap s.heap [] := va_S.rf
  obtain ⟨hx, hb, hml, hown, hts, hr, hlk, hnm⟩ := id X
  have hl : lv_has ls 3 [(0, .ref a0), (1, .int (nI j)), (2, .int 6)] := hl
  have hP : va_P D classes (cat [[(a0, .inr (13, mF qm x0Mo y0Mo))], [(qm 3, .inl (kA 0, 4, .inl (fun _ => 0)))]]) s.heap := hP
  have hK : va_K D classes (TY kA) s := hK
  refine lv_iload_n (pc := 0) hx hb d_Mo_count_0 rfl (lv_at hl 1 rfl) ?_
  refine k_goI (gr := [[(a0, .inr (13, mF qm x0Mo y0Mo))], [(qm 3, .inl (kA 0, 4, .inl (fun _ => 0)))]]) (k_rS (pc := 1) (As := [.int (nI j)]) (rest := []) X (c_Mo_isPlace l D kA (nI j) s.heap.size) rfl wm_2978 wm_9 wm_2976 wm_2977 1 (by decide +kernel) ⟨Nat.le_of_ble_eq_true rfl, Nat.le_of_ble_eq_true rfl⟩ rfl rfl (k_pre hN hK hP hD [] [0, 1] 2 rfl (by decide) rfl) rfl hl.1 rfl (Nat.le_of_ble_eq_true rfl) d_Mo_count_1 ⟨Nat.le_of_ble_eq_true rfl, Nat.le_of_ble_eq_true rfl⟩) hP hD hS hA [] [0, 1] 2 rfl (by decide) rfl rfl (fun r1 u2 H locs hu2 hP hD hS => ?_)
  subst hu2
  refine k_cst (v := 1) (placeM_ok hj) ?_
  have hP : va_P D classes (cat [[(a0, .inr (13, mF qm x0Mo y0Mo))], [(qm 3, .inl (kA 0, 4, .inl (fun _ => 0)))]]) H := hP
  have hD : va_D A (cat [[(a0, .inr (13, mF qm x0Mo y0Mo))], [(qm 3, .inl (kA 0, 4, .inl (fun _ => 0)))]]) := hD
  refine lv_if_ne (pc := 4) (tgt := 9) hx hb d_Mo_count_4 (by decide) (fun c1 => ?_) (fun c1 => absurd c1 (by decide))
  refine lv_aload_n (pc := 9) hx hb d_Mo_count_9 rfl (lv_at hl 0 rfl) ?_
  refine lv_iload_n (pc := 10) hx hb d_Mo_count_10 rfl (lv_at hl 1 rfl) ?_
  refine k_goV (gr := []) (k_rV (pc := 11) (As := [.int (nI j)]) (rest := []) X (c_Mo_take_z1 l D kA a0 j qm hj H.size) rfl wm_3091 wm_9 wm_3088 wm_3090 wv_14_2 1 (by decide +kernel) ⟨Nat.le_of_ble_eq_true rfl, Nat.le_of_ble_eq_true rfl⟩ rfl rfl (va_recv hK hP (ci := 13) (q0 := 0) rfl rfl) (k_pre hN hK hP hD [0, 1] [] 2 rfl (by decide) rfl) rfl hl.1 rfl (Nat.le_of_ble_eq_true rfl) d_Mo_count_11 ⟨Nat.le_of_ble_eq_true rfl, Nat.le_of_ble_eq_true rfl⟩) hP hD hS hA [0, 1] [] 2 rfl (by decide) rfl rfl (fun u3 H locs hu3 hP hD hS => ?_)
  have hP : va_P D classes (cat [[(a0, .inr (13, mF qm (va_up x0Mo 5 (nI (539 * (31 * j + 0)))) y0Mo))], [(qm 3, .inl (kA 0, 4, .inl (fun _ => 0)))]]) H := hP
  have hD : va_D A (cat [[(a0, .inr (13, mF qm (va_up x0Mo 5 (nI (539 * (31 * j + 0)))) y0Mo))], [(qm 3, .inl (kA 0, 4, .inl (fun _ => 0)))]]) := hD
  refine lv_iload_n (pc := 14) hx hb d_Mo_count_14 rfl (lv_at hl 2 rfl) ?_
  refine lv_tableIn (pc := 15) (tgt := 95) hx hb d_Mo_count_15 (by decide) (by decide) rfl (by decide) ?_
  refine lv_aload_n (pc := 95) hx hb d_Mo_count_95 rfl (lv_at hl 0 rfl) ?_
  refine k_get (pc := 96) (v := .ref (qm 3)) X hK hP 0 rfl rfl i_Mo 3 (by decide) wm_2436 rfl rfl d_Mo_count_96 ?_
  refine lv_iload_n (pc := 99) hx hb d_Mo_count_99 rfl (lv_at hl 1 rfl) ?_
  refine k_ild (pc := 100) hx hb hK hP 1 0 rfl rfl (j) rfl (by omega) (by decide) d_Mo_count_100 ?_
  refine k_cst (v := 0) (by rfl) ?_
  refine W.widen (k := 0) (n := 0) (Nat.le_of_ble_eq_true rfl) (Nat.le_of_ble_eq_true rfl) ?_
  exact W.iret (v := 0) hx hb hr (fun t ht hW => ⟨⟨0, [[(a0, .inr (13, mF qm (va_up x0Mo 5 (nI (539 * (31 * j + 0)))) y0Mo))], [(qm 3, .inl (kA 0, 4, .inl (fun _ => 0)))]], rfl, rfl, by rw [ht]; exact hP, va_K.moved hW.alike hK, hD⟩, hS.F ht⟩) hS.2.2 d_Mo_count_101
set_option maxRecDepth 100000 in
set_option maxHeartbeats 4000000 in
/-- count, a fresh house -/
theorem lf_count_9 {p : Program} {e : Env} {s : State} {m : MethodId} {below : List Frame} {meth : Method} {c : Code} (l : Launch) {b : Nat} {xs : Nat → Int32} (C0 : lw_At p s m meth c b 6 xs) {D : va_G} {kA : Nat → ClassId} (h : Nat) (h2 : Nat) (q : Nat → Nat) (qg : Nat → Nat) (qm : Nat → Nat) (g : Nat → Nat → Nat) (j : Nat) (hj : j < 4) (hv1 : xs 1 = nI j) (hv2 : xs 2 = 6) {H : Heap} {locs : List Loc} {ls : Array Slot} (hK : va_K D classes (TY kA) s) (hN : nst s) (hP : va_P D classes (cat [[(h, .inr (12, [.ref (q 0), .ref (q 1), .ref (q 2), .ref (q 3), .ref (q 4), .ref (q 5), .ref (q 6), .int 0, .int ((-1)), .ref (q 9), .ref (q 10), .int 0, .int 0, .ref (q 13), .int 0, .int 0, .null, .null, .null, .null, .null]))], [(q 0, .inl (kA 4, 4, .inr (.inr (.inr (.inr (rr (g 0)))))))], [(g 0 j, .inr (3, [.int 0, .int 0, .int 1, .ref (qg 3), .ref (qg 4), .ref (qg 5), .ref (qg 6), .ref (qg 7), .ref (qg 8), .ref (qg 9), .ref (qg 10), .ref (qg 11), .ref (qg 12), .ref (qg 13), .ref (qg 14), .ref (qg 15), .null, .int 0, .int 0]))], [(h2, .inr (13, mF qm x0Mo y0Mo))], [(qm 3, .inl (kA 0, 4, .inl (fun _ => 0)))]]) H) (hD : va_D (fun q : Nat => s.heap.size ≤ q) (cat [[(h, .inr (12, [.ref (q 0), .ref (q 1), .ref (q 2), .ref (q 3), .ref (q 4), .ref (q 5), .ref (q 6), .int 0, .int ((-1)), .ref (q 9), .ref (q 10), .int 0, .int 0, .ref (q 13), .int 0, .int 0, .null, .null, .null, .null, .null]))], [(q 0, .inl (kA 4, 4, .inr (.inr (.inr (.inr (rr (g 0)))))))], [(g 0 j, .inr (3, [.int 0, .int 0, .int 1, .ref (qg 3), .ref (qg 4), .ref (qg 5), .ref (qg 6), .ref (qg 7), .ref (qg 8), .ref (qg 9), .ref (qg 10), .ref (qg 11), .ref (qg 12), .ref (qg 13), .ref (qg 14), .ref (qg 15), .null, .int 0, .int 0]))], [(h2, .inr (13, mF qm x0Mo y0Mo))], [(qm 3, .inl (kA 0, 4, .inl (fun _ => 0)))]])) (hS : va_S (fun q : Nat => s.heap.size ≤ q) s.heap H locs) (hl : lv_has ls 4 [(3, .int 0), (2, .ref h2), (1, .ref h), (0, .ref b)]) : W p l e room_1 s m #[Value.ref b] below meth c H locs 368 365796 (lw_Z below #[Value.ref b] s) (F0 m 279 ls []) := by
  obtain ⟨hx, hb, hr, hml, hown, hts0, hX, hbl, hlocks, hgv⟩ := id C0
  have hts : ∀ w ∈ lw_g, w.before #[Value.ref b] s = true := fun w h => hts0 w (lw_gt h)
  have X : cx p s m #[Value.ref b] meth c b_law_law 4 ret "DrawingHouseLaw" meth.name := ⟨hx, hb, hml, hown, hts, hr, hlocks, rfl⟩
  obtain ⟨A, hAe⟩ : ∃ A : Nat → Prop, A = fun q : Nat => s.heap.size ≤ q := ⟨_, rfl⟩
  have hA : ∀ q : Nat, s.heap.size ≤ q → A q := fun q h => by rw [hAe]; exact h
  have hbA : ¬ A b := by rw [hAe]; exact Nat.not_le.mpr hbl
  rw [← hAe] at hD hS
  refine lv_aload_n (pc := 279) hx hb d_law_law_279 rfl (lv_at hl 2 rfl) ?_
  refine lv_aload_n (pc := 280) hx hb d_law_law_280 rfl (lv_at hl 3 rfl) ?_
  refine lv_iload_n (pc := 281) hx hb d_law_law_281 rfl (lv_at hl 0 rfl) ?_
  refine lv_iconst (pc := 282) (v := 1) hx hb d_law_law_282 (by decide) ?_
  refine lv_iadd (pc := 283) hx hb d_law_law_283 ?_
  refine k_cst (v := 1) (by decide) ?_
  refine va_sld (pc := 284) hx hb hX hbl hbA hS (by unfold vp_in; decide) d_law_law_284 ?_
  refine k_cst (v := nI j) hv1 ?_
  refine lv_aload_n (pc := 285) hx hb d_law_law_285 rfl (lv_at hl 3 rfl) ?_
  refine lv_iload_n (pc := 286) hx hb d_law_law_286 rfl (lv_at hl 0 rfl) ?_
  refine lv_iconst (pc := 287) (v := 2) hx hb d_law_law_287 (by decide) ?_
  refine lv_iadd (pc := 288) hx hb d_law_law_288 ?_
  refine k_cst (v := 2) (by decide) ?_
  refine va_sld (pc := 289) hx hb hX hbl hbA hS (by unfold vp_in; decide) d_law_law_289 ?_
  refine k_cst (v := 6) hv2 ?_
  refine k_goI (gr := [[(h2, .inr (13, mF qm x0Mo y0Mo))], [(qm 3, .inl (kA 0, 4, .inl (fun _ => 0)))]]) (k_rV (pc := 290) (As := [.int (nI j), .int 6]) (rest := []) X (c_Ho_count_z9 l D kA h j (q 0) (q 1) (q 2) (q 3) (q 4) (q 5) (q 6) (q 9) (q 10) (q 13) g (qg 3) (qg 4) (qg 5) (qg 6) (qg 7) (qg 8) (qg 9) (qg 10) (qg 11) (qg 12) (qg 13) (qg 14) (qg 15) hj H.size) rfl wm_806 wm_1 wm_803 wm_804 wm_805 2 (by decide +kernel) ⟨Nat.le_of_ble_eq_true rfl, Nat.le_of_ble_eq_true rfl⟩ rfl rfl (va_recv hK hP (ci := 12) (q0 := 0) rfl rfl) (k_pre hN hK hP hD [0, 1, 2] [3, 4] 5 rfl (by decide) rfl) rfl hl.1 rfl (Nat.le_of_ble_eq_true rfl) d_law_law_290 ⟨Nat.le_of_ble_eq_true rfl, Nat.le_of_ble_eq_true rfl⟩) hP hD hS hA [0, 1, 2] [3, 4] 5 rfl (by decide) rfl rfl (fun r1 u2 H locs hu2 hP hD hS => ?_)
  obtain ⟨hP, hD⟩ := k_left hP hD
  subst hu2
  have hP : va_P D classes (cat [[(h2, .inr (13, mF qm x0Mo y0Mo))], [(qm 3, .inl (kA 0, 4, .inl (fun _ => 0)))]]) H := hP
  have hD : va_D A (cat [[(h2, .inr (13, mF qm x0Mo y0Mo))], [(qm 3, .inl (kA 0, 4, .inl (fun _ => 0)))]]) := hD
  refine lv_aload_n (pc := 293) hx hb d_law_law_293 rfl (lv_at hl 1 rfl) ?_
  refine lv_aload_n (pc := 294) hx hb d_law_law_294 rfl (lv_at hl 3 rfl) ?_
  refine lv_iload_n (pc := 295) hx hb d_law_law_295 rfl (lv_at hl 0 rfl) ?_
  refine lv_iconst (pc := 296) (v := 1) hx hb d_law_law_296 (by decide) ?_
  refine lv_iadd (pc := 297) hx hb d_law_law_297 ?_
  refine k_cst (v := 1) (by decide) ?_
  refine va_sld (pc := 298) hx hb hX hbl hbA hS (by unfold vp_in; decide) d_law_law_298 ?_
  refine k_cst (v := nI j) hv1 ?_
  refine lv_aload_n (pc := 299) hx hb d_law_law_299 rfl (lv_at hl 3 rfl) ?_
  refine lv_iload_n (pc := 300) hx hb d_law_law_300 rfl (lv_at hl 0 rfl) ?_
  refine lv_iconst (pc := 301) (v := 2) hx hb d_law_law_301 (by decide) ?_
  refine lv_iadd (pc := 302) hx hb d_law_law_302 ?_
  refine k_cst (v := 2) (by decide) ?_
  refine va_sld (pc := 303) hx hb hX hbl hbA hS (by unfold vp_in; decide) d_law_law_303 ?_
  refine k_cst (v := 6) hv2 ?_
  refine k_goI (gr := []) (k_rV (pc := 304) (As := [.int (nI j), .int 6]) (rest := [.int 0]) X (c_Mo_count_z9 l D kA h2 j qm hj H.size) rfl wm_3279 wm_9 wm_3276 wm_3277 wm_3278 2 (by decide +kernel) ⟨Nat.le_of_ble_eq_true rfl, Nat.le_of_ble_eq_true rfl⟩ rfl rfl (va_recv hK hP (ci := 13) (q0 := 0) rfl rfl) (k_pre hN hK hP hD [0, 1] [] 2 rfl (by decide) rfl) rfl hl.1 rfl (Nat.le_of_ble_eq_true rfl) d_law_law_304 ⟨Nat.le_of_ble_eq_true rfl, Nat.le_of_ble_eq_true rfl⟩) hP hD hS hA [0, 1] [] 2 rfl (by decide) rfl rfl (fun r3 u4 H locs hu4 hP hD hS => ?_)
  obtain ⟨hP, hD⟩ := k_left hP hD
  subst hu4
  have hP : va_P D classes (cat []) H := hP
  have hD : va_D A (cat []) := hD
  refine lv_icmp_eq (pc := 307) (tgt := 1295) hx hb d_law_law_307 (by decide) (fun _ => ?_) (fun c1 => absurd (by decide) c1)
  rw [hAe] at hS
  exact law_exit l C0 (Nat.le_of_ble_eq_true rfl) (Nat.le_of_ble_eq_true rfl) hS hl
set_option maxRecDepth 100000 in
set_option maxHeartbeats 4000000 in
/-- DrawingHouse.count(II)I -/
theorem c_Ho_count_z10 (l : Launch) (D : va_G) (kA : Nat → ClassId) (a0 : Nat) (j : Nat) (a1 : Nat) (a2 : Nat) (a3 : Nat) (a4 : Nat) (a5 : Nat) (a6 : Nat) (a7 : Nat) (a8 : Nat) (a9 : Nat) (a10 : Nat) (g : Nat → Nat → Nat) (a11 : Nat) (a12 : Nat) (a13 : Nat) (a14 : Nat) (a15 : Nat) (a16 : Nat) (a17 : Nat) (a18 : Nat) (a19 : Nat) (a20 : Nat) (a21 : Nat) (a22 : Nat) (a23 : Nat) (hj : j < 4) : Ci l y_Ho_count z_Ho_count { frames := 1, cells := 0, slots := 0, locals := 20 } D classes (TY kA) [.ref a0, .int (nI j), .int 7] [[(a0, .inr (12, [.ref a1, .ref a2, .ref a3, .ref a4, .ref a5, .ref a6, .ref a7, .int 0, .int ((-1)), .ref a8, .ref a9, .int 0, .int 0, .ref a10, .int 0, .int 0, .null, .null, .null, .null, .null]))], [(a1, .inl (kA 4, 4, .inr (.inr (.inr (.inr (rr (g 0)))))))], [(g 0 j, .inr (3, [.int 0, .int 0, .int 1, .ref a11, .ref a12, .ref a13, .ref a14, .ref a15, .ref a16, .ref a17, .ref a18, .ref a19, .ref a20, .ref a21, .ref a22, .ref a23, .null, .int 0, .int 0]))]] (fun r (_ : List va_W) => r = 0) (fun u => u) 0 0 := by
  intro sz
  refine k_met (cc := b_Ho_count) (maxL := 3) (ret := (some .int)) (by decide) rfl (Nat.le_of_ble_eq_true rfl) (fun p e s m below meth c ls X hl hB => ?_)
  obtain ⟨hsz, hP, hK, hD0, hN⟩ := hB
  subst hsz
  have hD := hD0.self (sz := s.heap.size)
  generalize hAe : va_A (cat [[(a0, .inr (12, [.ref a1, .ref a2, .ref a3, .ref a4, .ref a5, .ref a6, .ref a7, .int 0, .int ((-1)), .ref a8, .ref a9, .int 0, .int 0, .ref a10, .int 0, .int 0, .null, .null, .null, .null, .null]))], [(a1, .inl (kA 4, 4, .inr (.inr (.inr (.inr (rr (g 0)))))))], [(g 0 j, .inr (3, [.int 0, .int 0, .int 1, .ref a11, .ref a12, .ref a13, .ref a14, .ref a15, .ref a16, .ref a17, .ref a18, .ref a19, .ref a20, .ref a21, .ref a22, .ref a23, .null, .int 0, .int 0]))]]) s.heap.size = A at hD ⊢
  have hA : ∀ q : Nat, s.heap.size ≤ q → A q := fun q h => by rw [← hAe]; exact Or.inr h
  have hS : va_S A s.heap s.heap [] := va_S.rf
  obtain ⟨hx, hb, hml, hown, hts, hr, hlk, hnm⟩ := id X
  have hl : lv_has ls 3 [(0, .ref a0), (1, .int (nI j)), (2, .int 7)] := hl
  have hP : va_P D classes (cat [[(a0, .inr (12, [.ref a1, .ref a2, .ref a3, .ref a4, .ref a5, .ref a6, .ref a7, .int 0, .int ((-1)), .ref a8, .ref a9, .int 0, .int 0, .ref a10, .int 0, .int 0, .null, .null, .null, .null, .null]))], [(a1, .inl (kA 4, 4, .inr (.inr (.inr (.inr (rr (g 0)))))))], [(g 0 j, .inr (3, [.int 0, .int 0, .int 1, .ref a11, .ref a12, .ref a13, .ref a14, .ref a15, .ref a16, .ref a17, .ref a18, .ref a19, .ref a20, .ref a21, .ref a22, .ref a23, .null, .int 0, .int 0]))]]) s.heap := hP
  have hK : va_K D classes (TY kA) s := hK
  refine lv_iload_n (pc := 0) hx hb d_Ho_count_0 rfl (lv_at hl 1 rfl) ?_
  refine k_goI (gr := [[(a0, .inr (12, [.ref a1, .ref a2, .ref a3, .ref a4, .ref a5, .ref a6, .ref a7, .int 0, .int ((-1)), .ref a8, .ref a9, .int 0, .int 0, .ref a10, .int 0, .int 0, .null, .null, .null, .null, .null]))], [(a1, .inl (kA 4, 4, .inr (.inr (.inr (.inr (rr (g 0)))))))], [(g 0 j, .inr (3, [.int 0, .int 0, .int 1, .ref a11, .ref a12, .ref a13, .ref a14, .ref a15, .ref a16, .ref a17, .ref a18, .ref a19, .ref a20, .ref a21, .ref a22, .ref a23, .null, .int 0, .int 0]))]]) (k_rS (pc := 1) (As := [.int (nI j)]) (rest := []) X (c_Ho_isPlace l D kA (nI j) s.heap.size) rfl wm_633 wm_1 wm_631 wm_632 1 (by decide +kernel) ⟨Nat.le_of_ble_eq_true rfl, Nat.le_of_ble_eq_true rfl⟩ rfl rfl (k_pre hN hK hP hD [] [0, 1, 2] 3 rfl (by decide) rfl) rfl hl.1 rfl (Nat.le_of_ble_eq_true rfl) d_Ho_count_1 ⟨Nat.le_of_ble_eq_true rfl, Nat.le_of_ble_eq_true rfl⟩) hP hD hS hA [] [0, 1, 2] 3 rfl (by decide) rfl rfl (fun r1 u2 H locs hu2 hP hD hS => ?_)
  subst hu2
  refine k_cst (v := 1) (place_ok hj) ?_
  have hP : va_P D classes (cat [[(a0, .inr (12, [.ref a1, .ref a2, .ref a3, .ref a4, .ref a5, .ref a6, .ref a7, .int 0, .int ((-1)), .ref a8, .ref a9, .int 0, .int 0, .ref a10, .int 0, .int 0, .null, .null, .null, .null, .null]))], [(a1, .inl (kA 4, 4, .inr (.inr (.inr (.inr (rr (g 0)))))))], [(g 0 j, .inr (3, [.int 0, .int 0, .int 1, .ref a11, .ref a12, .ref a13, .ref a14, .ref a15, .ref a16, .ref a17, .ref a18, .ref a19, .ref a20, .ref a21, .ref a22, .ref a23, .null, .int 0, .int 0]))]]) H := hP
  have hD : va_D A (cat [[(a0, .inr (12, [.ref a1, .ref a2, .ref a3, .ref a4, .ref a5, .ref a6, .ref a7, .int 0, .int ((-1)), .ref a8, .ref a9, .int 0, .int 0, .ref a10, .int 0, .int 0, .null, .null, .null, .null, .null]))], [(a1, .inl (kA 4, 4, .inr (.inr (.inr (.inr (rr (g 0)))))))], [(g 0 j, .inr (3, [.int 0, .int 0, .int 1, .ref a11, .ref a12, .ref a13, .ref a14, .ref a15, .ref a16, .ref a17, .ref a18, .ref a19, .ref a20, .ref a21, .ref a22, .ref a23, .null, .int 0, .int 0]))]]) := hD
  refine lv_if_ne (pc := 4) (tgt := 9) hx hb d_Ho_count_4 (by decide) (fun c1 => ?_) (fun c1 => absurd c1 (by decide))
  refine lv_iload_n (pc := 9) hx hb d_Ho_count_9 rfl (lv_at hl 2 rfl) ?_
  refine lv_tableIn (pc := 10) (tgt := 123) hx hb d_Ho_count_10 (by decide) (by decide) rfl (by decide) ?_
  refine lv_aload_n (pc := 123) hx hb d_Ho_count_123 rfl (lv_at hl 0 rfl) ?_
  refine k_get (pc := 124) X hK hP 0 rfl rfl i_Ho 0 (by decide) wm_555 rfl rfl d_Ho_count_124 ?_
  refine lv_iload_n (pc := 127) hx hb d_Ho_count_127 rfl (lv_at hl 1 rfl) ?_
  refine k_ald (pc := 128) hx hb hK hP 1 4 rfl rfl (j) rfl (by omega) (by decide) (rr_at (by omega)) d_Ho_count_128 ?_
  refine k_get (pc := 129) X hK hP 2 rfl rfl i_Gr 18 (by decide) wm_152 rfl rfl d_Ho_count_129 ?_
  refine W.widen (k := 0) (n := 0) (Nat.le_of_ble_eq_true rfl) (Nat.le_of_ble_eq_true rfl) ?_
  exact W.iret (v := 0) hx hb hr (fun t ht hW => ⟨⟨0, [[(a0, .inr (12, [.ref a1, .ref a2, .ref a3, .ref a4, .ref a5, .ref a6, .ref a7, .int 0, .int ((-1)), .ref a8, .ref a9, .int 0, .int 0, .ref a10, .int 0, .int 0, .null, .null, .null, .null, .null]))], [(a1, .inl (kA 4, 4, .inr (.inr (.inr (.inr (rr (g 0)))))))], [(g 0 j, .inr (3, [.int 0, .int 0, .int 1, .ref a11, .ref a12, .ref a13, .ref a14, .ref a15, .ref a16, .ref a17, .ref a18, .ref a19, .ref a20, .ref a21, .ref a22, .ref a23, .null, .int 0, .int 0]))]], rfl, rfl, by rw [ht]; exact hP, va_K.moved hW.alike hK, hD⟩, hS.F ht⟩) hS.2.2 d_Ho_count_132
set_option maxRecDepth 100000 in
set_option maxHeartbeats 4000000 in
/-- DrawingHouseModel.count(II)I -/
theorem c_Mo_count_z10 (l : Launch) (D : va_G) (kA : Nat → ClassId) (a0 : Nat) (j : Nat) (qm : Nat → Nat) (hj : j < 4) : Ci l y_Mo_count z_Mo_count { frames := 2, cells := 0, slots := 0, locals := 42 } D classes (TY kA) [.ref a0, .int (nI j), .int 7] [[(a0, .inr (13, mF qm x0Mo y0Mo))], [(qm 3, .inl (kA 0, 4, .inl (fun _ => 0)))], [(qm 4, .inl (kA 0, 4, .inl (fun _ => 0)))]] (fun r (_ : List va_W) => r = 0) (fun u => u) 0 0 := by
  intro sz
  refine k_met (cc := b_Mo_count) (maxL := 3) (ret := (some .int)) (by decide) rfl (Nat.le_of_ble_eq_true rfl) (fun p e s m below meth c ls X hl hB => ?_)
  obtain ⟨hsz, hP, hK, hD0, hN⟩ := hB
  subst hsz
  have hD := hD0.self (sz := s.heap.size)
  generalize hAe : va_A (cat [[(a0, .inr (13, mF qm x0Mo y0Mo))], [(qm 3, .inl (kA 0, 4, .inl (fun _ => 0)))], [(qm 4, .inl (kA 0, 4, .inl (fun _ => 0)))]]) s.heap.size = A at hD ⊢
  have hA : ∀ q : Nat, s.heap.size ≤ q → A q := fun q h => by rw [← hAe]; exact Or.inr h
  have hS : va_S A s.heap s.heap [] := va_S.rf
  obtain ⟨hx, hb, hml, hown, hts, hr, hlk, hnm⟩ := id X
  have hl : lv_has ls 3 [(0, .ref a0), (1, .int (nI j)), (2, .int 7)] := hl
  have hP : va_P D classes (cat [[(a0, .inr (13, mF qm x0Mo y0Mo))], [(qm 3, .inl (kA 0, 4, .inl (fun _ => 0)))], [(qm 4, .inl (kA 0, 4, .inl (fun _ => 0)))]]) s.heap := hP
  have hK : va_K D classes (TY kA) s := hK
  refine lv_iload_n (pc := 0) hx hb d_Mo_count_0 rfl (lv_at hl 1 rfl) ?_
  refine k_goI (gr := [[(a0, .inr (13, mF qm x0Mo y0Mo))], [(qm 3, .inl (kA 0, 4, .inl (fun _ => 0)))], [(qm 4, .inl (kA 0, 4, .inl (fun _ => 0)))]]) (k_rS (pc := 1) (As := [.int (nI j)]) (rest := []) X (c_Mo_isPlace l D kA (nI j) s.heap.size) rfl wm_2978 wm_9 wm_2976 wm_2977 1 (by decide +kernel) ⟨Nat.le_of_ble_eq_true rfl, Nat.le_of_ble_eq_true rfl⟩ rfl rfl (k_pre hN hK hP hD [] [0, 1, 2] 3 rfl (by decide) rfl) rfl hl.1 rfl (Nat.le_of_ble_eq_true rfl) d_Mo_count_1 ⟨Nat.le_of_ble_eq_true rfl, Nat.le_of_ble_eq_true rfl⟩) hP hD hS hA [] [0, 1, 2] 3 rfl (by decide) rfl rfl (fun r1 u2 H locs hu2 hP hD hS => ?_)
  subst hu2
  refine k_cst (v := 1) (placeM_ok hj) ?_
  have hP : va_P D classes (cat [[(a0, .inr (13, mF qm x0Mo y0Mo))], [(qm 3, .inl (kA 0, 4, .inl (fun _ => 0)))], [(qm 4, .inl (kA 0, 4, .inl (fun _ => 0)))]]) H := hP
  have hD : va_D A (cat [[(a0, .inr (13, mF qm x0Mo y0Mo))], [(qm 3, .inl (kA 0, 4, .inl (fun _ => 0)))], [(qm 4, .inl (kA 0, 4, .inl (fun _ => 0)))]]) := hD
  refine lv_if_ne (pc := 4) (tgt := 9) hx hb d_Mo_count_4 (by decide) (fun c1 => ?_) (fun c1 => absurd c1 (by decide))
  refine lv_aload_n (pc := 9) hx hb d_Mo_count_9 rfl (lv_at hl 0 rfl) ?_
  refine lv_iload_n (pc := 10) hx hb d_Mo_count_10 rfl (lv_at hl 1 rfl) ?_
  refine k_goV (gr := [[(qm 4, .inl (kA 0, 4, .inl (fun _ => 0)))]]) (k_rV (pc := 11) (As := [.int (nI j)]) (rest := []) X (c_Mo_take_z1 l D kA a0 j qm hj H.size) rfl wm_3091 wm_9 wm_3088 wm_3090 wv_14_2 1 (by decide +kernel) ⟨Nat.le_of_ble_eq_true rfl, Nat.le_of_ble_eq_true rfl⟩ rfl rfl (va_recv hK hP (ci := 13) (q0 := 0) rfl rfl) (k_pre hN hK hP hD [0, 1] [2] 3 rfl (by decide) rfl) rfl hl.1 rfl (Nat.le_of_ble_eq_true rfl) d_Mo_count_11 ⟨Nat.le_of_ble_eq_true rfl, Nat.le_of_ble_eq_true rfl⟩) hP hD hS hA [0, 1] [2] 3 rfl (by decide) rfl rfl (fun u3 H locs hu3 hP hD hS => ?_)
  have hP : va_P D classes (cat [[(qm 4, .inl (kA 0, 4, .inl (fun _ => 0)))], [(a0, .inr (13, mF qm (va_up x0Mo 5 (nI (539 * (31 * j + 0)))) y0Mo))], [(qm 3, .inl (kA 0, 4, .inl (fun _ => 0)))]]) H := hP
  have hD : va_D A (cat [[(qm 4, .inl (kA 0, 4, .inl (fun _ => 0)))], [(a0, .inr (13, mF qm (va_up x0Mo 5 (nI (539 * (31 * j + 0)))) y0Mo))], [(qm 3, .inl (kA 0, 4, .inl (fun _ => 0)))]]) := hD
  refine lv_iload_n (pc := 14) hx hb d_Mo_count_14 rfl (lv_at hl 2 rfl) ?_
  refine lv_tableIn (pc := 15) (tgt := 102) hx hb d_Mo_count_15 (by decide) (by decide) rfl (by decide) ?_
  refine lv_aload_n (pc := 102) hx hb d_Mo_count_102 rfl (lv_at hl 0 rfl) ?_
  refine k_get (pc := 103) (v := .ref (qm 4)) X hK hP 1 rfl rfl i_Mo 4 (by decide) wm_2437 rfl rfl d_Mo_count_103 ?_
  refine lv_iload_n (pc := 106) hx hb d_Mo_count_106 rfl (lv_at hl 1 rfl) ?_
  refine k_ild (pc := 107) hx hb hK hP 0 0 rfl rfl (j) rfl (by omega) (by decide) d_Mo_count_107 ?_
  refine k_cst (v := 0) (by rfl) ?_
  refine lv_aload_n (pc := 108) hx hb d_Mo_count_108 rfl (lv_at hl 0 rfl) ?_
  refine k_get (pc := 109) (v := .ref (qm 3)) X hK hP 1 rfl rfl i_Mo 3 (by decide) wm_2436 rfl rfl d_Mo_count_109 ?_
  refine lv_iload_n (pc := 112) hx hb d_Mo_count_112 rfl (lv_at hl 1 rfl) ?_
  refine k_ild (pc := 113) hx hb hK hP 2 0 rfl rfl (j) rfl (by omega) (by decide) d_Mo_count_113 ?_
  refine k_cst (v := 0) (by rfl) ?_
  refine lv_isub (pc := 114) hx hb d_Mo_count_114 ?_
  refine k_cst (v := 0) (by decide) ?_
  refine W.widen (k := 0) (n := 0) (Nat.le_of_ble_eq_true rfl) (Nat.le_of_ble_eq_true rfl) ?_
  exact W.iret (v := 0) hx hb hr (fun t ht hW => ⟨⟨0, [[(qm 4, .inl (kA 0, 4, .inl (fun _ => 0)))], [(a0, .inr (13, mF qm (va_up x0Mo 5 (nI (539 * (31 * j + 0)))) y0Mo))], [(qm 3, .inl (kA 0, 4, .inl (fun _ => 0)))]], rfl, rfl, by rw [ht]; exact hP, va_K.moved hW.alike hK, hD⟩, hS.F ht⟩) hS.2.2 d_Mo_count_115
set_option maxRecDepth 100000 in
set_option maxHeartbeats 4000000 in
/-- count, a fresh house -/
theorem lf_count_10 {p : Program} {e : Env} {s : State} {m : MethodId} {below : List Frame} {meth : Method} {c : Code} (l : Launch) {b : Nat} {xs : Nat → Int32} (C0 : lw_At p s m meth c b 6 xs) {D : va_G} {kA : Nat → ClassId} (h : Nat) (h2 : Nat) (q : Nat → Nat) (qg : Nat → Nat) (qm : Nat → Nat) (g : Nat → Nat → Nat) (j : Nat) (hj : j < 4) (hv1 : xs 1 = nI j) (hv2 : xs 2 = 7) {H : Heap} {locs : List Loc} {ls : Array Slot} (hK : va_K D classes (TY kA) s) (hN : nst s) (hP : va_P D classes (cat [[(h, .inr (12, [.ref (q 0), .ref (q 1), .ref (q 2), .ref (q 3), .ref (q 4), .ref (q 5), .ref (q 6), .int 0, .int ((-1)), .ref (q 9), .ref (q 10), .int 0, .int 0, .ref (q 13), .int 0, .int 0, .null, .null, .null, .null, .null]))], [(q 0, .inl (kA 4, 4, .inr (.inr (.inr (.inr (rr (g 0)))))))], [(g 0 j, .inr (3, [.int 0, .int 0, .int 1, .ref (qg 3), .ref (qg 4), .ref (qg 5), .ref (qg 6), .ref (qg 7), .ref (qg 8), .ref (qg 9), .ref (qg 10), .ref (qg 11), .ref (qg 12), .ref (qg 13), .ref (qg 14), .ref (qg 15), .null, .int 0, .int 0]))], [(h2, .inr (13, mF qm x0Mo y0Mo))], [(qm 3, .inl (kA 0, 4, .inl (fun _ => 0)))], [(qm 4, .inl (kA 0, 4, .inl (fun _ => 0)))]]) H) (hD : va_D (fun q : Nat => s.heap.size ≤ q) (cat [[(h, .inr (12, [.ref (q 0), .ref (q 1), .ref (q 2), .ref (q 3), .ref (q 4), .ref (q 5), .ref (q 6), .int 0, .int ((-1)), .ref (q 9), .ref (q 10), .int 0, .int 0, .ref (q 13), .int 0, .int 0, .null, .null, .null, .null, .null]))], [(q 0, .inl (kA 4, 4, .inr (.inr (.inr (.inr (rr (g 0)))))))], [(g 0 j, .inr (3, [.int 0, .int 0, .int 1, .ref (qg 3), .ref (qg 4), .ref (qg 5), .ref (qg 6), .ref (qg 7), .ref (qg 8), .ref (qg 9), .ref (qg 10), .ref (qg 11), .ref (qg 12), .ref (qg 13), .ref (qg 14), .ref (qg 15), .null, .int 0, .int 0]))], [(h2, .inr (13, mF qm x0Mo y0Mo))], [(qm 3, .inl (kA 0, 4, .inl (fun _ => 0)))], [(qm 4, .inl (kA 0, 4, .inl (fun _ => 0)))]])) (hS : va_S (fun q : Nat => s.heap.size ≤ q) s.heap H locs) (hl : lv_has ls 4 [(3, .int 0), (2, .ref h2), (1, .ref h), (0, .ref b)]) : W p l e room_1 s m #[Value.ref b] below meth c H locs 368 365796 (lw_Z below #[Value.ref b] s) (F0 m 279 ls []) := by
  obtain ⟨hx, hb, hr, hml, hown, hts0, hX, hbl, hlocks, hgv⟩ := id C0
  have hts : ∀ w ∈ lw_g, w.before #[Value.ref b] s = true := fun w h => hts0 w (lw_gt h)
  have X : cx p s m #[Value.ref b] meth c b_law_law 4 ret "DrawingHouseLaw" meth.name := ⟨hx, hb, hml, hown, hts, hr, hlocks, rfl⟩
  obtain ⟨A, hAe⟩ : ∃ A : Nat → Prop, A = fun q : Nat => s.heap.size ≤ q := ⟨_, rfl⟩
  have hA : ∀ q : Nat, s.heap.size ≤ q → A q := fun q h => by rw [hAe]; exact h
  have hbA : ¬ A b := by rw [hAe]; exact Nat.not_le.mpr hbl
  rw [← hAe] at hD hS
  refine lv_aload_n (pc := 279) hx hb d_law_law_279 rfl (lv_at hl 2 rfl) ?_
  refine lv_aload_n (pc := 280) hx hb d_law_law_280 rfl (lv_at hl 3 rfl) ?_
  refine lv_iload_n (pc := 281) hx hb d_law_law_281 rfl (lv_at hl 0 rfl) ?_
  refine lv_iconst (pc := 282) (v := 1) hx hb d_law_law_282 (by decide) ?_
  refine lv_iadd (pc := 283) hx hb d_law_law_283 ?_
  refine k_cst (v := 1) (by decide) ?_
  refine va_sld (pc := 284) hx hb hX hbl hbA hS (by unfold vp_in; decide) d_law_law_284 ?_
  refine k_cst (v := nI j) hv1 ?_
  refine lv_aload_n (pc := 285) hx hb d_law_law_285 rfl (lv_at hl 3 rfl) ?_
  refine lv_iload_n (pc := 286) hx hb d_law_law_286 rfl (lv_at hl 0 rfl) ?_
  refine lv_iconst (pc := 287) (v := 2) hx hb d_law_law_287 (by decide) ?_
  refine lv_iadd (pc := 288) hx hb d_law_law_288 ?_
  refine k_cst (v := 2) (by decide) ?_
  refine va_sld (pc := 289) hx hb hX hbl hbA hS (by unfold vp_in; decide) d_law_law_289 ?_
  refine k_cst (v := 7) hv2 ?_
  refine k_goI (gr := [[(h2, .inr (13, mF qm x0Mo y0Mo))], [(qm 3, .inl (kA 0, 4, .inl (fun _ => 0)))], [(qm 4, .inl (kA 0, 4, .inl (fun _ => 0)))]]) (k_rV (pc := 290) (As := [.int (nI j), .int 7]) (rest := []) X (c_Ho_count_z10 l D kA h j (q 0) (q 1) (q 2) (q 3) (q 4) (q 5) (q 6) (q 9) (q 10) (q 13) g (qg 3) (qg 4) (qg 5) (qg 6) (qg 7) (qg 8) (qg 9) (qg 10) (qg 11) (qg 12) (qg 13) (qg 14) (qg 15) hj H.size) rfl wm_806 wm_1 wm_803 wm_804 wm_805 2 (by decide +kernel) ⟨Nat.le_of_ble_eq_true rfl, Nat.le_of_ble_eq_true rfl⟩ rfl rfl (va_recv hK hP (ci := 12) (q0 := 0) rfl rfl) (k_pre hN hK hP hD [0, 1, 2] [3, 4, 5] 6 rfl (by decide) rfl) rfl hl.1 rfl (Nat.le_of_ble_eq_true rfl) d_law_law_290 ⟨Nat.le_of_ble_eq_true rfl, Nat.le_of_ble_eq_true rfl⟩) hP hD hS hA [0, 1, 2] [3, 4, 5] 6 rfl (by decide) rfl rfl (fun r1 u2 H locs hu2 hP hD hS => ?_)
  obtain ⟨hP, hD⟩ := k_left hP hD
  subst hu2
  have hP : va_P D classes (cat [[(h2, .inr (13, mF qm x0Mo y0Mo))], [(qm 3, .inl (kA 0, 4, .inl (fun _ => 0)))], [(qm 4, .inl (kA 0, 4, .inl (fun _ => 0)))]]) H := hP
  have hD : va_D A (cat [[(h2, .inr (13, mF qm x0Mo y0Mo))], [(qm 3, .inl (kA 0, 4, .inl (fun _ => 0)))], [(qm 4, .inl (kA 0, 4, .inl (fun _ => 0)))]]) := hD
  refine lv_aload_n (pc := 293) hx hb d_law_law_293 rfl (lv_at hl 1 rfl) ?_
  refine lv_aload_n (pc := 294) hx hb d_law_law_294 rfl (lv_at hl 3 rfl) ?_
  refine lv_iload_n (pc := 295) hx hb d_law_law_295 rfl (lv_at hl 0 rfl) ?_
  refine lv_iconst (pc := 296) (v := 1) hx hb d_law_law_296 (by decide) ?_
  refine lv_iadd (pc := 297) hx hb d_law_law_297 ?_
  refine k_cst (v := 1) (by decide) ?_
  refine va_sld (pc := 298) hx hb hX hbl hbA hS (by unfold vp_in; decide) d_law_law_298 ?_
  refine k_cst (v := nI j) hv1 ?_
  refine lv_aload_n (pc := 299) hx hb d_law_law_299 rfl (lv_at hl 3 rfl) ?_
  refine lv_iload_n (pc := 300) hx hb d_law_law_300 rfl (lv_at hl 0 rfl) ?_
  refine lv_iconst (pc := 301) (v := 2) hx hb d_law_law_301 (by decide) ?_
  refine lv_iadd (pc := 302) hx hb d_law_law_302 ?_
  refine k_cst (v := 2) (by decide) ?_
  refine va_sld (pc := 303) hx hb hX hbl hbA hS (by unfold vp_in; decide) d_law_law_303 ?_
  refine k_cst (v := 7) hv2 ?_
  refine k_goI (gr := []) (k_rV (pc := 304) (As := [.int (nI j), .int 7]) (rest := [.int 0]) X (c_Mo_count_z10 l D kA h2 j qm hj H.size) rfl wm_3279 wm_9 wm_3276 wm_3277 wm_3278 2 (by decide +kernel) ⟨Nat.le_of_ble_eq_true rfl, Nat.le_of_ble_eq_true rfl⟩ rfl rfl (va_recv hK hP (ci := 13) (q0 := 0) rfl rfl) (k_pre hN hK hP hD [0, 1, 2] [] 3 rfl (by decide) rfl) rfl hl.1 rfl (Nat.le_of_ble_eq_true rfl) d_law_law_304 ⟨Nat.le_of_ble_eq_true rfl, Nat.le_of_ble_eq_true rfl⟩) hP hD hS hA [0, 1, 2] [] 3 rfl (by decide) rfl rfl (fun r3 u4 H locs hu4 hP hD hS => ?_)
  obtain ⟨hP, hD⟩ := k_left hP hD
  subst hu4
  have hP : va_P D classes (cat []) H := hP
  have hD : va_D A (cat []) := hD
  refine lv_icmp_eq (pc := 307) (tgt := 1295) hx hb d_law_law_307 (by decide) (fun _ => ?_) (fun c1 => absurd (by decide) c1)
  rw [hAe] at hS
  exact law_exit l C0 (Nat.le_of_ble_eq_true rfl) (Nat.le_of_ble_eq_true rfl) hS hl
set_option maxRecDepth 100000 in
set_option maxHeartbeats 8000000 in
/-- count: the case of the law -/
theorem op_count {p : Program} {e : Env} {s : State} {m : MethodId} {below : List Frame} {meth : Method} {c : Code} (l : Launch) {b : Nat} {xs : Nat → Int32} (C0 : lw_At p s m meth c b 6 xs) {D : va_G} {kA : Nat → ClassId} (h h2 : Nat) (u1 : Nat → Nat → Nat) (qm : Nat → Nat) (v1 : Int32) (v2 : Int32) (hv1 : xs 1 = v1) (hv2 : xs 2 = v2) {H : Heap} {locs : List Loc} {ls : Array Slot} (hK : va_K D classes (TY kA) s) (hN : nst s) (hpost : u1 50 1 = u1 0 4 ∧ u1 50 3 = u1 0 5 ∧ u1 50 2 = u1 1 4 ∧ u1 50 4 = u1 3 1 ∧ u1 8 0 = u1 50 5 ∧ u1 12 0 = u1 50 9 ∧ u1 16 0 = u1 50 13 ∧ u1 20 0 = u1 50 17) (hP : va_P D classes (cat [cat (sHo kA h u1), cat (sMo kA h2 qm)]) H) (hD : va_D (fun q : Nat => s.heap.size ≤ q) (cat [cat (sHo kA h u1), cat (sMo kA h2 qm)])) (hS : va_S (fun q : Nat => s.heap.size ≤ q) s.heap H locs) (hl : lv_has ls 4 [(3, .int 0), (2, .ref h2), (1, .ref h), (0, .ref b)]) : W p l e room_1 s m #[Value.ref b] below meth c H locs 368 365796 (lw_Z below #[Value.ref b] s) (F0 m 279 ls []) := by
  rcases place_no v1 with hg | ⟨j, hj, ej⟩
  · have hgM : sp_Mo_isPlace v1 = 0 := by rw [← place_iff]; exact hg
    obtain ⟨q, qg, qf, qn, qd, qr, qs, qe, qp, g, hP, hD⟩ := big (j := 0) (by decide) hpost hP hD
    obtain ⟨hP, hD⟩ := k_drop (sg := bH kA h q qg qf qn qd qr qs qe qp g 0 ++ bM kA h2 qm) (gc := [[(h, .inr (12, [.ref (q 0), .ref (q 1), .ref (q 2), .ref (q 3), .ref (q 4), .ref (q 5), .ref (q 6), .int 0, .int ((-1)), .ref (q 9), .ref (q 10), .int 0, .int 0, .ref (q 13), .int 0, .int 0, .null, .null, .null, .null, .null]))], [(h2, .inr (13, mF qm x0Mo y0Mo))]]) hP hD [1, 2, 3, 4, 5, 6, 7, 8, 9, 10, 11, 12, 13, 14, 15, 16, 17, 18, 19, 20, 21, 22, 23, 24, 25, 26, 27, 28, 29, 30, 31, 32, 33, 34, 35, 36, 37, 38, 39, 40, 41, 42, 43, 44, 45, 46, 47, 48, 49, 50, 51, 52, 53, 54, 55, 56, 57, 58, 59, 60, 61, 62, 63, 64, 65, 66, 67, 68, 69, 70, 71, 72, 73, 74, 75, 76, 77, 78, 79, 80, 81, 82, 83, 84, 85, 86, 87, 88, 89, 90, 91, 92, 93, 94, 95, 96, 97, 98, 100, 101, 102, 103, 104, 105, 106, 107, 108, 109, 110, 111, 112, 113, 114, 115, 116, 117, 118, 119, 120, 121, 122, 123, 124, 125, 126, 127, 128, 129, 130, 131, 132, 133, 134, 135, 136, 137, 138, 139, 140, 141, 142, 143, 144, 145, 146, 147, 148, 149, 150, 151, 152, 153, 154, 155, 156, 157, 158, 159, 160, 161, 162, 163, 164, 165, 166, 167, 168, 169, 170, 171, 172, 173, 174, 175, 176, 177, 178, 179, 180, 181, 182, 183, 184, 185, 186, 187, 188, 189, 190, 191, 192, 193, 194, 195, 196, 197, 198, 199, 200, 201, 202, 203, 204, 205, 206, 207, 208, 209, 210, 211, 212, 213, 214, 215, 216, 217] [0, 99] 218 rfl (by decide +kernel) rfl
    exact lf_count_1 l C0 h h2 q qm v1 v2 hg hgM hv1 hv2 hK hN hP hD hS hl
  · subst ej
    rcases k_tsw v2 8 (by decide) with hs2 | ⟨jw, hjw, ew⟩
    · obtain ⟨q, qg, qf, qn, qd, qr, qs, qe, qp, g, hP, hD⟩ := big (j := j) hj hpost hP hD
      obtain ⟨hP, hD⟩ := k_drop (sg := bH kA h q qg qf qn qd qr qs qe qp g j ++ bM kA h2 qm) (gc := [[(h, .inr (12, [.ref (q 0), .ref (q 1), .ref (q 2), .ref (q 3), .ref (q 4), .ref (q 5), .ref (q 6), .int 0, .int ((-1)), .ref (q 9), .ref (q 10), .int 0, .int 0, .ref (q 13), .int 0, .int 0, .null, .null, .null, .null, .null]))], [(h2, .inr (13, mF qm x0Mo y0Mo))], [(qm 3, .inl (kA 0, 4, .inl (fun _ => 0)))]]) hP hD [1, 2, 3, 4, 5, 6, 7, 8, 9, 10, 11, 12, 13, 14, 15, 16, 17, 18, 19, 20, 21, 22, 23, 24, 25, 26, 27, 28, 29, 30, 31, 32, 33, 34, 35, 36, 37, 38, 39, 40, 41, 42, 43, 44, 45, 46, 47, 48, 49, 50, 51, 52, 53, 54, 55, 56, 57, 58, 59, 60, 61, 62, 63, 64, 65, 66, 67, 68, 69, 70, 71, 72, 73, 74, 75, 76, 77, 78, 79, 80, 81, 82, 83, 84, 85, 86, 87, 88, 89, 90, 91, 92, 93, 94, 95, 96, 97, 98, 100, 101, 102, 103, 104, 105, 107, 108, 109, 110, 111, 112, 113, 114, 115, 116, 117, 118, 119, 120, 121, 122, 123, 124, 125, 126, 127, 128, 129, 130, 131, 132, 133, 134, 135, 136, 137, 138, 139, 140, 141, 142, 143, 144, 145, 146, 147, 148, 149, 150, 151, 152, 153, 154, 155, 156, 157, 158, 159, 160, 161, 162, 163, 164, 165, 166, 167, 168, 169, 170, 171, 172, 173, 174, 175, 176, 177, 178, 179, 180, 181, 182, 183, 184, 185, 186, 187, 188, 189, 190, 191, 192, 193, 194, 195, 196, 197, 198, 199, 200, 201, 202, 203, 204, 205, 206, 207, 208, 209, 210, 211, 212, 213, 214, 215, 216, 217] [0, 99, 106] 218 rfl (by decide +kernel) rfl
      exact lf_count_2 l C0 h h2 q qm j v2 hj hs2 hv1 hv2 hK hN hP hD hS hl
    · match jw, hjw, ew with
      | 0, _, ew =>
        subst ew
        obtain ⟨q, qg, qf, qn, qd, qr, qs, qe, qp, g, hP, hD⟩ := big (j := j) hj hpost hP hD
        obtain ⟨hP, hD⟩ := k_drop (sg := bH kA h q qg qf qn qd qr qs qe qp g j ++ bM kA h2 qm) (gc := [[(h, .inr (12, [.ref (q 0), .ref (q 1), .ref (q 2), .ref (q 3), .ref (q 4), .ref (q 5), .ref (q 6), .int 0, .int ((-1)), .ref (q 9), .ref (q 10), .int 0, .int 0, .ref (q 13), .int 0, .int 0, .null, .null, .null, .null, .null]))], [(q 0, .inl (kA 4, 4, .inr (.inr (.inr (.inr (rr (g 0)))))))], [(g 0 j, .inr (3, [.int 0, .int 0, .int 1, .ref (qg 3), .ref (qg 4), .ref (qg 5), .ref (qg 6), .ref (qg 7), .ref (qg 8), .ref (qg 9), .ref (qg 10), .ref (qg 11), .ref (qg 12), .ref (qg 13), .ref (qg 14), .ref (qg 15), .null, .int 0, .int 0]))], [(h2, .inr (13, mF qm x0Mo y0Mo))], [(qm 3, .inl (kA 0, 4, .inl (fun _ => 0)))], [(qm 2, .inl (kA 0, 66836, .inl all0))]]) hP hD [2, 3, 4, 5, 6, 7, 8, 10, 11, 12, 13, 14, 15, 16, 17, 18, 19, 20, 21, 22, 23, 24, 25, 26, 27, 28, 29, 30, 31, 32, 33, 34, 35, 36, 37, 38, 39, 40, 41, 42, 43, 44, 45, 46, 47, 48, 49, 50, 51, 52, 53, 54, 55, 56, 57, 58, 59, 60, 61, 62, 63, 64, 65, 66, 67, 68, 69, 70, 71, 72, 73, 74, 75, 76, 77, 78, 79, 80, 81, 82, 83, 84, 85, 86, 87, 88, 89, 90, 91, 92, 93, 94, 95, 96, 97, 98, 101, 102, 103, 104, 105, 107, 108, 109, 110, 111, 112, 113, 114, 115, 116, 117, 118, 119, 120, 121, 122, 123, 124, 125, 126, 127, 128, 129, 130, 131, 132, 133, 134, 135, 136, 137, 138, 139, 140, 141, 142, 143, 144, 145, 146, 147, 148, 149, 150, 151, 152, 153, 154, 155, 156, 157, 158, 159, 160, 161, 162, 163, 164, 165, 166, 167, 168, 169, 170, 171, 172, 173, 174, 175, 176, 177, 178, 179, 180, 181, 182, 183, 184, 185, 186, 187, 188, 189, 190, 191, 192, 193, 194, 195, 196, 197, 198, 199, 200, 201, 202, 203, 204, 205, 206, 207, 208, 209, 210, 211, 212, 213, 214, 215, 216, 217] [0, 1, 9, 99, 106, 100] 218 rfl (by decide +kernel) rfl
        exact lf_count_3 l C0 h h2 q qg qm g j hj hv1 hv2 hK hN hP hD hS hl
      | 1, _, ew =>
        subst ew
        obtain ⟨q, qg, qf, qn, qd, qr, qs, qe, qp, g, hP, hD⟩ := big (j := j) hj hpost hP hD
        obtain ⟨hP, hD⟩ := k_drop (sg := bH kA h q qg qf qn qd qr qs qe qp g j ++ bM kA h2 qm) (gc := [[(h, .inr (12, [.ref (q 0), .ref (q 1), .ref (q 2), .ref (q 3), .ref (q 4), .ref (q 5), .ref (q 6), .int 0, .int ((-1)), .ref (q 9), .ref (q 10), .int 0, .int 0, .ref (q 13), .int 0, .int 0, .null, .null, .null, .null, .null]))], [(q 0, .inl (kA 4, 4, .inr (.inr (.inr (.inr (rr (g 0)))))))], [(g 0 j, .inr (3, [.int 0, .int 0, .int 1, .ref (qg 3), .ref (qg 4), .ref (qg 5), .ref (qg 6), .ref (qg 7), .ref (qg 8), .ref (qg 9), .ref (qg 10), .ref (qg 11), .ref (qg 12), .ref (qg 13), .ref (qg 14), .ref (qg 15), .null, .int 0, .int 0]))], [(h2, .inr (13, mF qm x0Mo y0Mo))], [(qm 3, .inl (kA 0, 4, .inl (fun _ => 0)))], [(qm 2, .inl (kA 0, 66836, .inl all0))]]) hP hD [2, 3, 4, 5, 6, 7, 8, 10, 11, 12, 13, 14, 15, 16, 17, 18, 19, 20, 21, 22, 23, 24, 25, 26, 27, 28, 29, 30, 31, 32, 33, 34, 35, 36, 37, 38, 39, 40, 41, 42, 43, 44, 45, 46, 47, 48, 49, 50, 51, 52, 53, 54, 55, 56, 57, 58, 59, 60, 61, 62, 63, 64, 65, 66, 67, 68, 69, 70, 71, 72, 73, 74, 75, 76, 77, 78, 79, 80, 81, 82, 83, 84, 85, 86, 87, 88, 89, 90, 91, 92, 93, 94, 95, 96, 97, 98, 101, 102, 103, 104, 105, 107, 108, 109, 110, 111, 112, 113, 114, 115, 116, 117, 118, 119, 120, 121, 122, 123, 124, 125, 126, 127, 128, 129, 130, 131, 132, 133, 134, 135, 136, 137, 138, 139, 140, 141, 142, 143, 144, 145, 146, 147, 148, 149, 150, 151, 152, 153, 154, 155, 156, 157, 158, 159, 160, 161, 162, 163, 164, 165, 166, 167, 168, 169, 170, 171, 172, 173, 174, 175, 176, 177, 178, 179, 180, 181, 182, 183, 184, 185, 186, 187, 188, 189, 190, 191, 192, 193, 194, 195, 196, 197, 198, 199, 200, 201, 202, 203, 204, 205, 206, 207, 208, 209, 210, 211, 212, 213, 214, 215, 216, 217] [0, 1, 9, 99, 106, 100] 218 rfl (by decide +kernel) rfl
        exact lf_count_4 l C0 h h2 q qg qm g j hj hv1 hv2 hK hN hP hD hS hl
      | 2, _, ew =>
        subst ew
        obtain ⟨q, qg, qf, qn, qd, qr, qs, qe, qp, g, hP, hD⟩ := big (j := j) hj hpost hP hD
        obtain ⟨hP, hD⟩ := k_drop (sg := bH kA h q qg qf qn qd qr qs qe qp g j ++ bM kA h2 qm) (gc := [[(h, .inr (12, [.ref (q 0), .ref (q 1), .ref (q 2), .ref (q 3), .ref (q 4), .ref (q 5), .ref (q 6), .int 0, .int ((-1)), .ref (q 9), .ref (q 10), .int 0, .int 0, .ref (q 13), .int 0, .int 0, .null, .null, .null, .null, .null]))], [(q 0, .inl (kA 4, 4, .inr (.inr (.inr (.inr (rr (g 0)))))))], [(g 0 j, .inr (3, [.int 0, .int 0, .int 1, .ref (qg 3), .ref (qg 4), .ref (qg 5), .ref (qg 6), .ref (qg 7), .ref (qg 8), .ref (qg 9), .ref (qg 10), .ref (qg 11), .ref (qg 12), .ref (qg 13), .ref (qg 14), .ref (qg 15), .null, .int 0, .int 0]))], [(h2, .inr (13, mF qm x0Mo y0Mo))], [(qm 3, .inl (kA 0, 4, .inl (fun _ => 0)))], [(qm 2, .inl (kA 0, 66836, .inl all0))]]) hP hD [2, 3, 4, 5, 6, 7, 8, 10, 11, 12, 13, 14, 15, 16, 17, 18, 19, 20, 21, 22, 23, 24, 25, 26, 27, 28, 29, 30, 31, 32, 33, 34, 35, 36, 37, 38, 39, 40, 41, 42, 43, 44, 45, 46, 47, 48, 49, 50, 51, 52, 53, 54, 55, 56, 57, 58, 59, 60, 61, 62, 63, 64, 65, 66, 67, 68, 69, 70, 71, 72, 73, 74, 75, 76, 77, 78, 79, 80, 81, 82, 83, 84, 85, 86, 87, 88, 89, 90, 91, 92, 93, 94, 95, 96, 97, 98, 101, 102, 103, 104, 105, 107, 108, 109, 110, 111, 112, 113, 114, 115, 116, 117, 118, 119, 120, 121, 122, 123, 124, 125, 126, 127, 128, 129, 130, 131, 132, 133, 134, 135, 136, 137, 138, 139, 140, 141, 142, 143, 144, 145, 146, 147, 148, 149, 150, 151, 152, 153, 154, 155, 156, 157, 158, 159, 160, 161, 162, 163, 164, 165, 166, 167, 168, 169, 170, 171, 172, 173, 174, 175, 176, 177, 178, 179, 180, 181, 182, 183, 184, 185, 186, 187, 188, 189, 190, 191, 192, 193, 194, 195, 196, 197, 198, 199, 200, 201, 202, 203, 204, 205, 206, 207, 208, 209, 210, 211, 212, 213, 214, 215, 216, 217] [0, 1, 9, 99, 106, 100] 218 rfl (by decide +kernel) rfl
        exact lf_count_5 l C0 h h2 q qg qm g j hj hv1 hv2 hK hN hP hD hS hl
      | 3, _, ew =>
        subst ew
        obtain ⟨q, qg, qf, qn, qd, qr, qs, qe, qp, g, hP, hD⟩ := big (j := j) hj hpost hP hD
        obtain ⟨hP, hD⟩ := k_drop (sg := bH kA h q qg qf qn qd qr qs qe qp g j ++ bM kA h2 qm) (gc := [[(h, .inr (12, [.ref (q 0), .ref (q 1), .ref (q 2), .ref (q 3), .ref (q 4), .ref (q 5), .ref (q 6), .int 0, .int ((-1)), .ref (q 9), .ref (q 10), .int 0, .int 0, .ref (q 13), .int 0, .int 0, .null, .null, .null, .null, .null]))], [(q 1, .inl (kA 5, 4, .inr (.inr (.inr (.inr (rr (g 1)))))))], [(g 1 j, .inr (2, [.int 0, .int 0, .int 0, .int 0, .ref (qf 4), .ref (qf 5), .ref (qf 6), .ref (qf 7), .ref (qf 8), .ref (qf 9), .ref (qf 10), .ref (qf 11), .ref (qf 12), .ref (qf 13), .ref (qf 14)]))], [(q 0, .inl (kA 4, 4, .inr (.inr (.inr (.inr (rr (g 0)))))))], [(g 0 j, .inr (3, [.int 0, .int 0, .int 1, .ref (qg 3), .ref (qg 4), .ref (qg 5), .ref (qg 6), .ref (qg 7), .ref (qg 8), .ref (qg 9), .ref (qg 10), .ref (qg 11), .ref (qg 12), .ref (qg 13), .ref (qg 14), .ref (qg 15), .null, .int 0, .int 0]))], [(qf 5, .inl (kA 0, 48, .inl (fun _ => 0)))], [(qf 10, .inl (kA 0, 24, .inl (fun _ => 0)))], [(qf 6, .inl (kA 0, 24, .inl (fun _ => 0)))], [(qf 11, .inl (kA 0, 24, .inl (fun _ => 0)))], [(h2, .inr (13, mF qm x0Mo y0Mo))], [(qm 3, .inl (kA 0, 4, .inl (fun _ => 0)))], [(qm 2, .inl (kA 0, 66836, .inl all0))]]) hP hD [3, 4, 5, 6, 7, 8, 10, 11, 12, 13, 14, 15, 16, 17, 18, 19, 20, 21, 22, 24, 27, 28, 29, 32, 33, 34, 35, 36, 37, 38, 39, 40, 41, 42, 43, 44, 45, 46, 47, 48, 49, 50, 51, 52, 53, 54, 55, 56, 57, 58, 59, 60, 61, 62, 63, 64, 65, 66, 67, 68, 69, 70, 71, 72, 73, 74, 75, 76, 77, 78, 79, 80, 81, 82, 83, 84, 85, 86, 87, 88, 89, 90, 91, 92, 93, 94, 95, 96, 97, 98, 101, 102, 103, 104, 105, 107, 108, 109, 110, 111, 112, 113, 114, 115, 116, 117, 118, 119, 120, 121, 122, 123, 124, 125, 126, 127, 128, 129, 130, 131, 132, 133, 134, 135, 136, 137, 138, 139, 140, 141, 142, 143, 144, 145, 146, 147, 148, 149, 150, 151, 152, 153, 154, 155, 156, 157, 158, 159, 160, 161, 162, 163, 164, 165, 166, 167, 168, 169, 170, 171, 172, 173, 174, 175, 176, 177, 178, 179, 180, 181, 182, 183, 184, 185, 186, 187, 188, 189, 190, 191, 192, 193, 194, 195, 196, 197, 198, 199, 200, 201, 202, 203, 204, 205, 206, 207, 208, 209, 210, 211, 212, 213, 214, 215, 216, 217] [0, 2, 23, 1, 9, 25, 30, 26, 31, 99, 106, 100] 218 rfl (by decide +kernel) rfl
        exact lf_count_6 l C0 h h2 q qg qf qm g j hj hv1 hv2 hK hN hP hD hS hl
      | 4, _, ew =>
        subst ew
        obtain ⟨q, qg, qf, qn, qd, qr, qs, qe, qp, g, hP, hD⟩ := big (j := j) hj hpost hP hD
        obtain ⟨hP, hD⟩ := k_drop (sg := bH kA h q qg qf qn qd qr qs qe qp g j ++ bM kA h2 qm) (gc := [[(h, .inr (12, [.ref (q 0), .ref (q 1), .ref (q 2), .ref (q 3), .ref (q 4), .ref (q 5), .ref (q 6), .int 0, .int ((-1)), .ref (q 9), .ref (q 10), .int 0, .int 0, .ref (q 13), .int 0, .int 0, .null, .null, .null, .null, .null]))], [(q 1, .inl (kA 5, 4, .inr (.inr (.inr (.inr (rr (g 1)))))))], [(g 1 j, .inr (2, [.int 0, .int 0, .int 0, .int 0, .ref (qf 4), .ref (qf 5), .ref (qf 6), .ref (qf 7), .ref (qf 8), .ref (qf 9), .ref (qf 10), .ref (qf 11), .ref (qf 12), .ref (qf 13), .ref (qf 14)]))], [(q 0, .inl (kA 4, 4, .inr (.inr (.inr (.inr (rr (g 0)))))))], [(g 0 j, .inr (3, [.int 0, .int 0, .int 1, .ref (qg 3), .ref (qg 4), .ref (qg 5), .ref (qg 6), .ref (qg 7), .ref (qg 8), .ref (qg 9), .ref (qg 10), .ref (qg 11), .ref (qg 12), .ref (qg 13), .ref (qg 14), .ref (qg 15), .null, .int 0, .int 0]))], [(qf 5, .inl (kA 0, 48, .inl (fun _ => 0)))], [(qf 10, .inl (kA 0, 24, .inl (fun _ => 0)))], [(qf 6, .inl (kA 0, 24, .inl (fun _ => 0)))], [(qf 11, .inl (kA 0, 24, .inl (fun _ => 0)))], [(h2, .inr (13, mF qm x0Mo y0Mo))], [(qm 3, .inl (kA 0, 4, .inl (fun _ => 0)))], [(qm 2, .inl (kA 0, 66836, .inl all0))]]) hP hD [3, 4, 5, 6, 7, 8, 10, 11, 12, 13, 14, 15, 16, 17, 18, 19, 20, 21, 22, 24, 27, 28, 29, 32, 33, 34, 35, 36, 37, 38, 39, 40, 41, 42, 43, 44, 45, 46, 47, 48, 49, 50, 51, 52, 53, 54, 55, 56, 57, 58, 59, 60, 61, 62, 63, 64, 65, 66, 67, 68, 69, 70, 71, 72, 73, 74, 75, 76, 77, 78, 79, 80, 81, 82, 83, 84, 85, 86, 87, 88, 89, 90, 91, 92, 93, 94, 95, 96, 97, 98, 101, 102, 103, 104, 105, 107, 108, 109, 110, 111, 112, 113, 114, 115, 116, 117, 118, 119, 120, 121, 122, 123, 124, 125, 126, 127, 128, 129, 130, 131, 132, 133, 134, 135, 136, 137, 138, 139, 140, 141, 142, 143, 144, 145, 146, 147, 148, 149, 150, 151, 152, 153, 154, 155, 156, 157, 158, 159, 160, 161, 162, 163, 164, 165, 166, 167, 168, 169, 170, 171, 172, 173, 174, 175, 176, 177, 178, 179, 180, 181, 182, 183, 184, 185, 186, 187, 188, 189, 190, 191, 192, 193, 194, 195, 196, 197, 198, 199, 200, 201, 202, 203, 204, 205, 206, 207, 208, 209, 210, 211, 212, 213, 214, 215, 216, 217] [0, 2, 23, 1, 9, 25, 30, 26, 31, 99, 106, 100] 218 rfl (by decide +kernel) rfl
        exact lf_count_7 l C0 h h2 q qg qf qm g j hj hv1 hv2 hK hN hP hD hS hl
      | 5, _, ew =>
        subst ew
        obtain ⟨q, qg, qf, qn, qd, qr, qs, qe, qp, g, hP, hD⟩ := big (j := j) hj hpost hP hD
        obtain ⟨hP, hD⟩ := k_drop (sg := bH kA h q qg qf qn qd qr qs qe qp g j ++ bM kA h2 qm) (gc := [[(h, .inr (12, [.ref (q 0), .ref (q 1), .ref (q 2), .ref (q 3), .ref (q 4), .ref (q 5), .ref (q 6), .int 0, .int ((-1)), .ref (q 9), .ref (q 10), .int 0, .int 0, .ref (q 13), .int 0, .int 0, .null, .null, .null, .null, .null]))], [(q 1, .inl (kA 5, 4, .inr (.inr (.inr (.inr (rr (g 1)))))))], [(g 1 j, .inr (2, [.int 0, .int 0, .int 0, .int 0, .ref (qf 4), .ref (qf 5), .ref (qf 6), .ref (qf 7), .ref (qf 8), .ref (qf 9), .ref (qf 10), .ref (qf 11), .ref (qf 12), .ref (qf 13), .ref (qf 14)]))], [(q 0, .inl (kA 4, 4, .inr (.inr (.inr (.inr (rr (g 0)))))))], [(g 0 j, .inr (3, [.int 0, .int 0, .int 1, .ref (qg 3), .ref (qg 4), .ref (qg 5), .ref (qg 6), .ref (qg 7), .ref (qg 8), .ref (qg 9), .ref (qg 10), .ref (qg 11), .ref (qg 12), .ref (qg 13), .ref (qg 14), .ref (qg 15), .null, .int 0, .int 0]))], [(qf 5, .inl (kA 0, 48, .inl (fun _ => 0)))], [(qf 10, .inl (kA 0, 24, .inl (fun _ => 0)))], [(qf 6, .inl (kA 0, 24, .inl (fun _ => 0)))], [(qf 11, .inl (kA 0, 24, .inl (fun _ => 0)))], [(h2, .inr (13, mF qm x0Mo y0Mo))], [(qm 3, .inl (kA 0, 4, .inl (fun _ => 0)))], [(qm 2, .inl (kA 0, 66836, .inl all0))], [(qm 21, .inl (kA 2, 576, .inl (fun _ => 0)))]]) hP hD [3, 4, 5, 6, 7, 8, 10, 11, 12, 13, 14, 15, 16, 17, 18, 19, 20, 21, 22, 24, 27, 28, 29, 32, 33, 34, 35, 36, 37, 38, 39, 40, 41, 42, 43, 44, 45, 46, 47, 48, 49, 50, 51, 52, 53, 54, 55, 56, 57, 58, 59, 60, 61, 62, 63, 64, 65, 66, 67, 68, 69, 70, 71, 72, 73, 74, 75, 76, 77, 78, 79, 80, 81, 82, 83, 84, 85, 86, 87, 88, 89, 90, 91, 92, 93, 94, 95, 96, 97, 98, 101, 102, 103, 104, 105, 107, 108, 109, 110, 111, 112, 113, 115, 116, 117, 118, 119, 120, 121, 122, 123, 124, 125, 126, 127, 128, 129, 130, 131, 132, 133, 134, 135, 136, 137, 138, 139, 140, 141, 142, 143, 144, 145, 146, 147, 148, 149, 150, 151, 152, 153, 154, 155, 156, 157, 158, 159, 160, 161, 162, 163, 164, 165, 166, 167, 168, 169, 170, 171, 172, 173, 174, 175, 176, 177, 178, 179, 180, 181, 182, 183, 184, 185, 186, 187, 188, 189, 190, 191, 192, 193, 194, 195, 196, 197, 198, 199, 200, 201, 202, 203, 204, 205, 206, 207, 208, 209, 210, 211, 212, 213, 214, 215, 216, 217] [0, 2, 23, 1, 9, 25, 30, 26, 31, 99, 106, 100, 114] 218 rfl (by decide +kernel) rfl
        exact lf_count_8 l C0 h h2 q qg qf qm g j hj hv1 hv2 hK hN hP hD hS hl
      | 6, _, ew =>
        subst ew
        obtain ⟨q, qg, qf, qn, qd, qr, qs, qe, qp, g, hP, hD⟩ := big (j := j) hj hpost hP hD
        obtain ⟨hP, hD⟩ := k_drop (sg := bH kA h q qg qf qn qd qr qs qe qp g j ++ bM kA h2 qm) (gc := [[(h, .inr (12, [.ref (q 0), .ref (q 1), .ref (q 2), .ref (q 3), .ref (q 4), .ref (q 5), .ref (q 6), .int 0, .int ((-1)), .ref (q 9), .ref (q 10), .int 0, .int 0, .ref (q 13), .int 0, .int 0, .null, .null, .null, .null, .null]))], [(q 0, .inl (kA 4, 4, .inr (.inr (.inr (.inr (rr (g 0)))))))], [(g 0 j, .inr (3, [.int 0, .int 0, .int 1, .ref (qg 3), .ref (qg 4), .ref (qg 5), .ref (qg 6), .ref (qg 7), .ref (qg 8), .ref (qg 9), .ref (qg 10), .ref (qg 11), .ref (qg 12), .ref (qg 13), .ref (qg 14), .ref (qg 15), .null, .int 0, .int 0]))], [(h2, .inr (13, mF qm x0Mo y0Mo))], [(qm 3, .inl (kA 0, 4, .inl (fun _ => 0)))]]) hP hD [2, 3, 4, 5, 6, 7, 8, 10, 11, 12, 13, 14, 15, 16, 17, 18, 19, 20, 21, 22, 23, 24, 25, 26, 27, 28, 29, 30, 31, 32, 33, 34, 35, 36, 37, 38, 39, 40, 41, 42, 43, 44, 45, 46, 47, 48, 49, 50, 51, 52, 53, 54, 55, 56, 57, 58, 59, 60, 61, 62, 63, 64, 65, 66, 67, 68, 69, 70, 71, 72, 73, 74, 75, 76, 77, 78, 79, 80, 81, 82, 83, 84, 85, 86, 87, 88, 89, 90, 91, 92, 93, 94, 95, 96, 97, 98, 100, 101, 102, 103, 104, 105, 107, 108, 109, 110, 111, 112, 113, 114, 115, 116, 117, 118, 119, 120, 121, 122, 123, 124, 125, 126, 127, 128, 129, 130, 131, 132, 133, 134, 135, 136, 137, 138, 139, 140, 141, 142, 143, 144, 145, 146, 147, 148, 149, 150, 151, 152, 153, 154, 155, 156, 157, 158, 159, 160, 161, 162, 163, 164, 165, 166, 167, 168, 169, 170, 171, 172, 173, 174, 175, 176, 177, 178, 179, 180, 181, 182, 183, 184, 185, 186, 187, 188, 189, 190, 191, 192, 193, 194, 195, 196, 197, 198, 199, 200, 201, 202, 203, 204, 205, 206, 207, 208, 209, 210, 211, 212, 213, 214, 215, 216, 217] [0, 1, 9, 99, 106] 218 rfl (by decide +kernel) rfl
        exact lf_count_9 l C0 h h2 q qg qm g j hj hv1 hv2 hK hN hP hD hS hl
      | 7, _, ew =>
        subst ew
        obtain ⟨q, qg, qf, qn, qd, qr, qs, qe, qp, g, hP, hD⟩ := big (j := j) hj hpost hP hD
        obtain ⟨hP, hD⟩ := k_drop (sg := bH kA h q qg qf qn qd qr qs qe qp g j ++ bM kA h2 qm) (gc := [[(h, .inr (12, [.ref (q 0), .ref (q 1), .ref (q 2), .ref (q 3), .ref (q 4), .ref (q 5), .ref (q 6), .int 0, .int ((-1)), .ref (q 9), .ref (q 10), .int 0, .int 0, .ref (q 13), .int 0, .int 0, .null, .null, .null, .null, .null]))], [(q 0, .inl (kA 4, 4, .inr (.inr (.inr (.inr (rr (g 0)))))))], [(g 0 j, .inr (3, [.int 0, .int 0, .int 1, .ref (qg 3), .ref (qg 4), .ref (qg 5), .ref (qg 6), .ref (qg 7), .ref (qg 8), .ref (qg 9), .ref (qg 10), .ref (qg 11), .ref (qg 12), .ref (qg 13), .ref (qg 14), .ref (qg 15), .null, .int 0, .int 0]))], [(h2, .inr (13, mF qm x0Mo y0Mo))], [(qm 3, .inl (kA 0, 4, .inl (fun _ => 0)))], [(qm 4, .inl (kA 0, 4, .inl (fun _ => 0)))]]) hP hD [2, 3, 4, 5, 6, 7, 8, 10, 11, 12, 13, 14, 15, 16, 17, 18, 19, 20, 21, 22, 23, 24, 25, 26, 27, 28, 29, 30, 31, 32, 33, 34, 35, 36, 37, 38, 39, 40, 41, 42, 43, 44, 45, 46, 47, 48, 49, 50, 51, 52, 53, 54, 55, 56, 57, 58, 59, 60, 61, 62, 63, 64, 65, 66, 67, 68, 69, 70, 71, 72, 73, 74, 75, 76, 77, 78, 79, 80, 81, 82, 83, 84, 85, 86, 87, 88, 89, 90, 91, 92, 93, 94, 95, 96, 97, 98, 100, 101, 102, 103, 104, 105, 108, 109, 110, 111, 112, 113, 114, 115, 116, 117, 118, 119, 120, 121, 122, 123, 124, 125, 126, 127, 128, 129, 130, 131, 132, 133, 134, 135, 136, 137, 138, 139, 140, 141, 142, 143, 144, 145, 146, 147, 148, 149, 150, 151, 152, 153, 154, 155, 156, 157, 158, 159, 160, 161, 162, 163, 164, 165, 166, 167, 168, 169, 170, 171, 172, 173, 174, 175, 176, 177, 178, 179, 180, 181, 182, 183, 184, 185, 186, 187, 188, 189, 190, 191, 192, 193, 194, 195, 196, 197, 198, 199, 200, 201, 202, 203, 204, 205, 206, 207, 208, 209, 210, 211, 212, 213, 214, 215, 216, 217] [0, 1, 9, 99, 106, 107] 218 rfl (by decide +kernel) rfl
        exact lf_count_10 l C0 h h2 q qg qm g j hj hv1 hv2 hK hN hP hD hS hl
      | jw + 8, hjw, _ => exact absurd hjw (by omega)
