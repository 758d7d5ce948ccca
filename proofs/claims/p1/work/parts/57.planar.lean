theorem wm_60 : (Cond.fieldLink "DrawingHouse$Embedder" (88 : Nat) "DrawingHouse$Graph" "nodes" "I" : Cond) ∈ lw_g := lw_gi (lw_c1 (List.mem_of_getElem? (i := 60) rfl)) rfl
theorem wm_63 : (Cond.fieldLink "DrawingHouse$Net" (70 : Nat) "DrawingHouse$Graph" "nodes" "I" : Cond) ∈ lw_g := lw_gi (lw_c1 (List.mem_of_getElem? (i := 63) rfl)) rfl
theorem wm_72 : (Cond.fieldLink "DrawingHouse$Net" (77 : Nat) "DrawingHouse$Graph" "edges" "I" : Cond) ∈ lw_g := lw_gi (lw_c1 (List.mem_of_getElem? (i := 72) rfl)) rfl
theorem wm_250 : (Cond.fieldLink "DrawingHouse" (265 : Nat) "DrawingHouse$Net" "planar" "I" : Cond) ∈ lw_g := lw_gi (lw_c2 (List.mem_of_getElem? (i := 10) rfl)) rfl
theorem wm_252 : (Cond.fieldLink "DrawingHouse$Embedder" (78 : Nat) "DrawingHouse$Net" "outer" "I" : Cond) ∈ lw_g := lw_gi (lw_c2 (List.mem_of_getElem? (i := 12) rfl)) rfl
theorem wm_263 : (Cond.fieldLink "DrawingHouse$Embedder" (85 : Nat) "DrawingHouse$Net" "nodes" "I" : Cond) ∈ lw_g := lw_gi (lw_c2 (List.mem_of_getElem? (i := 23) rfl)) rfl
theorem wm_266 : (Cond.fieldLink "DrawingHouse$Embedder" (133 : Nat) "DrawingHouse$Net" "edges" "I" : Cond) ∈ lw_g := lw_gi (lw_c2 (List.mem_of_getElem? (i := 26) rfl)) rfl
theorem wm_268 : (Cond.fieldLink "DrawingHouse$Embedder" (134 : Nat) "DrawingHouse$Net" "tail" "[I" : Cond) ∈ lw_g := lw_gi (lw_c2 (List.mem_of_getElem? (i := 28) rfl)) rfl
theorem wm_271 : (Cond.fieldLink "DrawingHouse$Embedder" (135 : Nat) "DrawingHouse$Net" "head" "[I" : Cond) ∈ lw_g := lw_gi (lw_c2 (List.mem_of_getElem? (i := 31) rfl)) rfl
theorem wm_274 : (Cond.fieldLink "DrawingHouse$Embedder" (114 : Nat) "DrawingHouse$Net" "near" "[I" : Cond) ∈ lw_g := lw_gi (lw_c2 (List.mem_of_getElem? (i := 34) rfl)) rfl
theorem wm_281 : (Cond.fieldLink "DrawingHouse$Embedder" (223 : Nat) "DrawingHouse$Net" "first" "[I" : Cond) ∈ lw_g := lw_gi (lw_c2 (List.mem_of_getElem? (i := 41) rfl)) rfl
theorem wm_284 : (Cond.fieldLink "DrawingHouse" (272 : Nat) "DrawingHouse$Net" "faces" "I" : Cond) ∈ lw_g := lw_gi (lw_c2 (List.mem_of_getElem? (i := 44) rfl)) rfl
theorem wm_1045 : (Cond.methodLink "DrawingHouseLaw" (71 : Nat) ({ cls := "DrawingHouse", name := "planar", desc := "(II)I" } : MethodName) : Cond) ∈ lw_g := lw_gi (lw_c5 (List.mem_of_getElem? (i := 85) rfl)) rfl
theorem wm_1046 : (Cond.instanceMethod ({ cls := "DrawingHouse", name := "planar", desc := "(II)I" } : MethodName) : Cond) ∈ lw_g := lw_gi (lw_c5 (List.mem_of_getElem? (i := 86) rfl)) rfl
theorem wm_1047 : (Cond.selects "DrawingHouse" ({ cls := "DrawingHouse", name := "planar", desc := "(II)I" } : MethodName) ({ cls := "DrawingHouse", name := "planar", desc := "(II)I" } : MethodName) : Cond) ∈ lw_g := lw_gi (lw_c5 (List.mem_of_getElem? (i := 87) rfl)) rfl
theorem wm_1048 : (Cond.code ({ cls := "DrawingHouse", name := "planar", desc := "(II)I" } : MethodName) prog_1_method_15_code (4 : Nat) (Option.some ClassFile.FieldType.int) : Cond) ∈ lw_g := lw_gi (lw_c5 (List.mem_of_getElem? (i := 88) rfl)) rfl
theorem wm_1049 : (Cond.methodLink "DrawingHouse" (261 : Nat) ({ cls := "DrawingHouse", name := "embedded", desc := "(I)LDrawingHouse$Net;" } : MethodName) : Cond) ∈ lw_g := lw_gi (lw_c5 (List.mem_of_getElem? (i := 89) rfl)) rfl
theorem wm_1051 : (Cond.instanceMethod ({ cls := "DrawingHouse", name := "embedded", desc := "(I)LDrawingHouse$Net;" } : MethodName) : Cond) ∈ lw_g := lw_gi (lw_c5 (List.mem_of_getElem? (i := 91) rfl)) rfl
theorem wm_1052 : (Cond.code ({ cls := "DrawingHouse", name := "embedded", desc := "(I)LDrawingHouse$Net;" } : MethodName) prog_1_method_34_code (3 : Nat) (Option.some (ClassFile.FieldType.object "DrawingHouse$Net")) : Cond) ∈ lw_g := lw_gi (lw_c5 (List.mem_of_getElem? (i := 92) rfl)) rfl
theorem wm_1053 : (Cond.methodLink "DrawingHouse" (419 : Nat) ({ cls := "DrawingHouse$Net", name := "load", desc := "(LDrawingHouse$Graph;)V" } : MethodName) : Cond) ∈ lw_g := lw_gi (lw_c5 (List.mem_of_getElem? (i := 93) rfl)) rfl
theorem wm_1054 : (Cond.instanceMethod ({ cls := "DrawingHouse$Net", name := "load", desc := "(LDrawingHouse$Graph;)V" } : MethodName) : Cond) ∈ lw_g := lw_gi (lw_c5 (List.mem_of_getElem? (i := 94) rfl)) rfl
theorem wm_1055 : (Cond.selects "DrawingHouse$Net" ({ cls := "DrawingHouse$Net", name := "load", desc := "(LDrawingHouse$Graph;)V" } : MethodName) ({ cls := "DrawingHouse$Net", name := "load", desc := "(LDrawingHouse$Graph;)V" } : MethodName) : Cond) ∈ lw_g := lw_gi (lw_c5 (List.mem_of_getElem? (i := 95) rfl)) rfl
theorem wm_1056 : (Cond.code ({ cls := "DrawingHouse$Net", name := "load", desc := "(LDrawingHouse$Graph;)V" } : MethodName) prog_7_method_4_code (3 : Nat) (Option.none : Option ClassFile.FieldType) : Cond) ∈ lw_g := lw_gi (lw_c5 (List.mem_of_getElem? (i := 96) rfl)) rfl
theorem wm_1057 : (Cond.methodLink "DrawingHouse$Net" (73 : Nat) ({ cls := "DrawingHouse$Net", name := "begin", desc := "(I)V" } : MethodName) : Cond) ∈ lw_g := lw_gi (lw_c5 (List.mem_of_getElem? (i := 97) rfl)) rfl
theorem wm_1058 : (Cond.instanceMethod ({ cls := "DrawingHouse$Net", name := "begin", desc := "(I)V" } : MethodName) : Cond) ∈ lw_g := lw_gi (lw_c5 (List.mem_of_getElem? (i := 98) rfl)) rfl
theorem wm_1059 : (Cond.selects "DrawingHouse$Net" ({ cls := "DrawingHouse$Net", name := "begin", desc := "(I)V" } : MethodName) ({ cls := "DrawingHouse$Net", name := "begin", desc := "(I)V" } : MethodName) : Cond) ∈ lw_g := lw_gi (lw_c5 (List.mem_of_getElem? (i := 99) rfl)) rfl
theorem wm_1060 : (Cond.code ({ cls := "DrawingHouse$Net", name := "begin", desc := "(I)V" } : MethodName) prog_7_method_3_code (2 : Nat) (Option.none : Option ClassFile.FieldType) : Cond) ∈ lw_g := lw_gi (lw_c5 (List.mem_of_getElem? (i := 100) rfl)) rfl
theorem wm_1061 : (Cond.methodLink "DrawingHouse$Net" (64 : Nat) ({ cls := "java/util/Arrays", name := "fill", desc := "([II)V" } : MethodName) : Cond) ∈ lw_g := lw_gi (lw_c5 (List.mem_of_getElem? (i := 101) rfl)) rfl
theorem wm_1066 : (Cond.methodLink "DrawingHouse" (422 : Nat) ({ cls := "DrawingHouse$Embedder", name := "embed", desc := "(LDrawingHouse$Net;)Z" } : MethodName) : Cond) ∈ lw_g := lw_gi (lw_c5 (List.mem_of_getElem? (i := 106) rfl)) rfl
theorem wm_1067 : (Cond.instanceMethod ({ cls := "DrawingHouse$Embedder", name := "embed", desc := "(LDrawingHouse$Net;)Z" } : MethodName) : Cond) ∈ lw_g := lw_gi (lw_c5 (List.mem_of_getElem? (i := 107) rfl)) rfl
theorem wm_1068 : (Cond.selects "DrawingHouse$Embedder" ({ cls := "DrawingHouse$Embedder", name := "embed", desc := "(LDrawingHouse$Net;)Z" } : MethodName) ({ cls := "DrawingHouse$Embedder", name := "embed", desc := "(LDrawingHouse$Net;)Z" } : MethodName) : Cond) ∈ lw_g := lw_gi (lw_c5 (List.mem_of_getElem? (i := 108) rfl)) rfl
theorem wm_1069 : (Cond.code ({ cls := "DrawingHouse$Embedder", name := "embed", desc := "(LDrawingHouse$Net;)Z" } : MethodName) prog_3_method_5_code (6 : Nat) (Option.some ClassFile.FieldType.boolean) : Cond) ∈ lw_g := lw_gi (lw_c5 (List.mem_of_getElem? (i := 109) rfl)) rfl
theorem wm_1070 : (Cond.methodLink "DrawingHouse$Embedder" (136 : Nat) ({ cls := "DrawingHouse$Facts", name := "blocksOf", desc := "(II[I[I[I[I)I" } : MethodName) : Cond) ∈ lw_g := lw_gi (lw_c5 (List.mem_of_getElem? (i := 110) rfl)) rfl
theorem wm_1139 : (Cond.methodLink "DrawingHouse$Embedder" (159 : Nat) ({ cls := "DrawingHouse$Embedder", name := "joinBlocksAt", desc := "(II)V" } : MethodName) : Cond) ∈ lw_g := lw_gi (lw_c5 (List.mem_of_getElem? (i := 179) rfl)) rfl
theorem wm_1141 : (Cond.instanceMethod ({ cls := "DrawingHouse$Embedder", name := "joinBlocksAt", desc := "(II)V" } : MethodName) : Cond) ∈ lw_g := lw_gi (lw_c5 (List.mem_of_getElem? (i := 181) rfl)) rfl
theorem wm_1142 : (Cond.code ({ cls := "DrawingHouse$Embedder", name := "joinBlocksAt", desc := "(II)V" } : MethodName) prog_3_method_19_code (8 : Nat) (Option.none : Option ClassFile.FieldType) : Cond) ∈ lw_g := lw_gi (lw_c5 (List.mem_of_getElem? (i := 182) rfl)) rfl
theorem wm_1147 : (Cond.methodLink "DrawingHouse$Embedder" (163 : Nat) ({ cls := "DrawingHouse$Net", name := "traceFaces", desc := "()V" } : MethodName) : Cond) ∈ lw_g := lw_gi (lw_c5 (List.mem_of_getElem? (i := 187) rfl)) rfl
theorem wm_1148 : (Cond.instanceMethod ({ cls := "DrawingHouse$Net", name := "traceFaces", desc := "()V" } : MethodName) : Cond) ∈ lw_g := lw_gi (lw_c5 (List.mem_of_getElem? (i := 188) rfl)) rfl
theorem wm_1149 : (Cond.selects "DrawingHouse$Net" ({ cls := "DrawingHouse$Net", name := "traceFaces", desc := "()V" } : MethodName) ({ cls := "DrawingHouse$Net", name := "traceFaces", desc := "()V" } : MethodName) : Cond) ∈ lw_g := lw_gi (lw_c5 (List.mem_of_getElem? (i := 189) rfl)) rfl
theorem wm_1150 : (Cond.code ({ cls := "DrawingHouse$Net", name := "traceFaces", desc := "()V" } : MethodName) prog_7_method_11_code (6 : Nat) (Option.none : Option ClassFile.FieldType) : Cond) ∈ lw_g := lw_gi (lw_c5 (List.mem_of_getElem? (i := 190) rfl)) rfl
theorem wm_1162 : (Cond.methodLink "DrawingHouse$Embedder" (95 : Nat) ({ cls := "DrawingHouse$Embedder", name := "embed", desc := "(LDrawingHouse$Net;)Z" } : MethodName) : Cond) ∈ lw_g := lw_gi (lw_c5 (List.mem_of_getElem? (i := 202) rfl)) rfl
theorem wm_1164 : (Cond.methodLink "DrawingHouse" (268 : Nat) ({ cls := "DrawingHouse$Embedder", name := "outer", desc := "(LDrawingHouse$Graph;LDrawingHouse$Net;)I" } : MethodName) : Cond) ∈ lw_g := lw_gi (lw_c5 (List.mem_of_getElem? (i := 204) rfl)) rfl
theorem wm_1165 : (Cond.instanceMethod ({ cls := "DrawingHouse$Embedder", name := "outer", desc := "(LDrawingHouse$Graph;LDrawingHouse$Net;)I" } : MethodName) : Cond) ∈ lw_g := lw_gi (lw_c5 (List.mem_of_getElem? (i := 205) rfl)) rfl
theorem wm_1166 : (Cond.selects "DrawingHouse$Embedder" ({ cls := "DrawingHouse$Embedder", name := "outer", desc := "(LDrawingHouse$Graph;LDrawingHouse$Net;)I" } : MethodName) ({ cls := "DrawingHouse$Embedder", name := "outer", desc := "(LDrawingHouse$Graph;LDrawingHouse$Net;)I" } : MethodName) : Cond) ∈ lw_g := lw_gi (lw_c5 (List.mem_of_getElem? (i := 206) rfl)) rfl
theorem wm_1167 : (Cond.code ({ cls := "DrawingHouse$Embedder", name := "outer", desc := "(LDrawingHouse$Graph;LDrawingHouse$Net;)I" } : MethodName) prog_3_method_2_code (4 : Nat) (Option.some ClassFile.FieldType.int) : Cond) ∈ lw_g := lw_gi (lw_c5 (List.mem_of_getElem? (i := 207) rfl)) rfl
theorem wm_1168 : (Cond.methodLink "DrawingHouse$Embedder" (81 : Nat) ({ cls := "DrawingHouse$Net", name := "load", desc := "(LDrawingHouse$Graph;)V" } : MethodName) : Cond) ∈ lw_g := lw_gi (lw_c5 (List.mem_of_getElem? (i := 208) rfl)) rfl
theorem wm_2481 : (Cond.fieldLink "DrawingHouseModel" (649 : Nat) "DrawingHouseModel" "onlyPiece" "I" : Cond) ∈ lw_g := lw_gi (lw_c11 (List.mem_of_getElem? (i := 81) rfl)) rfl
theorem wm_2485 : (Cond.fieldLink "DrawingHouseModel" (683 : Nat) "DrawingHouseModel" "rounds" "I" : Cond) ∈ lw_g := lw_gi (lw_c11 (List.mem_of_getElem? (i := 85) rfl)) rfl
theorem wm_3136 : (Cond.methodLink "DrawingHouseLaw" (74 : Nat) ({ cls := "DrawingHouseModel", name := "planar", desc := "(II)I" } : MethodName) : Cond) ∈ lw_g := lw_gi (lw_c14 (List.mem_of_getElem? (i := 16) rfl)) rfl
theorem wm_3137 : (Cond.instanceMethod ({ cls := "DrawingHouseModel", name := "planar", desc := "(II)I" } : MethodName) : Cond) ∈ lw_g := lw_gi (lw_c14 (List.mem_of_getElem? (i := 17) rfl)) rfl
theorem wm_3138 : (Cond.selects "DrawingHouseModel" ({ cls := "DrawingHouseModel", name := "planar", desc := "(II)I" } : MethodName) ({ cls := "DrawingHouseModel", name := "planar", desc := "(II)I" } : MethodName) : Cond) ∈ lw_g := lw_gi (lw_c14 (List.mem_of_getElem? (i := 18) rfl)) rfl
theorem wm_3139 : (Cond.code ({ cls := "DrawingHouseModel", name := "planar", desc := "(II)I" } : MethodName) prog_15_method_94_code (4 : Nat) (Option.some ClassFile.FieldType.int) : Cond) ∈ lw_g := lw_gi (lw_c14 (List.mem_of_getElem? (i := 19) rfl)) rfl
theorem wm_3140 : (Cond.methodLink "DrawingHouseModel" (701 : Nat) ({ cls := "DrawingHouseModel", name := "isOuter", desc := "()Z" } : MethodName) : Cond) ∈ lw_g := lw_gi (lw_c14 (List.mem_of_getElem? (i := 20) rfl)) rfl
theorem wm_3142 : (Cond.instanceMethod ({ cls := "DrawingHouseModel", name := "isOuter", desc := "()Z" } : MethodName) : Cond) ∈ lw_g := lw_gi (lw_c14 (List.mem_of_getElem? (i := 22) rfl)) rfl
theorem wm_3143 : (Cond.code ({ cls := "DrawingHouseModel", name := "isOuter", desc := "()Z" } : MethodName) prog_15_method_92_code (2 : Nat) (Option.some ClassFile.FieldType.boolean) : Cond) ∈ lw_g := lw_gi (lw_c14 (List.mem_of_getElem? (i := 23) rfl)) rfl
theorem wm_3148 : (Cond.methodLink "DrawingHouseModel" (692 : Nat) ({ cls := "DrawingHouseModel", name := "embed", desc := "()Z" } : MethodName) : Cond) ∈ lw_g := lw_gi (lw_c14 (List.mem_of_getElem? (i := 28) rfl)) rfl
theorem wm_3150 : (Cond.instanceMethod ({ cls := "DrawingHouseModel", name := "embed", desc := "()Z" } : MethodName) : Cond) ∈ lw_g := lw_gi (lw_c14 (List.mem_of_getElem? (i := 30) rfl)) rfl
theorem wm_3151 : (Cond.code ({ cls := "DrawingHouseModel", name := "embed", desc := "()Z" } : MethodName) prog_15_method_84_code (4 : Nat) (Option.some ClassFile.FieldType.boolean) : Cond) ∈ lw_g := lw_gi (lw_c14 (List.mem_of_getElem? (i := 31) rfl)) rfl
theorem wm_3248 : (Cond.methodLink "DrawingHouseModel" (704 : Nat) ({ cls := "DrawingHouseModel", name := "isPlanar", desc := "()Z" } : MethodName) : Cond) ∈ lw_g := lw_gi (lw_c14 (List.mem_of_getElem? (i := 128) rfl)) rfl
theorem wm_3250 : (Cond.instanceMethod ({ cls := "DrawingHouseModel", name := "isPlanar", desc := "()Z" } : MethodName) : Cond) ∈ lw_g := lw_gi (lw_c14 (List.mem_of_getElem? (i := 130) rfl)) rfl
theorem wm_3251 : (Cond.code ({ cls := "DrawingHouseModel", name := "isPlanar", desc := "()Z" } : MethodName) prog_15_method_91_code (1 : Nat) (Option.some ClassFile.FieldType.boolean) : Cond) ∈ lw_g := lw_gi (lw_c14 (List.mem_of_getElem? (i := 131) rfl)) rfl
theorem wm_3252 : (Cond.methodLink "DrawingHouseModel" (707 : Nat) ({ cls := "DrawingHouseModel", name := "goRound", desc := "()V" } : MethodName) : Cond) ∈ lw_g := lw_gi (lw_c14 (List.mem_of_getElem? (i := 132) rfl)) rfl
theorem wm_3254 : (Cond.instanceMethod ({ cls := "DrawingHouseModel", name := "goRound", desc := "()V" } : MethodName) : Cond) ∈ lw_g := lw_gi (lw_c14 (List.mem_of_getElem? (i := 134) rfl)) rfl
theorem wm_3255 : (Cond.code ({ cls := "DrawingHouseModel", name := "goRound", desc := "()V" } : MethodName) prog_15_method_90_code (4 : Nat) (Option.none : Option ClassFile.FieldType) : Cond) ∈ lw_g := lw_gi (lw_c14 (List.mem_of_getElem? (i := 135) rfl)) rfl
theorem wv_3_6 : (Cond.selects "DrawingHouse" ⟨"DrawingHouse", "embedded", "(I)LDrawingHouse$Net;"⟩ ⟨"DrawingHouse", "embedded", "(I)LDrawingHouse$Net;"⟩ : Cond) ∈ lw_g := lw_gi (List.mem_append_left _ (List.mem_map.mpr ⟨_, lw_v2 (List.mem_of_getElem? (i := 0) rfl), rfl⟩)) rfl
theorem wv_4_4 : (Cond.selects "DrawingHouse$Embedder" ⟨"DrawingHouse$Embedder", "joinBlocksAt", "(II)V"⟩ ⟨"DrawingHouse$Embedder", "joinBlocksAt", "(II)V"⟩ : Cond) ∈ lw_g := lw_gi (List.mem_append_left _ (List.mem_map.mpr ⟨_, lw_v2 (List.mem_of_getElem? (i := 1) rfl), rfl⟩)) rfl
theorem wv_14_11 : (Cond.selects "DrawingHouseModel" ⟨"DrawingHouseModel", "isOuter", "()Z"⟩ ⟨"DrawingHouseModel", "isOuter", "()Z"⟩ : Cond) ∈ lw_g := lw_gi (List.mem_append_left _ (List.mem_map.mpr ⟨_, lw_v3 (List.mem_of_getElem? (i := 3) rfl), rfl⟩)) rfl
theorem wv_14_13 : (Cond.selects "DrawingHouseModel" ⟨"DrawingHouseModel", "embed", "()Z"⟩ ⟨"DrawingHouseModel", "embed", "()Z"⟩ : Cond) ∈ lw_g := lw_gi (List.mem_append_left _ (List.mem_map.mpr ⟨_, lw_v3 (List.mem_of_getElem? (i := 5) rfl), rfl⟩)) rfl
theorem wv_16_5 : (Cond.selects "DrawingHouseModel" ⟨"DrawingHouseModel", "isPlanar", "()Z"⟩ ⟨"DrawingHouseModel", "isPlanar", "()Z"⟩ : Cond) ∈ lw_g := lw_gi (List.mem_append_left _ (List.mem_map.mpr ⟨_, lw_v3 (List.mem_of_getElem? (i := 7) rfl), rfl⟩)) rfl
theorem wv_16_6 : (Cond.selects "DrawingHouseModel" ⟨"DrawingHouseModel", "goRound", "()V"⟩ ⟨"DrawingHouseModel", "goRound", "()V"⟩ : Cond) ∈ lw_g := lw_gi (List.mem_append_left _ (List.mem_map.mpr ⟨_, lw_v3 (List.mem_of_getElem? (i := 8) rfl), rfl⟩)) rfl
theorem d_Fa_blocksOf_38 : decode b_Fa_blocksOf 38 = .ok (.aload 4, 2) := by decide +kernel
theorem d_Fa_blocksOf_40 : decode b_Fa_blocksOf 40 = .ok (.iload 7, 2) := by decide +kernel
theorem d_Fa_blocksOf_42 : decode b_Fa_blocksOf 42 = .ok (.iaload, 1) := by decide +kernel
theorem d_Fa_blocksOf_43 : decode b_Fa_blocksOf 43 = .ok (.istore 8, 2) := by decide +kernel
theorem d_Fa_blocksOf_45 : decode b_Fa_blocksOf 45 = .ok (.iconst 0, 1) := by decide +kernel
theorem d_Fa_blocksOf_46 : decode b_Fa_blocksOf 46 = .ok (.istore 9, 2) := by decide +kernel
theorem d_Fa_blocksOf_48 : decode b_Fa_blocksOf 48 = .ok (.iload 9, 2) := by decide +kernel
theorem d_Fa_blocksOf_50 : decode b_Fa_blocksOf 50 = .ok (.iload_n 0, 1) := by decide +kernel
theorem d_Fa_blocksOf_51 : decode b_Fa_blocksOf 51 = .ok (.if_icmp .ge 61, 3) := by decide +kernel
theorem d_Fa_blocksOf_54 : decode b_Fa_blocksOf 54 = .ok (.iload 8, 2) := by decide +kernel
theorem d_Fa_blocksOf_56 : decode b_Fa_blocksOf 56 = .ok (.iload 9, 2) := by decide +kernel
theorem d_Fa_blocksOf_58 : decode b_Fa_blocksOf 58 = .ok (.ishr, 1) := by decide +kernel
theorem d_Fa_blocksOf_59 : decode b_Fa_blocksOf 59 = .ok (.iconst 1, 1) := by decide +kernel
theorem d_Fa_blocksOf_60 : decode b_Fa_blocksOf 60 = .ok (.iand, 1) := by decide +kernel
theorem d_Fa_blocksOf_61 : decode b_Fa_blocksOf 61 = .ok (.ifCond .eq 45, 3) := by decide +kernel
theorem d_Fa_blocksOf_106 : decode b_Fa_blocksOf 106 = .ok (.iinc 9 1, 3) := by decide +kernel
theorem d_Fa_blocksOf_109 : decode b_Fa_blocksOf 109 = .ok (.goto (-61), 3) := by decide +kernel
theorem d_Fa_blocksOf_112 : decode b_Fa_blocksOf 112 = .ok (.iinc 7 1, 3) := by decide +kernel
theorem d_Fa_blocksOf_115 : decode b_Fa_blocksOf 115 = .ok (.goto (-83), 3) := by decide +kernel
theorem d_Mo_blocks_33 : decode b_Mo_blocks 33 = .ok (.iconst 0, 1) := by decide +kernel
theorem d_Mo_blocks_34 : decode b_Mo_blocks 34 = .ok (.istore_n 2, 1) := by decide +kernel
theorem d_Mo_blocks_35 : decode b_Mo_blocks 35 = .ok (.iload_n 2, 1) := by decide +kernel
theorem d_Mo_blocks_36 : decode b_Mo_blocks 36 = .ok (.aload_n 0, 1) := by decide +kernel
theorem d_Mo_blocks_37 : decode b_Mo_blocks 37 = .ok (.getfield 597, 3) := by decide +kernel
theorem d_Mo_blocks_40 : decode b_Mo_blocks 40 = .ok (.if_icmp .ge 89, 3) := by decide +kernel
theorem d_Mo_blocks_129 : decode b_Mo_blocks 129 = .ok (.iinc 1 1, 3) := by decide +kernel
theorem d_Mo_blocks_132 : decode b_Mo_blocks 132 = .ok (.goto (-107), 3) := by decide +kernel
abbrev b_Ho_planar : ByteArray := prog_1_method_15_code
def y_Ho_planar : MethodName := ⟨"DrawingHouse", "planar", "(II)I"⟩
abbrev z_Ho_planar : List Cond := Cond.code y_Ho_planar b_Ho_planar 4 (some .int) :: lw_g
theorem d_Ho_planar_0 : decode b_Ho_planar 0 = .ok (.iload_n 1, 1) := by decide +kernel
theorem d_Ho_planar_1 : decode b_Ho_planar 1 = .ok (.invokestatic 115, 3) := by decide +kernel
theorem d_Ho_planar_4 : decode b_Ho_planar 4 = .ok (.ifCond .ne 5, 3) := by decide +kernel
theorem d_Ho_planar_7 : decode b_Ho_planar 7 = .ok (.iconst (-1), 1) := by decide +kernel
theorem d_Ho_planar_8 : decode b_Ho_planar 8 = .ok (.ireturn, 1) := by decide +kernel
theorem d_Ho_planar_9 : decode b_Ho_planar 9 = .ok (.aload_n 0, 1) := by decide +kernel
theorem d_Ho_planar_10 : decode b_Ho_planar 10 = .ok (.iload_n 1, 1) := by decide +kernel
theorem d_Ho_planar_11 : decode b_Ho_planar 11 = .ok (.invokevirtual 261, 3) := by decide +kernel
theorem d_Ho_planar_14 : decode b_Ho_planar 14 = .ok (.astore_n 3, 1) := by decide +kernel
theorem d_Ho_planar_15 : decode b_Ho_planar 15 = .ok (.iload_n 2, 1) := by decide +kernel
theorem d_Ho_planar_16 : decode b_Ho_planar 16 = .ok (.tableswitch 107 0 4 #[36, 41, 56, 73, 90], 36) := by decide +kernel
theorem d_Ho_planar_52 : decode b_Ho_planar 52 = .ok (.aload_n 3, 1) := by decide +kernel
theorem d_Ho_planar_53 : decode b_Ho_planar 53 = .ok (.getfield 265, 3) := by decide +kernel
theorem d_Ho_planar_56 : decode b_Ho_planar 56 = .ok (.ireturn, 1) := by decide +kernel
theorem d_Ho_planar_57 : decode b_Ho_planar 57 = .ok (.aload_n 0, 1) := by decide +kernel
theorem d_Ho_planar_58 : decode b_Ho_planar 58 = .ok (.getfield 45, 3) := by decide +kernel
theorem d_Ho_planar_61 : decode b_Ho_planar 61 = .ok (.aload_n 0, 1) := by decide +kernel
theorem d_Ho_planar_62 : decode b_Ho_planar 62 = .ok (.getfield 13, 3) := by decide +kernel
theorem d_Ho_planar_65 : decode b_Ho_planar 65 = .ok (.iload_n 1, 1) := by decide +kernel
theorem d_Ho_planar_66 : decode b_Ho_planar 66 = .ok (.aaload, 1) := by decide +kernel
theorem d_Ho_planar_67 : decode b_Ho_planar 67 = .ok (.aload_n 3, 1) := by decide +kernel
theorem d_Ho_planar_68 : decode b_Ho_planar 68 = .ok (.invokevirtual 268, 3) := by decide +kernel
theorem d_Ho_planar_71 : decode b_Ho_planar 71 = .ok (.ireturn, 1) := by decide +kernel
theorem d_Ho_planar_72 : decode b_Ho_planar 72 = .ok (.aload_n 3, 1) := by decide +kernel
theorem d_Ho_planar_73 : decode b_Ho_planar 73 = .ok (.getfield 265, 3) := by decide +kernel
theorem d_Ho_planar_76 : decode b_Ho_planar 76 = .ok (.iconst 1, 1) := by decide +kernel
theorem d_Ho_planar_77 : decode b_Ho_planar 77 = .ok (.if_icmp .ne 10, 3) := by decide +kernel
theorem d_Ho_planar_80 : decode b_Ho_planar 80 = .ok (.aload_n 3, 1) := by decide +kernel
theorem d_Ho_planar_81 : decode b_Ho_planar 81 = .ok (.getfield 272, 3) := by decide +kernel
theorem d_Ho_planar_84 : decode b_Ho_planar 84 = .ok (.goto 4, 3) := by decide +kernel
theorem d_Ho_planar_88 : decode b_Ho_planar 88 = .ok (.ireturn, 1) := by decide +kernel
theorem d_Ho_planar_89 : decode b_Ho_planar 89 = .ok (.aload_n 3, 1) := by decide +kernel
theorem d_Ho_planar_90 : decode b_Ho_planar 90 = .ok (.getfield 265, 3) := by decide +kernel
theorem d_Ho_planar_93 : decode b_Ho_planar 93 = .ok (.iconst 1, 1) := by decide +kernel
theorem d_Ho_planar_94 : decode b_Ho_planar 94 = .ok (.if_icmp .ne 7, 3) := by decide +kernel
theorem d_Ho_planar_97 : decode b_Ho_planar 97 = .ok (.iconst (-1), 1) := by decide +kernel
theorem d_Ho_planar_98 : decode b_Ho_planar 98 = .ok (.goto 7, 3) := by decide +kernel
theorem d_Ho_planar_105 : decode b_Ho_planar 105 = .ok (.ireturn, 1) := by decide +kernel
theorem d_Ho_planar_106 : decode b_Ho_planar 106 = .ok (.aload_n 3, 1) := by decide +kernel
theorem d_Ho_planar_107 : decode b_Ho_planar 107 = .ok (.getfield 265, 3) := by decide +kernel
theorem d_Ho_planar_110 : decode b_Ho_planar 110 = .ok (.iconst 1, 1) := by decide +kernel
theorem d_Ho_planar_111 : decode b_Ho_planar 111 = .ok (.if_icmp .ne 7, 3) := by decide +kernel
theorem d_Ho_planar_114 : decode b_Ho_planar 114 = .ok (.iconst (-1), 1) := by decide +kernel
theorem d_Ho_planar_115 : decode b_Ho_planar 115 = .ok (.goto 7, 3) := by decide +kernel
theorem d_Ho_planar_122 : decode b_Ho_planar 122 = .ok (.ireturn, 1) := by decide +kernel
theorem d_Ho_planar_123 : decode b_Ho_planar 123 = .ok (.iconst (-1), 1) := by decide +kernel
theorem d_Ho_planar_124 : decode b_Ho_planar 124 = .ok (.ireturn, 1) := by decide +kernel
abbrev b_Mo_planar : ByteArray := prog_15_method_94_code
def y_Mo_planar : MethodName := ⟨"DrawingHouseModel", "planar", "(II)I"⟩
abbrev z_Mo_planar : List Cond := Cond.code y_Mo_planar b_Mo_planar 4 (some .int) :: lw_g
theorem d_Mo_planar_0 : decode b_Mo_planar 0 = .ok (.iload_n 1, 1) := by decide +kernel
theorem d_Mo_planar_1 : decode b_Mo_planar 1 = .ok (.invokestatic 521, 3) := by decide +kernel
theorem d_Mo_planar_4 : decode b_Mo_planar 4 = .ok (.ifCond .eq 12, 3) := by decide +kernel
theorem d_Mo_planar_7 : decode b_Mo_planar 7 = .ok (.iload_n 2, 1) := by decide +kernel
theorem d_Mo_planar_8 : decode b_Mo_planar 8 = .ok (.iconst 0, 1) := by decide +kernel
theorem d_Mo_planar_9 : decode b_Mo_planar 9 = .ok (.iconst 4, 1) := by decide +kernel
theorem d_Mo_planar_10 : decode b_Mo_planar 10 = .ok (.invokestatic 387, 3) := by decide +kernel
theorem d_Mo_planar_13 : decode b_Mo_planar 13 = .ok (.ifCond .ne 5, 3) := by decide +kernel
theorem d_Mo_planar_16 : decode b_Mo_planar 16 = .ok (.iconst (-1), 1) := by decide +kernel
theorem d_Mo_planar_17 : decode b_Mo_planar 17 = .ok (.ireturn, 1) := by decide +kernel
theorem d_Mo_planar_18 : decode b_Mo_planar 18 = .ok (.aload_n 0, 1) := by decide +kernel
theorem d_Mo_planar_19 : decode b_Mo_planar 19 = .ok (.iload_n 1, 1) := by decide +kernel
theorem d_Mo_planar_20 : decode b_Mo_planar 20 = .ok (.invokevirtual 527, 3) := by decide +kernel
theorem d_Mo_planar_23 : decode b_Mo_planar 23 = .ok (.iload_n 2, 1) := by decide +kernel
theorem d_Mo_planar_24 : decode b_Mo_planar 24 = .ok (.iconst 1, 1) := by decide +kernel
theorem d_Mo_planar_25 : decode b_Mo_planar 25 = .ok (.if_icmp .ne 16, 3) := by decide +kernel
theorem d_Mo_planar_28 : decode b_Mo_planar 28 = .ok (.aload_n 0, 1) := by decide +kernel
theorem d_Mo_planar_29 : decode b_Mo_planar 29 = .ok (.invokevirtual 701, 3) := by decide +kernel
theorem d_Mo_planar_32 : decode b_Mo_planar 32 = .ok (.ifCond .eq 7, 3) := by decide +kernel
theorem d_Mo_planar_35 : decode b_Mo_planar 35 = .ok (.iconst 1, 1) := by decide +kernel
theorem d_Mo_planar_36 : decode b_Mo_planar 36 = .ok (.goto 4, 3) := by decide +kernel
theorem d_Mo_planar_40 : decode b_Mo_planar 40 = .ok (.ireturn, 1) := by decide +kernel
theorem d_Mo_planar_41 : decode b_Mo_planar 41 = .ok (.aload_n 0, 1) := by decide +kernel
theorem d_Mo_planar_42 : decode b_Mo_planar 42 = .ok (.invokevirtual 704, 3) := by decide +kernel
theorem d_Mo_planar_45 : decode b_Mo_planar 45 = .ok (.istore_n 3, 1) := by decide +kernel
theorem d_Mo_planar_46 : decode b_Mo_planar 46 = .ok (.iload_n 2, 1) := by decide +kernel
theorem d_Mo_planar_47 : decode b_Mo_planar 47 = .ok (.ifCond .ne 13, 3) := by decide +kernel
theorem d_Mo_planar_50 : decode b_Mo_planar 50 = .ok (.iload_n 3, 1) := by decide +kernel
theorem d_Mo_planar_51 : decode b_Mo_planar 51 = .ok (.ifCond .eq 7, 3) := by decide +kernel
theorem d_Mo_planar_54 : decode b_Mo_planar 54 = .ok (.iconst 1, 1) := by decide +kernel
theorem d_Mo_planar_55 : decode b_Mo_planar 55 = .ok (.goto 4, 3) := by decide +kernel
theorem d_Mo_planar_59 : decode b_Mo_planar 59 = .ok (.ireturn, 1) := by decide +kernel
theorem d_Mo_planar_60 : decode b_Mo_planar 60 = .ok (.iload_n 2, 1) := by decide +kernel
theorem d_Mo_planar_61 : decode b_Mo_planar 61 = .ok (.iconst 2, 1) := by decide +kernel
theorem d_Mo_planar_62 : decode b_Mo_planar 62 = .ok (.if_icmp .ne 7, 3) := by decide +kernel
theorem d_Mo_planar_65 : decode b_Mo_planar 65 = .ok (.iconst 1, 1) := by decide +kernel
theorem d_Mo_planar_66 : decode b_Mo_planar 66 = .ok (.goto 4, 3) := by decide +kernel
theorem d_Mo_planar_69 : decode b_Mo_planar 69 = .ok (.iconst 0, 1) := by decide +kernel
theorem d_Mo_planar_70 : decode b_Mo_planar 70 = .ok (.iload_n 3, 1) := by decide +kernel
theorem d_Mo_planar_71 : decode b_Mo_planar 71 = .ok (.if_icmp .eq 5, 3) := by decide +kernel
theorem d_Mo_planar_74 : decode b_Mo_planar 74 = .ok (.iconst (-1), 1) := by decide +kernel
theorem d_Mo_planar_75 : decode b_Mo_planar 75 = .ok (.ireturn, 1) := by decide +kernel
theorem d_Mo_planar_76 : decode b_Mo_planar 76 = .ok (.iload_n 3, 1) := by decide +kernel
theorem d_Mo_planar_77 : decode b_Mo_planar 77 = .ok (.ifCond .eq 12, 3) := by decide +kernel
theorem d_Mo_planar_80 : decode b_Mo_planar 80 = .ok (.aload_n 0, 1) := by decide +kernel
theorem d_Mo_planar_81 : decode b_Mo_planar 81 = .ok (.invokevirtual 707, 3) := by decide +kernel
theorem d_Mo_planar_84 : decode b_Mo_planar 84 = .ok (.aload_n 0, 1) := by decide +kernel
theorem d_Mo_planar_85 : decode b_Mo_planar 85 = .ok (.getfield 683, 3) := by decide +kernel
theorem d_Mo_planar_88 : decode b_Mo_planar 88 = .ok (.ireturn, 1) := by decide +kernel
abbrev b_Ne_begin : ByteArray := prog_7_method_3_code
def y_Ne_begin : MethodName := ⟨"DrawingHouse$Net", "begin", "(I)V"⟩
abbrev z_Ne_begin : List Cond := Cond.code y_Ne_begin b_Ne_begin 2 none :: lw_g
theorem d_Ne_begin_0 : decode b_Ne_begin 0 = .ok (.aload_n 0, 1) := by decide +kernel
theorem d_Ne_begin_1 : decode b_Ne_begin 1 = .ok (.iload_n 1, 1) := by decide +kernel
theorem d_Ne_begin_2 : decode b_Ne_begin 2 = .ok (.putfield 28, 3) := by decide +kernel
theorem d_Ne_begin_5 : decode b_Ne_begin 5 = .ok (.aload_n 0, 1) := by decide +kernel
theorem d_Ne_begin_6 : decode b_Ne_begin 6 = .ok (.iconst 0, 1) := by decide +kernel
theorem d_Ne_begin_7 : decode b_Ne_begin 7 = .ok (.putfield 31, 3) := by decide +kernel
theorem d_Ne_begin_10 : decode b_Ne_begin 10 = .ok (.aload_n 0, 1) := by decide +kernel
theorem d_Ne_begin_11 : decode b_Ne_begin 11 = .ok (.iconst 0, 1) := by decide +kernel
theorem d_Ne_begin_12 : decode b_Ne_begin 12 = .ok (.putfield 52, 3) := by decide +kernel
theorem d_Ne_begin_15 : decode b_Ne_begin 15 = .ok (.aload_n 0, 1) := by decide +kernel
theorem d_Ne_begin_16 : decode b_Ne_begin 16 = .ok (.getfield 40, 3) := by decide +kernel
theorem d_Ne_begin_19 : decode b_Ne_begin 19 = .ok (.iconst 0, 1) := by decide +kernel
theorem d_Ne_begin_20 : decode b_Ne_begin 20 = .ok (.invokestatic 64, 3) := by decide +kernel
theorem d_Ne_begin_23 : decode b_Ne_begin 23 = .ok (.aload_n 0, 1) := by decide +kernel
theorem d_Ne_begin_24 : decode b_Ne_begin 24 = .ok (.getfield 43, 3) := by decide +kernel
theorem d_Ne_begin_27 : decode b_Ne_begin 27 = .ok (.iconst (-1), 1) := by decide +kernel
theorem d_Ne_begin_28 : decode b_Ne_begin 28 = .ok (.invokestatic 64, 3) := by decide +kernel
theorem d_Ne_begin_31 : decode b_Ne_begin 31 = .ok (.aload_n 0, 1) := by decide +kernel
theorem d_Ne_begin_32 : decode b_Ne_begin 32 = .ok (.getfield 49, 3) := by decide +kernel
theorem d_Ne_begin_35 : decode b_Ne_begin 35 = .ok (.iconst (-1), 1) := by decide +kernel
theorem d_Ne_begin_36 : decode b_Ne_begin 36 = .ok (.invokestatic 64, 3) := by decide +kernel
theorem d_Ne_begin_39 : decode b_Ne_begin 39 = .ok (.return_, 1) := by decide +kernel
abbrev b_Ne_load : ByteArray := prog_7_method_4_code
def y_Ne_load : MethodName := ⟨"DrawingHouse$Net", "load", "(LDrawingHouse$Graph;)V"⟩
abbrev z_Ne_load : List Cond := Cond.code y_Ne_load b_Ne_load 3 none :: lw_g
theorem d_Ne_load_0 : decode b_Ne_load 0 = .ok (.aload_n 0, 1) := by decide +kernel
theorem d_Ne_load_1 : decode b_Ne_load 1 = .ok (.aload_n 1, 1) := by decide +kernel
theorem d_Ne_load_2 : decode b_Ne_load 2 = .ok (.getfield 70, 3) := by decide +kernel
theorem d_Ne_load_5 : decode b_Ne_load 5 = .ok (.invokevirtual 73, 3) := by decide +kernel
theorem d_Ne_load_8 : decode b_Ne_load 8 = .ok (.iconst 0, 1) := by decide +kernel
theorem d_Ne_load_9 : decode b_Ne_load 9 = .ok (.istore_n 2, 1) := by decide +kernel
theorem d_Ne_load_10 : decode b_Ne_load 10 = .ok (.iload_n 2, 1) := by decide +kernel
theorem d_Ne_load_11 : decode b_Ne_load 11 = .ok (.aload_n 1, 1) := by decide +kernel
theorem d_Ne_load_12 : decode b_Ne_load 12 = .ok (.getfield 77, 3) := by decide +kernel
theorem d_Ne_load_15 : decode b_Ne_load 15 = .ok (.if_icmp .ge 26, 3) := by decide +kernel
theorem d_Ne_load_41 : decode b_Ne_load 41 = .ok (.return_, 1) := by decide +kernel
abbrev b_Ne_traceFaces : ByteArray := prog_7_method_11_code
def y_Ne_traceFaces : MethodName := ⟨"DrawingHouse$Net", "traceFaces", "()V"⟩
abbrev z_Ne_traceFaces : List Cond := Cond.code y_Ne_traceFaces b_Ne_traceFaces 6 none :: lw_g
theorem d_Ne_traceFaces_0 : decode b_Ne_traceFaces 0 = .ok (.aload_n 0, 1) := by decide +kernel
theorem d_Ne_traceFaces_1 : decode b_Ne_traceFaces 1 = .ok (.iconst 0, 1) := by decide +kernel
theorem d_Ne_traceFaces_2 : decode b_Ne_traceFaces 2 = .ok (.putfield 52, 3) := by decide +kernel
theorem d_Ne_traceFaces_5 : decode b_Ne_traceFaces 5 = .ok (.iconst 0, 1) := by decide +kernel
theorem d_Ne_traceFaces_6 : decode b_Ne_traceFaces 6 = .ok (.istore_n 1, 1) := by decide +kernel
theorem d_Ne_traceFaces_7 : decode b_Ne_traceFaces 7 = .ok (.aload_n 0, 1) := by decide +kernel
theorem d_Ne_traceFaces_8 : decode b_Ne_traceFaces 8 = .ok (.getfield 61, 3) := by decide +kernel
theorem d_Ne_traceFaces_11 : decode b_Ne_traceFaces 11 = .ok (.iconst (-1), 1) := by decide +kernel
theorem d_Ne_traceFaces_12 : decode b_Ne_traceFaces 12 = .ok (.invokestatic 64, 3) := by decide +kernel
theorem d_Ne_traceFaces_15 : decode b_Ne_traceFaces 15 = .ok (.iconst 0, 1) := by decide +kernel
theorem d_Ne_traceFaces_16 : decode b_Ne_traceFaces 16 = .ok (.istore_n 2, 1) := by decide +kernel
theorem d_Ne_traceFaces_17 : decode b_Ne_traceFaces 17 = .ok (.iload_n 2, 1) := by decide +kernel
theorem d_Ne_traceFaces_18 : decode b_Ne_traceFaces 18 = .ok (.iconst 2, 1) := by decide +kernel
theorem d_Ne_traceFaces_19 : decode b_Ne_traceFaces 19 = .ok (.aload_n 0, 1) := by decide +kernel
theorem d_Ne_traceFaces_20 : decode b_Ne_traceFaces 20 = .ok (.getfield 31, 3) := by decide +kernel
theorem d_Ne_traceFaces_23 : decode b_Ne_traceFaces 23 = .ok (.imul, 1) := by decide +kernel
theorem d_Ne_traceFaces_24 : decode b_Ne_traceFaces 24 = .ok (.if_icmp .ge 160, 3) := by decide +kernel
theorem d_Ne_traceFaces_184 : decode b_Ne_traceFaces 184 = .ok (.aload_n 0, 1) := by decide +kernel
theorem d_Ne_traceFaces_185 : decode b_Ne_traceFaces 185 = .ok (.getfield 55, 3) := by decide +kernel
theorem d_Ne_traceFaces_188 : decode b_Ne_traceFaces 188 = .ok (.aload_n 0, 1) := by decide +kernel
theorem d_Ne_traceFaces_189 : decode b_Ne_traceFaces 189 = .ok (.getfield 52, 3) := by decide +kernel
theorem d_Ne_traceFaces_192 : decode b_Ne_traceFaces 192 = .ok (.iload_n 1, 1) := by decide +kernel
theorem d_Ne_traceFaces_193 : decode b_Ne_traceFaces 193 = .ok (.iastore, 1) := by decide +kernel
theorem d_Ne_traceFaces_194 : decode b_Ne_traceFaces 194 = .ok (.return_, 1) := by decide +kernel
abbrev b_Em_embed : ByteArray := prog_3_method_5_code
def y_Em_embed : MethodName := ⟨"DrawingHouse$Embedder", "embed", "(LDrawingHouse$Net;)Z"⟩
abbrev z_Em_embed : List Cond := Cond.code y_Em_embed b_Em_embed 6 (some .boolean) :: lw_g
theorem d_Em_embed_0 : decode b_Em_embed 0 = .ok (.aload_n 0, 1) := by decide +kernel
theorem d_Em_embed_1 : decode b_Em_embed 1 = .ok (.aload_n 1, 1) := by decide +kernel
theorem d_Em_embed_2 : decode b_Em_embed 2 = .ok (.putfield 9, 3) := by decide +kernel
theorem d_Em_embed_5 : decode b_Em_embed 5 = .ok (.aload_n 0, 1) := by decide +kernel
theorem d_Em_embed_6 : decode b_Em_embed 6 = .ok (.getfield 9, 3) := by decide +kernel
theorem d_Em_embed_9 : decode b_Em_embed 9 = .ok (.getfield 85, 3) := by decide +kernel
theorem d_Em_embed_12 : decode b_Em_embed 12 = .ok (.aload_n 0, 1) := by decide +kernel
theorem d_Em_embed_13 : decode b_Em_embed 13 = .ok (.getfield 9, 3) := by decide +kernel
theorem d_Em_embed_16 : decode b_Em_embed 16 = .ok (.getfield 133, 3) := by decide +kernel
theorem d_Em_embed_19 : decode b_Em_embed 19 = .ok (.aload_n 0, 1) := by decide +kernel
theorem d_Em_embed_20 : decode b_Em_embed 20 = .ok (.getfield 9, 3) := by decide +kernel
theorem d_Em_embed_23 : decode b_Em_embed 23 = .ok (.getfield 134, 3) := by decide +kernel
theorem d_Em_embed_26 : decode b_Em_embed 26 = .ok (.aload_n 0, 1) := by decide +kernel
theorem d_Em_embed_27 : decode b_Em_embed 27 = .ok (.getfield 9, 3) := by decide +kernel
theorem d_Em_embed_30 : decode b_Em_embed 30 = .ok (.getfield 135, 3) := by decide +kernel
theorem d_Em_embed_33 : decode b_Em_embed 33 = .ok (.aload_n 0, 1) := by decide +kernel
theorem d_Em_embed_34 : decode b_Em_embed 34 = .ok (.getfield 9, 3) := by decide +kernel
theorem d_Em_embed_37 : decode b_Em_embed 37 = .ok (.getfield 114, 3) := by decide +kernel
theorem d_Em_embed_40 : decode b_Em_embed 40 = .ok (.aload_n 0, 1) := by decide +kernel
theorem d_Em_embed_41 : decode b_Em_embed 41 = .ok (.getfield 21, 3) := by decide +kernel
theorem d_Em_embed_44 : decode b_Em_embed 44 = .ok (.invokestatic 136, 3) := by decide +kernel
theorem d_Em_embed_47 : decode b_Em_embed 47 = .ok (.istore_n 2, 1) := by decide +kernel
theorem d_Em_embed_48 : decode b_Em_embed 48 = .ok (.iconst 0, 1) := by decide +kernel
theorem d_Em_embed_49 : decode b_Em_embed 49 = .ok (.istore_n 3, 1) := by decide +kernel
theorem d_Em_embed_50 : decode b_Em_embed 50 = .ok (.iload_n 3, 1) := by decide +kernel
theorem d_Em_embed_51 : decode b_Em_embed 51 = .ok (.iload_n 2, 1) := by decide +kernel
theorem d_Em_embed_52 : decode b_Em_embed 52 = .ok (.if_icmp .ge 73, 3) := by decide +kernel
theorem d_Em_embed_125 : decode b_Em_embed 125 = .ok (.iconst 0, 1) := by decide +kernel
theorem d_Em_embed_126 : decode b_Em_embed 126 = .ok (.istore_n 3, 1) := by decide +kernel
theorem d_Em_embed_127 : decode b_Em_embed 127 = .ok (.iload_n 3, 1) := by decide +kernel
theorem d_Em_embed_128 : decode b_Em_embed 128 = .ok (.aload_n 0, 1) := by decide +kernel
theorem d_Em_embed_129 : decode b_Em_embed 129 = .ok (.getfield 9, 3) := by decide +kernel
theorem d_Em_embed_132 : decode b_Em_embed 132 = .ok (.getfield 85, 3) := by decide +kernel
theorem d_Em_embed_135 : decode b_Em_embed 135 = .ok (.if_icmp .ge 15, 3) := by decide +kernel
theorem d_Em_embed_138 : decode b_Em_embed 138 = .ok (.aload_n 0, 1) := by decide +kernel
theorem d_Em_embed_139 : decode b_Em_embed 139 = .ok (.iload_n 3, 1) := by decide +kernel
theorem d_Em_embed_140 : decode b_Em_embed 140 = .ok (.iload_n 2, 1) := by decide +kernel
theorem d_Em_embed_141 : decode b_Em_embed 141 = .ok (.invokevirtual 159, 3) := by decide +kernel
theorem d_Em_embed_144 : decode b_Em_embed 144 = .ok (.iinc 3 1, 3) := by decide +kernel
theorem d_Em_embed_147 : decode b_Em_embed 147 = .ok (.goto (-20), 3) := by decide +kernel
theorem d_Em_embed_150 : decode b_Em_embed 150 = .ok (.aload_n 0, 1) := by decide +kernel
theorem d_Em_embed_151 : decode b_Em_embed 151 = .ok (.getfield 9, 3) := by decide +kernel
theorem d_Em_embed_154 : decode b_Em_embed 154 = .ok (.invokevirtual 163, 3) := by decide +kernel
theorem d_Em_embed_157 : decode b_Em_embed 157 = .ok (.iconst 1, 1) := by decide +kernel
theorem d_Em_embed_158 : decode b_Em_embed 158 = .ok (.ireturn, 1) := by decide +kernel
abbrev b_Ho_embedded : ByteArray := prog_1_method_34_code
def y_Ho_embedded : MethodName := ⟨"DrawingHouse", "embedded", "(I)LDrawingHouse$Net;"⟩
abbrev z_Ho_embedded : List Cond := Cond.code y_Ho_embedded b_Ho_embedded 3 (some (.object "DrawingHouse$Net")) :: lw_g
theorem d_Ho_embedded_0 : decode b_Ho_embedded 0 = .ok (.aload_n 0, 1) := by decide +kernel
theorem d_Ho_embedded_1 : decode b_Ho_embedded 1 = .ok (.getfield 25, 3) := by decide +kernel
theorem d_Ho_embedded_4 : decode b_Ho_embedded 4 = .ok (.iload_n 1, 1) := by decide +kernel
theorem d_Ho_embedded_5 : decode b_Ho_embedded 5 = .ok (.aaload, 1) := by decide +kernel
theorem d_Ho_embedded_6 : decode b_Ho_embedded 6 = .ok (.astore_n 2, 1) := by decide +kernel
theorem d_Ho_embedded_7 : decode b_Ho_embedded 7 = .ok (.aload_n 2, 1) := by decide +kernel
theorem d_Ho_embedded_8 : decode b_Ho_embedded 8 = .ok (.getfield 265, 3) := by decide +kernel
theorem d_Ho_embedded_11 : decode b_Ho_embedded 11 = .ok (.iconst (-1), 1) := by decide +kernel
theorem d_Ho_embedded_12 : decode b_Ho_embedded 12 = .ok (.if_icmp .ne 54, 3) := by decide +kernel
theorem d_Ho_embedded_15 : decode b_Ho_embedded 15 = .ok (.aload_n 2, 1) := by decide +kernel
theorem d_Ho_embedded_16 : decode b_Ho_embedded 16 = .ok (.aload_n 0, 1) := by decide +kernel
theorem d_Ho_embedded_17 : decode b_Ho_embedded 17 = .ok (.getfield 13, 3) := by decide +kernel
theorem d_Ho_embedded_20 : decode b_Ho_embedded 20 = .ok (.iload_n 1, 1) := by decide +kernel
theorem d_Ho_embedded_21 : decode b_Ho_embedded 21 = .ok (.aaload, 1) := by decide +kernel
theorem d_Ho_embedded_22 : decode b_Ho_embedded 22 = .ok (.invokevirtual 419, 3) := by decide +kernel
theorem d_Ho_embedded_25 : decode b_Ho_embedded 25 = .ok (.aload_n 2, 1) := by decide +kernel
theorem d_Ho_embedded_26 : decode b_Ho_embedded 26 = .ok (.aload_n 0, 1) := by decide +kernel
theorem d_Ho_embedded_27 : decode b_Ho_embedded 27 = .ok (.getfield 45, 3) := by decide +kernel
theorem d_Ho_embedded_30 : decode b_Ho_embedded 30 = .ok (.aload_n 2, 1) := by decide +kernel
theorem d_Ho_embedded_31 : decode b_Ho_embedded 31 = .ok (.invokevirtual 422, 3) := by decide +kernel
theorem d_Ho_embedded_34 : decode b_Ho_embedded 34 = .ok (.ifCond .eq 7, 3) := by decide +kernel
theorem d_Ho_embedded_37 : decode b_Ho_embedded 37 = .ok (.iconst 1, 1) := by decide +kernel
theorem d_Ho_embedded_38 : decode b_Ho_embedded 38 = .ok (.goto 4, 3) := by decide +kernel
theorem d_Ho_embedded_42 : decode b_Ho_embedded 42 = .ok (.putfield 265, 3) := by decide +kernel
theorem d_Ho_embedded_45 : decode b_Ho_embedded 45 = .ok (.aload_n 2, 1) := by decide +kernel
theorem d_Ho_embedded_46 : decode b_Ho_embedded 46 = .ok (.getfield 265, 3) := by decide +kernel
theorem d_Ho_embedded_49 : decode b_Ho_embedded 49 = .ok (.ifCond .ne 17, 3) := by decide +kernel
theorem d_Ho_embedded_66 : decode b_Ho_embedded 66 = .ok (.aload_n 2, 1) := by decide +kernel
theorem d_Ho_embedded_67 : decode b_Ho_embedded 67 = .ok (.areturn, 1) := by decide +kernel
abbrev b_Mo_embed : ByteArray := prog_15_method_84_code
def y_Mo_embed : MethodName := ⟨"DrawingHouseModel", "embed", "()Z"⟩
abbrev z_Mo_embed : List Cond := Cond.code y_Mo_embed b_Mo_embed 4 (some .boolean) :: lw_g
theorem d_Mo_embed_0 : decode b_Mo_embed 0 = .ok (.aload_n 0, 1) := by decide +kernel
theorem d_Mo_embed_1 : decode b_Mo_embed 1 = .ok (.iconst (-1), 1) := by decide +kernel
theorem d_Mo_embed_2 : decode b_Mo_embed 2 = .ok (.putfield 649, 3) := by decide +kernel
theorem d_Mo_embed_5 : decode b_Mo_embed 5 = .ok (.aload_n 0, 1) := by decide +kernel
theorem d_Mo_embed_6 : decode b_Mo_embed 6 = .ok (.invokevirtual 668, 3) := by decide +kernel
theorem d_Mo_embed_9 : decode b_Mo_embed 9 = .ok (.istore_n 1, 1) := by decide +kernel
theorem d_Mo_embed_10 : decode b_Mo_embed 10 = .ok (.iconst 0, 1) := by decide +kernel
theorem d_Mo_embed_11 : decode b_Mo_embed 11 = .ok (.istore_n 2, 1) := by decide +kernel
theorem d_Mo_embed_12 : decode b_Mo_embed 12 = .ok (.iload_n 2, 1) := by decide +kernel
theorem d_Mo_embed_13 : decode b_Mo_embed 13 = .ok (.aload_n 0, 1) := by decide +kernel
theorem d_Mo_embed_14 : decode b_Mo_embed 14 = .ok (.getfield 594, 3) := by decide +kernel
theorem d_Mo_embed_17 : decode b_Mo_embed 17 = .ok (.if_icmp .ge 16, 3) := by decide +kernel
theorem d_Mo_embed_20 : decode b_Mo_embed 20 = .ok (.aload_n 0, 1) := by decide +kernel
theorem d_Mo_embed_21 : decode b_Mo_embed 21 = .ok (.getfield 66, 3) := by decide +kernel
theorem d_Mo_embed_24 : decode b_Mo_embed 24 = .ok (.iload_n 2, 1) := by decide +kernel
theorem d_Mo_embed_25 : decode b_Mo_embed 25 = .ok (.iconst 0, 1) := by decide +kernel
theorem d_Mo_embed_26 : decode b_Mo_embed 26 = .ok (.iastore, 1) := by decide +kernel
theorem d_Mo_embed_27 : decode b_Mo_embed 27 = .ok (.iinc 2 1, 3) := by decide +kernel
theorem d_Mo_embed_30 : decode b_Mo_embed 30 = .ok (.goto (-18), 3) := by decide +kernel
theorem d_Mo_embed_33 : decode b_Mo_embed 33 = .ok (.iconst 0, 1) := by decide +kernel
theorem d_Mo_embed_34 : decode b_Mo_embed 34 = .ok (.istore_n 2, 1) := by decide +kernel
theorem d_Mo_embed_35 : decode b_Mo_embed 35 = .ok (.iload_n 2, 1) := by decide +kernel
theorem d_Mo_embed_36 : decode b_Mo_embed 36 = .ok (.iload_n 1, 1) := by decide +kernel
theorem d_Mo_embed_37 : decode b_Mo_embed 37 = .ok (.if_icmp .ge 41, 3) := by decide +kernel
theorem d_Mo_embed_78 : decode b_Mo_embed 78 = .ok (.iconst 1, 1) := by decide +kernel
theorem d_Mo_embed_79 : decode b_Mo_embed 79 = .ok (.ireturn, 1) := by decide +kernel
abbrev b_Mo_isPlanar : ByteArray := prog_15_method_91_code
def y_Mo_isPlanar : MethodName := ⟨"DrawingHouseModel", "isPlanar", "()Z"⟩
abbrev z_Mo_isPlanar : List Cond := Cond.code y_Mo_isPlanar b_Mo_isPlanar 1 (some .boolean) :: lw_g
theorem d_Mo_isPlanar_0 : decode b_Mo_isPlanar 0 = .ok (.aload_n 0, 1) := by decide +kernel
theorem d_Mo_isPlanar_1 : decode b_Mo_isPlanar 1 = .ok (.invokevirtual 689, 3) := by decide +kernel
theorem d_Mo_isPlanar_4 : decode b_Mo_isPlanar 4 = .ok (.aload_n 0, 1) := by decide +kernel
theorem d_Mo_isPlanar_5 : decode b_Mo_isPlanar 5 = .ok (.invokevirtual 692, 3) := by decide +kernel
theorem d_Mo_isPlanar_8 : decode b_Mo_isPlanar 8 = .ok (.ireturn, 1) := by decide +kernel
abbrev b_Em_joinBlocksAt : ByteArray := prog_3_method_19_code
def y_Em_joinBlocksAt : MethodName := ⟨"DrawingHouse$Embedder", "joinBlocksAt", "(II)V"⟩
abbrev z_Em_joinBlocksAt : List Cond := Cond.code y_Em_joinBlocksAt b_Em_joinBlocksAt 8 none :: lw_g
theorem d_Em_joinBlocksAt_0 : decode b_Em_joinBlocksAt 0 = .ok (.iconst 0, 1) := by decide +kernel
theorem d_Em_joinBlocksAt_1 : decode b_Em_joinBlocksAt 1 = .ok (.istore_n 3, 1) := by decide +kernel
theorem d_Em_joinBlocksAt_2 : decode b_Em_joinBlocksAt 2 = .ok (.iconst 0, 1) := by decide +kernel
theorem d_Em_joinBlocksAt_3 : decode b_Em_joinBlocksAt 3 = .ok (.istore 4, 2) := by decide +kernel
theorem d_Em_joinBlocksAt_5 : decode b_Em_joinBlocksAt 5 = .ok (.iload 4, 2) := by decide +kernel
theorem d_Em_joinBlocksAt_7 : decode b_Em_joinBlocksAt 7 = .ok (.iload_n 2, 1) := by decide +kernel
theorem d_Em_joinBlocksAt_8 : decode b_Em_joinBlocksAt 8 = .ok (.if_icmp .ge 88, 3) := by decide +kernel
theorem d_Em_joinBlocksAt_96 : decode b_Em_joinBlocksAt 96 = .ok (.aload_n 0, 1) := by decide +kernel
theorem d_Em_joinBlocksAt_97 : decode b_Em_joinBlocksAt 97 = .ok (.getfield 9, 3) := by decide +kernel
theorem d_Em_joinBlocksAt_100 : decode b_Em_joinBlocksAt 100 = .ok (.getfield 223, 3) := by decide +kernel
theorem d_Em_joinBlocksAt_103 : decode b_Em_joinBlocksAt 103 = .ok (.iload_n 1, 1) := by decide +kernel
theorem d_Em_joinBlocksAt_104 : decode b_Em_joinBlocksAt 104 = .ok (.iload_n 3, 1) := by decide +kernel
theorem d_Em_joinBlocksAt_105 : decode b_Em_joinBlocksAt 105 = .ok (.ifCond .ne 7, 3) := by decide +kernel
theorem d_Em_joinBlocksAt_108 : decode b_Em_joinBlocksAt 108 = .ok (.iconst (-1), 1) := by decide +kernel
theorem d_Em_joinBlocksAt_109 : decode b_Em_joinBlocksAt 109 = .ok (.goto 9, 3) := by decide +kernel
theorem d_Em_joinBlocksAt_118 : decode b_Em_joinBlocksAt 118 = .ok (.iastore, 1) := by decide +kernel
theorem d_Em_joinBlocksAt_119 : decode b_Em_joinBlocksAt 119 = .ok (.iconst 0, 1) := by decide +kernel
theorem d_Em_joinBlocksAt_120 : decode b_Em_joinBlocksAt 120 = .ok (.istore 4, 2) := by decide +kernel
theorem d_Em_joinBlocksAt_122 : decode b_Em_joinBlocksAt 122 = .ok (.iload 4, 2) := by decide +kernel
theorem d_Em_joinBlocksAt_124 : decode b_Em_joinBlocksAt 124 = .ok (.iload_n 3, 1) := by decide +kernel
theorem d_Em_joinBlocksAt_125 : decode b_Em_joinBlocksAt 125 = .ok (.if_icmp .ge 43, 3) := by decide +kernel
theorem d_Em_joinBlocksAt_168 : decode b_Em_joinBlocksAt 168 = .ok (.return_, 1) := by decide +kernel
abbrev b_Em_outer : ByteArray := prog_3_method_2_code
def y_Em_outer : MethodName := ⟨"DrawingHouse$Embedder", "outer", "(LDrawingHouse$Graph;LDrawingHouse$Net;)I"⟩
abbrev z_Em_outer : List Cond := Cond.code y_Em_outer b_Em_outer 4 (some .int) :: lw_g
theorem d_Em_outer_0 : decode b_Em_outer 0 = .ok (.aload_n 2, 1) := by decide +kernel
theorem d_Em_outer_1 : decode b_Em_outer 1 = .ok (.getfield 78, 3) := by decide +kernel
theorem d_Em_outer_4 : decode b_Em_outer 4 = .ok (.iconst (-1), 1) := by decide +kernel
theorem d_Em_outer_5 : decode b_Em_outer 5 = .ok (.if_icmp .ne 73, 3) := by decide +kernel
theorem d_Em_outer_8 : decode b_Em_outer 8 = .ok (.aload_n 0, 1) := by decide +kernel
theorem d_Em_outer_9 : decode b_Em_outer 9 = .ok (.getfield 18, 3) := by decide +kernel
theorem d_Em_outer_12 : decode b_Em_outer 12 = .ok (.aload_n 1, 1) := by decide +kernel
theorem d_Em_outer_13 : decode b_Em_outer 13 = .ok (.invokevirtual 81, 3) := by decide +kernel
theorem d_Em_outer_16 : decode b_Em_outer 16 = .ok (.aload_n 0, 1) := by decide +kernel
theorem d_Em_outer_17 : decode b_Em_outer 17 = .ok (.getfield 18, 3) := by decide +kernel
theorem d_Em_outer_20 : decode b_Em_outer 20 = .ok (.dup, 1) := by decide +kernel
theorem d_Em_outer_21 : decode b_Em_outer 21 = .ok (.getfield 85, 3) := by decide +kernel
theorem d_Em_outer_24 : decode b_Em_outer 24 = .ok (.iconst 1, 1) := by decide +kernel
theorem d_Em_outer_25 : decode b_Em_outer 25 = .ok (.iadd, 1) := by decide +kernel
theorem d_Em_outer_26 : decode b_Em_outer 26 = .ok (.putfield 85, 3) := by decide +kernel
theorem d_Em_outer_29 : decode b_Em_outer 29 = .ok (.iconst 0, 1) := by decide +kernel
theorem d_Em_outer_30 : decode b_Em_outer 30 = .ok (.istore_n 3, 1) := by decide +kernel
theorem d_Em_outer_31 : decode b_Em_outer 31 = .ok (.iload_n 3, 1) := by decide +kernel
theorem d_Em_outer_32 : decode b_Em_outer 32 = .ok (.aload_n 1, 1) := by decide +kernel
theorem d_Em_outer_33 : decode b_Em_outer 33 = .ok (.getfield 88, 3) := by decide +kernel
theorem d_Em_outer_36 : decode b_Em_outer 36 = .ok (.if_icmp .ge 22, 3) := by decide +kernel
theorem d_Em_outer_58 : decode b_Em_outer 58 = .ok (.aload_n 2, 1) := by decide +kernel
theorem d_Em_outer_59 : decode b_Em_outer 59 = .ok (.aload_n 0, 1) := by decide +kernel
theorem d_Em_outer_60 : decode b_Em_outer 60 = .ok (.aload_n 0, 1) := by decide +kernel
theorem d_Em_outer_61 : decode b_Em_outer 61 = .ok (.getfield 18, 3) := by decide +kernel
theorem d_Em_outer_64 : decode b_Em_outer 64 = .ok (.invokevirtual 95, 3) := by decide +kernel
theorem d_Em_outer_67 : decode b_Em_outer 67 = .ok (.ifCond .eq 7, 3) := by decide +kernel
theorem d_Em_outer_70 : decode b_Em_outer 70 = .ok (.iconst 1, 1) := by decide +kernel
theorem d_Em_outer_71 : decode b_Em_outer 71 = .ok (.goto 4, 3) := by decide +kernel
theorem d_Em_outer_75 : decode b_Em_outer 75 = .ok (.putfield 78, 3) := by decide +kernel
theorem d_Em_outer_78 : decode b_Em_outer 78 = .ok (.aload_n 2, 1) := by decide +kernel
theorem d_Em_outer_79 : decode b_Em_outer 79 = .ok (.getfield 78, 3) := by decide +kernel
theorem d_Em_outer_82 : decode b_Em_outer 82 = .ok (.ireturn, 1) := by decide +kernel
abbrev b_Mo_isOuter : ByteArray := prog_15_method_92_code
def y_Mo_isOuter : MethodName := ⟨"DrawingHouseModel", "isOuter", "()Z"⟩
abbrev z_Mo_isOuter : List Cond := Cond.code y_Mo_isOuter b_Mo_isOuter 2 (some .boolean) :: lw_g
theorem d_Mo_isOuter_0 : decode b_Mo_isOuter 0 = .ok (.aload_n 0, 1) := by decide +kernel
theorem d_Mo_isOuter_1 : decode b_Mo_isOuter 1 = .ok (.invokevirtual 689, 3) := by decide +kernel
theorem d_Mo_isOuter_4 : decode b_Mo_isOuter 4 = .ok (.iconst 0, 1) := by decide +kernel
theorem d_Mo_isOuter_5 : decode b_Mo_isOuter 5 = .ok (.istore_n 1, 1) := by decide +kernel
theorem d_Mo_isOuter_6 : decode b_Mo_isOuter 6 = .ok (.iload_n 1, 1) := by decide +kernel
theorem d_Mo_isOuter_7 : decode b_Mo_isOuter 7 = .ok (.aload_n 0, 1) := by decide +kernel
theorem d_Mo_isOuter_8 : decode b_Mo_isOuter 8 = .ok (.invokevirtual 475, 3) := by decide +kernel
theorem d_Mo_isOuter_11 : decode b_Mo_isOuter 11 = .ok (.if_icmp .ge 52, 3) := by decide +kernel
theorem d_Mo_isOuter_63 : decode b_Mo_isOuter 63 = .ok (.aload_n 0, 1) := by decide +kernel
theorem d_Mo_isOuter_64 : decode b_Mo_isOuter 64 = .ok (.dup, 1) := by decide +kernel
theorem d_Mo_isOuter_65 : decode b_Mo_isOuter 65 = .ok (.getfield 594, 3) := by decide +kernel
theorem d_Mo_isOuter_68 : decode b_Mo_isOuter 68 = .ok (.iconst 1, 1) := by decide +kernel
theorem d_Mo_isOuter_69 : decode b_Mo_isOuter 69 = .ok (.iadd, 1) := by decide +kernel
theorem d_Mo_isOuter_70 : decode b_Mo_isOuter 70 = .ok (.putfield 594, 3) := by decide +kernel
theorem d_Mo_isOuter_73 : decode b_Mo_isOuter 73 = .ok (.aload_n 0, 1) := by decide +kernel
theorem d_Mo_isOuter_74 : decode b_Mo_isOuter 74 = .ok (.invokevirtual 692, 3) := by decide +kernel
theorem d_Mo_isOuter_77 : decode b_Mo_isOuter 77 = .ok (.ireturn, 1) := by decide +kernel
abbrev b_Mo_goRound : ByteArray := prog_15_method_90_code
def y_Mo_goRound : MethodName := ⟨"DrawingHouseModel", "goRound", "()V"⟩
abbrev z_Mo_goRound : List Cond := Cond.code y_Mo_goRound b_Mo_goRound 4 none :: lw_g
theorem d_Mo_goRound_0 : decode b_Mo_goRound 0 = .ok (.aload_n 0, 1) := by decide +kernel
theorem d_Mo_goRound_1 : decode b_Mo_goRound 1 = .ok (.iconst 0, 1) := by decide +kernel
theorem d_Mo_goRound_2 : decode b_Mo_goRound 2 = .ok (.putfield 683, 3) := by decide +kernel
theorem d_Mo_goRound_5 : decode b_Mo_goRound 5 = .ok (.iconst 0, 1) := by decide +kernel
theorem d_Mo_goRound_6 : decode b_Mo_goRound 6 = .ok (.istore_n 1, 1) := by decide +kernel
theorem d_Mo_goRound_7 : decode b_Mo_goRound 7 = .ok (.iconst 0, 1) := by decide +kernel
theorem d_Mo_goRound_8 : decode b_Mo_goRound 8 = .ok (.istore_n 2, 1) := by decide +kernel
theorem d_Mo_goRound_9 : decode b_Mo_goRound 9 = .ok (.iload_n 2, 1) := by decide +kernel
theorem d_Mo_goRound_10 : decode b_Mo_goRound 10 = .ok (.iconst 2, 1) := by decide +kernel
theorem d_Mo_goRound_11 : decode b_Mo_goRound 11 = .ok (.aload_n 0, 1) := by decide +kernel
theorem d_Mo_goRound_12 : decode b_Mo_goRound 12 = .ok (.getfield 597, 3) := by decide +kernel
theorem d_Mo_goRound_15 : decode b_Mo_goRound 15 = .ok (.imul, 1) := by decide +kernel
theorem d_Mo_goRound_16 : decode b_Mo_goRound 16 = .ok (.if_icmp .ge 16, 3) := by decide +kernel
theorem d_Mo_goRound_32 : decode b_Mo_goRound 32 = .ok (.iconst 0, 1) := by decide +kernel
theorem d_Mo_goRound_33 : decode b_Mo_goRound 33 = .ok (.istore_n 2, 1) := by decide +kernel
theorem d_Mo_goRound_34 : decode b_Mo_goRound 34 = .ok (.iload_n 2, 1) := by decide +kernel
theorem d_Mo_goRound_35 : decode b_Mo_goRound 35 = .ok (.iconst 2, 1) := by decide +kernel
theorem d_Mo_goRound_36 : decode b_Mo_goRound 36 = .ok (.aload_n 0, 1) := by decide +kernel
theorem d_Mo_goRound_37 : decode b_Mo_goRound 37 = .ok (.getfield 597, 3) := by decide +kernel
theorem d_Mo_goRound_40 : decode b_Mo_goRound 40 = .ok (.imul, 1) := by decide +kernel
theorem d_Mo_goRound_41 : decode b_Mo_goRound 41 = .ok (.if_icmp .ge 85, 3) := by decide +kernel
theorem d_Mo_goRound_126 : decode b_Mo_goRound 126 = .ok (.aload_n 0, 1) := by decide +kernel
theorem d_Mo_goRound_127 : decode b_Mo_goRound 127 = .ok (.getfield 111, 3) := by decide +kernel
theorem d_Mo_goRound_130 : decode b_Mo_goRound 130 = .ok (.aload_n 0, 1) := by decide +kernel
theorem d_Mo_goRound_131 : decode b_Mo_goRound 131 = .ok (.getfield 683, 3) := by decide +kernel
theorem d_Mo_goRound_134 : decode b_Mo_goRound 134 = .ok (.iload_n 1, 1) := by decide +kernel
theorem d_Mo_goRound_135 : decode b_Mo_goRound 135 = .ok (.iastore, 1) := by decide +kernel
theorem d_Mo_goRound_136 : decode b_Mo_goRound 136 = .ok (.return_, 1) := by decide +kernel
theorem d_law_law_679 : decode b_law_law 679 = .ok (.aload_n 1, 1) := by decide +kernel
theorem d_law_law_680 : decode b_law_law 680 = .ok (.aload_n 0, 1) := by decide +kernel
theorem d_law_law_681 : decode b_law_law 681 = .ok (.iload_n 3, 1) := by decide +kernel
theorem d_law_law_682 : decode b_law_law 682 = .ok (.iconst 1, 1) := by decide +kernel
theorem d_law_law_683 : decode b_law_law 683 = .ok (.iadd, 1) := by decide +kernel
theorem d_law_law_684 : decode b_law_law 684 = .ok (.iaload, 1) := by decide +kernel
theorem d_law_law_685 : decode b_law_law 685 = .ok (.aload_n 0, 1) := by decide +kernel
theorem d_law_law_686 : decode b_law_law 686 = .ok (.iload_n 3, 1) := by decide +kernel
theorem d_law_law_687 : decode b_law_law 687 = .ok (.iconst 2, 1) := by decide +kernel
theorem d_law_law_688 : decode b_law_law 688 = .ok (.iadd, 1) := by decide +kernel
theorem d_law_law_689 : decode b_law_law 689 = .ok (.iaload, 1) := by decide +kernel
theorem d_law_law_690 : decode b_law_law 690 = .ok (.invokevirtual 71, 3) := by decide +kernel
theorem d_law_law_693 : decode b_law_law 693 = .ok (.aload_n 2, 1) := by decide +kernel
theorem d_law_law_694 : decode b_law_law 694 = .ok (.aload_n 0, 1) := by decide +kernel
theorem d_law_law_695 : decode b_law_law 695 = .ok (.iload_n 3, 1) := by decide +kernel
theorem d_law_law_696 : decode b_law_law 696 = .ok (.iconst 1, 1) := by decide +kernel
theorem d_law_law_697 : decode b_law_law 697 = .ok (.iadd, 1) := by decide +kernel
theorem d_law_law_698 : decode b_law_law 698 = .ok (.iaload, 1) := by decide +kernel
theorem d_law_law_699 : decode b_law_law 699 = .ok (.aload_n 0, 1) := by decide +kernel
theorem d_law_law_700 : decode b_law_law 700 = .ok (.iload_n 3, 1) := by decide +kernel
theorem d_law_law_701 : decode b_law_law 701 = .ok (.iconst 2, 1) := by decide +kernel
theorem d_law_law_702 : decode b_law_law 702 = .ok (.iadd, 1) := by decide +kernel
theorem d_law_law_703 : decode b_law_law 703 = .ok (.iaload, 1) := by decide +kernel
theorem d_law_law_704 : decode b_law_law 704 = .ok (.invokevirtual 74, 3) := by decide +kernel
theorem d_law_law_707 : decode b_law_law 707 = .ok (.if_icmp .eq 588, 3) := by decide +kernel
set_option maxRecDepth 100000 in
set_option maxHeartbeats 4000000 in
/-- DrawingHouse.planar(II)I -/
theorem c_Ho_planar_z1 (l : Launch) (D : va_G) (kA : Nat → ClassId) (a0 : Nat) (v1 : Int32) (v2 : Int32) (hg : sp_Ho_isPlace v1 = 0) (hgM : sp_Mo_isPlace v1 = 0) : Ci l y_Ho_planar z_Ho_planar { frames := 1, cells := 0, slots := 0, locals := 20 } D classes (TY kA) [.ref a0, .int v1, .int v2] [] (fun r (_ : List va_W) => r = (-1)) (fun u => u) 0 0 := by
  intro sz
  refine k_met (cc := b_Ho_planar) (maxL := 4) (ret := (some .int)) (by decide) rfl (Nat.le_of_ble_eq_true rfl) (fun p e s m below meth c ls X hl hB => ?_)
  obtain ⟨hsz, hP, hK, hD0, hN⟩ := hB
  subst hsz
  have hD := hD0.self (sz := s.heap.size)
  generalize hAe : va_A (cat []) s.heap.size = A at hD ⊢
  have hA : ∀ q : Nat, s.heap.size ≤ q → A q := fun q h => by rw [← hAe]; exact Or.inr h
  have hS : va_S A s.heap s.heap [] := va_S.rf
  obtain ⟨hx, hb, hml, hown, hts, hr, hlk, hnm⟩ := id X
  have hl : lv_has ls 4 [(0, .ref a0), (1, .int v1), (2, .int v2)] := hl
  have hP : va_P D classes (cat []) s.heap := hP
  have hK : va_K D classes (TY kA) s := hK
  refine lv_iload_n (pc := 0) hx hb d_Ho_planar_0 rfl (lv_at hl 1 rfl) ?_
  refine k_goI (gr := []) (k_rS (pc := 1) (As := [.int v1]) (rest := []) X (c_Ho_isPlace l D kA v1 s.heap.size) rfl wm_633 wm_1 wm_631 wm_632 1 (by decide +kernel) ⟨Nat.le_of_ble_eq_true rfl, Nat.le_of_ble_eq_true rfl⟩ rfl rfl (k_pre hN hK hP hD [] [] 0 rfl (by decide) rfl) rfl hl.1 rfl (Nat.le_of_ble_eq_true rfl) d_Ho_planar_1 ⟨Nat.le_of_ble_eq_true rfl, Nat.le_of_ble_eq_true rfl⟩) hP hD hS hA [] [] 0 rfl (by decide) rfl rfl (fun r1 u2 H locs hu2 hP hD hS => ?_)
  subst hu2
  have hP : va_P D classes (cat []) H := hP
  have hD : va_D A (cat []) := hD
  refine lv_if_ne (pc := 4) (tgt := 9) hx hb d_Ho_planar_4 (by decide) (fun c1 => absurd (hg) c1) (fun c1 => ?_)
  refine lv_iconst (pc := 7) (v := -1) hx hb d_Ho_planar_7 (by decide) ?_
  refine W.widen (k := 0) (n := 0) (Nat.le_of_ble_eq_true rfl) (Nat.le_of_ble_eq_true rfl) ?_
  exact W.iret (v := (-1)) hx hb hr (fun t ht hW => ⟨⟨(-1), [], rfl, rfl, by rw [ht]; exact hP, va_K.moved hW.alike hK, hD⟩, hS.F ht⟩) hS.2.2 d_Ho_planar_8
set_option maxRecDepth 100000 in
set_option maxHeartbeats 4000000 in
/-- DrawingHouseModel.planar(II)I -/
theorem c_Mo_planar_z1 (l : Launch) (D : va_G) (kA : Nat → ClassId) (a0 : Nat) (v1 : Int32) (v2 : Int32) (hg : sp_Ho_isPlace v1 = 0) (hgM : sp_Mo_isPlace v1 = 0) : Ci l y_Mo_planar z_Mo_planar { frames := 2, cells := 0, slots := 0, locals := 42 } D classes (TY kA) [.ref a0, .int v1, .int v2] [] (fun r (_ : List va_W) => r = (-1)) (fun u => u) 0 0 := by
  intro sz
  refine k_met (cc := b_Mo_planar) (maxL := 4) (ret := (some .int)) (by decide) rfl (Nat.le_of_ble_eq_true rfl) (fun p e s m below meth c ls X hl hB => ?_)
  obtain ⟨hsz, hP, hK, hD0, hN⟩ := hB
  subst hsz
  have hD := hD0.self (sz := s.heap.size)
  generalize hAe : va_A (cat []) s.heap.size = A at hD ⊢
  have hA : ∀ q : Nat, s.heap.size ≤ q → A q := fun q h => by rw [← hAe]; exact Or.inr h
  have hS : va_S A s.heap s.heap [] := va_S.rf
  obtain ⟨hx, hb, hml, hown, hts, hr, hlk, hnm⟩ := id X
  have hl : lv_has ls 4 [(0, .ref a0), (1, .int v1), (2, .int v2)] := hl
  have hP : va_P D classes (cat []) s.heap := hP
  have hK : va_K D classes (TY kA) s := hK
  refine lv_iload_n (pc := 0) hx hb d_Mo_planar_0 rfl (lv_at hl 1 rfl) ?_
  refine k_goI (gr := []) (k_rS (pc := 1) (As := [.int v1]) (rest := []) X (c_Mo_isPlace l D kA v1 s.heap.size) rfl wm_2978 wm_9 wm_2976 wm_2977 1 (by decide +kernel) ⟨Nat.le_of_ble_eq_true rfl, Nat.le_of_ble_eq_true rfl⟩ rfl rfl (k_pre hN hK hP hD [] [] 0 rfl (by decide) rfl) rfl hl.1 rfl (Nat.le_of_ble_eq_true rfl) d_Mo_planar_1 ⟨Nat.le_of_ble_eq_true rfl, Nat.le_of_ble_eq_true rfl⟩) hP hD hS hA [] [] 0 rfl (by decide) rfl rfl (fun r1 u2 H locs hu2 hP hD hS => ?_)
  subst hu2
  have hP : va_P D classes (cat []) H := hP
  have hD : va_D A (cat []) := hD
  refine lv_if_eq (pc := 4) (tgt := 16) hx hb d_Mo_planar_4 (by decide) (fun c1 => ?_) (fun c1 => absurd (hgM) c1)
  refine lv_iconst (pc := 16) (v := -1) hx hb d_Mo_planar_16 (by decide) ?_
  refine W.widen (k := 0) (n := 0) (Nat.le_of_ble_eq_true rfl) (Nat.le_of_ble_eq_true rfl) ?_
  exact W.iret (v := (-1)) hx hb hr (fun t ht hW => ⟨⟨(-1), [], rfl, rfl, by rw [ht]; exact hP, va_K.moved hW.alike hK, hD⟩, hS.F ht⟩) hS.2.2 d_Mo_planar_17
set_option maxRecDepth 100000 in
set_option maxHeartbeats 4000000 in
/-- planar, a fresh house -/
theorem lf_planar_1 {p : Program} {e : Env} {s : State} {m : MethodId} {below : List Frame} {meth : Method} {c : Code} (l : Launch) {b : Nat} {xs : Nat → Int32} (C0 : lw_At p s m meth c b 6 xs) {D : va_G} {kA : Nat → ClassId} (h : Nat) (h2 : Nat) (q : Nat → Nat) (qm : Nat → Nat) (v1 : Int32) (v2 : Int32) (hg : sp_Ho_isPlace v1 = 0) (hgM : sp_Mo_isPlace v1 = 0) (hv1 : xs 1 = v1) (hv2 : xs 2 = v2) {H : Heap} {locs : List Loc} {ls : Array Slot} (hK : va_K D classes (TY kA) s) (hN : nst s) (hP : va_P D classes (cat [[(h, .inr (12, [.ref (q 0), .ref (q 1), .ref (q 2), .ref (q 3), .ref (q 4), .ref (q 5), .ref (q 6), .int 0, .int ((-1)), .ref (q 9), .ref (q 10), .int 0, .int 0, .ref (q 13), .int 0, .int 0, .null, .null, .null, .null, .null]))], [(h2, .inr (13, mF qm x0Mo y0Mo))]]) H) (hD : va_D (fun q : Nat => s.heap.size ≤ q) (cat [[(h, .inr (12, [.ref (q 0), .ref (q 1), .ref (q 2), .ref (q 3), .ref (q 4), .ref (q 5), .ref (q 6), .int 0, .int ((-1)), .ref (q 9), .ref (q 10), .int 0, .int 0, .ref (q 13), .int 0, .int 0, .null, .null, .null, .null, .null]))], [(h2, .inr (13, mF qm x0Mo y0Mo))]])) (hS : va_S (fun q : Nat => s.heap.size ≤ q) s.heap H locs) (hl : lv_has ls 4 [(3, .int 0), (2, .ref h2), (1, .ref h), (0, .ref b)]) : W p l e room_1 s m #[Value.ref b] below meth c H locs 368 365796 (lw_Z below #[Value.ref b] s) (F0 m 679 ls []) := by
  obtain ⟨hx, hb, hr, hml, hown, hts0, hX, hbl, hlocks, hgv⟩ := id C0
  have hts : ∀ w ∈ lw_g, w.before #[Value.ref b] s = true := fun w h => hts0 w (lw_gt h)
  have X : cx p s m #[Value.ref b] meth c b_law_law 4 ret "DrawingHouseLaw" meth.name := ⟨hx, hb, hml, hown, hts, hr, hlocks, rfl⟩
  obtain ⟨A, hAe⟩ : ∃ A : Nat → Prop, A = fun q : Nat => s.heap.size ≤ q := ⟨_, rfl⟩
  have hA : ∀ q : Nat, s.heap.size ≤ q → A q := fun q h => by rw [hAe]; exact h
  have hbA : ¬ A b := by rw [hAe]; exact Nat.not_le.mpr hbl
  rw [← hAe] at hD hS
  refine lv_aload_n (pc := 679) hx hb d_law_law_679 rfl (lv_at hl 2 rfl) ?_
  refine lv_aload_n (pc := 680) hx hb d_law_law_680 rfl (lv_at hl 3 rfl) ?_
  refine lv_iload_n (pc := 681) hx hb d_law_law_681 rfl (lv_at hl 0 rfl) ?_
  refine lv_iconst (pc := 682) (v := 1) hx hb d_law_law_682 (by decide) ?_
  refine lv_iadd (pc := 683) hx hb d_law_law_683 ?_
  refine k_cst (v := 1) (by decide) ?_
  refine va_sld (pc := 684) hx hb hX hbl hbA hS (by unfold vp_in; decide) d_law_law_684 ?_
  refine k_cst (v := v1) hv1 ?_
  refine lv_aload_n (pc := 685) hx hb d_law_law_685 rfl (lv_at hl 3 rfl) ?_
  refine lv_iload_n (pc := 686) hx hb d_law_law_686 rfl (lv_at hl 0 rfl) ?_
  refine lv_iconst (pc := 687) (v := 2) hx hb d_law_law_687 (by decide) ?_
  refine lv_iadd (pc := 688) hx hb d_law_law_688 ?_
  refine k_cst (v := 2) (by decide) ?_
  refine va_sld (pc := 689) hx hb hX hbl hbA hS (by unfold vp_in; decide) d_law_law_689 ?_
  refine k_cst (v := v2) hv2 ?_
  refine k_goI (gr := [[(h, .inr (12, [.ref (q 0), .ref (q 1), .ref (q 2), .ref (q 3), .ref (q 4), .ref (q 5), .ref (q 6), .int 0, .int ((-1)), .ref (q 9), .ref (q 10), .int 0, .int 0, .ref (q 13), .int 0, .int 0, .null, .null, .null, .null, .null]))], [(h2, .inr (13, mF qm x0Mo y0Mo))]]) (k_rV (pc := 690) (As := [.int v1, .int v2]) (rest := []) X (c_Ho_planar_z1 l D kA h v1 v2 hg hgM H.size) rfl wm_1048 wm_1 wm_1045 wm_1046 wm_1047 2 (by decide +kernel) ⟨Nat.le_of_ble_eq_true rfl, Nat.le_of_ble_eq_true rfl⟩ rfl rfl (va_recv hK hP (ci := 12) (q0 := 0) rfl rfl) (k_pre hN hK hP hD [] [0, 1] 2 rfl (by decide) rfl) rfl hl.1 rfl (Nat.le_of_ble_eq_true rfl) d_law_law_690 ⟨Nat.le_of_ble_eq_true rfl, Nat.le_of_ble_eq_true rfl⟩) hP hD hS hA [] [0, 1] 2 rfl (by decide) rfl rfl (fun r1 u2 H locs hu2 hP hD hS => ?_)
  obtain ⟨hP, hD⟩ := k_left hP hD
  subst hu2
  have hP : va_P D classes (cat [[(h, .inr (12, [.ref (q 0), .ref (q 1), .ref (q 2), .ref (q 3), .ref (q 4), .ref (q 5), .ref (q 6), .int 0, .int ((-1)), .ref (q 9), .ref (q 10), .int 0, .int 0, .ref (q 13), .int 0, .int 0, .null, .null, .null, .null, .null]))], [(h2, .inr (13, mF qm x0Mo y0Mo))]]) H := hP
  have hD : va_D A (cat [[(h, .inr (12, [.ref (q 0), .ref (q 1), .ref (q 2), .ref (q 3), .ref (q 4), .ref (q 5), .ref (q 6), .int 0, .int ((-1)), .ref (q 9), .ref (q 10), .int 0, .int 0, .ref (q 13), .int 0, .int 0, .null, .null, .null, .null, .null]))], [(h2, .inr (13, mF qm x0Mo y0Mo))]]) := hD
  refine lv_aload_n (pc := 693) hx hb d_law_law_693 rfl (lv_at hl 1 rfl) ?_
  refine lv_aload_n (pc := 694) hx hb d_law_law_694 rfl (lv_at hl 3 rfl) ?_
  refine lv_iload_n (pc := 695) hx hb d_law_law_695 rfl (lv_at hl 0 rfl) ?_
  refine lv_iconst (pc := 696) (v := 1) hx hb d_law_law_696 (by decide) ?_
  refine lv_iadd (pc := 697) hx hb d_law_law_697 ?_
  refine k_cst (v := 1) (by decide) ?_
  refine va_sld (pc := 698) hx hb hX hbl hbA hS (by unfold vp_in; decide) d_law_law_698 ?_
  refine k_cst (v := v1) hv1 ?_
  refine lv_aload_n (pc := 699) hx hb d_law_law_699 rfl (lv_at hl 3 rfl) ?_
  refine lv_iload_n (pc := 700) hx hb d_law_law_700 rfl (lv_at hl 0 rfl) ?_
  refine lv_iconst (pc := 701) (v := 2) hx hb d_law_law_701 (by decide) ?_
  refine lv_iadd (pc := 702) hx hb d_law_law_702 ?_
  refine k_cst (v := 2) (by decide) ?_
  refine va_sld (pc := 703) hx hb hX hbl hbA hS (by unfold vp_in; decide) d_law_law_703 ?_
  refine k_cst (v := v2) hv2 ?_
  refine k_goI (gr := [[(h, .inr (12, [.ref (q 0), .ref (q 1), .ref (q 2), .ref (q 3), .ref (q 4), .ref (q 5), .ref (q 6), .int 0, .int ((-1)), .ref (q 9), .ref (q 10), .int 0, .int 0, .ref (q 13), .int 0, .int 0, .null, .null, .null, .null, .null]))], [(h2, .inr (13, mF qm x0Mo y0Mo))]]) (k_rV (pc := 704) (As := [.int v1, .int v2]) (rest := [.int ((-1))]) X (c_Mo_planar_z1 l D kA h2 v1 v2 hg hgM H.size) rfl wm_3139 wm_9 wm_3136 wm_3137 wm_3138 2 (by decide +kernel) ⟨Nat.le_of_ble_eq_true rfl, Nat.le_of_ble_eq_true rfl⟩ rfl rfl (va_recv hK hP (ci := 13) (q0 := 1) rfl rfl) (k_pre hN hK hP hD [] [0, 1] 2 rfl (by decide) rfl) rfl hl.1 rfl (Nat.le_of_ble_eq_true rfl) d_law_law_704 ⟨Nat.le_of_ble_eq_true rfl, Nat.le_of_ble_eq_true rfl⟩) hP hD hS hA [] [0, 1] 2 rfl (by decide) rfl rfl (fun r3 u4 H locs hu4 hP hD hS => ?_)
  obtain ⟨hP, hD⟩ := k_left hP hD
  subst hu4
  have hP : va_P D classes (cat [[(h, .inr (12, [.ref (q 0), .ref (q 1), .ref (q 2), .ref (q 3), .ref (q 4), .ref (q 5), .ref (q 6), .int 0, .int ((-1)), .ref (q 9), .ref (q 10), .int 0, .int 0, .ref (q 13), .int 0, .int 0, .null, .null, .null, .null, .null]))], [(h2, .inr (13, mF qm x0Mo y0Mo))]]) H := hP
  have hD : va_D A (cat [[(h, .inr (12, [.ref (q 0), .ref (q 1), .ref (q 2), .ref (q 3), .ref (q 4), .ref (q 5), .ref (q 6), .int 0, .int ((-1)), .ref (q 9), .ref (q 10), .int 0, .int 0, .ref (q 13), .int 0, .int 0, .null, .null, .null, .null, .null]))], [(h2, .inr (13, mF qm x0Mo y0Mo))]]) := hD
  refine lv_icmp_eq (pc := 707) (tgt := 1295) hx hb d_law_law_707 (by decide) (fun _ => ?_) (fun c1 => absurd (by decide) c1)
  rw [hAe] at hS
  exact law_exit l C0 (Nat.le_of_ble_eq_true rfl) (Nat.le_of_ble_eq_true rfl) hS hl
set_option maxRecDepth 100000 in
set_option maxHeartbeats 4000000 in
/-- DrawingHouse$Net.begin(I)V -/
theorem c_Ne_begin_z1 (l : Launch) (D : va_G) (kA : Nat → ClassId) (g : Nat → Nat → Nat) (j : Nat) (a0 : Nat) (a1 : Nat) (a2 : Nat) (a3 : Nat) (a4 : Nat) (a5 : Nat) (a6 : Nat) (a7 : Nat) (a8 : Nat) (a9 : Nat) (f0 : Nat → Int32) (f1 : Nat → Int32) (f2 : Nat → Int32) (hj : j < 4) : Cv l y_Ne_begin z_Ne_begin { frames := 1, cells := 0, slots := 0, locals := 23 } D classes (TY kA) [.ref (g 2 j), .int 0] [[(g 2 j, .inr (5, [.int ((-1)), .int ((-1)), .int ((-1)), .int 0, .ref a0, .int 0, .int 0, .ref a1, .ref a2, .ref a3, .ref a4, .ref a5, .ref a6, .int 0, .ref a7, .ref a8, .ref a9]))], [(a3, .inl (kA 0, 25, .inl f0))], [(a4, .inl (kA 0, 625, .inl f1))], [(a6, .inl (kA 0, 25, .inl f2))]] (fun _ : Unit => True) (fun u => [[(g 2 j, .inr (5, [.int ((-1)), .int ((-1)), .int ((-1)), .int 0, .ref a0, .int 0, .int 0, .ref a1, .ref a2, .ref a3, .ref a4, .ref a5, .ref a6, .int 0, .ref a7, .ref a8, .ref a9]))], [(a3, .inl (kA 0, 25, .inl (fl f0 25 0)))], [(a4, .inl (kA 0, 625, .inl (fl f1 625 (-1))))], [(a6, .inl (kA 0, 25, .inl (fl f2 25 (-1))))]]) 0 0 := by
  intro sz
  refine k_met (cc := b_Ne_begin) (maxL := 2) (ret := none) (by decide) rfl (Nat.le_of_ble_eq_true rfl) (fun p e s m below meth c ls X hl hB => ?_)
  obtain ⟨hsz, hP, hK, hD0, hN⟩ := hB
  subst hsz
  have hD := hD0.self (sz := s.heap.size)
  generalize hAe : va_A (cat [[(g 2 j, .inr (5, [.int ((-1)), .int ((-1)), .int ((-1)), .int 0, .ref a0, .int 0, .int 0, .ref a1, .ref a2, .ref a3, .ref a4, .ref a5, .ref a6, .int 0, .ref a7, .ref a8, .ref a9]))], [(a3, .inl (kA 0, 25, .inl f0))], [(a4, .inl (kA 0, 625, .inl f1))], [(a6, .inl (kA 0, 25, .inl f2))]]) s.heap.size = A at hD ⊢
  have hA : ∀ q : Nat, s.heap.size ≤ q → A q := fun q h => by rw [← hAe]; exact Or.inr h
  have hS : va_S A s.heap s.heap [] := va_S.rf
  obtain ⟨hx, hb, hml, hown, hts, hr, hlk, hnm⟩ := id X
  have hl : lv_has ls 2 [(0, .ref (g 2 j)), (1, .int 0)] := hl
  have hP : va_P D classes (cat [[(g 2 j, .inr (5, [.int ((-1)), .int ((-1)), .int ((-1)), .int 0, .ref a0, .int 0, .int 0, .ref a1, .ref a2, .ref a3, .ref a4, .ref a5, .ref a6, .int 0, .ref a7, .ref a8, .ref a9]))], [(a3, .inl (kA 0, 25, .inl f0))], [(a4, .inl (kA 0, 625, .inl f1))], [(a6, .inl (kA 0, 25, .inl f2))]]) s.heap := hP
  have hK : va_K D classes (TY kA) s := hK
  refine lv_aload_n (pc := 0) hx hb d_Ne_begin_0 rfl (lv_at hl 0 rfl) ?_
  refine lv_iload_n (pc := 1) hx hb d_Ne_begin_1 rfl (lv_at hl 1 rfl) ?_
  refine k_put (pc := 2) X hK hP hD hS 0 rfl rfl i_Ne t_Ne t_Ne_ok n_Ne 5 (by decide) wm_262 rfl (Or.inl rfl) rfl rfl (Nat.le_of_ble_eq_true rfl) d_Ne_begin_2 (fun H locs hP hD hS => ?_)
  have hP : va_P D classes (cat [[(g 2 j, .inr (5, [.int ((-1)), .int ((-1)), .int ((-1)), .int 0, .ref a0, .int 0, .int 0, .ref a1, .ref a2, .ref a3, .ref a4, .ref a5, .ref a6, .int 0, .ref a7, .ref a8, .ref a9]))], [(a3, .inl (kA 0, 25, .inl f0))], [(a4, .inl (kA 0, 625, .inl f1))], [(a6, .inl (kA 0, 25, .inl f2))]]) H := hP
  have hD : va_D A (cat [[(g 2 j, .inr (5, [.int ((-1)), .int ((-1)), .int ((-1)), .int 0, .ref a0, .int 0, .int 0, .ref a1, .ref a2, .ref a3, .ref a4, .ref a5, .ref a6, .int 0, .ref a7, .ref a8, .ref a9]))], [(a3, .inl (kA 0, 25, .inl f0))], [(a4, .inl (kA 0, 625, .inl f1))], [(a6, .inl (kA 0, 25, .inl f2))]]) := hD
  refine lv_aload_n (pc := 5) hx hb d_Ne_begin_5 rfl (lv_at hl 0 rfl) ?_
  refine lv_iconst (pc := 6) (v := 0) hx hb d_Ne_begin_6 (by decide) ?_
  refine k_put (pc := 7) X hK hP hD hS 0 rfl rfl i_Ne t_Ne t_Ne_ok n_Ne 6 (by decide) wm_265 rfl (Or.inl rfl) rfl rfl (Nat.le_of_ble_eq_true rfl) d_Ne_begin_7 (fun H locs hP hD hS => ?_)
  have hP : va_P D classes (cat [[(g 2 j, .inr (5, [.int ((-1)), .int ((-1)), .int ((-1)), .int 0, .ref a0, .int 0, .int 0, .ref a1, .ref a2, .ref a3, .ref a4, .ref a5, .ref a6, .int 0, .ref a7, .ref a8, .ref a9]))], [(a3, .inl (kA 0, 25, .inl f0))], [(a4, .inl (kA 0, 625, .inl f1))], [(a6, .inl (kA 0, 25, .inl f2))]]) H := hP
  have hD : va_D A (cat [[(g 2 j, .inr (5, [.int ((-1)), .int ((-1)), .int ((-1)), .int 0, .ref a0, .int 0, .int 0, .ref a1, .ref a2, .ref a3, .ref a4, .ref a5, .ref a6, .int 0, .ref a7, .ref a8, .ref a9]))], [(a3, .inl (kA 0, 25, .inl f0))], [(a4, .inl (kA 0, 625, .inl f1))], [(a6, .inl (kA 0, 25, .inl f2))]]) := hD
  refine lv_aload_n (pc := 10) hx hb d_Ne_begin_10 rfl (lv_at hl 0 rfl) ?_
  refine lv_iconst (pc := 11) (v := 0) hx hb d_Ne_begin_11 (by decide) ?_
  refine k_put (pc := 12) X hK hP hD hS 0 rfl rfl i_Ne t_Ne t_Ne_ok n_Ne 13 (by decide) wm_282 rfl (Or.inl rfl) rfl rfl (Nat.le_of_ble_eq_true rfl) d_Ne_begin_12 (fun H locs hP hD hS => ?_)
  have hP : va_P D classes (cat [[(g 2 j, .inr (5, [.int ((-1)), .int ((-1)), .int ((-1)), .int 0, .ref a0, .int 0, .int 0, .ref a1, .ref a2, .ref a3, .ref a4, .ref a5, .ref a6, .int 0, .ref a7, .ref a8, .ref a9]))], [(a3, .inl (kA 0, 25, .inl f0))], [(a4, .inl (kA 0, 625, .inl f1))], [(a6, .inl (kA 0, 25, .inl f2))]]) H := hP
  have hD : va_D A (cat [[(g 2 j, .inr (5, [.int ((-1)), .int ((-1)), .int ((-1)), .int 0, .ref a0, .int 0, .int 0, .ref a1, .ref a2, .ref a3, .ref a4, .ref a5, .ref a6, .int 0, .ref a7, .ref a8, .ref a9]))], [(a3, .inl (kA 0, 25, .inl f0))], [(a4, .inl (kA 0, 625, .inl f1))], [(a6, .inl (kA 0, 25, .inl f2))]]) := hD
  refine lv_aload_n (pc := 15) hx hb d_Ne_begin_15 rfl (lv_at hl 0 rfl) ?_
  refine k_get (pc := 16) X hK hP 0 rfl rfl i_Ne 9 (by decide) wm_273 rfl rfl d_Ne_begin_16 ?_
  refine lv_iconst (pc := 19) (v := 0) hx hb d_Ne_begin_19 (by decide) ?_
  refine k_goV (gr := [[(g 2 j, .inr (5, [.int ((-1)), .int ((-1)), .int ((-1)), .int 0, .ref a0, .int 0, .int 0, .ref a1, .ref a2, .ref a3, .ref a4, .ref a5, .ref a6, .int 0, .ref a7, .ref a8, .ref a9]))], [(a4, .inl (kA 0, 625, .inl f1))], [(a6, .inl (kA 0, 25, .inl f2))]]) (k_rS (pc := 20) (As := [.ref a3, .int 0]) (rest := []) X (c_fillI l D (TY kA) 0 (kA 0) rfl a3 25 (by decide) f0 0 H.size) rfl wm_55 wm_4 wm_1061 wm_54 2 (by decide +kernel) ⟨Nat.le_of_ble_eq_true rfl, Nat.le_of_ble_eq_true rfl⟩ rfl rfl (k_pre hN hK hP hD [1] [0, 2, 3] 4 rfl (by decide) rfl) rfl hl.1 rfl (Nat.le_of_ble_eq_true rfl) d_Ne_begin_20 ⟨Nat.le_of_ble_eq_true rfl, Nat.le_of_ble_eq_true rfl⟩) hP hD hS hA [1] [0, 2, 3] 4 rfl (by decide) rfl rfl (fun u1 H locs hu1 hP hD hS => ?_)
  have hP : va_P D classes (cat [[(g 2 j, .inr (5, [.int ((-1)), .int ((-1)), .int ((-1)), .int 0, .ref a0, .int 0, .int 0, .ref a1, .ref a2, .ref a3, .ref a4, .ref a5, .ref a6, .int 0, .ref a7, .ref a8, .ref a9]))], [(a4, .inl (kA 0, 625, .inl f1))], [(a6, .inl (kA 0, 25, .inl f2))], [(a3, .inl (kA 0, 25, .inl (fl f0 25 0)))]]) H := hP
  have hD : va_D A (cat [[(g 2 j, .inr (5, [.int ((-1)), .int ((-1)), .int ((-1)), .int 0, .ref a0, .int 0, .int 0, .ref a1, .ref a2, .ref a3, .ref a4, .ref a5, .ref a6, .int 0, .ref a7, .ref a8, .ref a9]))], [(a4, .inl (kA 0, 625, .inl f1))], [(a6, .inl (kA 0, 25, .inl f2))], [(a3, .inl (kA 0, 25, .inl (fl f0 25 0)))]]) := hD
  refine lv_aload_n (pc := 23) hx hb d_Ne_begin_23 rfl (lv_at hl 0 rfl) ?_
  refine k_get (pc := 24) X hK hP 0 rfl rfl i_Ne 10 (by decide) wm_276 rfl rfl d_Ne_begin_24 ?_
  refine lv_iconst (pc := 27) (v := -1) hx hb d_Ne_begin_27 (by decide) ?_
  refine k_goV (gr := [[(g 2 j, .inr (5, [.int ((-1)), .int ((-1)), .int ((-1)), .int 0, .ref a0, .int 0, .int 0, .ref a1, .ref a2, .ref a3, .ref a4, .ref a5, .ref a6, .int 0, .ref a7, .ref a8, .ref a9]))], [(a6, .inl (kA 0, 25, .inl f2))], [(a3, .inl (kA 0, 25, .inl (fl f0 25 0)))]]) (k_rS (pc := 28) (As := [.ref a4, .int ((-1))]) (rest := []) X (c_fillI l D (TY kA) 0 (kA 0) rfl a4 625 (by decide) f1 (-1) H.size) rfl wm_55 wm_4 wm_1061 wm_54 2 (by decide +kernel) ⟨Nat.le_of_ble_eq_true rfl, Nat.le_of_ble_eq_true rfl⟩ rfl rfl (k_pre hN hK hP hD [1] [0, 2, 3] 4 rfl (by decide) rfl) rfl hl.1 rfl (Nat.le_of_ble_eq_true rfl) d_Ne_begin_28 ⟨Nat.le_of_ble_eq_true rfl, Nat.le_of_ble_eq_true rfl⟩) hP hD hS hA [1] [0, 2, 3] 4 rfl (by decide) rfl rfl (fun u2 H locs hu2 hP hD hS => ?_)
  have hP : va_P D classes (cat [[(g 2 j, .inr (5, [.int ((-1)), .int ((-1)), .int ((-1)), .int 0, .ref a0, .int 0, .int 0, .ref a1, .ref a2, .ref a3, .ref a4, .ref a5, .ref a6, .int 0, .ref a7, .ref a8, .ref a9]))], [(a6, .inl (kA 0, 25, .inl f2))], [(a3, .inl (kA 0, 25, .inl (fl f0 25 0)))], [(a4, .inl (kA 0, 625, .inl (fl f1 625 (-1))))]]) H := hP
  have hD : va_D A (cat [[(g 2 j, .inr (5, [.int ((-1)), .int ((-1)), .int ((-1)), .int 0, .ref a0, .int 0, .int 0, .ref a1, .ref a2, .ref a3, .ref a4, .ref a5, .ref a6, .int 0, .ref a7, .ref a8, .ref a9]))], [(a6, .inl (kA 0, 25, .inl f2))], [(a3, .inl (kA 0, 25, .inl (fl f0 25 0)))], [(a4, .inl (kA 0, 625, .inl (fl f1 625 (-1))))]]) := hD
  refine lv_aload_n (pc := 31) hx hb d_Ne_begin_31 rfl (lv_at hl 0 rfl) ?_
  refine k_get (pc := 32) X hK hP 0 rfl rfl i_Ne 12 (by decide) wm_280 rfl rfl d_Ne_begin_32 ?_
  refine lv_iconst (pc := 35) (v := -1) hx hb d_Ne_begin_35 (by decide) ?_
  refine k_goV (gr := [[(g 2 j, .inr (5, [.int ((-1)), .int ((-1)), .int ((-1)), .int 0, .ref a0, .int 0, .int 0, .ref a1, .ref a2, .ref a3, .ref a4, .ref a5, .ref a6, .int 0, .ref a7, .ref a8, .ref a9]))], [(a3, .inl (kA 0, 25, .inl (fl f0 25 0)))], [(a4, .inl (kA 0, 625, .inl (fl f1 625 (-1))))]]) (k_rS (pc := 36) (As := [.ref a6, .int ((-1))]) (rest := []) X (c_fillI l D (TY kA) 0 (kA 0) rfl a6 25 (by decide) f2 (-1) H.size) rfl wm_55 wm_4 wm_1061 wm_54 2 (by decide +kernel) ⟨Nat.le_of_ble_eq_true rfl, Nat.le_of_ble_eq_true rfl⟩ rfl rfl (k_pre hN hK hP hD [1] [0, 2, 3] 4 rfl (by decide) rfl) rfl hl.1 rfl (Nat.le_of_ble_eq_true rfl) d_Ne_begin_36 ⟨Nat.le_of_ble_eq_true rfl, Nat.le_of_ble_eq_true rfl⟩) hP hD hS hA [1] [0, 2, 3] 4 rfl (by decide) rfl rfl (fun u3 H locs hu3 hP hD hS => ?_)
  have hP : va_P D classes (cat [[(g 2 j, .inr (5, [.int ((-1)), .int ((-1)), .int ((-1)), .int 0, .ref a0, .int 0, .int 0, .ref a1, .ref a2, .ref a3, .ref a4, .ref a5, .ref a6, .int 0, .ref a7, .ref a8, .ref a9]))], [(a3, .inl (kA 0, 25, .inl (fl f0 25 0)))], [(a4, .inl (kA 0, 625, .inl (fl f1 625 (-1))))], [(a6, .inl (kA 0, 25, .inl (fl f2 25 (-1))))]]) H := hP
  have hD : va_D A (cat [[(g 2 j, .inr (5, [.int ((-1)), .int ((-1)), .int ((-1)), .int 0, .ref a0, .int 0, .int 0, .ref a1, .ref a2, .ref a3, .ref a4, .ref a5, .ref a6, .int 0, .ref a7, .ref a8, .ref a9]))], [(a3, .inl (kA 0, 25, .inl (fl f0 25 0)))], [(a4, .inl (kA 0, 625, .inl (fl f1 625 (-1))))], [(a6, .inl (kA 0, 25, .inl (fl f2 25 (-1))))]]) := hD
  refine W.widen (k := 0) (n := 0) (Nat.le_of_ble_eq_true rfl) (Nat.le_of_ble_eq_true rfl) ?_
  exact W.vret hx hb hr (fun t ht hW => ⟨⟨(), rfl, trivial, by rw [ht]; exact hP, va_K.moved hW.alike hK, hD⟩, hS.F ht⟩) hS.2.2 d_Ne_begin_39
set_option maxRecDepth 100000 in
set_option maxHeartbeats 4000000 in
/-- DrawingHouse$Net.load(LDrawingHouse$Graph;)V -/
theorem c_Ne_load_z1 (l : Launch) (D : va_G) (kA : Nat → ClassId) (g : Nat → Nat → Nat) (j : Nat) (a0 : Nat) (a1 : Nat) (a2 : Nat) (a3 : Nat) (a4 : Nat) (a5 : Nat) (a6 : Nat) (a7 : Nat) (a8 : Nat) (a9 : Nat) (a10 : Nat) (a11 : Nat) (a12 : Nat) (a13 : Nat) (a14 : Nat) (a15 : Nat) (a16 : Nat) (a17 : Nat) (a18 : Nat) (a19 : Nat) (a20 : Nat) (a21 : Nat) (a22 : Nat) (f0 : Nat → Int32) (f1 : Nat → Int32) (f2 : Nat → Int32) (hj : j < 4) : Cv l y_Ne_load z_Ne_load { frames := 2, cells := 0, slots := 0, locals := 44 } D classes (TY kA) [.ref (g 2 j), .ref (g 0 j)] [[(g 0 j, .inr (3, [.int 0, .int 0, .int 1, .ref a0, .ref a1, .ref a2, .ref a3, .ref a4, .ref a5, .ref a6, .ref a7, .ref a8, .ref a9, .ref a10, .ref a11, .ref a12, .null, .int 0, .int 0]))], [(g 2 j, .inr (5, [.int ((-1)), .int ((-1)), .int ((-1)), .int 0, .ref a13, .int 0, .int 0, .ref a14, .ref a15, .ref a16, .ref a17, .ref a18, .ref a19, .int 0, .ref a20, .ref a21, .ref a22]))], [(a16, .inl (kA 0, 25, .inl f0))], [(a17, .inl (kA 0, 625, .inl f1))], [(a19, .inl (kA 0, 25, .inl f2))]] (fun _ : Unit => True) (fun u => [[(g 0 j, .inr (3, [.int 0, .int 0, .int 1, .ref a0, .ref a1, .ref a2, .ref a3, .ref a4, .ref a5, .ref a6, .ref a7, .ref a8, .ref a9, .ref a10, .ref a11, .ref a12, .null, .int 0, .int 0]))], [(g 2 j, .inr (5, [.int ((-1)), .int ((-1)), .int ((-1)), .int 0, .ref a13, .int 0, .int 0, .ref a14, .ref a15, .ref a16, .ref a17, .ref a18, .ref a19, .int 0, .ref a20, .ref a21, .ref a22]))], [(a16, .inl (kA 0, 25, .inl (fl f0 25 0)))], [(a17, .inl (kA 0, 625, .inl (fl f1 625 (-1))))], [(a19, .inl (kA 0, 25, .inl (fl f2 25 (-1))))]]) 0 0 := by
  intro sz
  refine k_met (cc := b_Ne_load) (maxL := 3) (ret := none) (by decide) rfl (Nat.le_of_ble_eq_true rfl) (fun p e s m below meth c ls X hl hB => ?_)
  obtain ⟨hsz, hP, hK, hD0, hN⟩ := hB
  subst hsz
  have hD := hD0.self (sz := s.heap.size)
  generalize hAe : va_A (cat [[(g 0 j, .inr (3, [.int 0, .int 0, .int 1, .ref a0, .ref a1, .ref a2, .ref a3, .ref a4, .ref a5, .ref a6, .ref a7, .ref a8, .ref a9, .ref a10, .ref a11, .ref a12, .null, .int 0, .int 0]))], [(g 2 j, .inr (5, [.int ((-1)), .int ((-1)), .int ((-1)), .int 0, .ref a13, .int 0, .int 0, .ref a14, .ref a15, .ref a16, .ref a17, .ref a18, .ref a19, .int 0, .ref a20, .ref a21, .ref a22]))], [(a16, .inl (kA 0, 25, .inl f0))], [(a17, .inl (kA 0, 625, .inl f1))], [(a19, .inl (kA 0, 25, .inl f2))]]) s.heap.size = A at hD ⊢
  have hA : ∀ q : Nat, s.heap.size ≤ q → A q := fun q h => by rw [← hAe]; exact Or.inr h
  have hS : va_S A s.heap s.heap [] := va_S.rf
  obtain ⟨hx, hb, hml, hown, hts, hr, hlk, hnm⟩ := id X
  have hl : lv_has ls 3 [(0, .ref (g 2 j)), (1, .ref (g 0 j))] := hl
  have hP : va_P D classes (cat [[(g 0 j, .inr (3, [.int 0, .int 0, .int 1, .ref a0, .ref a1, .ref a2, .ref a3, .ref a4, .ref a5, .ref a6, .ref a7, .ref a8, .ref a9, .ref a10, .ref a11, .ref a12, .null, .int 0, .int 0]))], [(g 2 j, .inr (5, [.int ((-1)), .int ((-1)), .int ((-1)), .int 0, .ref a13, .int 0, .int 0, .ref a14, .ref a15, .ref a16, .ref a17, .ref a18, .ref a19, .int 0, .ref a20, .ref a21, .ref a22]))], [(a16, .inl (kA 0, 25, .inl f0))], [(a17, .inl (kA 0, 625, .inl f1))], [(a19, .inl (kA 0, 25, .inl f2))]]) s.heap := hP
  have hK : va_K D classes (TY kA) s := hK
  refine lv_aload_n (pc := 0) hx hb d_Ne_load_0 rfl (lv_at hl 0 rfl) ?_
  refine lv_aload_n (pc := 1) hx hb d_Ne_load_1 rfl (lv_at hl 1 rfl) ?_
  refine k_get (pc := 2) X hK hP 0 rfl rfl i_Gr 0 (by decide) wm_63 rfl rfl d_Ne_load_2 ?_
  refine k_goV (gr := [[(g 0 j, .inr (3, [.int 0, .int 0, .int 1, .ref a0, .ref a1, .ref a2, .ref a3, .ref a4, .ref a5, .ref a6, .ref a7, .ref a8, .ref a9, .ref a10, .ref a11, .ref a12, .null, .int 0, .int 0]))]]) (k_rV (pc := 5) (As := [.int 0]) (rest := []) X (c_Ne_begin_z1 l D kA g j a13 a14 a15 a16 a17 a18 a19 a20 a21 a22 f0 f1 f2 hj s.heap.size) rfl wm_1060 wm_6 wm_1057 wm_1058 wm_1059 1 (by decide +kernel) ⟨Nat.le_of_ble_eq_true rfl, Nat.le_of_ble_eq_true rfl⟩ rfl rfl (va_recv hK hP (ci := 5) (q0 := 1) rfl rfl) (k_pre hN hK hP hD [1, 2, 3, 4] [0] 5 rfl (by decide) rfl) rfl hl.1 rfl (Nat.le_of_ble_eq_true rfl) d_Ne_load_5 ⟨Nat.le_of_ble_eq_true rfl, Nat.le_of_ble_eq_true rfl⟩) hP hD hS hA [1, 2, 3, 4] [0] 5 rfl (by decide) rfl rfl (fun u1 H locs hu1 hP hD hS => ?_)
  have hP : va_P D classes (cat [[(g 0 j, .inr (3, [.int 0, .int 0, .int 1, .ref a0, .ref a1, .ref a2, .ref a3, .ref a4, .ref a5, .ref a6, .ref a7, .ref a8, .ref a9, .ref a10, .ref a11, .ref a12, .null, .int 0, .int 0]))], [(g 2 j, .inr (5, [.int ((-1)), .int ((-1)), .int ((-1)), .int 0, .ref a13, .int 0, .int 0, .ref a14, .ref a15, .ref a16, .ref a17, .ref a18, .ref a19, .int 0, .ref a20, .ref a21, .ref a22]))], [(a16, .inl (kA 0, 25, .inl (fl f0 25 0)))], [(a17, .inl (kA 0, 625, .inl (fl f1 625 (-1))))], [(a19, .inl (kA 0, 25, .inl (fl f2 25 (-1))))]]) H := hP
  have hD : va_D A (cat [[(g 0 j, .inr (3, [.int 0, .int 0, .int 1, .ref a0, .ref a1, .ref a2, .ref a3, .ref a4, .ref a5, .ref a6, .ref a7, .ref a8, .ref a9, .ref a10, .ref a11, .ref a12, .null, .int 0, .int 0]))], [(g 2 j, .inr (5, [.int ((-1)), .int ((-1)), .int ((-1)), .int 0, .ref a13, .int 0, .int 0, .ref a14, .ref a15, .ref a16, .ref a17, .ref a18, .ref a19, .int 0, .ref a20, .ref a21, .ref a22]))], [(a16, .inl (kA 0, 25, .inl (fl f0 25 0)))], [(a17, .inl (kA 0, 625, .inl (fl f1 625 (-1))))], [(a19, .inl (kA 0, 25, .inl (fl f2 25 (-1))))]]) := hD
  refine lv_iconst (pc := 8) (v := 0) hx hb d_Ne_load_8 (by decide) ?_
  refine lv_istore_n (pc := 9) (lv' := [(2, .int 0), (0, .ref (g 2 j)), (1, .ref (g 0 j))]) hx hb d_Ne_load_9 rfl hl (by decide) rfl (fun ls hl => ?_)
  refine lv_iload_n (pc := 10) hx hb d_Ne_load_10 rfl (lv_at hl 0 rfl) ?_
  refine lv_aload_n (pc := 11) hx hb d_Ne_load_11 rfl (lv_at hl 2 rfl) ?_
  refine k_get (pc := 12) X hK hP 0 rfl rfl i_Gr 1 (by decide) wm_72 rfl rfl d_Ne_load_12 ?_
  refine lv_icmp_ge (pc := 15) (tgt := 41) hx hb d_Ne_load_15 (by decide) (fun _ => ?_) (fun c1 => absurd (by decide) c1)
  refine W.widen (k := 0) (n := 0) (Nat.le_of_ble_eq_true rfl) (Nat.le_of_ble_eq_true rfl) ?_
  exact W.vret hx hb hr (fun t ht hW => ⟨⟨(), rfl, trivial, by rw [ht]; exact hP, va_K.moved hW.alike hK, hD⟩, hS.F ht⟩) hS.2.2 d_Ne_load_41
set_option maxRecDepth 100000 in
set_option maxHeartbeats 4000000 in
/-- DrawingHouse$Net.traceFaces()V -/
theorem c_Ne_traceFaces_z1 (l : Launch) (D : va_G) (kA : Nat → ClassId) (g : Nat → Nat → Nat) (j : Nat) (a0 : Nat) (a1 : Nat) (a2 : Nat) (a3 : Nat) (a4 : Nat) (a5 : Nat) (a6 : Nat) (a7 : Nat) (a8 : Nat) (a9 : Nat) (f0 : Nat → Int32) (f1 : Nat → Int32) (hj : j < 4) : Cv l y_Ne_traceFaces z_Ne_traceFaces { frames := 1, cells := 0, slots := 0, locals := 23 } D classes (TY kA) [.ref (g 2 j)] [[(g 2 j, .inr (5, [.int ((-1)), .int ((-1)), .int ((-1)), .int 0, .ref a0, .int 0, .int 0, .ref a1, .ref a2, .ref a3, .ref a4, .ref a5, .ref a6, .int 0, .ref a7, .ref a8, .ref a9]))], [(a9, .inl (kA 0, 144, .inl f0))], [(a7, .inl (kA 0, 145, .inl f1))]] (fun _ : Unit => True) (fun u => [[(g 2 j, .inr (5, [.int ((-1)), .int ((-1)), .int ((-1)), .int 0, .ref a0, .int 0, .int 0, .ref a1, .ref a2, .ref a3, .ref a4, .ref a5, .ref a6, .int 0, .ref a7, .ref a8, .ref a9]))], [(a9, .inl (kA 0, 144, .inl (fl f0 144 (-1))))], [(a7, .inl (kA 0, 145, .inl (upd (f1) 0 0)))]]) 0 0 := by
  intro sz
  refine k_met (cc := b_Ne_traceFaces) (maxL := 6) (ret := none) (by decide) rfl (Nat.le_of_ble_eq_true rfl) (fun p e s m below meth c ls X hl hB => ?_)
  obtain ⟨hsz, hP, hK, hD0, hN⟩ := hB
  subst hsz
  have hD := hD0.self (sz := s.heap.size)
  generalize hAe : va_A (cat [[(g 2 j, .inr (5, [.int ((-1)), .int ((-1)), .int ((-1)), .int 0, .ref a0, .int 0, .int 0, .ref a1, .ref a2, .ref a3, .ref a4, .ref a5, .ref a6, .int 0, .ref a7, .ref a8, .ref a9]))], [(a9, .inl (kA 0, 144, .inl f0))], [(a7, .inl (kA 0, 145, .inl f1))]]) s.heap.size = A at hD ⊢
  have hA : ∀ q : Nat, s.heap.size ≤ q → A q := fun q h => by rw [← hAe]; exact Or.inr h
  have hS : va_S A s.heap s.heap [] := va_S.rf
  obtain ⟨hx, hb, hml, hown, hts, hr, hlk, hnm⟩ := id X
  have hl : lv_has ls 6 [(0, .ref (g 2 j))] := hl
  have hP : va_P D classes (cat [[(g 2 j, .inr (5, [.int ((-1)), .int ((-1)), .int ((-1)), .int 0, .ref a0, .int 0, .int 0, .ref a1, .ref a2, .ref a3, .ref a4, .ref a5, .ref a6, .int 0, .ref a7, .ref a8, .ref a9]))], [(a9, .inl (kA 0, 144, .inl f0))], [(a7, .inl (kA 0, 145, .inl f1))]]) s.heap := hP
  have hK : va_K D classes (TY kA) s := hK
  refine lv_aload_n (pc := 0) hx hb d_Ne_traceFaces_0 rfl (lv_at hl 0 rfl) ?_
  refine lv_iconst (pc := 1) (v := 0) hx hb d_Ne_traceFaces_1 (by decide) ?_
  refine k_put (pc := 2) X hK hP hD hS 0 rfl rfl i_Ne t_Ne t_Ne_ok n_Ne 13 (by decide) wm_282 rfl (Or.inl rfl) rfl rfl (Nat.le_of_ble_eq_true rfl) d_Ne_traceFaces_2 (fun H locs hP hD hS => ?_)
  have hP : va_P D classes (cat [[(g 2 j, .inr (5, [.int ((-1)), .int ((-1)), .int ((-1)), .int 0, .ref a0, .int 0, .int 0, .ref a1, .ref a2, .ref a3, .ref a4, .ref a5, .ref a6, .int 0, .ref a7, .ref a8, .ref a9]))], [(a9, .inl (kA 0, 144, .inl f0))], [(a7, .inl (kA 0, 145, .inl f1))]]) H := hP
  have hD : va_D A (cat [[(g 2 j, .inr (5, [.int ((-1)), .int ((-1)), .int ((-1)), .int 0, .ref a0, .int 0, .int 0, .ref a1, .ref a2, .ref a3, .ref a4, .ref a5, .ref a6, .int 0, .ref a7, .ref a8, .ref a9]))], [(a9, .inl (kA 0, 144, .inl f0))], [(a7, .inl (kA 0, 145, .inl f1))]]) := hD
  refine lv_iconst (pc := 5) (v := 0) hx hb d_Ne_traceFaces_5 (by decide) ?_
  refine lv_istore_n (pc := 6) (lv' := [(1, .int 0), (0, .ref (g 2 j))]) hx hb d_Ne_traceFaces_6 rfl hl (by decide) rfl (fun ls hl => ?_)
  refine lv_aload_n (pc := 7) hx hb d_Ne_traceFaces_7 rfl (lv_at hl 1 rfl) ?_
  refine k_get (pc := 8) X hK hP 0 rfl rfl i_Ne 16 (by decide) wm_289 rfl rfl d_Ne_traceFaces_8 ?_
  refine lv_iconst (pc := 11) (v := -1) hx hb d_Ne_traceFaces_11 (by decide) ?_
  refine k_goV (gr := [[(g 2 j, .inr (5, [.int ((-1)), .int ((-1)), .int ((-1)), .int 0, .ref a0, .int 0, .int 0, .ref a1, .ref a2, .ref a3, .ref a4, .ref a5, .ref a6, .int 0, .ref a7, .ref a8, .ref a9]))], [(a7, .inl (kA 0, 145, .inl f1))]]) (k_rS (pc := 12) (As := [.ref a9, .int ((-1))]) (rest := []) X (c_fillI l D (TY kA) 0 (kA 0) rfl a9 144 (by decide) f0 (-1) H.size) rfl wm_55 wm_4 wm_1061 wm_54 2 (by decide +kernel) ⟨Nat.le_of_ble_eq_true rfl, Nat.le_of_ble_eq_true rfl⟩ rfl rfl (k_pre hN hK hP hD [1] [0, 2] 3 rfl (by decide) rfl) rfl hl.1 rfl (Nat.le_of_ble_eq_true rfl) d_Ne_traceFaces_12 ⟨Nat.le_of_ble_eq_true rfl, Nat.le_of_ble_eq_true rfl⟩) hP hD hS hA [1] [0, 2] 3 rfl (by decide) rfl rfl (fun u1 H locs hu1 hP hD hS => ?_)
  have hP : va_P D classes (cat [[(g 2 j, .inr (5, [.int ((-1)), .int ((-1)), .int ((-1)), .int 0, .ref a0, .int 0, .int 0, .ref a1, .ref a2, .ref a3, .ref a4, .ref a5, .ref a6, .int 0, .ref a7, .ref a8, .ref a9]))], [(a7, .inl (kA 0, 145, .inl f1))], [(a9, .inl (kA 0, 144, .inl (fl f0 144 (-1))))]]) H := hP
  have hD : va_D A (cat [[(g 2 j, .inr (5, [.int ((-1)), .int ((-1)), .int ((-1)), .int 0, .ref a0, .int 0, .int 0, .ref a1, .ref a2, .ref a3, .ref a4, .ref a5, .ref a6, .int 0, .ref a7, .ref a8, .ref a9]))], [(a7, .inl (kA 0, 145, .inl f1))], [(a9, .inl (kA 0, 144, .inl (fl f0 144 (-1))))]]) := hD
  refine lv_iconst (pc := 15) (v := 0) hx hb d_Ne_traceFaces_15 (by decide) ?_
  refine lv_istore_n (pc := 16) (lv' := [(2, .int 0), (1, .int 0), (0, .ref (g 2 j))]) hx hb d_Ne_traceFaces_16 rfl hl (by decide) rfl (fun ls hl => ?_)
  refine lv_iload_n (pc := 17) hx hb d_Ne_traceFaces_17 rfl (lv_at hl 0 rfl) ?_
  refine lv_iconst (pc := 18) (v := 2) hx hb d_Ne_traceFaces_18 (by decide) ?_
  refine lv_aload_n (pc := 19) hx hb d_Ne_traceFaces_19 rfl (lv_at hl 2 rfl) ?_
  refine k_get (pc := 20) X hK hP 0 rfl rfl i_Ne 6 (by decide) wm_265 rfl rfl d_Ne_traceFaces_20 ?_
  refine lv_imul (pc := 23) hx hb d_Ne_traceFaces_23 ?_
  refine k_cst (v := 0) (by decide) ?_
  refine lv_icmp_ge (pc := 24) (tgt := 184) hx hb d_Ne_traceFaces_24 (by decide) (fun _ => ?_) (fun c1 => absurd (by decide) c1)
  refine lv_aload_n (pc := 184) hx hb d_Ne_traceFaces_184 rfl (lv_at hl 2 rfl) ?_
  refine k_get (pc := 185) X hK hP 0 rfl rfl i_Ne 14 (by decide) wm_285 rfl rfl d_Ne_traceFaces_185 ?_
  refine lv_aload_n (pc := 188) hx hb d_Ne_traceFaces_188 rfl (lv_at hl 2 rfl) ?_
  refine k_get (pc := 189) X hK hP 0 rfl rfl i_Ne 13 (by decide) wm_282 rfl rfl d_Ne_traceFaces_189 ?_
  refine lv_iload_n (pc := 192) hx hb d_Ne_traceFaces_192 rfl (lv_at hl 1 rfl) ?_
  refine va_iast (pc := 193) hx hb hK hP hD hS 1 0 rfl rfl (by unfold vp_in; decide) d_Ne_traceFaces_193 (fun H locs hP hD hS => ?_)
  have hP : va_P D classes (cat [[(g 2 j, .inr (5, [.int ((-1)), .int ((-1)), .int ((-1)), .int 0, .ref a0, .int 0, .int 0, .ref a1, .ref a2, .ref a3, .ref a4, .ref a5, .ref a6, .int 0, .ref a7, .ref a8, .ref a9]))], [(a7, .inl (kA 0, 145, .inl (upd (f1) 0 0)))], [(a9, .inl (kA 0, 144, .inl (fl f0 144 (-1))))]]) H := hP
  have hD : va_D A (cat [[(g 2 j, .inr (5, [.int ((-1)), .int ((-1)), .int ((-1)), .int 0, .ref a0, .int 0, .int 0, .ref a1, .ref a2, .ref a3, .ref a4, .ref a5, .ref a6, .int 0, .ref a7, .ref a8, .ref a9]))], [(a7, .inl (kA 0, 145, .inl (upd (f1) 0 0)))], [(a9, .inl (kA 0, 144, .inl (fl f0 144 (-1))))]]) := hD
  obtain ⟨hP, hD⟩ := k_ord (gc := [[(g 2 j, .inr (5, [.int ((-1)), .int ((-1)), .int ((-1)), .int 0, .ref a0, .int 0, .int 0, .ref a1, .ref a2, .ref a3, .ref a4, .ref a5, .ref a6, .int 0, .ref a7, .ref a8, .ref a9]))], [(a9, .inl (kA 0, 144, .inl (fl f0 144 (-1))))], [(a7, .inl (kA 0, 145, .inl (upd (f1) 0 0)))]]) hP hD [0, 2, 1] 3 rfl (by decide) rfl
  refine W.widen (k := 0) (n := 0) (Nat.le_of_ble_eq_true rfl) (Nat.le_of_ble_eq_true rfl) ?_
  exact W.vret hx hb hr (fun t ht hW => ⟨⟨(), rfl, trivial, by rw [ht]; exact hP, va_K.moved hW.alike hK, hD⟩, hS.F ht⟩) hS.2.2 d_Ne_traceFaces_194
set_option maxRecDepth 100000 in
set_option maxHeartbeats 4000000 in
/-- DrawingHouse$Embedder.embed(LDrawingHouse$Net;)Z -/
theorem c_Em_embed_z1 (l : Launch) (D : va_G) (kA : Nat → ClassId) (a0 : Nat) (g : Nat → Nat → Nat) (j : Nat) (a1 : Nat) (a2 : Nat) (a3 : Nat) (a4 : Nat) (a5 : Nat) (a6 : Nat) (a7 : Nat) (a8 : Nat) (a9 : Nat) (a10 : Nat) (a11 : Nat) (a12 : Nat) (a13 : Nat) (a14 : Nat) (a15 : Nat) (a16 : Nat) (a17 : Nat) (a18 : Nat) (a19 : Nat) (a20 : Nat) (a21 : Nat) (a22 : Nat) (f0 : Nat → Int32) (f1 : Nat → Int32) (hj : j < 4) : Ci l y_Em_embed z_Em_embed { frames := 2, cells := 0, slots := 0, locals := 48 } D classes (TY kA) [.ref a0, .ref (g 2 j)] [[(a0, .inr (1, [.null, .ref a1, .ref a2, .ref a3, .ref a4, .int 0, .int 0, .int 0, .ref a5, .ref a6, .ref a7, .ref a8, .ref a9, .ref a10, .ref a11, .int 0, .int 0, .int 0, .int 0, .ref a12]))], [(g 2 j, .inr (5, [.int ((-1)), .int ((-1)), .int ((-1)), .int 0, .ref a13, .int 0, .int 0, .ref a14, .ref a15, .ref a16, .ref a17, .ref a18, .ref a19, .int 0, .ref a20, .ref a21, .ref a22]))], [(a22, .inl (kA 0, 144, .inl f0))], [(a20, .inl (kA 0, 145, .inl f1))]] (fun r (_ : Unit) => r = 1) (fun u => [[(a0, .inr (1, [.ref (g 2 j), .ref a1, .ref a2, .ref a3, .ref a4, .int 0, .int 0, .int 0, .ref a5, .ref a6, .ref a7, .ref a8, .ref a9, .ref a10, .ref a11, .int 0, .int 0, .int 0, .int 0, .ref a12]))], [(g 2 j, .inr (5, [.int ((-1)), .int ((-1)), .int ((-1)), .int 0, .ref a13, .int 0, .int 0, .ref a14, .ref a15, .ref a16, .ref a17, .ref a18, .ref a19, .int 0, .ref a20, .ref a21, .ref a22]))], [(a22, .inl (kA 0, 144, .inl (fl f0 144 (-1))))], [(a20, .inl (kA 0, 145, .inl (upd (f1) 0 0)))]]) 0 0 := by
  intro sz
  refine k_met (cc := b_Em_embed) (maxL := 6) (ret := (some .boolean)) (by decide) rfl (Nat.le_of_ble_eq_true rfl) (fun p e s m below meth c ls X hl hB => ?_)
  obtain ⟨hsz, hP, hK, hD0, hN⟩ := hB
  subst hsz
  have hD := hD0.self (sz := s.heap.size)
  generalize hAe : va_A (cat [[(a0, .inr (1, [.null, .ref a1, .ref a2, .ref a3, .ref a4, .int 0, .int 0, .int 0, .ref a5, .ref a6, .ref a7, .ref a8, .ref a9, .ref a10, .ref a11, .int 0, .int 0, .int 0, .int 0, .ref a12]))], [(g 2 j, .inr (5, [.int ((-1)), .int ((-1)), .int ((-1)), .int 0, .ref a13, .int 0, .int 0, .ref a14, .ref a15, .ref a16, .ref a17, .ref a18, .ref a19, .int 0, .ref a20, .ref a21, .ref a22]))], [(a22, .inl (kA 0, 144, .inl f0))], [(a20, .inl (kA 0, 145, .inl f1))]]) s.heap.size = A at hD ⊢
  have hA : ∀ q : Nat, s.heap.size ≤ q → A q := fun q h => by rw [← hAe]; exact Or.inr h
  have hS : va_S A s.heap s.heap [] := va_S.rf
  obtain ⟨hx, hb, hml, hown, hts, hr, hlk, hnm⟩ := id X
  have hl : lv_has ls 6 [(0, .ref a0), (1, .ref (g 2 j))] := hl
  have hP : va_P D classes (cat [[(a0, .inr (1, [.null, .ref a1, .ref a2, .ref a3, .ref a4, .int 0, .int 0, .int 0, .ref a5, .ref a6, .ref a7, .ref a8, .ref a9, .ref a10, .ref a11, .int 0, .int 0, .int 0, .int 0, .ref a12]))], [(g 2 j, .inr (5, [.int ((-1)), .int ((-1)), .int ((-1)), .int 0, .ref a13, .int 0, .int 0, .ref a14, .ref a15, .ref a16, .ref a17, .ref a18, .ref a19, .int 0, .ref a20, .ref a21, .ref a22]))], [(a22, .inl (kA 0, 144, .inl f0))], [(a20, .inl (kA 0, 145, .inl f1))]]) s.heap := hP
  have hK : va_K D classes (TY kA) s := hK
  refine lv_aload_n (pc := 0) hx hb d_Em_embed_0 rfl (lv_at hl 0 rfl) ?_
  refine lv_aload_n (pc := 1) hx hb d_Em_embed_1 rfl (lv_at hl 1 rfl) ?_
  refine k_put (pc := 2) X hK hP hD hS 0 rfl rfl i_Em t_Em t_Em_ok n_Em 0 (by decide) wm_326 rfl (Or.inl rfl) rfl rfl (Nat.le_of_ble_eq_true rfl) d_Em_embed_2 (fun H locs hP hD hS => ?_)
  have hP : va_P D classes (cat [[(a0, .inr (1, [.ref (g 2 j), .ref a1, .ref a2, .ref a3, .ref a4, .int 0, .int 0, .int 0, .ref a5, .ref a6, .ref a7, .ref a8, .ref a9, .ref a10, .ref a11, .int 0, .int 0, .int 0, .int 0, .ref a12]))], [(g 2 j, .inr (5, [.int ((-1)), .int ((-1)), .int ((-1)), .int 0, .ref a13, .int 0, .int 0, .ref a14, .ref a15, .ref a16, .ref a17, .ref a18, .ref a19, .int 0, .ref a20, .ref a21, .ref a22]))], [(a22, .inl (kA 0, 144, .inl f0))], [(a20, .inl (kA 0, 145, .inl f1))]]) H := hP
  have hD : va_D A (cat [[(a0, .inr (1, [.ref (g 2 j), .ref a1, .ref a2, .ref a3, .ref a4, .int 0, .int 0, .int 0, .ref a5, .ref a6, .ref a7, .ref a8, .ref a9, .ref a10, .ref a11, .int 0, .int 0, .int 0, .int 0, .ref a12]))], [(g 2 j, .inr (5, [.int ((-1)), .int ((-1)), .int ((-1)), .int 0, .ref a13, .int 0, .int 0, .ref a14, .ref a15, .ref a16, .ref a17, .ref a18, .ref a19, .int 0, .ref a20, .ref a21, .ref a22]))], [(a22, .inl (kA 0, 144, .inl f0))], [(a20, .inl (kA 0, 145, .inl f1))]]) := hD
  refine lv_aload_n (pc := 5) hx hb d_Em_embed_5 rfl (lv_at hl 0 rfl) ?_
  refine k_get (pc := 6) X hK hP 0 rfl rfl i_Em 0 (by decide) wm_326 rfl rfl d_Em_embed_6 ?_
  refine k_get (pc := 9) X hK hP 1 rfl rfl i_Ne 5 (by decide) wm_263 rfl rfl d_Em_embed_9 ?_
  refine lv_aload_n (pc := 12) hx hb d_Em_embed_12 rfl (lv_at hl 0 rfl) ?_
  refine k_get (pc := 13) X hK hP 0 rfl rfl i_Em 0 (by decide) wm_326 rfl rfl d_Em_embed_13 ?_
  refine k_get (pc := 16) X hK hP 1 rfl rfl i_Ne 6 (by decide) wm_266 rfl rfl d_Em_embed_16 ?_
  refine lv_aload_n (pc := 19) hx hb d_Em_embed_19 rfl (lv_at hl 0 rfl) ?_
  refine k_get (pc := 20) X hK hP 0 rfl rfl i_Em 0 (by decide) wm_326 rfl rfl d_Em_embed_20 ?_
  refine k_get (pc := 23) X hK hP 1 rfl rfl i_Ne 7 (by decide) wm_268 rfl rfl d_Em_embed_23 ?_
  refine lv_aload_n (pc := 26) hx hb d_Em_embed_26 rfl (lv_at hl 0 rfl) ?_
  refine k_get (pc := 27) X hK hP 0 rfl rfl i_Em 0 (by decide) wm_326 rfl rfl d_Em_embed_27 ?_
  refine k_get (pc := 30) X hK hP 1 rfl rfl i_Ne 8 (by decide) wm_271 rfl rfl d_Em_embed_30 ?_
  refine lv_aload_n (pc := 33) hx hb d_Em_embed_33 rfl (lv_at hl 0 rfl) ?_
  refine k_get (pc := 34) X hK hP 0 rfl rfl i_Em 0 (by decide) wm_326 rfl rfl d_Em_embed_34 ?_
  refine k_get (pc := 37) X hK hP 1 rfl rfl i_Ne 9 (by decide) wm_274 rfl rfl d_Em_embed_37 ?_
  refine lv_aload_n (pc := 40) hx hb d_Em_embed_40 rfl (lv_at hl 0 rfl) ?_
  refine k_get (pc := 41) X hK hP 0 rfl rfl i_Em 2 (by decide) wm_328 rfl rfl d_Em_embed_41 ?_
  refine k_goI (gr := [[(a0, .inr (1, [.ref (g 2 j), .ref a1, .ref a2, .ref a3, .ref a4, .int 0, .int 0, .int 0, .ref a5, .ref a6, .ref a7, .ref a8, .ref a9, .ref a10, .ref a11, .int 0, .int 0, .int 0, .int 0, .ref a12]))], [(g 2 j, .inr (5, [.int ((-1)), .int ((-1)), .int ((-1)), .int 0, .ref a13, .int 0, .int 0, .ref a14, .ref a15, .ref a16, .ref a17, .ref a18, .ref a19, .int 0, .ref a20, .ref a21, .ref a22]))], [(a22, .inl (kA 0, 144, .inl f0))], [(a20, .inl (kA 0, 145, .inl f1))]]) (k_rS (pc := 44) (As := [.int 0, .int 0, .ref a14, .ref a15, .ref a16, .ref a2]) (rest := []) X (c_Fa_blocksOf_z1 l D kA a14 a15 a16 a2 H.size) rfl wm_830 wm_7 wm_1070 wm_829 6 (by decide +kernel) ⟨Nat.le_of_ble_eq_true rfl, Nat.le_of_ble_eq_true rfl⟩ rfl rfl (k_pre hN hK hP hD [] [0, 1, 2, 3] 4 rfl (by decide) rfl) rfl hl.1 rfl (Nat.le_of_ble_eq_true rfl) d_Em_embed_44 ⟨Nat.le_of_ble_eq_true rfl, Nat.le_of_ble_eq_true rfl⟩) hP hD hS hA [] [0, 1, 2, 3] 4 rfl (by decide) rfl rfl (fun r1 u2 H locs hu2 hP hD hS => ?_)
  subst hu2
  have hP : va_P D classes (cat [[(a0, .inr (1, [.ref (g 2 j), .ref a1, .ref a2, .ref a3, .ref a4, .int 0, .int 0, .int 0, .ref a5, .ref a6, .ref a7, .ref a8, .ref a9, .ref a10, .ref a11, .int 0, .int 0, .int 0, .int 0, .ref a12]))], [(g 2 j, .inr (5, [.int ((-1)), .int ((-1)), .int ((-1)), .int 0, .ref a13, .int 0, .int 0, .ref a14, .ref a15, .ref a16, .ref a17, .ref a18, .ref a19, .int 0, .ref a20, .ref a21, .ref a22]))], [(a22, .inl (kA 0, 144, .inl f0))], [(a20, .inl (kA 0, 145, .inl f1))]]) H := hP
  have hD : va_D A (cat [[(a0, .inr (1, [.ref (g 2 j), .ref a1, .ref a2, .ref a3, .ref a4, .int 0, .int 0, .int 0, .ref a5, .ref a6, .ref a7, .ref a8, .ref a9, .ref a10, .ref a11, .int 0, .int 0, .int 0, .int 0, .ref a12]))], [(g 2 j, .inr (5, [.int ((-1)), .int ((-1)), .int ((-1)), .int 0, .ref a13, .int 0, .int 0, .ref a14, .ref a15, .ref a16, .ref a17, .ref a18, .ref a19, .int 0, .ref a20, .ref a21, .ref a22]))], [(a22, .inl (kA 0, 144, .inl f0))], [(a20, .inl (kA 0, 145, .inl f1))]]) := hD
  refine lv_istore_n (pc := 47) (lv' := [(2, .int 0), (0, .ref a0), (1, .ref (g 2 j))]) hx hb d_Em_embed_47 rfl hl (by decide) rfl (fun ls hl => ?_)
  refine lv_iconst (pc := 48) (v := 0) hx hb d_Em_embed_48 (by decide) ?_
  refine lv_istore_n (pc := 49) (lv' := [(3, .int 0), (2, .int 0), (0, .ref a0), (1, .ref (g 2 j))]) hx hb d_Em_embed_49 rfl hl (by decide) rfl (fun ls hl => ?_)
  refine lv_iload_n (pc := 50) hx hb d_Em_embed_50 rfl (lv_at hl 0 rfl) ?_
  refine lv_iload_n (pc := 51) hx hb d_Em_embed_51 rfl (lv_at hl 1 rfl) ?_
  refine lv_icmp_ge (pc := 52) (tgt := 125) hx hb d_Em_embed_52 (by decide) (fun _ => ?_) (fun c1 => absurd (by decide) c1)
  refine lv_iconst (pc := 125) (v := 0) hx hb d_Em_embed_125 (by decide) ?_
  refine lv_istore_n (pc := 126) (lv' := [(3, .int 0), (2, .int 0), (0, .ref a0), (1, .ref (g 2 j))]) hx hb d_Em_embed_126 rfl hl (by decide) rfl (fun ls hl => ?_)
  refine lv_iload_n (pc := 127) hx hb d_Em_embed_127 rfl (lv_at hl 0 rfl) ?_
  refine lv_aload_n (pc := 128) hx hb d_Em_embed_128 rfl (lv_at hl 2 rfl) ?_
  refine k_get (pc := 129) X hK hP 0 rfl rfl i_Em 0 (by decide) wm_326 rfl rfl d_Em_embed_129 ?_
  refine k_get (pc := 132) X hK hP 1 rfl rfl i_Ne 5 (by decide) wm_263 rfl rfl d_Em_embed_132 ?_
  refine lv_icmp_ge (pc := 135) (tgt := 150) hx hb d_Em_embed_135 (by decide) (fun _ => ?_) (fun c1 => absurd (by decide) c1)
  refine lv_aload_n (pc := 150) hx hb d_Em_embed_150 rfl (lv_at hl 2 rfl) ?_
  refine k_get (pc := 151) X hK hP 0 rfl rfl i_Em 0 (by decide) wm_326 rfl rfl d_Em_embed_151 ?_
  refine k_goV (gr := [[(a0, .inr (1, [.ref (g 2 j), .ref a1, .ref a2, .ref a3, .ref a4, .int 0, .int 0, .int 0, .ref a5, .ref a6, .ref a7, .ref a8, .ref a9, .ref a10, .ref a11, .int 0, .int 0, .int 0, .int 0, .ref a12]))]]) (k_rV (pc := 154) (As := []) (rest := []) X (c_Ne_traceFaces_z1 l D kA g j a13 a14 a15 a16 a17 a18 a19 a20 a21 a22 f0 f1 hj H.size) rfl wm_1150 wm_6 wm_1147 wm_1148 wm_1149 0 (by decide +kernel) ⟨Nat.le_of_ble_eq_true rfl, Nat.le_of_ble_eq_true rfl⟩ rfl rfl (va_recv hK hP (ci := 5) (q0 := 1) rfl rfl) (k_pre hN hK hP hD [1, 2, 3] [0] 4 rfl (by decide) rfl) rfl hl.1 rfl (Nat.le_of_ble_eq_true rfl) d_Em_embed_154 ⟨Nat.le_of_ble_eq_true rfl, Nat.le_of_ble_eq_true rfl⟩) hP hD hS hA [1, 2, 3] [0] 4 rfl (by decide) rfl rfl (fun u3 H locs hu3 hP hD hS => ?_)
  have hP : va_P D classes (cat [[(a0, .inr (1, [.ref (g 2 j), .ref a1, .ref a2, .ref a3, .ref a4, .int 0, .int 0, .int 0, .ref a5, .ref a6, .ref a7, .ref a8, .ref a9, .ref a10, .ref a11, .int 0, .int 0, .int 0, .int 0, .ref a12]))], [(g 2 j, .inr (5, [.int ((-1)), .int ((-1)), .int ((-1)), .int 0, .ref a13, .int 0, .int 0, .ref a14, .ref a15, .ref a16, .ref a17, .ref a18, .ref a19, .int 0, .ref a20, .ref a21, .ref a22]))], [(a22, .inl (kA 0, 144, .inl (fl f0 144 (-1))))], [(a20, .inl (kA 0, 145, .inl (upd (f1) 0 0)))]]) H := hP
  have hD : va_D A (cat [[(a0, .inr (1, [.ref (g 2 j), .ref a1, .ref a2, .ref a3, .ref a4, .int 0, .int 0, .int 0, .ref a5, .ref a6, .ref a7, .ref a8, .ref a9, .ref a10, .ref a11, .int 0, .int 0, .int 0, .int 0, .ref a12]))], [(g 2 j, .inr (5, [.int ((-1)), .int ((-1)), .int ((-1)), .int 0, .ref a13, .int 0, .int 0, .ref a14, .ref a15, .ref a16, .ref a17, .ref a18, .ref a19, .int 0, .ref a20, .ref a21, .ref a22]))], [(a22, .inl (kA 0, 144, .inl (fl f0 144 (-1))))], [(a20, .inl (kA 0, 145, .inl (upd (f1) 0 0)))]]) := hD
  refine lv_iconst (pc := 157) (v := 1) hx hb d_Em_embed_157 (by decide) ?_
  refine W.widen (k := 0) (n := 0) (Nat.le_of_ble_eq_true rfl) (Nat.le_of_ble_eq_true rfl) ?_
  exact W.zret (v := 1) hx hb hr rfl (fun t ht hW => ⟨⟨1, (), rfl, rfl, by rw [ht]; exact hP, va_K.moved hW.alike hK, hD⟩, hS.F ht⟩) hS.2.2 d_Em_embed_158
set_option maxRecDepth 100000 in
set_option maxHeartbeats 4000000 in
/-- DrawingHouse.embedded(I)LDrawingHouse$Net; -/
theorem c_Ho_embedded_z1 (l : Launch) (D : va_G) (kA : Nat → ClassId) (a0 : Nat) (j : Nat) (a1 : Nat) (a2 : Nat) (a3 : Nat) (a4 : Nat) (a5 : Nat) (a6 : Nat) (a7 : Nat) (a8 : Nat) (a9 : Nat) (a10 : Nat) (g : Nat → Nat → Nat) (a11 : Nat) (a12 : Nat) (a13 : Nat) (a14 : Nat) (a15 : Nat) (a16 : Nat) (a17 : Nat) (a18 : Nat) (a19 : Nat) (a20 : Nat) (a21 : Nat) (a22 : Nat) (a23 : Nat) (a24 : Nat) (a25 : Nat) (a26 : Nat) (a27 : Nat) (a28 : Nat) (a29 : Nat) (a30 : Nat) (a31 : Nat) (a32 : Nat) (a33 : Nat) (f0 : Nat → Int32) (f1 : Nat → Int32) (f2 : Nat → Int32) (a34 : Nat) (a35 : Nat) (a36 : Nat) (a37 : Nat) (a38 : Nat) (a39 : Nat) (a40 : Nat) (a41 : Nat) (a42 : Nat) (a43 : Nat) (a44 : Nat) (a45 : Nat) (f3 : Nat → Int32) (f4 : Nat → Int32) (hj : j < 4) : Cr l y_Ho_embedded z_Ho_embedded { frames := 3, cells := 0, slots := 0, locals := 73 } D classes (TY kA) (g 2 j) [.ref a0, .int (nI j)] [[(a0, .inr (12, [.ref a1, .ref a2, .ref a3, .ref a4, .ref a5, .ref a6, .ref a7, .int 0, .int ((-1)), .ref a8, .ref a9, .int 0, .int 0, .ref a10, .int 0, .int 0, .null, .null, .null, .null, .null]))], [(a3, .inl (kA 6, 4, .inr (.inr (.inr (.inr (rr (g 2)))))))], [(g 2 j, .inr (5, [.int ((-1)), .int ((-1)), .int ((-1)), .int 0, .ref a11, .int 0, .int 0, .ref a12, .ref a13, .ref a14, .ref a15, .ref a16, .ref a17, .int 0, .ref a18, .ref a19, .ref a20]))], [(a1, .inl (kA 4, 4, .inr (.inr (.inr (.inr (rr (g 0)))))))], [(g 0 j, .inr (3, [.int 0, .int 0, .int 1, .ref a21, .ref a22, .ref a23, .ref a24, .ref a25, .ref a26, .ref a27, .ref a28, .ref a29, .ref a30, .ref a31, .ref a32, .ref a33, .null, .int 0, .int 0]))], [(a14, .inl (kA 0, 25, .inl f0))], [(a15, .inl (kA 0, 625, .inl f1))], [(a17, .inl (kA 0, 25, .inl f2))], [(a6, .inr (1, [.null, .ref a34, .ref a35, .ref a36, .ref a37, .int 0, .int 0, .int 0, .ref a38, .ref a39, .ref a40, .ref a41, .ref a42, .ref a43, .ref a44, .int 0, .int 0, .int 0, .int 0, .ref a45]))], [(a20, .inl (kA 0, 144, .inl f3))], [(a18, .inl (kA 0, 145, .inl f4))]] (fun _ : Unit => True) (fun u => [[(a0, .inr (12, [.ref a1, .ref a2, .ref a3, .ref a4, .ref a5, .ref a6, .ref a7, .int 0, .int ((-1)), .ref a8, .ref a9, .int 0, .int 0, .ref a10, .int 0, .int 0, .null, .null, .null, .null, .null]))], [(a3, .inl (kA 6, 4, .inr (.inr (.inr (.inr (rr (g 2)))))))], [(g 2 j, .inr (5, [.int 1, .int ((-1)), .int ((-1)), .int 0, .ref a11, .int 0, .int 0, .ref a12, .ref a13, .ref a14, .ref a15, .ref a16, .ref a17, .int 0, .ref a18, .ref a19, .ref a20]))], [(a1, .inl (kA 4, 4, .inr (.inr (.inr (.inr (rr (g 0)))))))], [(g 0 j, .inr (3, [.int 0, .int 0, .int 1, .ref a21, .ref a22, .ref a23, .ref a24, .ref a25, .ref a26, .ref a27, .ref a28, .ref a29, .ref a30, .ref a31, .ref a32, .ref a33, .null, .int 0, .int 0]))], [(a14, .inl (kA 0, 25, .inl (fl f0 25 0)))], [(a15, .inl (kA 0, 625, .inl (fl f1 625 (-1))))], [(a17, .inl (kA 0, 25, .inl (fl f2 25 (-1))))], [(a6, .inr (1, [.ref (g 2 j), .ref a34, .ref a35, .ref a36, .ref a37, .int 0, .int 0, .int 0, .ref a38, .ref a39, .ref a40, .ref a41, .ref a42, .ref a43, .ref a44, .int 0, .int 0, .int 0, .int 0, .ref a45]))], [(a20, .inl (kA 0, 144, .inl (fl f3 144 (-1))))], [(a18, .inl (kA 0, 145, .inl (upd (f4) 0 0)))]]) 0 0 := by
  intro sz
  refine k_met (cc := b_Ho_embedded) (maxL := 3) (ret := (some (.object "DrawingHouse$Net"))) (by decide) rfl (Nat.le_of_ble_eq_true rfl) (fun p e s m below meth c ls X hl hB => ?_)
  obtain ⟨hsz, hP, hK, hD0, hN⟩ := hB
  subst hsz
  have hD := hD0.self (sz := s.heap.size)
  generalize hAe : va_A (cat [[(a0, .inr (12, [.ref a1, .ref a2, .ref a3, .ref a4, .ref a5, .ref a6, .ref a7, .int 0, .int ((-1)), .ref a8, .ref a9, .int 0, .int 0, .ref a10, .int 0, .int 0, .null, .null, .null, .null, .null]))], [(a3, .inl (kA 6, 4, .inr (.inr (.inr (.inr (rr (g 2)))))))], [(g 2 j, .inr (5, [.int ((-1)), .int ((-1)), .int ((-1)), .int 0, .ref a11, .int 0, .int 0, .ref a12, .ref a13, .ref a14, .ref a15, .ref a16, .ref a17, .int 0, .ref a18, .ref a19, .ref a20]))], [(a1, .inl (kA 4, 4, .inr (.inr (.inr (.inr (rr (g 0)))))))], [(g 0 j, .inr (3, [.int 0, .int 0, .int 1, .ref a21, .ref a22, .ref a23, .ref a24, .ref a25, .ref a26, .ref a27, .ref a28, .ref a29, .ref a30, .ref a31, .ref a32, .ref a33, .null, .int 0, .int 0]))], [(a14, .inl (kA 0, 25, .inl f0))], [(a15, .inl (kA 0, 625, .inl f1))], [(a17, .inl (kA 0, 25, .inl f2))], [(a6, .inr (1, [.null, .ref a34, .ref a35, .ref a36, .ref a37, .int 0, .int 0, .int 0, .ref a38, .ref a39, .ref a40, .ref a41, .ref a42, .ref a43, .ref a44, .int 0, .int 0, .int 0, .int 0, .ref a45]))], [(a20, .inl (kA 0, 144, .inl f3))], [(a18, .inl (kA 0, 145, .inl f4))]]) s.heap.size = A at hD ⊢
  have hA : ∀ q : Nat, s.heap.size ≤ q → A q := fun q h => by rw [← hAe]; exact Or.inr h
  have hS : va_S A s.heap s.heap [] := va_S.rf
  obtain ⟨hx, hb, hml, hown, hts, hr, hlk, hnm⟩ := id X
  have hl : lv_has ls 3 [(0, .ref a0), (1, .int (nI j))] := hl
  have hP : va_P D classes (cat [[(a0, .inr (12, [.ref a1, .ref a2, .ref a3, .ref a4, .ref a5, .ref a6, .ref a7, .int 0, .int ((-1)), .ref a8, .ref a9, .int 0, .int 0, .ref a10, .int 0, .int 0, .null, .null, .null, .null, .null]))], [(a3, .inl (kA 6, 4, .inr (.inr (.inr (.inr (rr (g 2)))))))], [(g 2 j, .inr (5, [.int ((-1)), .int ((-1)), .int ((-1)), .int 0, .ref a11, .int 0, .int 0, .ref a12, .ref a13, .ref a14, .ref a15, .ref a16, .ref a17, .int 0, .ref a18, .ref a19, .ref a20]))], [(a1, .inl (kA 4, 4, .inr (.inr (.inr (.inr (rr (g 0)))))))], [(g 0 j, .inr (3, [.int 0, .int 0, .int 1, .ref a21, .ref a22, .ref a23, .ref a24, .ref a25, .ref a26, .ref a27, .ref a28, .ref a29, .ref a30, .ref a31, .ref a32, .ref a33, .null, .int 0, .int 0]))], [(a14, .inl (kA 0, 25, .inl f0))], [(a15, .inl (kA 0, 625, .inl f1))], [(a17, .inl (kA 0, 25, .inl f2))], [(a6, .inr (1, [.null, .ref a34, .ref a35, .ref a36, .ref a37, .int 0, .int 0, .int 0, .ref a38, .ref a39, .ref a40, .ref a41, .ref a42, .ref a43, .ref a44, .int 0, .int 0, .int 0, .int 0, .ref a45]))], [(a20, .inl (kA 0, 144, .inl f3))], [(a18, .inl (kA 0, 145, .inl f4))]]) s.heap := hP
  have hK : va_K D classes (TY kA) s := hK
  refine lv_aload_n (pc := 0) hx hb d_Ho_embedded_0 rfl (lv_at hl 0 rfl) ?_
  refine k_get (pc := 1) X hK hP 0 rfl rfl i_Ho 2 (by decide) wm_557 rfl rfl d_Ho_embedded_1 ?_
  refine lv_iload_n (pc := 4) hx hb d_Ho_embedded_4 rfl (lv_at hl 1 rfl) ?_
  refine k_ald (pc := 5) hx hb hK hP 1 6 rfl rfl (j) rfl (by omega) (by decide) (rr_at (by omega)) d_Ho_embedded_5 ?_
  refine lv_astore_n (pc := 6) (lv' := [(2, .ref (g 2 j)), (0, .ref a0), (1, .int (nI j))]) hx hb d_Ho_embedded_6 rfl hl (by decide) rfl (fun ls hl => ?_)
  refine lv_aload_n (pc := 7) hx hb d_Ho_embedded_7 rfl (lv_at hl 0 rfl) ?_
  refine k_get (pc := 8) X hK hP 2 rfl rfl i_Ne 0 (by decide) wm_250 rfl rfl d_Ho_embedded_8 ?_
  refine lv_iconst (pc := 11) (v := -1) hx hb d_Ho_embedded_11 (by decide) ?_
  refine lv_icmp_ne (pc := 12) (tgt := 66) hx hb d_Ho_embedded_12 (by decide) (fun c1 => absurd (by decide) c1) (fun _ => ?_)
  refine lv_aload_n (pc := 15) hx hb d_Ho_embedded_15 rfl (lv_at hl 0 rfl) ?_
  refine lv_aload_n (pc := 16) hx hb d_Ho_embedded_16 rfl (lv_at hl 1 rfl) ?_
  refine k_get (pc := 17) X hK hP 0 rfl rfl i_Ho 0 (by decide) wm_555 rfl rfl d_Ho_embedded_17 ?_
  refine lv_iload_n (pc := 20) hx hb d_Ho_embedded_20 rfl (lv_at hl 2 rfl) ?_
  refine k_ald (pc := 21) hx hb hK hP 3 4 rfl rfl (j) rfl (by omega) (by decide) (rr_at (by omega)) d_Ho_embedded_21 ?_
  refine k_goV (gr := [[(a0, .inr (12, [.ref a1, .ref a2, .ref a3, .ref a4, .ref a5, .ref a6, .ref a7, .int 0, .int ((-1)), .ref a8, .ref a9, .int 0, .int 0, .ref a10, .int 0, .int 0, .null, .null, .null, .null, .null]))], [(a3, .inl (kA 6, 4, .inr (.inr (.inr (.inr (rr (g 2)))))))], [(a1, .inl (kA 4, 4, .inr (.inr (.inr (.inr (rr (g 0)))))))], [(a6, .inr (1, [.null, .ref a34, .ref a35, .ref a36, .ref a37, .int 0, .int 0, .int 0, .ref a38, .ref a39, .ref a40, .ref a41, .ref a42, .ref a43, .ref a44, .int 0, .int 0, .int 0, .int 0, .ref a45]))], [(a20, .inl (kA 0, 144, .inl f3))], [(a18, .inl (kA 0, 145, .inl f4))]]) (k_rV (pc := 22) (As := [.ref (g 0 j)]) (rest := []) X (c_Ne_load_z1 l D kA g j a21 a22 a23 a24 a25 a26 a27 a28 a29 a30 a31 a32 a33 a11 a12 a13 a14 a15 a16 a17 a18 a19 a20 f0 f1 f2 hj s.heap.size) rfl wm_1056 wm_6 wm_1053 wm_1054 wm_1055 1 (by decide +kernel) ⟨Nat.le_of_ble_eq_true rfl, Nat.le_of_ble_eq_true rfl⟩ rfl rfl (va_recv hK hP (ci := 5) (q0 := 2) rfl rfl) (k_pre hN hK hP hD [4, 2, 5, 6, 7] [0, 1, 3, 8, 9, 10] 11 rfl (by decide) rfl) rfl hl.1 rfl (Nat.le_of_ble_eq_true rfl) d_Ho_embedded_22 ⟨Nat.le_of_ble_eq_true rfl, Nat.le_of_ble_eq_true rfl⟩) hP hD hS hA [4, 2, 5, 6, 7] [0, 1, 3, 8, 9, 10] 11 rfl (by decide) rfl rfl (fun u1 H locs hu1 hP hD hS => ?_)
  have hP : va_P D classes (cat [[(a0, .inr (12, [.ref a1, .ref a2, .ref a3, .ref a4, .ref a5, .ref a6, .ref a7, .int 0, .int ((-1)), .ref a8, .ref a9, .int 0, .int 0, .ref a10, .int 0, .int 0, .null, .null, .null, .null, .null]))], [(a3, .inl (kA 6, 4, .inr (.inr (.inr (.inr (rr (g 2)))))))], [(a1, .inl (kA 4, 4, .inr (.inr (.inr (.inr (rr (g 0)))))))], [(a6, .inr (1, [.null, .ref a34, .ref a35, .ref a36, .ref a37, .int 0, .int 0, .int 0, .ref a38, .ref a39, .ref a40, .ref a41, .ref a42, .ref a43, .ref a44, .int 0, .int 0, .int 0, .int 0, .ref a45]))], [(a20, .inl (kA 0, 144, .inl f3))], [(a18, .inl (kA 0, 145, .inl f4))], [(g 0 j, .inr (3, [.int 0, .int 0, .int 1, .ref a21, .ref a22, .ref a23, .ref a24, .ref a25, .ref a26, .ref a27, .ref a28, .ref a29, .ref a30, .ref a31, .ref a32, .ref a33, .null, .int 0, .int 0]))], [(g 2 j, .inr (5, [.int ((-1)), .int ((-1)), .int ((-1)), .int 0, .ref a11, .int 0, .int 0, .ref a12, .ref a13, .ref a14, .ref a15, .ref a16, .ref a17, .int 0, .ref a18, .ref a19, .ref a20]))], [(a14, .inl (kA 0, 25, .inl (fl f0 25 0)))], [(a15, .inl (kA 0, 625, .inl (fl f1 625 (-1))))], [(a17, .inl (kA 0, 25, .inl (fl f2 25 (-1))))]]) H := hP
  have hD : va_D A (cat [[(a0, .inr (12, [.ref a1, .ref a2, .ref a3, .ref a4, .ref a5, .ref a6, .ref a7, .int 0, .int ((-1)), .ref a8, .ref a9, .int 0, .int 0, .ref a10, .int 0, .int 0, .null, .null, .null, .null, .null]))], [(a3, .inl (kA 6, 4, .inr (.inr (.inr (.inr (rr (g 2)))))))], [(a1, .inl (kA 4, 4, .inr (.inr (.inr (.inr (rr (g 0)))))))], [(a6, .inr (1, [.null, .ref a34, .ref a35, .ref a36, .ref a37, .int 0, .int 0, .int 0, .ref a38, .ref a39, .ref a40, .ref a41, .ref a42, .ref a43, .ref a44, .int 0, .int 0, .int 0, .int 0, .ref a45]))], [(a20, .inl (kA 0, 144, .inl f3))], [(a18, .inl (kA 0, 145, .inl f4))], [(g 0 j, .inr (3, [.int 0, .int 0, .int 1, .ref a21, .ref a22, .ref a23, .ref a24, .ref a25, .ref a26, .ref a27, .ref a28, .ref a29, .ref a30, .ref a31, .ref a32, .ref a33, .null, .int 0, .int 0]))], [(g 2 j, .inr (5, [.int ((-1)), .int ((-1)), .int ((-1)), .int 0, .ref a11, .int 0, .int 0, .ref a12, .ref a13, .ref a14, .ref a15, .ref a16, .ref a17, .int 0, .ref a18, .ref a19, .ref a20]))], [(a14, .inl (kA 0, 25, .inl (fl f0 25 0)))], [(a15, .inl (kA 0, 625, .inl (fl f1 625 (-1))))], [(a17, .inl (kA 0, 25, .inl (fl f2 25 (-1))))]]) := hD
  refine lv_aload_n (pc := 25) hx hb d_Ho_embedded_25 rfl (lv_at hl 0 rfl) ?_
  refine lv_aload_n (pc := 26) hx hb d_Ho_embedded_26 rfl (lv_at hl 1 rfl) ?_
  refine k_get (pc := 27) X hK hP 0 rfl rfl i_Ho 5 (by decide) wm_560 rfl rfl d_Ho_embedded_27 ?_
  refine lv_aload_n (pc := 30) hx hb d_Ho_embedded_30 rfl (lv_at hl 0 rfl) ?_
  refine k_goI (gr := [[(a0, .inr (12, [.ref a1, .ref a2, .ref a3, .ref a4, .ref a5, .ref a6, .ref a7, .int 0, .int ((-1)), .ref a8, .ref a9, .int 0, .int 0, .ref a10, .int 0, .int 0, .null, .null, .null, .null, .null]))], [(a3, .inl (kA 6, 4, .inr (.inr (.inr (.inr (rr (g 2)))))))], [(a1, .inl (kA 4, 4, .inr (.inr (.inr (.inr (rr (g 0)))))))], [(g 0 j, .inr (3, [.int 0, .int 0, .int 1, .ref a21, .ref a22, .ref a23, .ref a24, .ref a25, .ref a26, .ref a27, .ref a28, .ref a29, .ref a30, .ref a31, .ref a32, .ref a33, .null, .int 0, .int 0]))], [(a14, .inl (kA 0, 25, .inl (fl f0 25 0)))], [(a15, .inl (kA 0, 625, .inl (fl f1 625 (-1))))], [(a17, .inl (kA 0, 25, .inl (fl f2 25 (-1))))]]) (k_rV (pc := 31) (As := [.ref (g 2 j)]) (rest := [.ref (g 2 j)]) X (c_Em_embed_z1 l D kA a6 g j a34 a35 a36 a37 a38 a39 a40 a41 a42 a43 a44 a45 a11 a12 a13 a14 a15 a16 a17 a18 a19 a20 f3 f4 hj H.size) rfl wm_1069 wm_5 wm_1066 wm_1067 wm_1068 1 (by decide +kernel) ⟨Nat.le_of_ble_eq_true rfl, Nat.le_of_ble_eq_true rfl⟩ rfl rfl (va_recv hK hP (ci := 1) (q0 := 3) rfl rfl) (k_pre hN hK hP hD [3, 7, 4, 5] [0, 1, 2, 6, 8, 9, 10] 11 rfl (by decide) rfl) rfl hl.1 rfl (Nat.le_of_ble_eq_true rfl) d_Ho_embedded_31 ⟨Nat.le_of_ble_eq_true rfl, Nat.le_of_ble_eq_true rfl⟩) hP hD hS hA [3, 7, 4, 5] [0, 1, 2, 6, 8, 9, 10] 11 rfl (by decide) rfl rfl (fun r2 u3 H locs hu3 hP hD hS => ?_)
  subst hu3
  have hP : va_P D classes (cat [[(a0, .inr (12, [.ref a1, .ref a2, .ref a3, .ref a4, .ref a5, .ref a6, .ref a7, .int 0, .int ((-1)), .ref a8, .ref a9, .int 0, .int 0, .ref a10, .int 0, .int 0, .null, .null, .null, .null, .null]))], [(a3, .inl (kA 6, 4, .inr (.inr (.inr (.inr (rr (g 2)))))))], [(a1, .inl (kA 4, 4, .inr (.inr (.inr (.inr (rr (g 0)))))))], [(g 0 j, .inr (3, [.int 0, .int 0, .int 1, .ref a21, .ref a22, .ref a23, .ref a24, .ref a25, .ref a26, .ref a27, .ref a28, .ref a29, .ref a30, .ref a31, .ref a32, .ref a33, .null, .int 0, .int 0]))], [(a14, .inl (kA 0, 25, .inl (fl f0 25 0)))], [(a15, .inl (kA 0, 625, .inl (fl f1 625 (-1))))], [(a17, .inl (kA 0, 25, .inl (fl f2 25 (-1))))], [(a6, .inr (1, [.ref (g 2 j), .ref a34, .ref a35, .ref a36, .ref a37, .int 0, .int 0, .int 0, .ref a38, .ref a39, .ref a40, .ref a41, .ref a42, .ref a43, .ref a44, .int 0, .int 0, .int 0, .int 0, .ref a45]))], [(g 2 j, .inr (5, [.int ((-1)), .int ((-1)), .int ((-1)), .int 0, .ref a11, .int 0, .int 0, .ref a12, .ref a13, .ref a14, .ref a15, .ref a16, .ref a17, .int 0, .ref a18, .ref a19, .ref a20]))], [(a20, .inl (kA 0, 144, .inl (fl f3 144 (-1))))], [(a18, .inl (kA 0, 145, .inl (upd (f4) 0 0)))]]) H := hP
  have hD : va_D A (cat [[(a0, .inr (12, [.ref a1, .ref a2, .ref a3, .ref a4, .ref a5, .ref a6, .ref a7, .int 0, .int ((-1)), .ref a8, .ref a9, .int 0, .int 0, .ref a10, .int 0, .int 0, .null, .null, .null, .null, .null]))], [(a3, .inl (kA 6, 4, .inr (.inr (.inr (.inr (rr (g 2)))))))], [(a1, .inl (kA 4, 4, .inr (.inr (.inr (.inr (rr (g 0)))))))], [(g 0 j, .inr (3, [.int 0, .int 0, .int 1, .ref a21, .ref a22, .ref a23, .ref a24, .ref a25, .ref a26, .ref a27, .ref a28, .ref a29, .ref a30, .ref a31, .ref a32, .ref a33, .null, .int 0, .int 0]))], [(a14, .inl (kA 0, 25, .inl (fl f0 25 0)))], [(a15, .inl (kA 0, 625, .inl (fl f1 625 (-1))))], [(a17, .inl (kA 0, 25, .inl (fl f2 25 (-1))))], [(a6, .inr (1, [.ref (g 2 j), .ref a34, .ref a35, .ref a36, .ref a37, .int 0, .int 0, .int 0, .ref a38, .ref a39, .ref a40, .ref a41, .ref a42, .ref a43, .ref a44, .int 0, .int 0, .int 0, .int 0, .ref a45]))], [(g 2 j, .inr (5, [.int ((-1)), .int ((-1)), .int ((-1)), .int 0, .ref a11, .int 0, .int 0, .ref a12, .ref a13, .ref a14, .ref a15, .ref a16, .ref a17, .int 0, .ref a18, .ref a19, .ref a20]))], [(a20, .inl (kA 0, 144, .inl (fl f3 144 (-1))))], [(a18, .inl (kA 0, 145, .inl (upd (f4) 0 0)))]]) := hD
  refine lv_if_eq (pc := 34) (tgt := 41) hx hb d_Ho_embedded_34 (by decide) (fun c1 => absurd c1 (by decide)) (fun c1 => ?_)
  refine lv_iconst (pc := 37) (v := 1) hx hb d_Ho_embedded_37 (by decide) ?_
  refine lv_goto (pc := 38) (tgt := 42) hx hb d_Ho_embedded_38 (by decide) ?_
  refine k_put (pc := 42) X hK hP hD hS 8 rfl rfl i_Ne t_Ne t_Ne_ok n_Ne 0 (by decide) wm_250 rfl (Or.inl rfl) rfl rfl (Nat.le_of_ble_eq_true rfl) d_Ho_embedded_42 (fun H locs hP hD hS => ?_)
  have hP : va_P D classes (cat [[(a0, .inr (12, [.ref a1, .ref a2, .ref a3, .ref a4, .ref a5, .ref a6, .ref a7, .int 0, .int ((-1)), .ref a8, .ref a9, .int 0, .int 0, .ref a10, .int 0, .int 0, .null, .null, .null, .null, .null]))], [(a3, .inl (kA 6, 4, .inr (.inr (.inr (.inr (rr (g 2)))))))], [(a1, .inl (kA 4, 4, .inr (.inr (.inr (.inr (rr (g 0)))))))], [(g 0 j, .inr (3, [.int 0, .int 0, .int 1, .ref a21, .ref a22, .ref a23, .ref a24, .ref a25, .ref a26, .ref a27, .ref a28, .ref a29, .ref a30, .ref a31, .ref a32, .ref a33, .null, .int 0, .int 0]))], [(a14, .inl (kA 0, 25, .inl (fl f0 25 0)))], [(a15, .inl (kA 0, 625, .inl (fl f1 625 (-1))))], [(a17, .inl (kA 0, 25, .inl (fl f2 25 (-1))))], [(a6, .inr (1, [.ref (g 2 j), .ref a34, .ref a35, .ref a36, .ref a37, .int 0, .int 0, .int 0, .ref a38, .ref a39, .ref a40, .ref a41, .ref a42, .ref a43, .ref a44, .int 0, .int 0, .int 0, .int 0, .ref a45]))], [(g 2 j, .inr (5, [.int 1, .int ((-1)), .int ((-1)), .int 0, .ref a11, .int 0, .int 0, .ref a12, .ref a13, .ref a14, .ref a15, .ref a16, .ref a17, .int 0, .ref a18, .ref a19, .ref a20]))], [(a20, .inl (kA 0, 144, .inl (fl f3 144 (-1))))], [(a18, .inl (kA 0, 145, .inl (upd (f4) 0 0)))]]) H := hP
  have hD : va_D A (cat [[(a0, .inr (12, [.ref a1, .ref a2, .ref a3, .ref a4, .ref a5, .ref a6, .ref a7, .int 0, .int ((-1)), .ref a8, .ref a9, .int 0, .int 0, .ref a10, .int 0, .int 0, .null, .null, .null, .null, .null]))], [(a3, .inl (kA 6, 4, .inr (.inr (.inr (.inr (rr (g 2)))))))], [(a1, .inl (kA 4, 4, .inr (.inr (.inr (.inr (rr (g 0)))))))], [(g 0 j, .inr (3, [.int 0, .int 0, .int 1, .ref a21, .ref a22, .ref a23, .ref a24, .ref a25, .ref a26, .ref a27, .ref a28, .ref a29, .ref a30, .ref a31, .ref a32, .ref a33, .null, .int 0, .int 0]))], [(a14, .inl (kA 0, 25, .inl (fl f0 25 0)))], [(a15, .inl (kA 0, 625, .inl (fl f1 625 (-1))))], [(a17, .inl (kA 0, 25, .inl (fl f2 25 (-1))))], [(a6, .inr (1, [.ref (g 2 j), .ref a34, .ref a35, .ref a36, .ref a37, .int 0, .int 0, .int 0, .ref a38, .ref a39, .ref a40, .ref a41, .ref a42, .ref a43, .ref a44, .int 0, .int 0, .int 0, .int 0, .ref a45]))], [(g 2 j, .inr (5, [.int 1, .int ((-1)), .int ((-1)), .int 0, .ref a11, .int 0, .int 0, .ref a12, .ref a13, .ref a14, .ref a15, .ref a16, .ref a17, .int 0, .ref a18, .ref a19, .ref a20]))], [(a20, .inl (kA 0, 144, .inl (fl f3 144 (-1))))], [(a18, .inl (kA 0, 145, .inl (upd (f4) 0 0)))]]) := hD
  refine lv_aload_n (pc := 45) hx hb d_Ho_embedded_45 rfl (lv_at hl 0 rfl) ?_
  refine k_get (pc := 46) X hK hP 8 rfl rfl i_Ne 0 (by decide) wm_250 rfl rfl d_Ho_embedded_46 ?_
  refine lv_if_ne (pc := 49) (tgt := 66) hx hb d_Ho_embedded_49 (by decide) (fun c1 => ?_) (fun c1 => absurd c1 (by decide))
  refine lv_aload_n (pc := 66) hx hb d_Ho_embedded_66 rfl (lv_at hl 0 rfl) ?_
  obtain ⟨hP, hD⟩ := k_ord (gc := [[(a0, .inr (12, [.ref a1, .ref a2, .ref a3, .ref a4, .ref a5, .ref a6, .ref a7, .int 0, .int ((-1)), .ref a8, .ref a9, .int 0, .int 0, .ref a10, .int 0, .int 0, .null, .null, .null, .null, .null]))], [(a3, .inl (kA 6, 4, .inr (.inr (.inr (.inr (rr (g 2)))))))], [(g 2 j, .inr (5, [.int 1, .int ((-1)), .int ((-1)), .int 0, .ref a11, .int 0, .int 0, .ref a12, .ref a13, .ref a14, .ref a15, .ref a16, .ref a17, .int 0, .ref a18, .ref a19, .ref a20]))], [(a1, .inl (kA 4, 4, .inr (.inr (.inr (.inr (rr (g 0)))))))], [(g 0 j, .inr (3, [.int 0, .int 0, .int 1, .ref a21, .ref a22, .ref a23, .ref a24, .ref a25, .ref a26, .ref a27, .ref a28, .ref a29, .ref a30, .ref a31, .ref a32, .ref a33, .null, .int 0, .int 0]))], [(a14, .inl (kA 0, 25, .inl (fl f0 25 0)))], [(a15, .inl (kA 0, 625, .inl (fl f1 625 (-1))))], [(a17, .inl (kA 0, 25, .inl (fl f2 25 (-1))))], [(a6, .inr (1, [.ref (g 2 j), .ref a34, .ref a35, .ref a36, .ref a37, .int 0, .int 0, .int 0, .ref a38, .ref a39, .ref a40, .ref a41, .ref a42, .ref a43, .ref a44, .int 0, .int 0, .int 0, .int 0, .ref a45]))], [(a20, .inl (kA 0, 144, .inl (fl f3 144 (-1))))], [(a18, .inl (kA 0, 145, .inl (upd (f4) 0 0)))]]) hP hD [0, 1, 8, 2, 3, 4, 5, 6, 7, 9, 10] 11 rfl (by decide) rfl
  refine W.widen (k := 0) (n := 0) (Nat.le_of_ble_eq_true rfl) (Nat.le_of_ble_eq_true rfl) ?_
  exact W.aret hx hb hr (Or.inl ⟨_, rfl⟩) (Or.inr ⟨_, rfl⟩) (fun t ht hW => ⟨⟨(), (g 2 j), rfl, trivial, rfl, by rw [ht]; exact hP, va_K.moved hW.alike hK, hD⟩, hS.F ht⟩) hS.2.2 d_Ho_embedded_67
set_option maxRecDepth 100000 in
set_option maxHeartbeats 4000000 in
/-- DrawingHouse.planar(II)I -/
theorem c_Ho_planar_z2 (l : Launch) (D : va_G) (kA : Nat → ClassId) (a0 : Nat) (j : Nat) (v2 : Int32) (a1 : Nat) (a2 : Nat) (a3 : Nat) (a4 : Nat) (a5 : Nat) (a6 : Nat) (a7 : Nat) (a8 : Nat) (a9 : Nat) (a10 : Nat) (g : Nat → Nat → Nat) (a11 : Nat) (a12 : Nat) (a13 : Nat) (a14 : Nat) (a15 : Nat) (a16 : Nat) (a17 : Nat) (a18 : Nat) (a19 : Nat) (a20 : Nat) (a21 : Nat) (a22 : Nat) (a23 : Nat) (a24 : Nat) (a25 : Nat) (a26 : Nat) (a27 : Nat) (a28 : Nat) (a29 : Nat) (a30 : Nat) (a31 : Nat) (a32 : Nat) (a33 : Nat) (f0 : Nat → Int32) (f1 : Nat → Int32) (f2 : Nat → Int32) (a34 : Nat) (a35 : Nat) (a36 : Nat) (a37 : Nat) (a38 : Nat) (a39 : Nat) (a40 : Nat) (a41 : Nat) (a42 : Nat) (a43 : Nat) (a44 : Nat) (a45 : Nat) (f3 : Nat → Int32) (f4 : Nat → Int32) (hj : j < 4) (hs2 : v2.toInt < 0 ∨ ((5 : Int) - 1 < v2.toInt)) : Ci l y_Ho_planar z_Ho_planar { frames := 4, cells := 0, slots := 0, locals := 95 } D classes (TY kA) [.ref a0, .int (nI j), .int v2] [[(a0, .inr (12, [.ref a1, .ref a2, .ref a3, .ref a4, .ref a5, .ref a6, .ref a7, .int 0, .int ((-1)), .ref a8, .ref a9, .int 0, .int 0, .ref a10, .int 0, .int 0, .null, .null, .null, .null, .null]))], [(a3, .inl (kA 6, 4, .inr (.inr (.inr (.inr (rr (g 2)))))))], [(g 2 j, .inr (5, [.int ((-1)), .int ((-1)), .int ((-1)), .int 0, .ref a11, .int 0, .int 0, .ref a12, .ref a13, .ref a14, .ref a15, .ref a16, .ref a17, .int 0, .ref a18, .ref a19, .ref a20]))], [(a1, .inl (kA 4, 4, .inr (.inr (.inr (.inr (rr (g 0)))))))], [(g 0 j, .inr (3, [.int 0, .int 0, .int 1, .ref a21, .ref a22, .ref a23, .ref a24, .ref a25, .ref a26, .ref a27, .ref a28, .ref a29, .ref a30, .ref a31, .ref a32, .ref a33, .null, .int 0, .int 0]))], [(a14, .inl (kA 0, 25, .inl f0))], [(a15, .inl (kA 0, 625, .inl f1))], [(a17, .inl (kA 0, 25, .inl f2))], [(a6, .inr (1, [.null, .ref a34, .ref a35, .ref a36, .ref a37, .int 0, .int 0, .int 0, .ref a38, .ref a39, .ref a40, .ref a41, .ref a42, .ref a43, .ref a44, .int 0, .int 0, .int 0, .int 0, .ref a45]))], [(a20, .inl (kA 0, 144, .inl f3))], [(a18, .inl (kA 0, 145, .inl f4))]] (fun r (_ : List va_W) => r = (-1)) (fun u => u) 0 0 := by
  intro sz
  refine k_met (cc := b_Ho_planar) (maxL := 4) (ret := (some .int)) (by decide) rfl (Nat.le_of_ble_eq_true rfl) (fun p e s m below meth c ls X hl hB => ?_)
  obtain ⟨hsz, hP, hK, hD0, hN⟩ := hB
  subst hsz
  have hD := hD0.self (sz := s.heap.size)
  generalize hAe : va_A (cat [[(a0, .inr (12, [.ref a1, .ref a2, .ref a3, .ref a4, .ref a5, .ref a6, .ref a7, .int 0, .int ((-1)), .ref a8, .ref a9, .int 0, .int 0, .ref a10, .int 0, .int 0, .null, .null, .null, .null, .null]))], [(a3, .inl (kA 6, 4, .inr (.inr (.inr (.inr (rr (g 2)))))))], [(g 2 j, .inr (5, [.int ((-1)), .int ((-1)), .int ((-1)), .int 0, .ref a11, .int 0, .int 0, .ref a12, .ref a13, .ref a14, .ref a15, .ref a16, .ref a17, .int 0, .ref a18, .ref a19, .ref a20]))], [(a1, .inl (kA 4, 4, .inr (.inr (.inr (.inr (rr (g 0)))))))], [(g 0 j, .inr (3, [.int 0, .int 0, .int 1, .ref a21, .ref a22, .ref a23, .ref a24, .ref a25, .ref a26, .ref a27, .ref a28, .ref a29, .ref a30, .ref a31, .ref a32, .ref a33, .null, .int 0, .int 0]))], [(a14, .inl (kA 0, 25, .inl f0))], [(a15, .inl (kA 0, 625, .inl f1))], [(a17, .inl (kA 0, 25, .inl f2))], [(a6, .inr (1, [.null, .ref a34, .ref a35, .ref a36, .ref a37, .int 0, .int 0, .int 0, .ref a38, .ref a39, .ref a40, .ref a41, .ref a42, .ref a43, .ref a44, .int 0, .int 0, .int 0, .int 0, .ref a45]))], [(a20, .inl (kA 0, 144, .inl f3))], [(a18, .inl (kA 0, 145, .inl f4))]]) s.heap.size = A at hD ⊢
  have hA : ∀ q : Nat, s.heap.size ≤ q → A q := fun q h => by rw [← hAe]; exact Or.inr h
  have hS : va_S A s.heap s.heap [] := va_S.rf
  obtain ⟨hx, hb, hml, hown, hts, hr, hlk, hnm⟩ := id X
  have hl : lv_has ls 4 [(0, .ref a0), (1, .int (nI j)), (2, .int v2)] := hl
  have hP : va_P D classes (cat [[(a0, .inr (12, [.ref a1, .ref a2, .ref a3, .ref a4, .ref a5, .ref a6, .ref a7, .int 0, .int ((-1)), .ref a8, .ref a9, .int 0, .int 0, .ref a10, .int 0, .int 0, .null, .null, .null, .null, .null]))], [(a3, .inl (kA 6, 4, .inr (.inr (.inr (.inr (rr (g 2)))))))], [(g 2 j, .inr (5, [.int ((-1)), .int ((-1)), .int ((-1)), .int 0, .ref a11, .int 0, .int 0, .ref a12, .ref a13, .ref a14, .ref a15, .ref a16, .ref a17, .int 0, .ref a18, .ref a19, .ref a20]))], [(a1, .inl (kA 4, 4, .inr (.inr (.inr (.inr (rr (g 0)))))))], [(g 0 j, .inr (3, [.int 0, .int 0, .int 1, .ref a21, .ref a22, .ref a23, .ref a24, .ref a25, .ref a26, .ref a27, .ref a28, .ref a29, .ref a30, .ref a31, .ref a32, .ref a33, .null, .int 0, .int 0]))], [(a14, .inl (kA 0, 25, .inl f0))], [(a15, .inl (kA 0, 625, .inl f1))], [(a17, .inl (kA 0, 25, .inl f2))], [(a6, .inr (1, [.null, .ref a34, .ref a35, .ref a36, .ref a37, .int 0, .int 0, .int 0, .ref a38, .ref a39, .ref a40, .ref a41, .ref a42, .ref a43, .ref a44, .int 0, .int 0, .int 0, .int 0, .ref a45]))], [(a20, .inl (kA 0, 144, .inl f3))], [(a18, .inl (kA 0, 145, .inl f4))]]) s.heap := hP
  have hK : va_K D classes (TY kA) s := hK
  refine lv_iload_n (pc := 0) hx hb d_Ho_planar_0 rfl (lv_at hl 1 rfl) ?_
  refine k_goI (gr := [[(a0, .inr (12, [.ref a1, .ref a2, .ref a3, .ref a4, .ref a5, .ref a6, .ref a7, .int 0, .int ((-1)), .ref a8, .ref a9, .int 0, .int 0, .ref a10, .int 0, .int 0, .null, .null, .null, .null, .null]))], [(a3, .inl (kA 6, 4, .inr (.inr (.inr (.inr (rr (g 2)))))))], [(g 2 j, .inr (5, [.int ((-1)), .int ((-1)), .int ((-1)), .int 0, .ref a11, .int 0, .int 0, .ref a12, .ref a13, .ref a14, .ref a15, .ref a16, .ref a17, .int 0, .ref a18, .ref a19, .ref a20]))], [(a1, .inl (kA 4, 4, .inr (.inr (.inr (.inr (rr (g 0)))))))], [(g 0 j, .inr (3, [.int 0, .int 0, .int 1, .ref a21, .ref a22, .ref a23, .ref a24, .ref a25, .ref a26, .ref a27, .ref a28, .ref a29, .ref a30, .ref a31, .ref a32, .ref a33, .null, .int 0, .int 0]))], [(a14, .inl (kA 0, 25, .inl f0))], [(a15, .inl (kA 0, 625, .inl f1))], [(a17, .inl (kA 0, 25, .inl f2))], [(a6, .inr (1, [.null, .ref a34, .ref a35, .ref a36, .ref a37, .int 0, .int 0, .int 0, .ref a38, .ref a39, .ref a40, .ref a41, .ref a42, .ref a43, .ref a44, .int 0, .int 0, .int 0, .int 0, .ref a45]))], [(a20, .inl (kA 0, 144, .inl f3))], [(a18, .inl (kA 0, 145, .inl f4))]]) (k_rS (pc := 1) (As := [.int (nI j)]) (rest := []) X (c_Ho_isPlace l D kA (nI j) s.heap.size) rfl wm_633 wm_1 wm_631 wm_632 1 (by decide +kernel) ⟨Nat.le_of_ble_eq_true rfl, Nat.le_of_ble_eq_true rfl⟩ rfl rfl (k_pre hN hK hP hD [] [0, 1, 2, 3, 4, 5, 6, 7, 8, 9, 10] 11 rfl (by decide) rfl) rfl hl.1 rfl (Nat.le_of_ble_eq_true rfl) d_Ho_planar_1 ⟨Nat.le_of_ble_eq_true rfl, Nat.le_of_ble_eq_true rfl⟩) hP hD hS hA [] [0, 1, 2, 3, 4, 5, 6, 7, 8, 9, 10] 11 rfl (by decide) rfl rfl (fun r1 u2 H locs hu2 hP hD hS => ?_)
  subst hu2
  refine k_cst (v := 1) (place_ok hj) ?_
  have hP : va_P D classes (cat [[(a0, .inr (12, [.ref a1, .ref a2, .ref a3, .ref a4, .ref a5, .ref a6, .ref a7, .int 0, .int ((-1)), .ref a8, .ref a9, .int 0, .int 0, .ref a10, .int 0, .int 0, .null, .null, .null, .null, .null]))], [(a3, .inl (kA 6, 4, .inr (.inr (.inr (.inr (rr (g 2)))))))], [(g 2 j, .inr (5, [.int ((-1)), .int ((-1)), .int ((-1)), .int 0, .ref a11, .int 0, .int 0, .ref a12, .ref a13, .ref a14, .ref a15, .ref a16, .ref a17, .int 0, .ref a18, .ref a19, .ref a20]))], [(a1, .inl (kA 4, 4, .inr (.inr (.inr (.inr (rr (g 0)))))))], [(g 0 j, .inr (3, [.int 0, .int 0, .int 1, .ref a21, .ref a22, .ref a23, .ref a24, .ref a25, .ref a26, .ref a27, .ref a28, .ref a29, .ref a30, .ref a31, .ref a32, .ref a33, .null, .int 0, .int 0]))], [(a14, .inl (kA 0, 25, .inl f0))], [(a15, .inl (kA 0, 625, .inl f1))], [(a17, .inl (kA 0, 25, .inl f2))], [(a6, .inr (1, [.null, .ref a34, .ref a35, .ref a36, .ref a37, .int 0, .int 0, .int 0, .ref a38, .ref a39, .ref a40, .ref a41, .ref a42, .ref a43, .ref a44, .int 0, .int 0, .int 0, .int 0, .ref a45]))], [(a20, .inl (kA 0, 144, .inl f3))], [(a18, .inl (kA 0, 145, .inl f4))]]) H := hP
  have hD : va_D A (cat [[(a0, .inr (12, [.ref a1, .ref a2, .ref a3, .ref a4, .ref a5, .ref a6, .ref a7, .int 0, .int ((-1)), .ref a8, .ref a9, .int 0, .int 0, .ref a10, .int 0, .int 0, .null, .null, .null, .null, .null]))], [(a3, .inl (kA 6, 4, .inr (.inr (.inr (.inr (rr (g 2)))))))], [(g 2 j, .inr (5, [.int ((-1)), .int ((-1)), .int ((-1)), .int 0, .ref a11, .int 0, .int 0, .ref a12, .ref a13, .ref a14, .ref a15, .ref a16, .ref a17, .int 0, .ref a18, .ref a19, .ref a20]))], [(a1, .inl (kA 4, 4, .inr (.inr (.inr (.inr (rr (g 0)))))))], [(g 0 j, .inr (3, [.int 0, .int 0, .int 1, .ref a21, .ref a22, .ref a23, .ref a24, .ref a25, .ref a26, .ref a27, .ref a28, .ref a29, .ref a30, .ref a31, .ref a32, .ref a33, .null, .int 0, .int 0]))], [(a14, .inl (kA 0, 25, .inl f0))], [(a15, .inl (kA 0, 625, .inl f1))], [(a17, .inl (kA 0, 25, .inl f2))], [(a6, .inr (1, [.null, .ref a34, .ref a35, .ref a36, .ref a37, .int 0, .int 0, .int 0, .ref a38, .ref a39, .ref a40, .ref a41, .ref a42, .ref a43, .ref a44, .int 0, .int 0, .int 0, .int 0, .ref a45]))], [(a20, .inl (kA 0, 144, .inl f3))], [(a18, .inl (kA 0, 145, .inl f4))]]) := hD
  refine lv_if_ne (pc := 4) (tgt := 9) hx hb d_Ho_planar_4 (by decide) (fun c1 => ?_) (fun c1 => absurd c1 (by decide))
  refine lv_aload_n (pc := 9) hx hb d_Ho_planar_9 rfl (lv_at hl 0 rfl) ?_
  refine lv_iload_n (pc := 10) hx hb d_Ho_planar_10 rfl (lv_at hl 1 rfl) ?_
  refine k_goR (gr := []) (k_rV (pc := 11) (As := [.int (nI j)]) (rest := []) X (c_Ho_embedded_z1 l D kA a0 j a1 a2 a3 a4 a5 a6 a7 a8 a9 a10 g a11 a12 a13 a14 a15 a16 a17 a18 a19 a20 a21 a22 a23 a24 a25 a26 a27 a28 a29 a30 a31 a32 a33 f0 f1 f2 a34 a35 a36 a37 a38 a39 a40 a41 a42 a43 a44 a45 f3 f4 hj H.size) rfl wm_1052 wm_1 wm_1049 wm_1051 wv_3_6 1 (by decide +kernel) ⟨Nat.le_of_ble_eq_true rfl, Nat.le_of_ble_eq_true rfl⟩ rfl rfl (va_recv hK hP (ci := 12) (q0 := 0) rfl rfl) (k_pre hN hK hP hD [0, 1, 2, 3, 4, 5, 6, 7, 8, 9, 10] [] 11 rfl (by decide) rfl) rfl hl.1 rfl (Nat.le_of_ble_eq_true rfl) d_Ho_planar_11 ⟨Nat.le_of_ble_eq_true rfl, Nat.le_of_ble_eq_true rfl⟩) hP hD hS hA [0, 1, 2, 3, 4, 5, 6, 7, 8, 9, 10] [] 11 rfl (by decide) rfl rfl (fun u4 H locs hu4 hP hD hS => ?_)
  have hP : va_P D classes (cat [[(a0, .inr (12, [.ref a1, .ref a2, .ref a3, .ref a4, .ref a5, .ref a6, .ref a7, .int 0, .int ((-1)), .ref a8, .ref a9, .int 0, .int 0, .ref a10, .int 0, .int 0, .null, .null, .null, .null, .null]))], [(a3, .inl (kA 6, 4, .inr (.inr (.inr (.inr (rr (g 2)))))))], [(g 2 j, .inr (5, [.int 1, .int ((-1)), .int ((-1)), .int 0, .ref a11, .int 0, .int 0, .ref a12, .ref a13, .ref a14, .ref a15, .ref a16, .ref a17, .int 0, .ref a18, .ref a19, .ref a20]))], [(a1, .inl (kA 4, 4, .inr (.inr (.inr (.inr (rr (g 0)))))))], [(g 0 j, .inr (3, [.int 0, .int 0, .int 1, .ref a21, .ref a22, .ref a23, .ref a24, .ref a25, .ref a26, .ref a27, .ref a28, .ref a29, .ref a30, .ref a31, .ref a32, .ref a33, .null, .int 0, .int 0]))], [(a14, .inl (kA 0, 25, .inl (fl f0 25 0)))], [(a15, .inl (kA 0, 625, .inl (fl f1 625 (-1))))], [(a17, .inl (kA 0, 25, .inl (fl f2 25 (-1))))], [(a6, .inr (1, [.ref (g 2 j), .ref a34, .ref a35, .ref a36, .ref a37, .int 0, .int 0, .int 0, .ref a38, .ref a39, .ref a40, .ref a41, .ref a42, .ref a43, .ref a44, .int 0, .int 0, .int 0, .int 0, .ref a45]))], [(a20, .inl (kA 0, 144, .inl (fl f3 144 (-1))))], [(a18, .inl (kA 0, 145, .inl (upd (f4) 0 0)))]]) H := hP
  have hD : va_D A (cat [[(a0, .inr (12, [.ref a1, .ref a2, .ref a3, .ref a4, .ref a5, .ref a6, .ref a7, .int 0, .int ((-1)), .ref a8, .ref a9, .int 0, .int 0, .ref a10, .int 0, .int 0, .null, .null, .null, .null, .null]))], [(a3, .inl (kA 6, 4, .inr (.inr (.inr (.inr (rr (g 2)))))))], [(g 2 j, .inr (5, [.int 1, .int ((-1)), .int ((-1)), .int 0, .ref a11, .int 0, .int 0, .ref a12, .ref a13, .ref a14, .ref a15, .ref a16, .ref a17, .int 0, .ref a18, .ref a19, .ref a20]))], [(a1, .inl (kA 4, 4, .inr (.inr (.inr (.inr (rr (g 0)))))))], [(g 0 j, .inr (3, [.int 0, .int 0, .int 1, .ref a21, .ref a22, .ref a23, .ref a24, .ref a25, .ref a26, .ref a27, .ref a28, .ref a29, .ref a30, .ref a31, .ref a32, .ref a33, .null, .int 0, .int 0]))], [(a14, .inl (kA 0, 25, .inl (fl f0 25 0)))], [(a15, .inl (kA 0, 625, .inl (fl f1 625 (-1))))], [(a17, .inl (kA 0, 25, .inl (fl f2 25 (-1))))], [(a6, .inr (1, [.ref (g 2 j), .ref a34, .ref a35, .ref a36, .ref a37, .int 0, .int 0, .int 0, .ref a38, .ref a39, .ref a40, .ref a41, .ref a42, .ref a43, .ref a44, .int 0, .int 0, .int 0, .int 0, .ref a45]))], [(a20, .inl (kA 0, 144, .inl (fl f3 144 (-1))))], [(a18, .inl (kA 0, 145, .inl (upd (f4) 0 0)))]]) := hD
  refine lv_astore_n (pc := 14) (lv' := [(3, .ref (g 2 j)), (0, .ref a0), (1, .int (nI j)), (2, .int v2)]) hx hb d_Ho_planar_14 rfl hl (by decide) rfl (fun ls hl => ?_)
  refine lv_iload_n (pc := 15) hx hb d_Ho_planar_15 rfl (lv_at hl 3 rfl) ?_
  refine lv_tableOut (pc := 16) (tgt := 123) hx hb d_Ho_planar_16 hs2 (by decide) ?_
  refine lv_iconst (pc := 123) (v := -1) hx hb d_Ho_planar_123 (by decide) ?_
  refine W.widen (k := 0) (n := 0) (Nat.le_of_ble_eq_true rfl) (Nat.le_of_ble_eq_true rfl) ?_
  exact W.iret (v := (-1)) hx hb hr (fun t ht hW => ⟨⟨(-1), [[(a0, .inr (12, [.ref a1, .ref a2, .ref a3, .ref a4, .ref a5, .ref a6, .ref a7, .int 0, .int ((-1)), .ref a8, .ref a9, .int 0, .int 0, .ref a10, .int 0, .int 0, .null, .null, .null, .null, .null]))], [(a3, .inl (kA 6, 4, .inr (.inr (.inr (.inr (rr (g 2)))))))], [(g 2 j, .inr (5, [.int 1, .int ((-1)), .int ((-1)), .int 0, .ref a11, .int 0, .int 0, .ref a12, .ref a13, .ref a14, .ref a15, .ref a16, .ref a17, .int 0, .ref a18, .ref a19, .ref a20]))], [(a1, .inl (kA 4, 4, .inr (.inr (.inr (.inr (rr (g 0)))))))], [(g 0 j, .inr (3, [.int 0, .int 0, .int 1, .ref a21, .ref a22, .ref a23, .ref a24, .ref a25, .ref a26, .ref a27, .ref a28, .ref a29, .ref a30, .ref a31, .ref a32, .ref a33, .null, .int 0, .int 0]))], [(a14, .inl (kA 0, 25, .inl (fl f0 25 0)))], [(a15, .inl (kA 0, 625, .inl (fl f1 625 (-1))))], [(a17, .inl (kA 0, 25, .inl (fl f2 25 (-1))))], [(a6, .inr (1, [.ref (g 2 j), .ref a34, .ref a35, .ref a36, .ref a37, .int 0, .int 0, .int 0, .ref a38, .ref a39, .ref a40, .ref a41, .ref a42, .ref a43, .ref a44, .int 0, .int 0, .int 0, .int 0, .ref a45]))], [(a20, .inl (kA 0, 144, .inl (fl f3 144 (-1))))], [(a18, .inl (kA 0, 145, .inl (upd (f4) 0 0)))]], rfl, rfl, by rw [ht]; exact hP, va_K.moved hW.alike hK, hD⟩, hS.F ht⟩) hS.2.2 d_Ho_planar_124
set_option maxRecDepth 100000 in
set_option maxHeartbeats 4000000 in
/-- DrawingHouseModel.in(III)Z -/
theorem c_Mo_in_z20 (l : Launch) (D : va_G) (kA : Nat → ClassId) (v2 : Int32) (hs2 : v2.toInt < 0 ∨ ((5 : Int) - 1 < v2.toInt)) : Ci l y_Mo_in z_Mo_in { frames := 0, cells := 0, slots := 0, locals := 0 } D classes (TY kA) [.int v2, .int 0, .int 4] [] (fun r (_ : Unit) => r = if v2 < 0 then 0 else if 4 < v2 then 0 else 1) (fun u => []) 0 0 := by
  intro sz
  refine k_met (cc := b_Mo_in) (maxL := 3) (ret := (some .boolean)) (by decide) rfl (Nat.le_of_ble_eq_true rfl) (fun p e s m below meth c ls X hl hB => ?_)
  obtain ⟨hsz, hP, hK, hD0, hN⟩ := hB
  subst hsz
  have hD := hD0.self (sz := s.heap.size)
  generalize hAe : va_A (cat []) s.heap.size = A at hD ⊢
  have hA : ∀ q : Nat, s.heap.size ≤ q → A q := fun q h => by rw [← hAe]; exact Or.inr h
  have hS : va_S A s.heap s.heap [] := va_S.rf
  obtain ⟨hx, hb, hml, hown, hts, hr, hlk, hnm⟩ := id X
  have hl : lv_has ls 3 [(0, .int v2), (1, .int 0), (2, .int 4)] := hl
  have hP : va_P D classes (cat []) s.heap := hP
  have hK : va_K D classes (TY kA) s := hK
  refine lv_iload_n (pc := 0) hx hb d_Mo_in_0 rfl (lv_at hl 0 rfl) ?_
  refine lv_iload_n (pc := 1) hx hb d_Mo_in_1 rfl (lv_at hl 1 rfl) ?_
  refine lv_icmp_lt (pc := 2) (tgt := 14) hx hb d_Mo_in_2 (by decide) (fun ck1 => ?_) (fun ck1 => ?_)
  · refine lv_iconst (pc := 14) (v := 0) hx hb d_Mo_in_14 (by decide) ?_
    refine W.widen (k := 0) (n := 0) (Nat.le_of_ble_eq_true rfl) (Nat.le_of_ble_eq_true rfl) ?_
    exact W.zret (v := 0) hx hb hr rfl (fun t ht hW => ⟨⟨0, (), rfl, (by rw [if_pos ck1]), by rw [ht]; exact hP, va_K.moved hW.alike hK, hD⟩, hS.F ht⟩) hS.2.2 d_Mo_in_15
  · refine lv_iload_n (pc := 5) hx hb d_Mo_in_5 rfl (lv_at hl 0 rfl) ?_
    refine lv_iload_n (pc := 6) hx hb d_Mo_in_6 rfl (lv_at hl 2 rfl) ?_
    refine lv_icmp_gt (pc := 7) (tgt := 14) hx hb d_Mo_in_7 (by decide) (fun ck2 => ?_) (fun ck2 => ?_)
    · refine lv_iconst (pc := 14) (v := 0) hx hb d_Mo_in_14 (by decide) ?_
      refine W.widen (k := 0) (n := 0) (Nat.le_of_ble_eq_true rfl) (Nat.le_of_ble_eq_true rfl) ?_
      exact W.zret (v := 0) hx hb hr rfl (fun t ht hW => ⟨⟨0, (), rfl, (by rw [if_neg ck1, if_pos ck2]), by rw [ht]; exact hP, va_K.moved hW.alike hK, hD⟩, hS.F ht⟩) hS.2.2 d_Mo_in_15
    · refine lv_iconst (pc := 10) (v := 1) hx hb d_Mo_in_10 (by decide) ?_
      refine lv_goto (pc := 11) (tgt := 15) hx hb d_Mo_in_11 (by decide) ?_
      refine W.widen (k := 0) (n := 0) (Nat.le_of_ble_eq_true rfl) (Nat.le_of_ble_eq_true rfl) ?_
      exact W.zret (v := 1) hx hb hr rfl (fun t ht hW => ⟨⟨1, (), rfl, (by rw [if_neg ck1, if_neg ck2]), by rw [ht]; exact hP, va_K.moved hW.alike hK, hD⟩, hS.F ht⟩) hS.2.2 d_Mo_in_15
set_option maxRecDepth 100000 in
set_option maxHeartbeats 4000000 in
/-- DrawingHouseModel.blocks()I -/
theorem c_Mo_blocks_z2 (l : Launch) (D : va_G) (kA : Nat → ClassId) (a0 : Nat) (qm : Nat → Nat) (j : Nat) (hj : j < 4) : Ci l y_Mo_blocks z_Mo_blocks { frames := 0, cells := 0, slots := 0, locals := 0 } D classes (TY kA) [.ref a0] [[(a0, .inr (13, mF qm (va_up (va_up x0Mo 5 (nI (539 * (31 * j + 0)))) 49 (-1)) y0Mo))]] (fun r (_ : Unit) => r = 0) (fun u => [[(a0, .inr (13, mF qm (va_up (va_up x0Mo 5 (nI (539 * (31 * j + 0)))) 49 (-1)) y0Mo))]]) 0 0 := by
  intro sz
  refine k_met (cc := b_Mo_blocks) (maxL := 4) (ret := (some .int)) (by decide) rfl (Nat.le_of_ble_eq_true rfl) (fun p e s m below meth c ls X hl hB => ?_)
  obtain ⟨hsz, hP, hK, hD0, hN⟩ := hB
  subst hsz
  have hD := hD0.self (sz := s.heap.size)
  generalize hAe : va_A (cat [[(a0, .inr (13, mF qm (va_up (va_up x0Mo 5 (nI (539 * (31 * j + 0)))) 49 (-1)) y0Mo))]]) s.heap.size = A at hD ⊢
  have hA : ∀ q : Nat, s.heap.size ≤ q → A q := fun q h => by rw [← hAe]; exact Or.inr h
  have hS : va_S A s.heap s.heap [] := va_S.rf
  obtain ⟨hx, hb, hml, hown, hts, hr, hlk, hnm⟩ := id X
  have hl : lv_has ls 4 [(0, .ref a0)] := hl
  have hP : va_P D classes (cat [[(a0, .inr (13, mF qm (va_up (va_up x0Mo 5 (nI (539 * (31 * j + 0)))) 49 (-1)) y0Mo))]]) s.heap := hP
  have hK : va_K D classes (TY kA) s := hK
  refine lv_iconst (pc := 0) (v := 0) hx hb d_Mo_blocks_0 (by decide) ?_
  refine lv_istore_n (pc := 1) (lv' := [(1, .int 0), (0, .ref a0)]) hx hb d_Mo_blocks_1 rfl hl (by decide) rfl (fun ls hl => ?_)
  refine lv_iload_n (pc := 2) hx hb d_Mo_blocks_2 rfl (lv_at hl 0 rfl) ?_
  refine lv_aload_n (pc := 3) hx hb d_Mo_blocks_3 rfl (lv_at hl 1 rfl) ?_
  refine k_get (pc := 4) (v := .int 0) X hK hP 0 rfl rfl i_Mo 32 (by decide) wm_2465 rfl rfl d_Mo_blocks_4 ?_
  refine lv_icmp_ge (pc := 7) (tgt := 23) hx hb d_Mo_blocks_7 (by decide) (fun _ => ?_) (fun c1 => absurd (by decide) c1)
  refine lv_iconst (pc := 23) (v := 0) hx hb d_Mo_blocks_23 (by decide) ?_
  refine lv_istore_n (pc := 24) (lv' := [(1, .int 0), (0, .ref a0)]) hx hb d_Mo_blocks_24 rfl hl (by decide) rfl (fun ls hl => ?_)
  refine lv_iload_n (pc := 25) hx hb d_Mo_blocks_25 rfl (lv_at hl 0 rfl) ?_
  refine lv_aload_n (pc := 26) hx hb d_Mo_blocks_26 rfl (lv_at hl 1 rfl) ?_
  refine k_get (pc := 27) (v := .int 0) X hK hP 0 rfl rfl i_Mo 31 (by decide) wm_2464 rfl rfl d_Mo_blocks_27 ?_
  refine lv_icmp_ge (pc := 30) (tgt := 135) hx hb d_Mo_blocks_30 (by decide) (fun _ => ?_) (fun c1 => absurd (by decide) c1)
  refine lv_iconst (pc := 135) (v := 0) hx hb d_Mo_blocks_135 (by decide) ?_
  refine lv_istore_n (pc := 136) (lv' := [(1, .int 0), (0, .ref a0)]) hx hb d_Mo_blocks_136 rfl hl (by decide) rfl (fun ls hl => ?_)
  refine lv_iconst (pc := 137) (v := 0) hx hb d_Mo_blocks_137 (by decide) ?_
  refine lv_istore_n (pc := 138) (lv' := [(2, .int 0), (1, .int 0), (0, .ref a0)]) hx hb d_Mo_blocks_138 rfl hl (by decide) rfl (fun ls hl => ?_)
  refine lv_iload_n (pc := 139) hx hb d_Mo_blocks_139 rfl (lv_at hl 0 rfl) ?_
  refine lv_aload_n (pc := 140) hx hb d_Mo_blocks_140 rfl (lv_at hl 2 rfl) ?_
  refine k_get (pc := 141) (v := .int 0) X hK hP 0 rfl rfl i_Mo 32 (by decide) wm_2465 rfl rfl d_Mo_blocks_141 ?_
  refine lv_icmp_ge (pc := 144) (tgt := 160) hx hb d_Mo_blocks_144 (by decide) (fun _ => ?_) (fun c1 => absurd (by decide) c1)
  refine lv_iconst (pc := 160) (v := 0) hx hb d_Mo_blocks_160 (by decide) ?_
  refine lv_istore_n (pc := 161) (lv' := [(2, .int 0), (1, .int 0), (0, .ref a0)]) hx hb d_Mo_blocks_161 rfl hl (by decide) rfl (fun ls hl => ?_)
  refine lv_iload_n (pc := 162) hx hb d_Mo_blocks_162 rfl (lv_at hl 0 rfl) ?_
  refine lv_aload_n (pc := 163) hx hb d_Mo_blocks_163 rfl (lv_at hl 2 rfl) ?_
  refine k_get (pc := 164) (v := .int 0) X hK hP 0 rfl rfl i_Mo 32 (by decide) wm_2465 rfl rfl d_Mo_blocks_164 ?_
  refine lv_icmp_ge (pc := 167) (tgt := 233) hx hb d_Mo_blocks_167 (by decide) (fun _ => ?_) (fun c1 => absurd (by decide) c1)
  refine lv_iload_n (pc := 233) hx hb d_Mo_blocks_233 rfl (lv_at hl 1 rfl) ?_
  refine W.widen (k := 0) (n := 0) (Nat.le_of_ble_eq_true rfl) (Nat.le_of_ble_eq_true rfl) ?_
  exact W.iret (v := 0) hx hb hr (fun t ht hW => ⟨⟨0, (), rfl, rfl, by rw [ht]; exact hP, va_K.moved hW.alike hK, hD⟩, hS.F ht⟩) hS.2.2 d_Mo_blocks_234
set_option maxRecDepth 100000 in
set_option maxHeartbeats 4000000 in
/-- DrawingHouseModel.embed()Z -/
theorem c_Mo_embed_z1 (l : Launch) (D : va_G) (kA : Nat → ClassId) (a0 : Nat) (qm : Nat → Nat) (j : Nat) (hj : j < 4) : Ci l y_Mo_embed z_Mo_embed { frames := 1, cells := 0, slots := 0, locals := 23 } D classes (TY kA) [.ref a0] [[(a0, .inr (13, mF qm (va_up x0Mo 5 (nI (539 * (31 * j + 0)))) y0Mo))]] (fun r (_ : Unit) => r = 1) (fun u => [[(a0, .inr (13, mF qm (va_up (va_up x0Mo 5 (nI (539 * (31 * j + 0)))) 49 (-1)) y0Mo))]]) 0 0 := by
  intro sz
  refine k_met (cc := b_Mo_embed) (maxL := 4) (ret := (some .boolean)) (by decide) rfl (Nat.le_of_ble_eq_true rfl) (fun p e s m below meth c ls X hl hB => ?_)
  obtain ⟨hsz, hP, hK, hD0, hN⟩ := hB
  subst hsz
  have hD := hD0.self (sz := s.heap.size)
  generalize hAe : va_A (cat [[(a0, .inr (13, mF qm (va_up x0Mo 5 (nI (539 * (31 * j + 0)))) y0Mo))]]) s.heap.size = A at hD ⊢
  have hA : ∀ q : Nat, s.heap.size ≤ q → A q := fun q h => by rw [← hAe]; exact Or.inr h
  have hS : va_S A s.heap s.heap [] := va_S.rf
  obtain ⟨hx, hb, hml, hown, hts, hr, hlk, hnm⟩ := id X
  have hl : lv_has ls 4 [(0, .ref a0)] := hl
  have hP : va_P D classes (cat [[(a0, .inr (13, mF qm (va_up x0Mo 5 (nI (539 * (31 * j + 0)))) y0Mo))]]) s.heap := hP
  have hK : va_K D classes (TY kA) s := hK
  refine lv_aload_n (pc := 0) hx hb d_Mo_embed_0 rfl (lv_at hl 0 rfl) ?_
  refine lv_iconst (pc := 1) (v := -1) hx hb d_Mo_embed_1 (by decide) ?_
  refine k_put (pc := 2) X hK hP hD hS 0 rfl rfl i_Mo t_Mo t_Mo_ok n_Mo 49 (by decide) wm_2481 rfl (Or.inl rfl) rfl rfl (Nat.le_of_ble_eq_true rfl) d_Mo_embed_2 (fun H locs hP hD hS => ?_)
  have hP : va_P D classes (cat [[(a0, .inr (13, mF qm (va_up (va_up x0Mo 5 (nI (539 * (31 * j + 0)))) 49 (-1)) y0Mo))]]) H := hP
  have hD : va_D A (cat [[(a0, .inr (13, mF qm (va_up (va_up x0Mo 5 (nI (539 * (31 * j + 0)))) 49 (-1)) y0Mo))]]) := hD
  refine lv_aload_n (pc := 5) hx hb d_Mo_embed_5 rfl (lv_at hl 0 rfl) ?_
  refine k_goI (gr := []) (k_rV (pc := 6) (As := []) (rest := []) X (c_Mo_blocks_z2 l D kA a0 qm j hj H.size) rfl wm_3155 wm_9 wm_3152 wm_3154 wv_14_14 0 (by decide +kernel) ⟨Nat.le_of_ble_eq_true rfl, Nat.le_of_ble_eq_true rfl⟩ rfl rfl (va_recv hK hP (ci := 13) (q0 := 0) rfl rfl) (k_pre hN hK hP hD [0] [] 1 rfl (by decide) rfl) rfl hl.1 rfl (Nat.le_of_ble_eq_true rfl) d_Mo_embed_6 ⟨Nat.le_of_ble_eq_true rfl, Nat.le_of_ble_eq_true rfl⟩) hP hD hS hA [0] [] 1 rfl (by decide) rfl rfl (fun r1 u2 H locs hu2 hP hD hS => ?_)
  subst hu2
  have hP : va_P D classes (cat [[(a0, .inr (13, mF qm (va_up (va_up x0Mo 5 (nI (539 * (31 * j + 0)))) 49 (-1)) y0Mo))]]) H := hP
  have hD : va_D A (cat [[(a0, .inr (13, mF qm (va_up (va_up x0Mo 5 (nI (539 * (31 * j + 0)))) 49 (-1)) y0Mo))]]) := hD
  refine lv_istore_n (pc := 9) (lv' := [(1, .int 0), (0, .ref a0)]) hx hb d_Mo_embed_9 rfl hl (by decide) rfl (fun ls hl => ?_)
  refine lv_iconst (pc := 10) (v := 0) hx hb d_Mo_embed_10 (by decide) ?_
  refine lv_istore_n (pc := 11) (lv' := [(2, .int 0), (1, .int 0), (0, .ref a0)]) hx hb d_Mo_embed_11 rfl hl (by decide) rfl (fun ls hl => ?_)
  refine lv_iload_n (pc := 12) hx hb d_Mo_embed_12 rfl (lv_at hl 0 rfl) ?_
  refine lv_aload_n (pc := 13) hx hb d_Mo_embed_13 rfl (lv_at hl 2 rfl) ?_
  refine k_get (pc := 14) (v := .int 0) X hK hP 0 rfl rfl i_Mo 31 (by decide) wm_2464 rfl rfl d_Mo_embed_14 ?_
  refine lv_icmp_ge (pc := 17) (tgt := 33) hx hb d_Mo_embed_17 (by decide) (fun _ => ?_) (fun c1 => absurd (by decide) c1)
  refine lv_iconst (pc := 33) (v := 0) hx hb d_Mo_embed_33 (by decide) ?_
  refine lv_istore_n (pc := 34) (lv' := [(2, .int 0), (1, .int 0), (0, .ref a0)]) hx hb d_Mo_embed_34 rfl hl (by decide) rfl (fun ls hl => ?_)
  refine lv_iload_n (pc := 35) hx hb d_Mo_embed_35 rfl (lv_at hl 0 rfl) ?_
  refine lv_iload_n (pc := 36) hx hb d_Mo_embed_36 rfl (lv_at hl 1 rfl) ?_
  refine lv_icmp_ge (pc := 37) (tgt := 78) hx hb d_Mo_embed_37 (by decide) (fun _ => ?_) (fun c1 => absurd (by decide) c1)
  refine lv_iconst (pc := 78) (v := 1) hx hb d_Mo_embed_78 (by decide) ?_
  refine W.widen (k := 0) (n := 0) (Nat.le_of_ble_eq_true rfl) (Nat.le_of_ble_eq_true rfl) ?_
  exact W.zret (v := 1) hx hb hr rfl (fun t ht hW => ⟨⟨1, (), rfl, rfl, by rw [ht]; exact hP, va_K.moved hW.alike hK, hD⟩, hS.F ht⟩) hS.2.2 d_Mo_embed_79
set_option maxRecDepth 100000 in
set_option maxHeartbeats 4000000 in
/-- DrawingHouseModel.isPlanar()Z -/
theorem c_Mo_isPlanar_z1 (l : Launch) (D : va_G) (kA : Nat → ClassId) (a0 : Nat) (qm : Nat → Nat) (j : Nat) (hj : j < 4) : Ci l y_Mo_isPlanar z_Mo_isPlanar { frames := 2, cells := 0, slots := 0, locals := 46 } D classes (TY kA) [.ref a0] [[(a0, .inr (13, mF qm (va_up x0Mo 5 (nI (539 * (31 * j + 0)))) y0Mo))], [(qm 2, .inl (kA 0, 66836, .inl all0))]] (fun r (_ : Unit) => r = 1) (fun u => [[(a0, .inr (13, mF qm (va_up (va_up x0Mo 5 (nI (539 * (31 * j + 0)))) 49 (-1)) y0Mo))], [(qm 2, .inl (kA 0, 66836, .inl all0))]]) 0 0 := by
  intro sz
  refine k_met (cc := b_Mo_isPlanar) (maxL := 1) (ret := (some .boolean)) (by decide) rfl (Nat.le_of_ble_eq_true rfl) (fun p e s m below meth c ls X hl hB => ?_)
  obtain ⟨hsz, hP, hK, hD0, hN⟩ := hB
  subst hsz
  have hD := hD0.self (sz := s.heap.size)
  generalize hAe : va_A (cat [[(a0, .inr (13, mF qm (va_up x0Mo 5 (nI (539 * (31 * j + 0)))) y0Mo))], [(qm 2, .inl (kA 0, 66836, .inl all0))]]) s.heap.size = A at hD ⊢
  have hA : ∀ q : Nat, s.heap.size ≤ q → A q := fun q h => by rw [← hAe]; exact Or.inr h
  have hS : va_S A s.heap s.heap [] := va_S.rf
  obtain ⟨hx, hb, hml, hown, hts, hr, hlk, hnm⟩ := id X
  have hl : lv_has ls 1 [(0, .ref a0)] := hl
  have hP : va_P D classes (cat [[(a0, .inr (13, mF qm (va_up x0Mo 5 (nI (539 * (31 * j + 0)))) y0Mo))], [(qm 2, .inl (kA 0, 66836, .inl all0))]]) s.heap := hP
  have hK : va_K D classes (TY kA) s := hK
  refine lv_aload_n (pc := 0) hx hb d_Mo_isPlanar_0 rfl (lv_at hl 0 rfl) ?_
  refine k_goV (gr := []) (k_rV (pc := 1) (As := []) (rest := []) X (c_Mo_plane_z1 l D kA a0 qm j hj s.heap.size) rfl wm_3147 wm_9 wm_3144 wm_3146 wv_14_12 0 (by decide +kernel) ⟨Nat.le_of_ble_eq_true rfl, Nat.le_of_ble_eq_true rfl⟩ rfl rfl (va_recv hK hP (ci := 13) (q0 := 0) rfl rfl) (k_pre hN hK hP hD [0, 1] [] 2 rfl (by decide) rfl) rfl hl.1 rfl (Nat.le_of_ble_eq_true rfl) d_Mo_isPlanar_1 ⟨Nat.le_of_ble_eq_true rfl, Nat.le_of_ble_eq_true rfl⟩) hP hD hS hA [0, 1] [] 2 rfl (by decide) rfl rfl (fun u1 H locs hu1 hP hD hS => ?_)
  have hP : va_P D classes (cat [[(a0, .inr (13, mF qm (va_up x0Mo 5 (nI (539 * (31 * j + 0)))) y0Mo))], [(qm 2, .inl (kA 0, 66836, .inl all0))]]) H := hP
  have hD : va_D A (cat [[(a0, .inr (13, mF qm (va_up x0Mo 5 (nI (539 * (31 * j + 0)))) y0Mo))], [(qm 2, .inl (kA 0, 66836, .inl all0))]]) := hD
  refine lv_aload_n (pc := 4) hx hb d_Mo_isPlanar_4 rfl (lv_at hl 0 rfl) ?_
  refine k_goI (gr := [[(qm 2, .inl (kA 0, 66836, .inl all0))]]) (k_rV (pc := 5) (As := []) (rest := []) X (c_Mo_embed_z1 l D kA a0 qm j hj H.size) rfl wm_3151 wm_9 wm_3148 wm_3150 wv_14_13 0 (by decide +kernel) ⟨Nat.le_of_ble_eq_true rfl, Nat.le_of_ble_eq_true rfl⟩ rfl rfl (va_recv hK hP (ci := 13) (q0 := 0) rfl rfl) (k_pre hN hK hP hD [0] [1] 2 rfl (by decide) rfl) rfl hl.1 rfl (Nat.le_of_ble_eq_true rfl) d_Mo_isPlanar_5 ⟨Nat.le_of_ble_eq_true rfl, Nat.le_of_ble_eq_true rfl⟩) hP hD hS hA [0] [1] 2 rfl (by decide) rfl rfl (fun r2 u3 H locs hu3 hP hD hS => ?_)
  subst hu3
  have hP : va_P D classes (cat [[(qm 2, .inl (kA 0, 66836, .inl all0))], [(a0, .inr (13, mF qm (va_up (va_up x0Mo 5 (nI (539 * (31 * j + 0)))) 49 (-1)) y0Mo))]]) H := hP
  have hD : va_D A (cat [[(qm 2, .inl (kA 0, 66836, .inl all0))], [(a0, .inr (13, mF qm (va_up (va_up x0Mo 5 (nI (539 * (31 * j + 0)))) 49 (-1)) y0Mo))]]) := hD
  obtain ⟨hP, hD⟩ := k_ord (gc := [[(a0, .inr (13, mF qm (va_up (va_up x0Mo 5 (nI (539 * (31 * j + 0)))) 49 (-1)) y0Mo))], [(qm 2, .inl (kA 0, 66836, .inl all0))]]) hP hD [1, 0] 2 rfl (by decide) rfl
  refine W.widen (k := 0) (n := 0) (Nat.le_of_ble_eq_true rfl) (Nat.le_of_ble_eq_true rfl) ?_
  exact W.zret (v := 1) hx hb hr rfl (fun t ht hW => ⟨⟨1, (), rfl, rfl, by rw [ht]; exact hP, va_K.moved hW.alike hK, hD⟩, hS.F ht⟩) hS.2.2 d_Mo_isPlanar_8
set_option maxRecDepth 100000 in
set_option maxHeartbeats 4000000 in
/-- DrawingHouseModel.planar(II)I -/
theorem c_Mo_planar_z2 (l : Launch) (D : va_G) (kA : Nat → ClassId) (a0 : Nat) (j : Nat) (v2 : Int32) (qm : Nat → Nat) (hj : j < 4) (hs2 : v2.toInt < 0 ∨ ((5 : Int) - 1 < v2.toInt)) : Ci l y_Mo_planar z_Mo_planar { frames := 3, cells := 0, slots := 0, locals := 66 } D classes (TY kA) [.ref a0, .int (nI j), .int v2] [[(a0, .inr (13, mF qm x0Mo y0Mo))], [(qm 3, .inl (kA 0, 4, .inl (fun _ => 0)))], [(qm 2, .inl (kA 0, 66836, .inl all0))]] (fun r (_ : List va_W) => r = (-1)) (fun u => u) 0 0 := by
  intro sz
  refine k_met (cc := b_Mo_planar) (maxL := 4) (ret := (some .int)) (by decide) rfl (Nat.le_of_ble_eq_true rfl) (fun p e s m below meth c ls X hl hB => ?_)
  obtain ⟨hsz, hP, hK, hD0, hN⟩ := hB
  subst hsz
  have hD := hD0.self (sz := s.heap.size)
  generalize hAe : va_A (cat [[(a0, .inr (13, mF qm x0Mo y0Mo))], [(qm 3, .inl (kA 0, 4, .inl (fun _ => 0)))], [(qm 2, .inl (kA 0, 66836, .inl all0))]]) s.heap.size = A at hD ⊢
  have hA : ∀ q : Nat, s.heap.size ≤ q → A q := fun q h => by rw [← hAe]; exact Or.inr h
  have hS : va_S A s.heap s.heap [] := va_S.rf
  obtain ⟨hx, hb, hml, hown, hts, hr, hlk, hnm⟩ := id X
  have hl : lv_has ls 4 [(0, .ref a0), (1, .int (nI j)), (2, .int v2)] := hl
  have hP : va_P D classes (cat [[(a0, .inr (13, mF qm x0Mo y0Mo))], [(qm 3, .inl (kA 0, 4, .inl (fun _ => 0)))], [(qm 2, .inl (kA 0, 66836, .inl all0))]]) s.heap := hP
  have hK : va_K D classes (TY kA) s := hK
  refine lv_iload_n (pc := 0) hx hb d_Mo_planar_0 rfl (lv_at hl 1 rfl) ?_
  refine k_goI (gr := [[(a0, .inr (13, mF qm x0Mo y0Mo))], [(qm 3, .inl (kA 0, 4, .inl (fun _ => 0)))], [(qm 2, .inl (kA 0, 66836, .inl all0))]]) (k_rS (pc := 1) (As := [.int (nI j)]) (rest := []) X (c_Mo_isPlace l D kA (nI j) s.heap.size) rfl wm_2978 wm_9 wm_2976 wm_2977 1 (by decide +kernel) ⟨Nat.le_of_ble_eq_true rfl, Nat.le_of_ble_eq_true rfl⟩ rfl rfl (k_pre hN hK hP hD [] [0, 1, 2] 3 rfl (by decide) rfl) rfl hl.1 rfl (Nat.le_of_ble_eq_true rfl) d_Mo_planar_1 ⟨Nat.le_of_ble_eq_true rfl, Nat.le_of_ble_eq_true rfl⟩) hP hD hS hA [] [0, 1, 2] 3 rfl (by decide) rfl rfl (fun r1 u2 H locs hu2 hP hD hS => ?_)
  subst hu2
  refine k_cst (v := 1) (placeM_ok hj) ?_
  have hP : va_P D classes (cat [[(a0, .inr (13, mF qm x0Mo y0Mo))], [(qm 3, .inl (kA 0, 4, .inl (fun _ => 0)))], [(qm 2, .inl (kA 0, 66836, .inl all0))]]) H := hP
  have hD : va_D A (cat [[(a0, .inr (13, mF qm x0Mo y0Mo))], [(qm 3, .inl (kA 0, 4, .inl (fun _ => 0)))], [(qm 2, .inl (kA 0, 66836, .inl all0))]]) := hD
  refine lv_if_eq (pc := 4) (tgt := 16) hx hb d_Mo_planar_4 (by decide) (fun c1 => absurd c1 (by decide)) (fun c1 => ?_)
  refine lv_iload_n (pc := 7) hx hb d_Mo_planar_7 rfl (lv_at hl 2 rfl) ?_
  refine lv_iconst (pc := 8) (v := 0) hx hb d_Mo_planar_8 (by decide) ?_
  refine lv_iconst (pc := 9) (v := 4) hx hb d_Mo_planar_9 (by decide) ?_
  refine k_goI (gr := [[(a0, .inr (13, mF qm x0Mo y0Mo))], [(qm 3, .inl (kA 0, 4, .inl (fun _ => 0)))], [(qm 2, .inl (kA 0, 66836, .inl all0))]]) (k_rS (pc := 10) (As := [.int v2, .int 0, .int 4]) (rest := []) X (c_Mo_in_z20 l D kA v2 hs2 H.size) rfl wm_2971 wm_9 wm_2969 wm_2970 3 (by decide +kernel) ⟨Nat.le_of_ble_eq_true rfl, Nat.le_of_ble_eq_true rfl⟩ rfl rfl (k_pre hN hK hP hD [] [0, 1, 2] 3 rfl (by decide) rfl) rfl hl.1 rfl (Nat.le_of_ble_eq_true rfl) d_Mo_planar_10 ⟨Nat.le_of_ble_eq_true rfl, Nat.le_of_ble_eq_true rfl⟩) hP hD hS hA [] [0, 1, 2] 3 rfl (by decide) rfl rfl (fun r3 u4 H locs hu4 hP hD hS => ?_)
  subst hu4
  have hP : va_P D classes (cat [[(a0, .inr (13, mF qm x0Mo y0Mo))], [(qm 3, .inl (kA 0, 4, .inl (fun _ => 0)))], [(qm 2, .inl (kA 0, 66836, .inl all0))]]) H := hP
  have hD : va_D A (cat [[(a0, .inr (13, mF qm x0Mo y0Mo))], [(qm 3, .inl (kA 0, 4, .inl (fun _ => 0)))], [(qm 2, .inl (kA 0, 66836, .inl all0))]]) := hD
  refine lv_if_ne (pc := 13) (tgt := 18) hx hb d_Mo_planar_13 (by decide) (fun ck1 => ?_) (fun ck1 => ?_)
  · refine lv_aload_n (pc := 18) hx hb d_Mo_planar_18 rfl (lv_at hl 0 rfl) ?_
    refine lv_iload_n (pc := 19) hx hb d_Mo_planar_19 rfl (lv_at hl 1 rfl) ?_
    refine k_goV (gr := [[(qm 2, .inl (kA 0, 66836, .inl all0))]]) (k_rV (pc := 20) (As := [.int (nI j)]) (rest := []) X (c_Mo_take_z1 l D kA a0 j qm hj H.size) rfl wm_3091 wm_9 wm_3088 wm_3090 wv_14_2 1 (by decide +kernel) ⟨Nat.le_of_ble_eq_true rfl, Nat.le_of_ble_eq_true rfl⟩ rfl rfl (va_recv hK hP (ci := 13) (q0 := 0) rfl rfl) (k_pre hN hK hP hD [0, 1] [2] 3 rfl (by decide) rfl) rfl hl.1 rfl (Nat.le_of_ble_eq_true rfl) d_Mo_planar_20 ⟨Nat.le_of_ble_eq_true rfl, Nat.le_of_ble_eq_true rfl⟩) hP hD hS hA [0, 1] [2] 3 rfl (by decide) rfl rfl (fun u5 H locs hu5 hP hD hS => ?_)
    have hP : va_P D classes (cat [[(qm 2, .inl (kA 0, 66836, .inl all0))], [(a0, .inr (13, mF qm (va_up x0Mo 5 (nI (539 * (31 * j + 0)))) y0Mo))], [(qm 3, .inl (kA 0, 4, .inl (fun _ => 0)))]]) H := hP
    have hD : va_D A (cat [[(qm 2, .inl (kA 0, 66836, .inl all0))], [(a0, .inr (13, mF qm (va_up x0Mo 5 (nI (539 * (31 * j + 0)))) y0Mo))], [(qm 3, .inl (kA 0, 4, .inl (fun _ => 0)))]]) := hD
    refine lv_iload_n (pc := 23) hx hb d_Mo_planar_23 rfl (lv_at hl 2 rfl) ?_
    refine lv_iconst (pc := 24) (v := 1) hx hb d_Mo_planar_24 (by decide) ?_
    refine lv_icmp_ne (pc := 25) (tgt := 41) hx hb d_Mo_planar_25 (by decide) (fun c1 => ?_) (fun c1 => absurd c1 (k_tne (v := 1) hs2 1 (by decide)))
    refine lv_aload_n (pc := 41) hx hb d_Mo_planar_41 rfl (lv_at hl 0 rfl) ?_
    refine k_goI (gr := [[(qm 3, .inl (kA 0, 4, .inl (fun _ => 0)))]]) (k_rV (pc := 42) (As := []) (rest := []) X (c_Mo_isPlanar_z1 l D kA a0 qm j hj H.size) rfl wm_3251 wm_9 wm_3248 wm_3250 wv_16_5 0 (by decide +kernel) ⟨Nat.le_of_ble_eq_true rfl, Nat.le_of_ble_eq_true rfl⟩ rfl rfl (va_recv hK hP (ci := 13) (q0 := 1) rfl rfl) (k_pre hN hK hP hD [1, 0] [2] 3 rfl (by decide) rfl) rfl hl.1 rfl (Nat.le_of_ble_eq_true rfl) d_Mo_planar_42 ⟨Nat.le_of_ble_eq_true rfl, Nat.le_of_ble_eq_true rfl⟩) hP hD hS hA [1, 0] [2] 3 rfl (by decide) rfl rfl (fun r6 u7 H locs hu7 hP hD hS => ?_)
    subst hu7
    have hP : va_P D classes (cat [[(qm 3, .inl (kA 0, 4, .inl (fun _ => 0)))], [(a0, .inr (13, mF qm (va_up (va_up x0Mo 5 (nI (539 * (31 * j + 0)))) 49 (-1)) y0Mo))], [(qm 2, .inl (kA 0, 66836, .inl all0))]]) H := hP
    have hD : va_D A (cat [[(qm 3, .inl (kA 0, 4, .inl (fun _ => 0)))], [(a0, .inr (13, mF qm (va_up (va_up x0Mo 5 (nI (539 * (31 * j + 0)))) 49 (-1)) y0Mo))], [(qm 2, .inl (kA 0, 66836, .inl all0))]]) := hD
    refine lv_istore_n (pc := 45) (lv' := [(3, .int 1), (0, .ref a0), (1, .int (nI j)), (2, .int v2)]) hx hb d_Mo_planar_45 rfl hl (by decide) rfl (fun ls hl => ?_)
    refine lv_iload_n (pc := 46) hx hb d_Mo_planar_46 rfl (lv_at hl 3 rfl) ?_
    refine lv_if_ne (pc := 47) (tgt := 60) hx hb d_Mo_planar_47 (by decide) (fun c1 => ?_) (fun c1 => absurd c1 (k_tne (v := 0) hs2 0 (by decide)))
    refine lv_iload_n (pc := 60) hx hb d_Mo_planar_60 rfl (lv_at hl 3 rfl) ?_
    refine lv_iconst (pc := 61) (v := 2) hx hb d_Mo_planar_61 (by decide) ?_
    refine lv_icmp_ne (pc := 62) (tgt := 69) hx hb d_Mo_planar_62 (by decide) (fun c1 => ?_) (fun c1 => absurd c1 (k_tne (v := 2) hs2 2 (by decide)))
    refine lv_iconst (pc := 69) (v := 0) hx hb d_Mo_planar_69 (by decide) ?_
    refine lv_iload_n (pc := 70) hx hb d_Mo_planar_70 rfl (lv_at hl 0 rfl) ?_
    refine lv_icmp_eq (pc := 71) (tgt := 76) hx hb d_Mo_planar_71 (by decide) (fun c1 => absurd c1 (by decide)) (fun _ => ?_)
    refine lv_iconst (pc := 74) (v := -1) hx hb d_Mo_planar_74 (by decide) ?_
    refine W.widen (k := 0) (n := 0) (Nat.le_of_ble_eq_true rfl) (Nat.le_of_ble_eq_true rfl) ?_
    exact W.iret (v := (-1)) hx hb hr (fun t ht hW => ⟨⟨(-1), [[(qm 3, .inl (kA 0, 4, .inl (fun _ => 0)))], [(a0, .inr (13, mF qm (va_up (va_up x0Mo 5 (nI (539 * (31 * j + 0)))) 49 (-1)) y0Mo))], [(qm 2, .inl (kA 0, 66836, .inl all0))]], rfl, rfl, by rw [ht]; exact hP, va_K.moved hW.alike hK, hD⟩, hS.F ht⟩) hS.2.2 d_Mo_planar_75
  · refine lv_iconst (pc := 16) (v := -1) hx hb d_Mo_planar_16 (by decide) ?_
    refine W.widen (k := 0) (n := 0) (Nat.le_of_ble_eq_true rfl) (Nat.le_of_ble_eq_true rfl) ?_
    exact W.iret (v := (-1)) hx hb hr (fun t ht hW => ⟨⟨(-1), [[(a0, .inr (13, mF qm x0Mo y0Mo))], [(qm 3, .inl (kA 0, 4, .inl (fun _ => 0)))], [(qm 2, .inl (kA 0, 66836, .inl all0))]], rfl, rfl, by rw [ht]; exact hP, va_K.moved hW.alike hK, hD⟩, hS.F ht⟩) hS.2.2 d_Mo_planar_17
set_option maxRecDepth 100000 in
set_option maxHeartbeats 4000000 in
/-- planar, a fresh house -/
theorem lf_planar_2 {p : Program} {e : Env} {s : State} {m : MethodId} {below : List Frame} {meth : Method} {c : Code} (l : Launch) {b : Nat} {xs : Nat → Int32} (C0 : lw_At p s m meth c b 6 xs) {D : va_G} {kA : Nat → ClassId} (h : Nat) (h2 : Nat) (q : Nat → Nat) (qg : Nat → Nat) (qn : Nat → Nat) (qe : Nat → Nat) (qm : Nat → Nat) (g : Nat → Nat → Nat) (j : Nat) (v2 : Int32) (hj : j < 4) (hs2 : v2.toInt < 0 ∨ ((5 : Int) - 1 < v2.toInt)) (hv1 : xs 1 = nI j) (hv2 : xs 2 = v2) {H : Heap} {locs : List Loc} {ls : Array Slot} (hK : va_K D classes (TY kA) s) (hN : nst s) (hP : va_P D classes (cat [[(h, .inr (12, [.ref (q 0), .ref (q 1), .ref (q 2), .ref (q 3), .ref (q 4), .ref (q 5), .ref (q 6), .int 0, .int ((-1)), .ref (q 9), .ref (q 10), .int 0, .int 0, .ref (q 13), .int 0, .int 0, .null, .null, .null, .null, .null]))], [(q 2, .inl (kA 6, 4, .inr (.inr (.inr (.inr (rr (g 2)))))))], [(g 2 j, .inr (5, [.int ((-1)), .int ((-1)), .int ((-1)), .int 0, .ref (qn 4), .int 0, .int 0, .ref (qn 7), .ref (qn 8), .ref (qn 9), .ref (qn 10), .ref (qn 11), .ref (qn 12), .int 0, .ref (qn 14), .ref (qn 15), .ref (qn 16)]))], [(q 0, .inl (kA 4, 4, .inr (.inr (.inr (.inr (rr (g 0)))))))], [(g 0 j, .inr (3, [.int 0, .int 0, .int 1, .ref (qg 3), .ref (qg 4), .ref (qg 5), .ref (qg 6), .ref (qg 7), .ref (qg 8), .ref (qg 9), .ref (qg 10), .ref (qg 11), .ref (qg 12), .ref (qg 13), .ref (qg 14), .ref (qg 15), .null, .int 0, .int 0]))], [(qn 9, .inl (kA 0, 25, .inl (fun _ => 0)))], [(qn 10, .inl (kA 0, 625, .inl (fun _ => 0)))], [(qn 12, .inl (kA 0, 25, .inl (fun _ => 0)))], [(q 5, .inr (1, [.null, .ref (qe 1), .ref (qe 2), .ref (qe 3), .ref (qe 4), .int 0, .int 0, .int 0, .ref (qe 8), .ref (qe 9), .ref (qe 10), .ref (qe 11), .ref (qe 12), .ref (qe 13), .ref (qe 14), .int 0, .int 0, .int 0, .int 0, .ref (qe 19)]))], [(qn 16, .inl (kA 0, 144, .inl (fun _ => 0)))], [(qn 14, .inl (kA 0, 145, .inl (fun _ => 0)))], [(h2, .inr (13, mF qm x0Mo y0Mo))], [(qm 3, .inl (kA 0, 4, .inl (fun _ => 0)))], [(qm 2, .inl (kA 0, 66836, .inl all0))]]) H) (hD : va_D (fun q : Nat => s.heap.size ≤ q) (cat [[(h, .inr (12, [.ref (q 0), .ref (q 1), .ref (q 2), .ref (q 3), .ref (q 4), .ref (q 5), .ref (q 6), .int 0, .int ((-1)), .ref (q 9), .ref (q 10), .int 0, .int 0, .ref (q 13), .int 0, .int 0, .null, .null, .null, .null, .null]))], [(q 2, .inl (kA 6, 4, .inr (.inr (.inr (.inr (rr (g 2)))))))], [(g 2 j, .inr (5, [.int ((-1)), .int ((-1)), .int ((-1)), .int 0, .ref (qn 4), .int 0, .int 0, .ref (qn 7), .ref (qn 8), .ref (qn 9), .ref (qn 10), .ref (qn 11), .ref (qn 12), .int 0, .ref (qn 14), .ref (qn 15), .ref (qn 16)]))], [(q 0, .inl (kA 4, 4, .inr (.inr (.inr (.inr (rr (g 0)))))))], [(g 0 j, .inr (3, [.int 0, .int 0, .int 1, .ref (qg 3), .ref (qg 4), .ref (qg 5), .ref (qg 6), .ref (qg 7), .ref (qg 8), .ref (qg 9), .ref (qg 10), .ref (qg 11), .ref (qg 12), .ref (qg 13), .ref (qg 14), .ref (qg 15), .null, .int 0, .int 0]))], [(qn 9, .inl (kA 0, 25, .inl (fun _ => 0)))], [(qn 10, .inl (kA 0, 625, .inl (fun _ => 0)))], [(qn 12, .inl (kA 0, 25, .inl (fun _ => 0)))], [(q 5, .inr (1, [.null, .ref (qe 1), .ref (qe 2), .ref (qe 3), .ref (qe 4), .int 0, .int 0, .int 0, .ref (qe 8), .ref (qe 9), .ref (qe 10), .ref (qe 11), .ref (qe 12), .ref (qe 13), .ref (qe 14), .int 0, .int 0, .int 0, .int 0, .ref (qe 19)]))], [(qn 16, .inl (kA 0, 144, .inl (fun _ => 0)))], [(qn 14, .inl (kA 0, 145, .inl (fun _ => 0)))], [(h2, .inr (13, mF qm x0Mo y0Mo))], [(qm 3, .inl (kA 0, 4, .inl (fun _ => 0)))], [(qm 2, .inl (kA 0, 66836, .inl all0))]])) (hS : va_S (fun q : Nat => s.heap.size ≤ q) s.heap H locs) (hl : lv_has ls 4 [(3, .int 0), (2, .ref h2), (1, .ref h), (0, .ref b)]) : W p l e room_1 s m #[Value.ref b] below meth c H locs 368 365796 (lw_Z below #[Value.ref b] s) (F0 m 679 ls []) := by
  obtain ⟨hx, hb, hr, hml, hown, hts0, hX, hbl, hlocks, hgv⟩ := id C0
  have hts : ∀ w ∈ lw_g, w.before #[Value.ref b] s = true := fun w h => hts0 w (lw_gt h)
  have X : cx p s m #[Value.ref b] meth c b_law_law 4 ret "DrawingHouseLaw" meth.name := ⟨hx, hb, hml, hown, hts, hr, hlocks, rfl⟩
  obtain ⟨A, hAe⟩ : ∃ A : Nat → Prop, A = fun q : Nat => s.heap.size ≤ q := ⟨_, rfl⟩
  have hA : ∀ q : Nat, s.heap.size ≤ q → A q := fun q h => by rw [hAe]; exact h
  have hbA : ¬ A b := by rw [hAe]; exact Nat.not_le.mpr hbl
  rw [← hAe] at hD hS
  refine lv_aload_n (pc := 679) hx hb d_law_law_679 rfl (lv_at hl 2 rfl) ?_
  refine lv_aload_n (pc := 680) hx hb d_law_law_680 rfl (lv_at hl 3 rfl) ?_
  refine lv_iload_n (pc := 681) hx hb d_law_law_681 rfl (lv_at hl 0 rfl) ?_
  refine lv_iconst (pc := 682) (v := 1) hx hb d_law_law_682 (by decide) ?_
  refine lv_iadd (pc := 683) hx hb d_law_law_683 ?_
  refine k_cst (v := 1) (by decide) ?_
  refine va_sld (pc := 684) hx hb hX hbl hbA hS (by unfold vp_in; decide) d_law_law_684 ?_
  refine k_cst (v := nI j) hv1 ?_
  refine lv_aload_n (pc := 685) hx hb d_law_law_685 rfl (lv_at hl 3 rfl) ?_
  refine lv_iload_n (pc := 686) hx hb d_law_law_686 rfl (lv_at hl 0 rfl) ?_
  refine lv_iconst (pc := 687) (v := 2) hx hb d_law_law_687 (by decide) ?_
  refine lv_iadd (pc := 688) hx hb d_law_law_688 ?_
  refine k_cst (v := 2) (by decide) ?_
  refine va_sld (pc := 689) hx hb hX hbl hbA hS (by unfold vp_in; decide) d_law_law_689 ?_
  refine k_cst (v := v2) hv2 ?_
  refine k_goI (gr := [[(h2, .inr (13, mF qm x0Mo y0Mo))], [(qm 3, .inl (kA 0, 4, .inl (fun _ => 0)))], [(qm 2, .inl (kA 0, 66836, .inl all0))]]) (k_rV (pc := 690) (As := [.int (nI j), .int v2]) (rest := []) X (c_Ho_planar_z2 l D kA h j v2 (q 0) (q 1) (q 2) (q 3) (q 4) (q 5) (q 6) (q 9) (q 10) (q 13) g (qn 4) (qn 7) (qn 8) (qn 9) (qn 10) (qn 11) (qn 12) (qn 14) (qn 15) (qn 16) (qg 3) (qg 4) (qg 5) (qg 6) (qg 7) (qg 8) (qg 9) (qg 10) (qg 11) (qg 12) (qg 13) (qg 14) (qg 15) (fun _ => 0) (fun _ => 0) (fun _ => 0) (qe 1) (qe 2) (qe 3) (qe 4) (qe 8) (qe 9) (qe 10) (qe 11) (qe 12) (qe 13) (qe 14) (qe 19) (fun _ => 0) (fun _ => 0) hj hs2 H.size) rfl wm_1048 wm_1 wm_1045 wm_1046 wm_1047 2 (by decide +kernel) ⟨Nat.le_of_ble_eq_true rfl, Nat.le_of_ble_eq_true rfl⟩ rfl rfl (va_recv hK hP (ci := 12) (q0 := 0) rfl rfl) (k_pre hN hK hP hD [0, 1, 2, 3, 4, 5, 6, 7, 8, 9, 10] [11, 12, 13] 14 rfl (by decide) rfl) rfl hl.1 rfl (Nat.le_of_ble_eq_true rfl) d_law_law_690 ⟨Nat.le_of_ble_eq_true rfl, Nat.le_of_ble_eq_true rfl⟩) hP hD hS hA [0, 1, 2, 3, 4, 5, 6, 7, 8, 9, 10] [11, 12, 13] 14 rfl (by decide) rfl rfl (fun r1 u2 H locs hu2 hP hD hS => ?_)
  obtain ⟨hP, hD⟩ := k_left hP hD
  subst hu2
  have hP : va_P D classes (cat [[(h2, .inr (13, mF qm x0Mo y0Mo))], [(qm 3, .inl (kA 0, 4, .inl (fun _ => 0)))], [(qm 2, .inl (kA 0, 66836, .inl all0))]]) H := hP
  have hD : va_D A (cat [[(h2, .inr (13, mF qm x0Mo y0Mo))], [(qm 3, .inl (kA 0, 4, .inl (fun _ => 0)))], [(qm 2, .inl (kA 0, 66836, .inl all0))]]) := hD
  refine lv_aload_n (pc := 693) hx hb d_law_law_693 rfl (lv_at hl 1 rfl) ?_
  refine lv_aload_n (pc := 694) hx hb d_law_law_694 rfl (lv_at hl 3 rfl) ?_
  refine lv_iload_n (pc := 695) hx hb d_law_law_695 rfl (lv_at hl 0 rfl) ?_
  refine lv_iconst (pc := 696) (v := 1) hx hb d_law_law_696 (by decide) ?_
  refine lv_iadd (pc := 697) hx hb d_law_law_697 ?_
  refine k_cst (v := 1) (by decide) ?_
  refine va_sld (pc := 698) hx hb hX hbl hbA hS (by unfold vp_in; decide) d_law_law_698 ?_
  refine k_cst (v := nI j) hv1 ?_
  refine lv_aload_n (pc := 699) hx hb d_law_law_699 rfl (lv_at hl 3 rfl) ?_
  refine lv_iload_n (pc := 700) hx hb d_law_law_700 rfl (lv_at hl 0 rfl) ?_
  refine lv_iconst (pc := 701) (v := 2) hx hb d_law_law_701 (by decide) ?_
  refine lv_iadd (pc := 702) hx hb d_law_law_702 ?_
  refine k_cst (v := 2) (by decide) ?_
  refine va_sld (pc := 703) hx hb hX hbl hbA hS (by unfold vp_in; decide) d_law_law_703 ?_
  refine k_cst (v := v2) hv2 ?_
  refine k_goI (gr := []) (k_rV (pc := 704) (As := [.int (nI j), .int v2]) (rest := [.int ((-1))]) X (c_Mo_planar_z2 l D kA h2 j v2 qm hj hs2 H.size) rfl wm_3139 wm_9 wm_3136 wm_3137 wm_3138 2 (by decide +kernel) ⟨Nat.le_of_ble_eq_true rfl, Nat.le_of_ble_eq_true rfl⟩ rfl rfl (va_recv hK hP (ci := 13) (q0 := 0) rfl rfl) (k_pre hN hK hP hD [0, 1, 2] [] 3 rfl (by decide) rfl) rfl hl.1 rfl (Nat.le_of_ble_eq_true rfl) d_law_law_704 ⟨Nat.le_of_ble_eq_true rfl, Nat.le_of_ble_eq_true rfl⟩) hP hD hS hA [0, 1, 2] [] 3 rfl (by decide) rfl rfl (fun r3 u4 H locs hu4 hP hD hS => ?_)
  obtain ⟨hP, hD⟩ := k_left hP hD
  subst hu4
  have hP : va_P D classes (cat []) H := hP
  have hD : va_D A (cat []) := hD
  refine lv_icmp_eq (pc := 707) (tgt := 1295) hx hb d_law_law_707 (by decide) (fun _ => ?_) (fun c1 => absurd (by decide) c1)
  rw [hAe] at hS
  exact law_exit l C0 (Nat.le_of_ble_eq_true rfl) (Nat.le_of_ble_eq_true rfl) hS hl
set_option maxRecDepth 100000 in
set_option maxHeartbeats 4000000 in
/-- DrawingHouse.planar(II)I -/
theorem c_Ho_planar_z3 (l : Launch) (D : va_G) (kA : Nat → ClassId) (a0 : Nat) (j : Nat) (a1 : Nat) (a2 : Nat) (a3 : Nat) (a4 : Nat) (a5 : Nat) (a6 : Nat) (a7 : Nat) (a8 : Nat) (a9 : Nat) (a10 : Nat) (g : Nat → Nat → Nat) (a11 : Nat) (a12 : Nat) (a13 : Nat) (a14 : Nat) (a15 : Nat) (a16 : Nat) (a17 : Nat) (a18 : Nat) (a19 : Nat) (a20 : Nat) (a21 : Nat) (a22 : Nat) (a23 : Nat) (a24 : Nat) (a25 : Nat) (a26 : Nat) (a27 : Nat) (a28 : Nat) (a29 : Nat) (a30 : Nat) (a31 : Nat) (a32 : Nat) (a33 : Nat) (f0 : Nat → Int32) (f1 : Nat → Int32) (f2 : Nat → Int32) (a34 : Nat) (a35 : Nat) (a36 : Nat) (a37 : Nat) (a38 : Nat) (a39 : Nat) (a40 : Nat) (a41 : Nat) (a42 : Nat) (a43 : Nat) (a44 : Nat) (a45 : Nat) (f3 : Nat → Int32) (f4 : Nat → Int32) (hj : j < 4) : Ci l y_Ho_planar z_Ho_planar { frames := 4, cells := 0, slots := 0, locals := 95 } D classes (TY kA) [.ref a0, .int (nI j), .int 0] [[(a0, .inr (12, [.ref a1, .ref a2, .ref a3, .ref a4, .ref a5, .ref a6, .ref a7, .int 0, .int ((-1)), .ref a8, .ref a9, .int 0, .int 0, .ref a10, .int 0, .int 0, .null, .null, .null, .null, .null]))], [(a3, .inl (kA 6, 4, .inr (.inr (.inr (.inr (rr (g 2)))))))], [(g 2 j, .inr (5, [.int ((-1)), .int ((-1)), .int ((-1)), .int 0, .ref a11, .int 0, .int 0, .ref a12, .ref a13, .ref a14, .ref a15, .ref a16, .ref a17, .int 0, .ref a18, .ref a19, .ref a20]))], [(a1, .inl (kA 4, 4, .inr (.inr (.inr (.inr (rr (g 0)))))))], [(g 0 j, .inr (3, [.int 0, .int 0, .int 1, .ref a21, .ref a22, .ref a23, .ref a24, .ref a25, .ref a26, .ref a27, .ref a28, .ref a29, .ref a30, .ref a31, .ref a32, .ref a33, .null, .int 0, .int 0]))], [(a14, .inl (kA 0, 25, .inl f0))], [(a15, .inl (kA 0, 625, .inl f1))], [(a17, .inl (kA 0, 25, .inl f2))], [(a6, .inr (1, [.null, .ref a34, .ref a35, .ref a36, .ref a37, .int 0, .int 0, .int 0, .ref a38, .ref a39, .ref a40, .ref a41, .ref a42, .ref a43, .ref a44, .int 0, .int 0, .int 0, .int 0, .ref a45]))], [(a20, .inl (kA 0, 144, .inl f3))], [(a18, .inl (kA 0, 145, .inl f4))]] (fun r (_ : List va_W) => r = 1) (fun u => u) 0 0 := by
  intro sz
  refine k_met (cc := b_Ho_planar) (maxL := 4) (ret := (some .int)) (by decide) rfl (Nat.le_of_ble_eq_true rfl) (fun p e s m below meth c ls X hl hB => ?_)
  obtain ⟨hsz, hP, hK, hD0, hN⟩ := hB
  subst hsz
  have hD := hD0.self (sz := s.heap.size)
  generalize hAe : va_A (cat [[(a0, .inr (12, [.ref a1, .ref a2, .ref a3, .ref a4, .ref a5, .ref a6, .ref a7, .int 0, .int ((-1)), .ref a8, .ref a9, .int 0, .int 0, .ref a10, .int 0, .int 0, .null, .null, .null, .null, .null]))], [(a3, .inl (kA 6, 4, .inr (.inr (.inr (.inr (rr (g 2)))))))], [(g 2 j, .inr (5, [.int ((-1)), .int ((-1)), .int ((-1)), .int 0, .ref a11, .int 0, .int 0, .ref a12, .ref a13, .ref a14, .ref a15, .ref a16, .ref a17, .int 0, .ref a18, .ref a19, .ref a20]))], [(a1, .inl (kA 4, 4, .inr (.inr (.inr (.inr (rr (g 0)))))))], [(g 0 j, .inr (3, [.int 0, .int 0, .int 1, .ref a21, .ref a22, .ref a23, .ref a24, .ref a25, .ref a26, .ref a27, .ref a28, .ref a29, .ref a30, .ref a31, .ref a32, .ref a33, .null, .int 0, .int 0]))], [(a14, .inl (kA 0, 25, .inl f0))], [(a15, .inl (kA 0, 625, .inl f1))], [(a17, .inl (kA 0, 25, .inl f2))], [(a6, .inr (1, [.null, .ref a34, .ref a35, .ref a36, .ref a37, .int 0, .int 0, .int 0, .ref a38, .ref a39, .ref a40, .ref a41, .ref a42, .ref a43, .ref a44, .int 0, .int 0, .int 0, .int 0, .ref a45]))], [(a20, .inl (kA 0, 144, .inl f3))], [(a18, .inl (kA 0, 145, .inl f4))]]) s.heap.size = A at hD ⊢
  have hA : ∀ q : Nat, s.heap.size ≤ q → A q := fun q h => by rw [← hAe]; exact Or.inr h
  have hS : va_S A s.heap s.heap [] := va_S.rf
  obtain ⟨hx, hb, hml, hown, hts, hr, hlk, hnm⟩ := id X
  have hl : lv_has ls 4 [(0, .ref a0), (1, .int (nI j)), (2, .int 0)] := hl
  have hP : va_P D classes (cat [[(a0, .inr (12, [.ref a1, .ref a2, .ref a3, .ref a4, .ref a5, .ref a6, .ref a7, .int 0, .int ((-1)), .ref a8, .ref a9, .int 0, .int 0, .ref a10, .int 0, .int 0, .null, .null, .null, .null, .null]))], [(a3, .inl (kA 6, 4, .inr (.inr (.inr (.inr (rr (g 2)))))))], [(g 2 j, .inr (5, [.int ((-1)), .int ((-1)), .int ((-1)), .int 0, .ref a11, .int 0, .int 0, .ref a12, .ref a13, .ref a14, .ref a15, .ref a16, .ref a17, .int 0, .ref a18, .ref a19, .ref a20]))], [(a1, .inl (kA 4, 4, .inr (.inr (.inr (.inr (rr (g 0)))))))], [(g 0 j, .inr (3, [.int 0, .int 0, .int 1, .ref a21, .ref a22, .ref a23, .ref a24, .ref a25, .ref a26, .ref a27, .ref a28, .ref a29, .ref a30, .ref a31, .ref a32, .ref a33, .null, .int 0, .int 0]))], [(a14, .inl (kA 0, 25, .inl f0))], [(a15, .inl (kA 0, 625, .inl f1))], [(a17, .inl (kA 0, 25, .inl f2))], [(a6, .inr (1, [.null, .ref a34, .ref a35, .ref a36, .ref a37, .int 0, .int 0, .int 0, .ref a38, .ref a39, .ref a40, .ref a41, .ref a42, .ref a43, .ref a44, .int 0, .int 0, .int 0, .int 0, .ref a45]))], [(a20, .inl (kA 0, 144, .inl f3))], [(a18, .inl (kA 0, 145, .inl f4))]]) s.heap := hP
  have hK : va_K D classes (TY kA) s := hK
  refine lv_iload_n (pc := 0) hx hb d_Ho_planar_0 rfl (lv_at hl 1 rfl) ?_
  refine k_goI (gr := [[(a0, .inr (12, [.ref a1, .ref a2, .ref a3, .ref a4, .ref a5, .ref a6, .ref a7, .int 0, .int ((-1)), .ref a8, .ref a9, .int 0, .int 0, .ref a10, .int 0, .int 0, .null, .null, .null, .null, .null]))], [(a3, .inl (kA 6, 4, .inr (.inr (.inr (.inr (rr (g 2)))))))], [(g 2 j, .inr (5, [.int ((-1)), .int ((-1)), .int ((-1)), .int 0, .ref a11, .int 0, .int 0, .ref a12, .ref a13, .ref a14, .ref a15, .ref a16, .ref a17, .int 0, .ref a18, .ref a19, .ref a20]))], [(a1, .inl (kA 4, 4, .inr (.inr (.inr (.inr (rr (g 0)))))))], [(g 0 j, .inr (3, [.int 0, .int 0, .int 1, .ref a21, .ref a22, .ref a23, .ref a24, .ref a25, .ref a26, .ref a27, .ref a28, .ref a29, .ref a30, .ref a31, .ref a32, .ref a33, .null, .int 0, .int 0]))], [(a14, .inl (kA 0, 25, .inl f0))], [(a15, .inl (kA 0, 625, .inl f1))], [(a17, .inl (kA 0, 25, .inl f2))], [(a6, .inr (1, [.null, .ref a34, .ref a35, .ref a36, .ref a37, .int 0, .int 0, .int 0, .ref a38, .ref a39, .ref a40, .ref a41, .ref a42, .ref a43, .ref a44, .int 0, .int 0, .int 0, .int 0, .ref a45]))], [(a20, .inl (kA 0, 144, .inl f3))], [(a18, .inl (kA 0, 145, .inl f4))]]) (k_rS (pc := 1) (As := [.int (nI j)]) (rest := []) X (c_Ho_isPlace l D kA (nI j) s.heap.size) rfl wm_633 wm_1 wm_631 wm_632 1 (by decide +kernel) ⟨Nat.le_of_ble_eq_true rfl, Nat.le_of_ble_eq_true rfl⟩ rfl rfl (k_pre hN hK hP hD [] [0, 1, 2, 3, 4, 5, 6, 7, 8, 9, 10] 11 rfl (by decide) rfl) rfl hl.1 rfl (Nat.le_of_ble_eq_true rfl) d_Ho_planar_1 ⟨Nat.le_of_ble_eq_true rfl, Nat.le_of_ble_eq_true rfl⟩) hP hD hS hA [] [0, 1, 2, 3, 4, 5, 6, 7, 8, 9, 10] 11 rfl (by decide) rfl rfl (fun r1 u2 H locs hu2 hP hD hS => ?_)
  subst hu2
  refine k_cst (v := 1) (place_ok hj) ?_
  have hP : va_P D classes (cat [[(a0, .inr (12, [.ref a1, .ref a2, .ref a3, .ref a4, .ref a5, .ref a6, .ref a7, .int 0, .int ((-1)), .ref a8, .ref a9, .int 0, .int 0, .ref a10, .int 0, .int 0, .null, .null, .null, .null, .null]))], [(a3, .inl (kA 6, 4, .inr (.inr (.inr (.inr (rr (g 2)))))))], [(g 2 j, .inr (5, [.int ((-1)), .int ((-1)), .int ((-1)), .int 0, .ref a11, .int 0, .int 0, .ref a12, .ref a13, .ref a14, .ref a15, .ref a16, .ref a17, .int 0, .ref a18, .ref a19, .ref a20]))], [(a1, .inl (kA 4, 4, .inr (.inr (.inr (.inr (rr (g 0)))))))], [(g 0 j, .inr (3, [.int 0, .int 0, .int 1, .ref a21, .ref a22, .ref a23, .ref a24, .ref a25, .ref a26, .ref a27, .ref a28, .ref a29, .ref a30, .ref a31, .ref a32, .ref a33, .null, .int 0, .int 0]))], [(a14, .inl (kA 0, 25, .inl f0))], [(a15, .inl (kA 0, 625, .inl f1))], [(a17, .inl (kA 0, 25, .inl f2))], [(a6, .inr (1, [.null, .ref a34, .ref a35, .ref a36, .ref a37, .int 0, .int 0, .int 0, .ref a38, .ref a39, .ref a40, .ref a41, .ref a42, .ref a43, .ref a44, .int 0, .int 0, .int 0, .int 0, .ref a45]))], [(a20, .inl (kA 0, 144, .inl f3))], [(a18, .inl (kA 0, 145, .inl f4))]]) H := hP
  have hD : va_D A (cat [[(a0, .inr (12, [.ref a1, .ref a2, .ref a3, .ref a4, .ref a5, .ref a6, .ref a7, .int 0, .int ((-1)), .ref a8, .ref a9, .int 0, .int 0, .ref a10, .int 0, .int 0, .null, .null, .null, .null, .null]))], [(a3, .inl (kA 6, 4, .inr (.inr (.inr (.inr (rr (g 2)))))))], [(g 2 j, .inr (5, [.int ((-1)), .int ((-1)), .int ((-1)), .int 0, .ref a11, .int 0, .int 0, .ref a12, .ref a13, .ref a14, .ref a15, .ref a16, .ref a17, .int 0, .ref a18, .ref a19, .ref a20]))], [(a1, .inl (kA 4, 4, .inr (.inr (.inr (.inr (rr (g 0)))))))], [(g 0 j, .inr (3, [.int 0, .int 0, .int 1, .ref a21, .ref a22, .ref a23, .ref a24, .ref a25, .ref a26, .ref a27, .ref a28, .ref a29, .ref a30, .ref a31, .ref a32, .ref a33, .null, .int 0, .int 0]))], [(a14, .inl (kA 0, 25, .inl f0))], [(a15, .inl (kA 0, 625, .inl f1))], [(a17, .inl (kA 0, 25, .inl f2))], [(a6, .inr (1, [.null, .ref a34, .ref a35, .ref a36, .ref a37, .int 0, .int 0, .int 0, .ref a38, .ref a39, .ref a40, .ref a41, .ref a42, .ref a43, .ref a44, .int 0, .int 0, .int 0, .int 0, .ref a45]))], [(a20, .inl (kA 0, 144, .inl f3))], [(a18, .inl (kA 0, 145, .inl f4))]]) := hD
  refine lv_if_ne (pc := 4) (tgt := 9) hx hb d_Ho_planar_4 (by decide) (fun c1 => ?_) (fun c1 => absurd c1 (by decide))
  refine lv_aload_n (pc := 9) hx hb d_Ho_planar_9 rfl (lv_at hl 0 rfl) ?_
  refine lv_iload_n (pc := 10) hx hb d_Ho_planar_10 rfl (lv_at hl 1 rfl) ?_
  refine k_goR (gr := []) (k_rV (pc := 11) (As := [.int (nI j)]) (rest := []) X (c_Ho_embedded_z1 l D kA a0 j a1 a2 a3 a4 a5 a6 a7 a8 a9 a10 g a11 a12 a13 a14 a15 a16 a17 a18 a19 a20 a21 a22 a23 a24 a25 a26 a27 a28 a29 a30 a31 a32 a33 f0 f1 f2 a34 a35 a36 a37 a38 a39 a40 a41 a42 a43 a44 a45 f3 f4 hj H.size) rfl wm_1052 wm_1 wm_1049 wm_1051 wv_3_6 1 (by decide +kernel) ⟨Nat.le_of_ble_eq_true rfl, Nat.le_of_ble_eq_true rfl⟩ rfl rfl (va_recv hK hP (ci := 12) (q0 := 0) rfl rfl) (k_pre hN hK hP hD [0, 1, 2, 3, 4, 5, 6, 7, 8, 9, 10] [] 11 rfl (by decide) rfl) rfl hl.1 rfl (Nat.le_of_ble_eq_true rfl) d_Ho_planar_11 ⟨Nat.le_of_ble_eq_true rfl, Nat.le_of_ble_eq_true rfl⟩) hP hD hS hA [0, 1, 2, 3, 4, 5, 6, 7, 8, 9, 10] [] 11 rfl (by decide) rfl rfl (fun u4 H locs hu4 hP hD hS => ?_)
  have hP : va_P D classes (cat [[(a0, .inr (12, [.ref a1, .ref a2, .ref a3, .ref a4, .ref a5, .ref a6, .ref a7, .int 0, .int ((-1)), .ref a8, .ref a9, .int 0, .int 0, .ref a10, .int 0, .int 0, .null, .null, .null, .null, .null]))], [(a3, .inl (kA 6, 4, .inr (.inr (.inr (.inr (rr (g 2)))))))], [(g 2 j, .inr (5, [.int 1, .int ((-1)), .int ((-1)), .int 0, .ref a11, .int 0, .int 0, .ref a12, .ref a13, .ref a14, .ref a15, .ref a16, .ref a17, .int 0, .ref a18, .ref a19, .ref a20]))], [(a1, .inl (kA 4, 4, .inr (.inr (.inr (.inr (rr (g 0)))))))], [(g 0 j, .inr (3, [.int 0, .int 0, .int 1, .ref a21, .ref a22, .ref a23, .ref a24, .ref a25, .ref a26, .ref a27, .ref a28, .ref a29, .ref a30, .ref a31, .ref a32, .ref a33, .null, .int 0, .int 0]))], [(a14, .inl (kA 0, 25, .inl (fl f0 25 0)))], [(a15, .inl (kA 0, 625, .inl (fl f1 625 (-1))))], [(a17, .inl (kA 0, 25, .inl (fl f2 25 (-1))))], [(a6, .inr (1, [.ref (g 2 j), .ref a34, .ref a35, .ref a36, .ref a37, .int 0, .int 0, .int 0, .ref a38, .ref a39, .ref a40, .ref a41, .ref a42, .ref a43, .ref a44, .int 0, .int 0, .int 0, .int 0, .ref a45]))], [(a20, .inl (kA 0, 144, .inl (fl f3 144 (-1))))], [(a18, .inl (kA 0, 145, .inl (upd (f4) 0 0)))]]) H := hP
  have hD : va_D A (cat [[(a0, .inr (12, [.ref a1, .ref a2, .ref a3, .ref a4, .ref a5, .ref a6, .ref a7, .int 0, .int ((-1)), .ref a8, .ref a9, .int 0, .int 0, .ref a10, .int 0, .int 0, .null, .null, .null, .null, .null]))], [(a3, .inl (kA 6, 4, .inr (.inr (.inr (.inr (rr (g 2)))))))], [(g 2 j, .inr (5, [.int 1, .int ((-1)), .int ((-1)), .int 0, .ref a11, .int 0, .int 0, .ref a12, .ref a13, .ref a14, .ref a15, .ref a16, .ref a17, .int 0, .ref a18, .ref a19, .ref a20]))], [(a1, .inl (kA 4, 4, .inr (.inr (.inr (.inr (rr (g 0)))))))], [(g 0 j, .inr (3, [.int 0, .int 0, .int 1, .ref a21, .ref a22, .ref a23, .ref a24, .ref a25, .ref a26, .ref a27, .ref a28, .ref a29, .ref a30, .ref a31, .ref a32, .ref a33, .null, .int 0, .int 0]))], [(a14, .inl (kA 0, 25, .inl (fl f0 25 0)))], [(a15, .inl (kA 0, 625, .inl (fl f1 625 (-1))))], [(a17, .inl (kA 0, 25, .inl (fl f2 25 (-1))))], [(a6, .inr (1, [.ref (g 2 j), .ref a34, .ref a35, .ref a36, .ref a37, .int 0, .int 0, .int 0, .ref a38, .ref a39, .ref a40, .ref a41, .ref a42, .ref a43, .ref a44, .int 0, .int 0, .int 0, .int 0, .ref a45]))], [(a20, .inl (kA 0, 144, .inl (fl f3 144 (-1))))], [(a18, .inl (kA 0, 145, .inl (upd (f4) 0 0)))]]) := hD
  refine lv_astore_n (pc := 14) (lv' := [(3, .ref (g 2 j)), (0, .ref a0), (1, .int (nI j)), (2, .int 0)]) hx hb d_Ho_planar_14 rfl hl (by decide) rfl (fun ls hl => ?_)
  refine lv_iload_n (pc := 15) hx hb d_Ho_planar_15 rfl (lv_at hl 3 rfl) ?_
  refine lv_tableIn (pc := 16) (tgt := 52) hx hb d_Ho_planar_16 (by decide) (by decide) rfl (by decide) ?_
  refine lv_aload_n (pc := 52) hx hb d_Ho_planar_52 rfl (lv_at hl 0 rfl) ?_
  refine k_get (pc := 53) X hK hP 2 rfl rfl i_Ne 0 (by decide) wm_250 rfl rfl d_Ho_planar_53 ?_
  refine W.widen (k := 0) (n := 0) (Nat.le_of_ble_eq_true rfl) (Nat.le_of_ble_eq_true rfl) ?_
  exact W.iret (v := 1) hx hb hr (fun t ht hW => ⟨⟨1, [[(a0, .inr (12, [.ref a1, .ref a2, .ref a3, .ref a4, .ref a5, .ref a6, .ref a7, .int 0, .int ((-1)), .ref a8, .ref a9, .int 0, .int 0, .ref a10, .int 0, .int 0, .null, .null, .null, .null, .null]))], [(a3, .inl (kA 6, 4, .inr (.inr (.inr (.inr (rr (g 2)))))))], [(g 2 j, .inr (5, [.int 1, .int ((-1)), .int ((-1)), .int 0, .ref a11, .int 0, .int 0, .ref a12, .ref a13, .ref a14, .ref a15, .ref a16, .ref a17, .int 0, .ref a18, .ref a19, .ref a20]))], [(a1, .inl (kA 4, 4, .inr (.inr (.inr (.inr (rr (g 0)))))))], [(g 0 j, .inr (3, [.int 0, .int 0, .int 1, .ref a21, .ref a22, .ref a23, .ref a24, .ref a25, .ref a26, .ref a27, .ref a28, .ref a29, .ref a30, .ref a31, .ref a32, .ref a33, .null, .int 0, .int 0]))], [(a14, .inl (kA 0, 25, .inl (fl f0 25 0)))], [(a15, .inl (kA 0, 625, .inl (fl f1 625 (-1))))], [(a17, .inl (kA 0, 25, .inl (fl f2 25 (-1))))], [(a6, .inr (1, [.ref (g 2 j), .ref a34, .ref a35, .ref a36, .ref a37, .int 0, .int 0, .int 0, .ref a38, .ref a39, .ref a40, .ref a41, .ref a42, .ref a43, .ref a44, .int 0, .int 0, .int 0, .int 0, .ref a45]))], [(a20, .inl (kA 0, 144, .inl (fl f3 144 (-1))))], [(a18, .inl (kA 0, 145, .inl (upd (f4) 0 0)))]], rfl, rfl, by rw [ht]; exact hP, va_K.moved hW.alike hK, hD⟩, hS.F ht⟩) hS.2.2 d_Ho_planar_56
set_option maxRecDepth 100000 in
set_option maxHeartbeats 4000000 in
/-- DrawingHouseModel.in(III)Z -/
theorem c_Mo_in_z21 (l : Launch) (D : va_G) (kA : Nat → ClassId) : Ci l y_Mo_in z_Mo_in { frames := 0, cells := 0, slots := 0, locals := 0 } D classes (TY kA) [.int 0, .int 0, .int 4] [] (fun r (_ : Unit) => r = 1) (fun u => []) 0 0 := by
  intro sz
  refine k_met (cc := b_Mo_in) (maxL := 3) (ret := (some .boolean)) (by decide) rfl (Nat.le_of_ble_eq_true rfl) (fun p e s m below meth c ls X hl hB => ?_)
  obtain ⟨hsz, hP, hK, hD0, hN⟩ := hB
  subst hsz
  have hD := hD0.self (sz := s.heap.size)
  generalize hAe : va_A (cat []) s.heap.size = A at hD ⊢
  have hA : ∀ q : Nat, s.heap.size ≤ q → A q := fun q h => by rw [← hAe]; exact Or.inr h
  have hS : va_S A s.heap s.heap [] := va_S.rf
  obtain ⟨hx, hb, hml, hown, hts, hr, hlk, hnm⟩ := id X
  have hl : lv_has ls 3 [(0, .int 0), (1, .int 0), (2, .int 4)] := hl
  have hP : va_P D classes (cat []) s.heap := hP
  have hK : va_K D classes (TY kA) s := hK
  refine lv_iload_n (pc := 0) hx hb d_Mo_in_0 rfl (lv_at hl 0 rfl) ?_
  refine lv_iload_n (pc := 1) hx hb d_Mo_in_1 rfl (lv_at hl 1 rfl) ?_
  refine lv_icmp_lt (pc := 2) (tgt := 14) hx hb d_Mo_in_2 (by decide) (fun c1 => absurd c1 (by decide)) (fun _ => ?_)
  refine lv_iload_n (pc := 5) hx hb d_Mo_in_5 rfl (lv_at hl 0 rfl) ?_
  refine lv_iload_n (pc := 6) hx hb d_Mo_in_6 rfl (lv_at hl 2 rfl) ?_
  refine lv_icmp_gt (pc := 7) (tgt := 14) hx hb d_Mo_in_7 (by decide) (fun c1 => absurd c1 (by decide)) (fun _ => ?_)
  refine lv_iconst (pc := 10) (v := 1) hx hb d_Mo_in_10 (by decide) ?_
  refine lv_goto (pc := 11) (tgt := 15) hx hb d_Mo_in_11 (by decide) ?_
  refine W.widen (k := 0) (n := 0) (Nat.le_of_ble_eq_true rfl) (Nat.le_of_ble_eq_true rfl) ?_
  exact W.zret (v := 1) hx hb hr rfl (fun t ht hW => ⟨⟨1, (), rfl, rfl, by rw [ht]; exact hP, va_K.moved hW.alike hK, hD⟩, hS.F ht⟩) hS.2.2 d_Mo_in_15
set_option maxRecDepth 100000 in
set_option maxHeartbeats 4000000 in
/-- DrawingHouseModel.planar(II)I -/
theorem c_Mo_planar_z3 (l : Launch) (D : va_G) (kA : Nat → ClassId) (a0 : Nat) (j : Nat) (qm : Nat → Nat) (hj : j < 4) : Ci l y_Mo_planar z_Mo_planar { frames := 3, cells := 0, slots := 0, locals := 66 } D classes (TY kA) [.ref a0, .int (nI j), .int 0] [[(a0, .inr (13, mF qm x0Mo y0Mo))], [(qm 3, .inl (kA 0, 4, .inl (fun _ => 0)))], [(qm 2, .inl (kA 0, 66836, .inl all0))]] (fun r (_ : List va_W) => r = 1) (fun u => u) 0 0 := by
  intro sz
  refine k_met (cc := b_Mo_planar) (maxL := 4) (ret := (some .int)) (by decide) rfl (Nat.le_of_ble_eq_true rfl) (fun p e s m below meth c ls X hl hB => ?_)
  obtain ⟨hsz, hP, hK, hD0, hN⟩ := hB
  subst hsz
  have hD := hD0.self (sz := s.heap.size)
  generalize hAe : va_A (cat [[(a0, .inr (13, mF qm x0Mo y0Mo))], [(qm 3, .inl (kA 0, 4, .inl (fun _ => 0)))], [(qm 2, .inl (kA 0, 66836, .inl all0))]]) s.heap.size = A at hD ⊢
  have hA : ∀ q : Nat, s.heap.size ≤ q → A q := fun q h => by rw [← hAe]; exact Or.inr h
  have hS : va_S A s.heap s.heap [] := va_S.rf
  obtain ⟨hx, hb, hml, hown, hts, hr, hlk, hnm⟩ := id X
  have hl : lv_has ls 4 [(0, .ref a0), (1, .int (nI j)), (2, .int 0)] := hl
  have hP : va_P D classes (cat [[(a0, .inr (13, mF qm x0Mo y0Mo))], [(qm 3, .inl (kA 0, 4, .inl (fun _ => 0)))], [(qm 2, .inl (kA 0, 66836, .inl all0))]]) s.heap := hP
  have hK : va_K D classes (TY kA) s := hK
  refine lv_iload_n (pc := 0) hx hb d_Mo_planar_0 rfl (lv_at hl 1 rfl) ?_
  refine k_goI (gr := [[(a0, .inr (13, mF qm x0Mo y0Mo))], [(qm 3, .inl (kA 0, 4, .inl (fun _ => 0)))], [(qm 2, .inl (kA 0, 66836, .inl all0))]]) (k_rS (pc := 1) (As := [.int (nI j)]) (rest := []) X (c_Mo_isPlace l D kA (nI j) s.heap.size) rfl wm_2978 wm_9 wm_2976 wm_2977 1 (by decide +kernel) ⟨Nat.le_of_ble_eq_true rfl, Nat.le_of_ble_eq_true rfl⟩ rfl rfl (k_pre hN hK hP hD [] [0, 1, 2] 3 rfl (by decide) rfl) rfl hl.1 rfl (Nat.le_of_ble_eq_true rfl) d_Mo_planar_1 ⟨Nat.le_of_ble_eq_true rfl, Nat.le_of_ble_eq_true rfl⟩) hP hD hS hA [] [0, 1, 2] 3 rfl (by decide) rfl rfl (fun r1 u2 H locs hu2 hP hD hS => ?_)
  subst hu2
  refine k_cst (v := 1) (placeM_ok hj) ?_
  have hP : va_P D classes (cat [[(a0, .inr (13, mF qm x0Mo y0Mo))], [(qm 3, .inl (kA 0, 4, .inl (fun _ => 0)))], [(qm 2, .inl (kA 0, 66836, .inl all0))]]) H := hP
  have hD : va_D A (cat [[(a0, .inr (13, mF qm x0Mo y0Mo))], [(qm 3, .inl (kA 0, 4, .inl (fun _ => 0)))], [(qm 2, .inl (kA 0, 66836, .inl all0))]]) := hD
  refine lv_if_eq (pc := 4) (tgt := 16) hx hb d_Mo_planar_4 (by decide) (fun c1 => absurd c1 (by decide)) (fun c1 => ?_)
  refine lv_iload_n (pc := 7) hx hb d_Mo_planar_7 rfl (lv_at hl 2 rfl) ?_
  refine lv_iconst (pc := 8) (v := 0) hx hb d_Mo_planar_8 (by decide) ?_
  refine lv_iconst (pc := 9) (v := 4) hx hb d_Mo_planar_9 (by decide) ?_
  refine k_goI (gr := [[(a0, .inr (13, mF qm x0Mo y0Mo))], [(qm 3, .inl (kA 0, 4, .inl (fun _ => 0)))], [(qm 2, .inl (kA 0, 66836, .inl all0))]]) (k_rS (pc := 10) (As := [.int 0, .int 0, .int 4]) (rest := []) X (c_Mo_in_z21 l D kA  H.size) rfl wm_2971 wm_9 wm_2969 wm_2970 3 (by decide +kernel) ⟨Nat.le_of_ble_eq_true rfl, Nat.le_of_ble_eq_true rfl⟩ rfl rfl (k_pre hN hK hP hD [] [0, 1, 2] 3 rfl (by decide) rfl) rfl hl.1 rfl (Nat.le_of_ble_eq_true rfl) d_Mo_planar_10 ⟨Nat.le_of_ble_eq_true rfl, Nat.le_of_ble_eq_true rfl⟩) hP hD hS hA [] [0, 1, 2] 3 rfl (by decide) rfl rfl (fun r3 u4 H locs hu4 hP hD hS => ?_)
  subst hu4
  have hP : va_P D classes (cat [[(a0, .inr (13, mF qm x0Mo y0Mo))], [(qm 3, .inl (kA 0, 4, .inl (fun _ => 0)))], [(qm 2, .inl (kA 0, 66836, .inl all0))]]) H := hP
  have hD : va_D A (cat [[(a0, .inr (13, mF qm x0Mo y0Mo))], [(qm 3, .inl (kA 0, 4, .inl (fun _ => 0)))], [(qm 2, .inl (kA 0, 66836, .inl all0))]]) := hD
  refine lv_if_ne (pc := 13) (tgt := 18) hx hb d_Mo_planar_13 (by decide) (fun c1 => ?_) (fun c1 => absurd c1 (by decide))
  refine lv_aload_n (pc := 18) hx hb d_Mo_planar_18 rfl (lv_at hl 0 rfl) ?_
  refine lv_iload_n (pc := 19) hx hb d_Mo_planar_19 rfl (lv_at hl 1 rfl) ?_
  refine k_goV (gr := [[(qm 2, .inl (kA 0, 66836, .inl all0))]]) (k_rV (pc := 20) (As := [.int (nI j)]) (rest := []) X (c_Mo_take_z1 l D kA a0 j qm hj H.size) rfl wm_3091 wm_9 wm_3088 wm_3090 wv_14_2 1 (by decide +kernel) ⟨Nat.le_of_ble_eq_true rfl, Nat.le_of_ble_eq_true rfl⟩ rfl rfl (va_recv hK hP (ci := 13) (q0 := 0) rfl rfl) (k_pre hN hK hP hD [0, 1] [2] 3 rfl (by decide) rfl) rfl hl.1 rfl (Nat.le_of_ble_eq_true rfl) d_Mo_planar_20 ⟨Nat.le_of_ble_eq_true rfl, Nat.le_of_ble_eq_true rfl⟩) hP hD hS hA [0, 1] [2] 3 rfl (by decide) rfl rfl (fun u5 H locs hu5 hP hD hS => ?_)
  have hP : va_P D classes (cat [[(qm 2, .inl (kA 0, 66836, .inl all0))], [(a0, .inr (13, mF qm (va_up x0Mo 5 (nI (539 * (31 * j + 0)))) y0Mo))], [(qm 3, .inl (kA 0, 4, .inl (fun _ => 0)))]]) H := hP
  have hD : va_D A (cat [[(qm 2, .inl (kA 0, 66836, .inl all0))], [(a0, .inr (13, mF qm (va_up x0Mo 5 (nI (539 * (31 * j + 0)))) y0Mo))], [(qm 3, .inl (kA 0, 4, .inl (fun _ => 0)))]]) := hD
  refine lv_iload_n (pc := 23) hx hb d_Mo_planar_23 rfl (lv_at hl 2 rfl) ?_
  refine lv_iconst (pc := 24) (v := 1) hx hb d_Mo_planar_24 (by decide) ?_
  refine lv_icmp_ne (pc := 25) (tgt := 41) hx hb d_Mo_planar_25 (by decide) (fun _ => ?_) (fun c1 => absurd c1 (by decide))
  refine lv_aload_n (pc := 41) hx hb d_Mo_planar_41 rfl (lv_at hl 0 rfl) ?_
  refine k_goI (gr := [[(qm 3, .inl (kA 0, 4, .inl (fun _ => 0)))]]) (k_rV (pc := 42) (As := []) (rest := []) X (c_Mo_isPlanar_z1 l D kA a0 qm j hj H.size) rfl wm_3251 wm_9 wm_3248 wm_3250 wv_16_5 0 (by decide +kernel) ⟨Nat.le_of_ble_eq_true rfl, Nat.le_of_ble_eq_true rfl⟩ rfl rfl (va_recv hK hP (ci := 13) (q0 := 1) rfl rfl) (k_pre hN hK hP hD [1, 0] [2] 3 rfl (by decide) rfl) rfl hl.1 rfl (Nat.le_of_ble_eq_true rfl) d_Mo_planar_42 ⟨Nat.le_of_ble_eq_true rfl, Nat.le_of_ble_eq_true rfl⟩) hP hD hS hA [1, 0] [2] 3 rfl (by decide) rfl rfl (fun r6 u7 H locs hu7 hP hD hS => ?_)
  subst hu7
  have hP : va_P D classes (cat [[(qm 3, .inl (kA 0, 4, .inl (fun _ => 0)))], [(a0, .inr (13, mF qm (va_up (va_up x0Mo 5 (nI (539 * (31 * j + 0)))) 49 (-1)) y0Mo))], [(qm 2, .inl (kA 0, 66836, .inl all0))]]) H := hP
  have hD : va_D A (cat [[(qm 3, .inl (kA 0, 4, .inl (fun _ => 0)))], [(a0, .inr (13, mF qm (va_up (va_up x0Mo 5 (nI (539 * (31 * j + 0)))) 49 (-1)) y0Mo))], [(qm 2, .inl (kA 0, 66836, .inl all0))]]) := hD
  refine lv_istore_n (pc := 45) (lv' := [(3, .int 1), (0, .ref a0), (1, .int (nI j)), (2, .int 0)]) hx hb d_Mo_planar_45 rfl hl (by decide) rfl (fun ls hl => ?_)
  refine lv_iload_n (pc := 46) hx hb d_Mo_planar_46 rfl (lv_at hl 3 rfl) ?_
  refine lv_if_ne (pc := 47) (tgt := 60) hx hb d_Mo_planar_47 (by decide) (fun c1 => absurd (by decide) c1) (fun c1 => ?_)
  refine lv_iload_n (pc := 50) hx hb d_Mo_planar_50 rfl (lv_at hl 0 rfl) ?_
  refine lv_if_eq (pc := 51) (tgt := 58) hx hb d_Mo_planar_51 (by decide) (fun c1 => absurd c1 (by decide)) (fun c1 => ?_)
  refine lv_iconst (pc := 54) (v := 1) hx hb d_Mo_planar_54 (by decide) ?_
  refine lv_goto (pc := 55) (tgt := 59) hx hb d_Mo_planar_55 (by decide) ?_
  refine W.widen (k := 0) (n := 0) (Nat.le_of_ble_eq_true rfl) (Nat.le_of_ble_eq_true rfl) ?_
  exact W.iret (v := 1) hx hb hr (fun t ht hW => ⟨⟨1, [[(qm 3, .inl (kA 0, 4, .inl (fun _ => 0)))], [(a0, .inr (13, mF qm (va_up (va_up x0Mo 5 (nI (539 * (31 * j + 0)))) 49 (-1)) y0Mo))], [(qm 2, .inl (kA 0, 66836, .inl all0))]], rfl, rfl, by rw [ht]; exact hP, va_K.moved hW.alike hK, hD⟩, hS.F ht⟩) hS.2.2 d_Mo_planar_59
set_option maxRecDepth 100000 in
set_option maxHeartbeats 4000000 in
/-- planar, a fresh house -/
theorem lf_planar_3 {p : Program} {e : Env} {s : State} {m : MethodId} {below : List Frame} {meth : Method} {c : Code} (l : Launch) {b : Nat} {xs : Nat → Int32} (C0 : lw_At p s m meth c b 6 xs) {D : va_G} {kA : Nat → ClassId} (h : Nat) (h2 : Nat) (q : Nat → Nat) (qg : Nat → Nat) (qn : Nat → Nat) (qe : Nat → Nat) (qm : Nat → Nat) (g : Nat → Nat → Nat) (j : Nat) (hj : j < 4) (hv1 : xs 1 = nI j) (hv2 : xs 2 = 0) {H : Heap} {locs : List Loc} {ls : Array Slot} (hK : va_K D classes (TY kA) s) (hN : nst s) (hP : va_P D classes (cat [[(h, .inr (12, [.ref (q 0), .ref (q 1), .ref (q 2), .ref (q 3), .ref (q 4), .ref (q 5), .ref (q 6), .int 0, .int ((-1)), .ref (q 9), .ref (q 10), .int 0, .int 0, .ref (q 13), .int 0, .int 0, .null, .null, .null, .null, .null]))], [(q 2, .inl (kA 6, 4, .inr (.inr (.inr (.inr (rr (g 2)))))))], [(g 2 j, .inr (5, [.int ((-1)), .int ((-1)), .int ((-1)), .int 0, .ref (qn 4), .int 0, .int 0, .ref (qn 7), .ref (qn 8), .ref (qn 9), .ref (qn 10), .ref (qn 11), .ref (qn 12), .int 0, .ref (qn 14), .ref (qn 15), .ref (qn 16)]))], [(q 0, .inl (kA 4, 4, .inr (.inr (.inr (.inr (rr (g 0)))))))], [(g 0 j, .inr (3, [.int 0, .int 0, .int 1, .ref (qg 3), .ref (qg 4), .ref (qg 5), .ref (qg 6), .ref (qg 7), .ref (qg 8), .ref (qg 9), .ref (qg 10), .ref (qg 11), .ref (qg 12), .ref (qg 13), .ref (qg 14), .ref (qg 15), .null, .int 0, .int 0]))], [(qn 9, .inl (kA 0, 25, .inl (fun _ => 0)))], [(qn 10, .inl (kA 0, 625, .inl (fun _ => 0)))], [(qn 12, .inl (kA 0, 25, .inl (fun _ => 0)))], [(q 5, .inr (1, [.null, .ref (qe 1), .ref (qe 2), .ref (qe 3), .ref (qe 4), .int 0, .int 0, .int 0, .ref (qe 8), .ref (qe 9), .ref (qe 10), .ref (qe 11), .ref (qe 12), .ref (qe 13), .ref (qe 14), .int 0, .int 0, .int 0, .int 0, .ref (qe 19)]))], [(qn 16, .inl (kA 0, 144, .inl (fun _ => 0)))], [(qn 14, .inl (kA 0, 145, .inl (fun _ => 0)))], [(h2, .inr (13, mF qm x0Mo y0Mo))], [(qm 3, .inl (kA 0, 4, .inl (fun _ => 0)))], [(qm 2, .inl (kA 0, 66836, .inl all0))]]) H) (hD : va_D (fun q : Nat => s.heap.size ≤ q) (cat [[(h, .inr (12, [.ref (q 0), .ref (q 1), .ref (q 2), .ref (q 3), .ref (q 4), .ref (q 5), .ref (q 6), .int 0, .int ((-1)), .ref (q 9), .ref (q 10), .int 0, .int 0, .ref (q 13), .int 0, .int 0, .null, .null, .null, .null, .null]))], [(q 2, .inl (kA 6, 4, .inr (.inr (.inr (.inr (rr (g 2)))))))], [(g 2 j, .inr (5, [.int ((-1)), .int ((-1)), .int ((-1)), .int 0, .ref (qn 4), .int 0, .int 0, .ref (qn 7), .ref (qn 8), .ref (qn 9), .ref (qn 10), .ref (qn 11), .ref (qn 12), .int 0, .ref (qn 14), .ref (qn 15), .ref (qn 16)]))], [(q 0, .inl (kA 4, 4, .inr (.inr (.inr (.inr (rr (g 0)))))))], [(g 0 j, .inr (3, [.int 0, .int 0, .int 1, .ref (qg 3), .ref (qg 4), .ref (qg 5), .ref (qg 6), .ref (qg 7), .ref (qg 8), .ref (qg 9), .ref (qg 10), .ref (qg 11), .ref (qg 12), .ref (qg 13), .ref (qg 14), .ref (qg 15), .null, .int 0, .int 0]))], [(qn 9, .inl (kA 0, 25, .inl (fun _ => 0)))], [(qn 10, .inl (kA 0, 625, .inl (fun _ => 0)))], [(qn 12, .inl (kA 0, 25, .inl (fun _ => 0)))], [(q 5, .inr (1, [.null, .ref (qe 1), .ref (qe 2), .ref (qe 3), .ref (qe 4), .int 0, .int 0, .int 0, .ref (qe 8), .ref (qe 9), .ref (qe 10), .ref (qe 11), .ref (qe 12), .ref (qe 13), .ref (qe 14), .int 0, .int 0, .int 0, .int 0, .ref (qe 19)]))], [(qn 16, .inl (kA 0, 144, .inl (fun _ => 0)))], [(qn 14, .inl (kA 0, 145, .inl (fun _ => 0)))], [(h2, .inr (13, mF qm x0Mo y0Mo))], [(qm 3, .inl (kA 0, 4, .inl (fun _ => 0)))], [(qm 2, .inl (kA 0, 66836, .inl all0))]])) (hS : va_S (fun q : Nat => s.heap.size ≤ q) s.heap H locs) (hl : lv_has ls 4 [(3, .int 0), (2, .ref h2), (1, .ref h), (0, .ref b)]) : W p l e room_1 s m #[Value.ref b] below meth c H locs 368 365796 (lw_Z below #[Value.ref b] s) (F0 m 679 ls []) := by
  obtain ⟨hx, hb, hr, hml, hown, hts0, hX, hbl, hlocks, hgv⟩ := id C0
  have hts : ∀ w ∈ lw_g, w.before #[Value.ref b] s = true := fun w h => hts0 w (lw_gt h)
  have X : cx p s m #[Value.ref b] meth c b_law_law 4 ret "DrawingHouseLaw" meth.name := ⟨hx, hb, hml, hown, hts, hr, hlocks, rfl⟩
  obtain ⟨A, hAe⟩ : ∃ A : Nat → Prop, A = fun q : Nat => s.heap.size ≤ q := ⟨_, rfl⟩
  have hA : ∀ q : Nat, s.heap.size ≤ q → A q := fun q h => by rw [hAe]; exact h
  have hbA : ¬ A b := by rw [hAe]; exact Nat.not_le.mpr hbl
  rw [← hAe] at hD hS
  refine lv_aload_n (pc := 679) hx hb d_law_law_679 rfl (lv_at hl 2 rfl) ?_
  refine lv_aload_n (pc := 680) hx hb d_law_law_680 rfl (lv_at hl 3 rfl) ?_
  refine lv_iload_n (pc := 681) hx hb d_law_law_681 rfl (lv_at hl 0 rfl) ?_
  refine lv_iconst (pc := 682) (v := 1) hx hb d_law_law_682 (by decide) ?_
  refine lv_iadd (pc := 683) hx hb d_law_law_683 ?_
  refine k_cst (v := 1) (by decide) ?_
  refine va_sld (pc := 684) hx hb hX hbl hbA hS (by unfold vp_in; decide) d_law_law_684 ?_
  refine k_cst (v := nI j) hv1 ?_
  refine lv_aload_n (pc := 685) hx hb d_law_law_685 rfl (lv_at hl 3 rfl) ?_
  refine lv_iload_n (pc := 686) hx hb d_law_law_686 rfl (lv_at hl 0 rfl) ?_
  refine lv_iconst (pc := 687) (v := 2) hx hb d_law_law_687 (by decide) ?_
  refine lv_iadd (pc := 688) hx hb d_law_law_688 ?_
  refine k_cst (v := 2) (by decide) ?_
  refine va_sld (pc := 689) hx hb hX hbl hbA hS (by unfold vp_in; decide) d_law_law_689 ?_
  refine k_cst (v := 0) hv2 ?_
  refine k_goI (gr := [[(h2, .inr (13, mF qm x0Mo y0Mo))], [(qm 3, .inl (kA 0, 4, .inl (fun _ => 0)))], [(qm 2, .inl (kA 0, 66836, .inl all0))]]) (k_rV (pc := 690) (As := [.int (nI j), .int 0]) (rest := []) X (c_Ho_planar_z3 l D kA h j (q 0) (q 1) (q 2) (q 3) (q 4) (q 5) (q 6) (q 9) (q 10) (q 13) g (qn 4) (qn 7) (qn 8) (qn 9) (qn 10) (qn 11) (qn 12) (qn 14) (qn 15) (qn 16) (qg 3) (qg 4) (qg 5) (qg 6) (qg 7) (qg 8) (qg 9) (qg 10) (qg 11) (qg 12) (qg 13) (qg 14) (qg 15) (fun _ => 0) (fun _ => 0) (fun _ => 0) (qe 1) (qe 2) (qe 3) (qe 4) (qe 8) (qe 9) (qe 10) (qe 11) (qe 12) (qe 13) (qe 14) (qe 19) (fun _ => 0) (fun _ => 0) hj H.size) rfl wm_1048 wm_1 wm_1045 wm_1046 wm_1047 2 (by decide +kernel) ⟨Nat.le_of_ble_eq_true rfl, Nat.le_of_ble_eq_true rfl⟩ rfl rfl (va_recv hK hP (ci := 12) (q0 := 0) rfl rfl) (k_pre hN hK hP hD [0, 1, 2, 3, 4, 5, 6, 7, 8, 9, 10] [11, 12, 13] 14 rfl (by decide) rfl) rfl hl.1 rfl (Nat.le_of_ble_eq_true rfl) d_law_law_690 ⟨Nat.le_of_ble_eq_true rfl, Nat.le_of_ble_eq_true rfl⟩) hP hD hS hA [0, 1, 2, 3, 4, 5, 6, 7, 8, 9, 10] [11, 12, 13] 14 rfl (by decide) rfl rfl (fun r1 u2 H locs hu2 hP hD hS => ?_)
  obtain ⟨hP, hD⟩ := k_left hP hD
  subst hu2
  have hP : va_P D classes (cat [[(h2, .inr (13, mF qm x0Mo y0Mo))], [(qm 3, .inl (kA 0, 4, .inl (fun _ => 0)))], [(qm 2, .inl (kA 0, 66836, .inl all0))]]) H := hP
  have hD : va_D A (cat [[(h2, .inr (13, mF qm x0Mo y0Mo))], [(qm 3, .inl (kA 0, 4, .inl (fun _ => 0)))], [(qm 2, .inl (kA 0, 66836, .inl all0))]]) := hD
  refine lv_aload_n (pc := 693) hx hb d_law_law_693 rfl (lv_at hl 1 rfl) ?_
  refine lv_aload_n (pc := 694) hx hb d_law_law_694 rfl (lv_at hl 3 rfl) ?_
  refine lv_iload_n (pc := 695) hx hb d_law_law_695 rfl (lv_at hl 0 rfl) ?_
  refine lv_iconst (pc := 696) (v := 1) hx hb d_law_law_696 (by decide) ?_
  refine lv_iadd (pc := 697) hx hb d_law_law_697 ?_
  refine k_cst (v := 1) (by decide) ?_
  refine va_sld (pc := 698) hx hb hX hbl hbA hS (by unfold vp_in; decide) d_law_law_698 ?_
  refine k_cst (v := nI j) hv1 ?_
  refine lv_aload_n (pc := 699) hx hb d_law_law_699 rfl (lv_at hl 3 rfl) ?_
  refine lv_iload_n (pc := 700) hx hb d_law_law_700 rfl (lv_at hl 0 rfl) ?_
  refine lv_iconst (pc := 701) (v := 2) hx hb d_law_law_701 (by decide) ?_
  refine lv_iadd (pc := 702) hx hb d_law_law_702 ?_
  refine k_cst (v := 2) (by decide) ?_
  refine va_sld (pc := 703) hx hb hX hbl hbA hS (by unfold vp_in; decide) d_law_law_703 ?_
  refine k_cst (v := 0) hv2 ?_
  refine k_goI (gr := []) (k_rV (pc := 704) (As := [.int (nI j), .int 0]) (rest := [.int 1]) X (c_Mo_planar_z3 l D kA h2 j qm hj H.size) rfl wm_3139 wm_9 wm_3136 wm_3137 wm_3138 2 (by decide +kernel) ⟨Nat.le_of_ble_eq_true rfl, Nat.le_of_ble_eq_true rfl⟩ rfl rfl (va_recv hK hP (ci := 13) (q0 := 0) rfl rfl) (k_pre hN hK hP hD [0, 1, 2] [] 3 rfl (by decide) rfl) rfl hl.1 rfl (Nat.le_of_ble_eq_true rfl) d_law_law_704 ⟨Nat.le_of_ble_eq_true rfl, Nat.le_of_ble_eq_true rfl⟩) hP hD hS hA [0, 1, 2] [] 3 rfl (by decide) rfl rfl (fun r3 u4 H locs hu4 hP hD hS => ?_)
  obtain ⟨hP, hD⟩ := k_left hP hD
  subst hu4
  have hP : va_P D classes (cat []) H := hP
  have hD : va_D A (cat []) := hD
  refine lv_icmp_eq (pc := 707) (tgt := 1295) hx hb d_law_law_707 (by decide) (fun _ => ?_) (fun c1 => absurd (by decide) c1)
  rw [hAe] at hS
  exact law_exit l C0 (Nat.le_of_ble_eq_true rfl) (Nat.le_of_ble_eq_true rfl) hS hl
set_option maxRecDepth 100000 in
set_option maxHeartbeats 4000000 in
/-- DrawingHouse$Net.begin(I)V -/
theorem c_Ne_begin_z2 (l : Launch) (D : va_G) (kA : Nat → ClassId) (a0 : Nat) (a1 : Nat) (a2 : Nat) (a3 : Nat) (a4 : Nat) (a5 : Nat) (a6 : Nat) (a7 : Nat) (a8 : Nat) (a9 : Nat) (a10 : Nat) (f0 : Nat → Int32) (f1 : Nat → Int32) (f2 : Nat → Int32) : Cv l y_Ne_begin z_Ne_begin { frames := 1, cells := 0, slots := 0, locals := 23 } D classes (TY kA) [.ref a0, .int 0] [[(a0, .inr (5, [.int ((-1)), .int ((-1)), .int ((-1)), .int 0, .ref a1, .int 0, .int 0, .ref a2, .ref a3, .ref a4, .ref a5, .ref a6, .ref a7, .int 0, .ref a8, .ref a9, .ref a10]))], [(a4, .inl (kA 0, 25, .inl f0))], [(a5, .inl (kA 0, 625, .inl f1))], [(a7, .inl (kA 0, 25, .inl f2))]] (fun _ : Unit => True) (fun u => [[(a0, .inr (5, [.int ((-1)), .int ((-1)), .int ((-1)), .int 0, .ref a1, .int 0, .int 0, .ref a2, .ref a3, .ref a4, .ref a5, .ref a6, .ref a7, .int 0, .ref a8, .ref a9, .ref a10]))], [(a4, .inl (kA 0, 25, .inl (fl f0 25 0)))], [(a5, .inl (kA 0, 625, .inl (fl f1 625 (-1))))], [(a7, .inl (kA 0, 25, .inl (fl f2 25 (-1))))]]) 0 0 := by
  intro sz
  refine k_met (cc := b_Ne_begin) (maxL := 2) (ret := none) (by decide) rfl (Nat.le_of_ble_eq_true rfl) (fun p e s m below meth c ls X hl hB => ?_)
  obtain ⟨hsz, hP, hK, hD0, hN⟩ := hB
  subst hsz
  have hD := hD0.self (sz := s.heap.size)
  generalize hAe : va_A (cat [[(a0, .inr (5, [.int ((-1)), .int ((-1)), .int ((-1)), .int 0, .ref a1, .int 0, .int 0, .ref a2, .ref a3, .ref a4, .ref a5, .ref a6, .ref a7, .int 0, .ref a8, .ref a9, .ref a10]))], [(a4, .inl (kA 0, 25, .inl f0))], [(a5, .inl (kA 0, 625, .inl f1))], [(a7, .inl (kA 0, 25, .inl f2))]]) s.heap.size = A at hD ⊢
  have hA : ∀ q : Nat, s.heap.size ≤ q → A q := fun q h => by rw [← hAe]; exact Or.inr h
  have hS : va_S A s.heap s.heap [] := va_S.rf
  obtain ⟨hx, hb, hml, hown, hts, hr, hlk, hnm⟩ := id X
  have hl : lv_has ls 2 [(0, .ref a0), (1, .int 0)] := hl
  have hP : va_P D classes (cat [[(a0, .inr (5, [.int ((-1)), .int ((-1)), .int ((-1)), .int 0, .ref a1, .int 0, .int 0, .ref a2, .ref a3, .ref a4, .ref a5, .ref a6, .ref a7, .int 0, .ref a8, .ref a9, .ref a10]))], [(a4, .inl (kA 0, 25, .inl f0))], [(a5, .inl (kA 0, 625, .inl f1))], [(a7, .inl (kA 0, 25, .inl f2))]]) s.heap := hP
  have hK : va_K D classes (TY kA) s := hK
  refine lv_aload_n (pc := 0) hx hb d_Ne_begin_0 rfl (lv_at hl 0 rfl) ?_
  refine lv_iload_n (pc := 1) hx hb d_Ne_begin_1 rfl (lv_at hl 1 rfl) ?_
  refine k_put (pc := 2) X hK hP hD hS 0 rfl rfl i_Ne t_Ne t_Ne_ok n_Ne 5 (by decide) wm_262 rfl (Or.inl rfl) rfl rfl (Nat.le_of_ble_eq_true rfl) d_Ne_begin_2 (fun H locs hP hD hS => ?_)
  have hP : va_P D classes (cat [[(a0, .inr (5, [.int ((-1)), .int ((-1)), .int ((-1)), .int 0, .ref a1, .int 0, .int 0, .ref a2, .ref a3, .ref a4, .ref a5, .ref a6, .ref a7, .int 0, .ref a8, .ref a9, .ref a10]))], [(a4, .inl (kA 0, 25, .inl f0))], [(a5, .inl (kA 0, 625, .inl f1))], [(a7, .inl (kA 0, 25, .inl f2))]]) H := hP
  have hD : va_D A (cat [[(a0, .inr (5, [.int ((-1)), .int ((-1)), .int ((-1)), .int 0, .ref a1, .int 0, .int 0, .ref a2, .ref a3, .ref a4, .ref a5, .ref a6, .ref a7, .int 0, .ref a8, .ref a9, .ref a10]))], [(a4, .inl (kA 0, 25, .inl f0))], [(a5, .inl (kA 0, 625, .inl f1))], [(a7, .inl (kA 0, 25, .inl f2))]]) := hD
  refine lv_aload_n (pc := 5) hx hb d_Ne_begin_5 rfl (lv_at hl 0 rfl) ?_
  refine lv_iconst (pc := 6) (v := 0) hx hb d_Ne_begin_6 (by decide) ?_
  refine k_put (pc := 7) X hK hP hD hS 0 rfl rfl i_Ne t_Ne t_Ne_ok n_Ne 6 (by decide) wm_265 rfl (Or.inl rfl) rfl rfl (Nat.le_of_ble_eq_true rfl) d_Ne_begin_7 (fun H locs hP hD hS => ?_)
  have hP : va_P D classes (cat [[(a0, .inr (5, [.int ((-1)), .int ((-1)), .int ((-1)), .int 0, .ref a1, .int 0, .int 0, .ref a2, .ref a3, .ref a4, .ref a5, .ref a6, .ref a7, .int 0, .ref a8, .ref a9, .ref a10]))], [(a4, .inl (kA 0, 25, .inl f0))], [(a5, .inl (kA 0, 625, .inl f1))], [(a7, .inl (kA 0, 25, .inl f2))]]) H := hP
  have hD : va_D A (cat [[(a0, .inr (5, [.int ((-1)), .int ((-1)), .int ((-1)), .int 0, .ref a1, .int 0, .int 0, .ref a2, .ref a3, .ref a4, .ref a5, .ref a6, .ref a7, .int 0, .ref a8, .ref a9, .ref a10]))], [(a4, .inl (kA 0, 25, .inl f0))], [(a5, .inl (kA 0, 625, .inl f1))], [(a7, .inl (kA 0, 25, .inl f2))]]) := hD
  refine lv_aload_n (pc := 10) hx hb d_Ne_begin_10 rfl (lv_at hl 0 rfl) ?_
  refine lv_iconst (pc := 11) (v := 0) hx hb d_Ne_begin_11 (by decide) ?_
  refine k_put (pc := 12) X hK hP hD hS 0 rfl rfl i_Ne t_Ne t_Ne_ok n_Ne 13 (by decide) wm_282 rfl (Or.inl rfl) rfl rfl (Nat.le_of_ble_eq_true rfl) d_Ne_begin_12 (fun H locs hP hD hS => ?_)
  have hP : va_P D classes (cat [[(a0, .inr (5, [.int ((-1)), .int ((-1)), .int ((-1)), .int 0, .ref a1, .int 0, .int 0, .ref a2, .ref a3, .ref a4, .ref a5, .ref a6, .ref a7, .int 0, .ref a8, .ref a9, .ref a10]))], [(a4, .inl (kA 0, 25, .inl f0))], [(a5, .inl (kA 0, 625, .inl f1))], [(a7, .inl (kA 0, 25, .inl f2))]]) H := hP
  have hD : va_D A (cat [[(a0, .inr (5, [.int ((-1)), .int ((-1)), .int ((-1)), .int 0, .ref a1, .int 0, .int 0, .ref a2, .ref a3, .ref a4, .ref a5, .ref a6, .ref a7, .int 0, .ref a8, .ref a9, .ref a10]))], [(a4, .inl (kA 0, 25, .inl f0))], [(a5, .inl (kA 0, 625, .inl f1))], [(a7, .inl (kA 0, 25, .inl f2))]]) := hD
  refine lv_aload_n (pc := 15) hx hb d_Ne_begin_15 rfl (lv_at hl 0 rfl) ?_
  refine k_get (pc := 16) X hK hP 0 rfl rfl i_Ne 9 (by decide) wm_273 rfl rfl d_Ne_begin_16 ?_
  refine lv_iconst (pc := 19) (v := 0) hx hb d_Ne_begin_19 (by decide) ?_
  refine k_goV (gr := [[(a0, .inr (5, [.int ((-1)), .int ((-1)), .int ((-1)), .int 0, .ref a1, .int 0, .int 0, .ref a2, .ref a3, .ref a4, .ref a5, .ref a6, .ref a7, .int 0, .ref a8, .ref a9, .ref a10]))], [(a5, .inl (kA 0, 625, .inl f1))], [(a7, .inl (kA 0, 25, .inl f2))]]) (k_rS (pc := 20) (As := [.ref a4, .int 0]) (rest := []) X (c_fillI l D (TY kA) 0 (kA 0) rfl a4 25 (by decide) f0 0 H.size) rfl wm_55 wm_4 wm_1061 wm_54 2 (by decide +kernel) ⟨Nat.le_of_ble_eq_true rfl, Nat.le_of_ble_eq_true rfl⟩ rfl rfl (k_pre hN hK hP hD [1] [0, 2, 3] 4 rfl (by decide) rfl) rfl hl.1 rfl (Nat.le_of_ble_eq_true rfl) d_Ne_begin_20 ⟨Nat.le_of_ble_eq_true rfl, Nat.le_of_ble_eq_true rfl⟩) hP hD hS hA [1] [0, 2, 3] 4 rfl (by decide) rfl rfl (fun u1 H locs hu1 hP hD hS => ?_)
  have hP : va_P D classes (cat [[(a0, .inr (5, [.int ((-1)), .int ((-1)), .int ((-1)), .int 0, .ref a1, .int 0, .int 0, .ref a2, .ref a3, .ref a4, .ref a5, .ref a6, .ref a7, .int 0, .ref a8, .ref a9, .ref a10]))], [(a5, .inl (kA 0, 625, .inl f1))], [(a7, .inl (kA 0, 25, .inl f2))], [(a4, .inl (kA 0, 25, .inl (fl f0 25 0)))]]) H := hP
  have hD : va_D A (cat [[(a0, .inr (5, [.int ((-1)), .int ((-1)), .int ((-1)), .int 0, .ref a1, .int 0, .int 0, .ref a2, .ref a3, .ref a4, .ref a5, .ref a6, .ref a7, .int 0, .ref a8, .ref a9, .ref a10]))], [(a5, .inl (kA 0, 625, .inl f1))], [(a7, .inl (kA 0, 25, .inl f2))], [(a4, .inl (kA 0, 25, .inl (fl f0 25 0)))]]) := hD
  refine lv_aload_n (pc := 23) hx hb d_Ne_begin_23 rfl (lv_at hl 0 rfl) ?_
  refine k_get (pc := 24) X hK hP 0 rfl rfl i_Ne 10 (by decide) wm_276 rfl rfl d_Ne_begin_24 ?_
  refine lv_iconst (pc := 27) (v := -1) hx hb d_Ne_begin_27 (by decide) ?_
  refine k_goV (gr := [[(a0, .inr (5, [.int ((-1)), .int ((-1)), .int ((-1)), .int 0, .ref a1, .int 0, .int 0, .ref a2, .ref a3, .ref a4, .ref a5, .ref a6, .ref a7, .int 0, .ref a8, .ref a9, .ref a10]))], [(a7, .inl (kA 0, 25, .inl f2))], [(a4, .inl (kA 0, 25, .inl (fl f0 25 0)))]]) (k_rS (pc := 28) (As := [.ref a5, .int ((-1))]) (rest := []) X (c_fillI l D (TY kA) 0 (kA 0) rfl a5 625 (by decide) f1 (-1) H.size) rfl wm_55 wm_4 wm_1061 wm_54 2 (by decide +kernel) ⟨Nat.le_of_ble_eq_true rfl, Nat.le_of_ble_eq_true rfl⟩ rfl rfl (k_pre hN hK hP hD [1] [0, 2, 3] 4 rfl (by decide) rfl) rfl hl.1 rfl (Nat.le_of_ble_eq_true rfl) d_Ne_begin_28 ⟨Nat.le_of_ble_eq_true rfl, Nat.le_of_ble_eq_true rfl⟩) hP hD hS hA [1] [0, 2, 3] 4 rfl (by decide) rfl rfl (fun u2 H locs hu2 hP hD hS => ?_)
  have hP : va_P D classes (cat [[(a0, .inr (5, [.int ((-1)), .int ((-1)), .int ((-1)), .int 0, .ref a1, .int 0, .int 0, .ref a2, .ref a3, .ref a4, .ref a5, .ref a6, .ref a7, .int 0, .ref a8, .ref a9, .ref a10]))], [(a7, .inl (kA 0, 25, .inl f2))], [(a4, .inl (kA 0, 25, .inl (fl f0 25 0)))], [(a5, .inl (kA 0, 625, .inl (fl f1 625 (-1))))]]) H := hP
  have hD : va_D A (cat [[(a0, .inr (5, [.int ((-1)), .int ((-1)), .int ((-1)), .int 0, .ref a1, .int 0, .int 0, .ref a2, .ref a3, .ref a4, .ref a5, .ref a6, .ref a7, .int 0, .ref a8, .ref a9, .ref a10]))], [(a7, .inl (kA 0, 25, .inl f2))], [(a4, .inl (kA 0, 25, .inl (fl f0 25 0)))], [(a5, .inl (kA 0, 625, .inl (fl f1 625 (-1))))]]) := hD
  refine lv_aload_n (pc := 31) hx hb d_Ne_begin_31 rfl (lv_at hl 0 rfl) ?_
  refine k_get (pc := 32) X hK hP 0 rfl rfl i_Ne 12 (by decide) wm_280 rfl rfl d_Ne_begin_32 ?_
  refine lv_iconst (pc := 35) (v := -1) hx hb d_Ne_begin_35 (by decide) ?_
  refine k_goV (gr := [[(a0, .inr (5, [.int ((-1)), .int ((-1)), .int ((-1)), .int 0, .ref a1, .int 0, .int 0, .ref a2, .ref a3, .ref a4, .ref a5, .ref a6, .ref a7, .int 0, .ref a8, .ref a9, .ref a10]))], [(a4, .inl (kA 0, 25, .inl (fl f0 25 0)))], [(a5, .inl (kA 0, 625, .inl (fl f1 625 (-1))))]]) (k_rS (pc := 36) (As := [.ref a7, .int ((-1))]) (rest := []) X (c_fillI l D (TY kA) 0 (kA 0) rfl a7 25 (by decide) f2 (-1) H.size) rfl wm_55 wm_4 wm_1061 wm_54 2 (by decide +kernel) ⟨Nat.le_of_ble_eq_true rfl, Nat.le_of_ble_eq_true rfl⟩ rfl rfl (k_pre hN hK hP hD [1] [0, 2, 3] 4 rfl (by decide) rfl) rfl hl.1 rfl (Nat.le_of_ble_eq_true rfl) d_Ne_begin_36 ⟨Nat.le_of_ble_eq_true rfl, Nat.le_of_ble_eq_true rfl⟩) hP hD hS hA [1] [0, 2, 3] 4 rfl (by decide) rfl rfl (fun u3 H locs hu3 hP hD hS => ?_)
  have hP : va_P D classes (cat [[(a0, .inr (5, [.int ((-1)), .int ((-1)), .int ((-1)), .int 0, .ref a1, .int 0, .int 0, .ref a2, .ref a3, .ref a4, .ref a5, .ref a6, .ref a7, .int 0, .ref a8, .ref a9, .ref a10]))], [(a4, .inl (kA 0, 25, .inl (fl f0 25 0)))], [(a5, .inl (kA 0, 625, .inl (fl f1 625 (-1))))], [(a7, .inl (kA 0, 25, .inl (fl f2 25 (-1))))]]) H := hP
  have hD : va_D A (cat [[(a0, .inr (5, [.int ((-1)), .int ((-1)), .int ((-1)), .int 0, .ref a1, .int 0, .int 0, .ref a2, .ref a3, .ref a4, .ref a5, .ref a6, .ref a7, .int 0, .ref a8, .ref a9, .ref a10]))], [(a4, .inl (kA 0, 25, .inl (fl f0 25 0)))], [(a5, .inl (kA 0, 625, .inl (fl f1 625 (-1))))], [(a7, .inl (kA 0, 25, .inl (fl f2 25 (-1))))]]) := hD
  refine W.widen (k := 0) (n := 0) (Nat.le_of_ble_eq_true rfl) (Nat.le_of_ble_eq_true rfl) ?_
  exact W.vret hx hb hr (fun t ht hW => ⟨⟨(), rfl, trivial, by rw [ht]; exact hP, va_K.moved hW.alike hK, hD⟩, hS.F ht⟩) hS.2.2 d_Ne_begin_39
set_option maxRecDepth 100000 in
set_option maxHeartbeats 4000000 in
/-- DrawingHouse$Net.load(LDrawingHouse$Graph;)V -/
theorem c_Ne_load_z2 (l : Launch) (D : va_G) (kA : Nat → ClassId) (a0 : Nat) (g : Nat → Nat → Nat) (j : Nat) (a1 : Nat) (a2 : Nat) (a3 : Nat) (a4 : Nat) (a5 : Nat) (a6 : Nat) (a7 : Nat) (a8 : Nat) (a9 : Nat) (a10 : Nat) (a11 : Nat) (a12 : Nat) (a13 : Nat) (a14 : Nat) (a15 : Nat) (a16 : Nat) (a17 : Nat) (a18 : Nat) (a19 : Nat) (a20 : Nat) (a21 : Nat) (a22 : Nat) (a23 : Nat) (f0 : Nat → Int32) (f1 : Nat → Int32) (f2 : Nat → Int32) (hj : j < 4) : Cv l y_Ne_load z_Ne_load { frames := 2, cells := 0, slots := 0, locals := 44 } D classes (TY kA) [.ref a0, .ref (g 0 j)] [[(g 0 j, .inr (3, [.int 0, .int 0, .int 1, .ref a1, .ref a2, .ref a3, .ref a4, .ref a5, .ref a6, .ref a7, .ref a8, .ref a9, .ref a10, .ref a11, .ref a12, .ref a13, .null, .int 0, .int 0]))], [(a0, .inr (5, [.int ((-1)), .int ((-1)), .int ((-1)), .int 0, .ref a14, .int 0, .int 0, .ref a15, .ref a16, .ref a17, .ref a18, .ref a19, .ref a20, .int 0, .ref a21, .ref a22, .ref a23]))], [(a17, .inl (kA 0, 25, .inl f0))], [(a18, .inl (kA 0, 625, .inl f1))], [(a20, .inl (kA 0, 25, .inl f2))]] (fun _ : Unit => True) (fun u => [[(g 0 j, .inr (3, [.int 0, .int 0, .int 1, .ref a1, .ref a2, .ref a3, .ref a4, .ref a5, .ref a6, .ref a7, .ref a8, .ref a9, .ref a10, .ref a11, .ref a12, .ref a13, .null, .int 0, .int 0]))], [(a0, .inr (5, [.int ((-1)), .int ((-1)), .int ((-1)), .int 0, .ref a14, .int 0, .int 0, .ref a15, .ref a16, .ref a17, .ref a18, .ref a19, .ref a20, .int 0, .ref a21, .ref a22, .ref a23]))], [(a17, .inl (kA 0, 25, .inl (fl f0 25 0)))], [(a18, .inl (kA 0, 625, .inl (fl f1 625 (-1))))], [(a20, .inl (kA 0, 25, .inl (fl f2 25 (-1))))]]) 0 0 := by
  intro sz
  refine k_met (cc := b_Ne_load) (maxL := 3) (ret := none) (by decide) rfl (Nat.le_of_ble_eq_true rfl) (fun p e s m below meth c ls X hl hB => ?_)
  obtain ⟨hsz, hP, hK, hD0, hN⟩ := hB
  subst hsz
  have hD := hD0.self (sz := s.heap.size)
  generalize hAe : va_A (cat [[(g 0 j, .inr (3, [.int 0, .int 0, .int 1, .ref a1, .ref a2, .ref a3, .ref a4, .ref a5, .ref a6, .ref a7, .ref a8, .ref a9, .ref a10, .ref a11, .ref a12, .ref a13, .null, .int 0, .int 0]))], [(a0, .inr (5, [.int ((-1)), .int ((-1)), .int ((-1)), .int 0, .ref a14, .int 0, .int 0, .ref a15, .ref a16, .ref a17, .ref a18, .ref a19, .ref a20, .int 0, .ref a21, .ref a22, .ref a23]))], [(a17, .inl (kA 0, 25, .inl f0))], [(a18, .inl (kA 0, 625, .inl f1))], [(a20, .inl (kA 0, 25, .inl f2))]]) s.heap.size = A at hD ⊢
  have hA : ∀ q : Nat, s.heap.size ≤ q → A q := fun q h => by rw [← hAe]; exact Or.inr h
  have hS : va_S A s.heap s.heap [] := va_S.rf
  obtain ⟨hx, hb, hml, hown, hts, hr, hlk, hnm⟩ := id X
  have hl : lv_has ls 3 [(0, .ref a0), (1, .ref (g 0 j))] := hl
  have hP : va_P D classes (cat [[(g 0 j, .inr (3, [.int 0, .int 0, .int 1, .ref a1, .ref a2, .ref a3, .ref a4, .ref a5, .ref a6, .ref a7, .ref a8, .ref a9, .ref a10, .ref a11, .ref a12, .ref a13, .null, .int 0, .int 0]))], [(a0, .inr (5, [.int ((-1)), .int ((-1)), .int ((-1)), .int 0, .ref a14, .int 0, .int 0, .ref a15, .ref a16, .ref a17, .ref a18, .ref a19, .ref a20, .int 0, .ref a21, .ref a22, .ref a23]))], [(a17, .inl (kA 0, 25, .inl f0))], [(a18, .inl (kA 0, 625, .inl f1))], [(a20, .inl (kA 0, 25, .inl f2))]]) s.heap := hP
  have hK : va_K D classes (TY kA) s := hK
  refine lv_aload_n (pc := 0) hx hb d_Ne_load_0 rfl (lv_at hl 0 rfl) ?_
  refine lv_aload_n (pc := 1) hx hb d_Ne_load_1 rfl (lv_at hl 1 rfl) ?_
  refine k_get (pc := 2) X hK hP 0 rfl rfl i_Gr 0 (by decide) wm_63 rfl rfl d_Ne_load_2 ?_
  refine k_goV (gr := [[(g 0 j, .inr (3, [.int 0, .int 0, .int 1, .ref a1, .ref a2, .ref a3, .ref a4, .ref a5, .ref a6, .ref a7, .ref a8, .ref a9, .ref a10, .ref a11, .ref a12, .ref a13, .null, .int 0, .int 0]))]]) (k_rV (pc := 5) (As := [.int 0]) (rest := []) X (c_Ne_begin_z2 l D kA a0 a14 a15 a16 a17 a18 a19 a20 a21 a22 a23 f0 f1 f2 s.heap.size) rfl wm_1060 wm_6 wm_1057 wm_1058 wm_1059 1 (by decide +kernel) ⟨Nat.le_of_ble_eq_true rfl, Nat.le_of_ble_eq_true rfl⟩ rfl rfl (va_recv hK hP (ci := 5) (q0 := 1) rfl rfl) (k_pre hN hK hP hD [1, 2, 3, 4] [0] 5 rfl (by decide) rfl) rfl hl.1 rfl (Nat.le_of_ble_eq_true rfl) d_Ne_load_5 ⟨Nat.le_of_ble_eq_true rfl, Nat.le_of_ble_eq_true rfl⟩) hP hD hS hA [1, 2, 3, 4] [0] 5 rfl (by decide) rfl rfl (fun u1 H locs hu1 hP hD hS => ?_)
  have hP : va_P D classes (cat [[(g 0 j, .inr (3, [.int 0, .int 0, .int 1, .ref a1, .ref a2, .ref a3, .ref a4, .ref a5, .ref a6, .ref a7, .ref a8, .ref a9, .ref a10, .ref a11, .ref a12, .ref a13, .null, .int 0, .int 0]))], [(a0, .inr (5, [.int ((-1)), .int ((-1)), .int ((-1)), .int 0, .ref a14, .int 0, .int 0, .ref a15, .ref a16, .ref a17, .ref a18, .ref a19, .ref a20, .int 0, .ref a21, .ref a22, .ref a23]))], [(a17, .inl (kA 0, 25, .inl (fl f0 25 0)))], [(a18, .inl (kA 0, 625, .inl (fl f1 625 (-1))))], [(a20, .inl (kA 0, 25, .inl (fl f2 25 (-1))))]]) H := hP
  have hD : va_D A (cat [[(g 0 j, .inr (3, [.int 0, .int 0, .int 1, .ref a1, .ref a2, .ref a3, .ref a4, .ref a5, .ref a6, .ref a7, .ref a8, .ref a9, .ref a10, .ref a11, .ref a12, .ref a13, .null, .int 0, .int 0]))], [(a0, .inr (5, [.int ((-1)), .int ((-1)), .int ((-1)), .int 0, .ref a14, .int 0, .int 0, .ref a15, .ref a16, .ref a17, .ref a18, .ref a19, .ref a20, .int 0, .ref a21, .ref a22, .ref a23]))], [(a17, .inl (kA 0, 25, .inl (fl f0 25 0)))], [(a18, .inl (kA 0, 625, .inl (fl f1 625 (-1))))], [(a20, .inl (kA 0, 25, .inl (fl f2 25 (-1))))]]) := hD
  refine lv_iconst (pc := 8) (v := 0) hx hb d_Ne_load_8 (by decide) ?_
  refine lv_istore_n (pc := 9) (lv' := [(2, .int 0), (0, .ref a0), (1, .ref (g 0 j))]) hx hb d_Ne_load_9 rfl hl (by decide) rfl (fun ls hl => ?_)
  refine lv_iload_n (pc := 10) hx hb d_Ne_load_10 rfl (lv_at hl 0 rfl) ?_
  refine lv_aload_n (pc := 11) hx hb d_Ne_load_11 rfl (lv_at hl 2 rfl) ?_
  refine k_get (pc := 12) X hK hP 0 rfl rfl i_Gr 1 (by decide) wm_72 rfl rfl d_Ne_load_12 ?_
  refine lv_icmp_ge (pc := 15) (tgt := 41) hx hb d_Ne_load_15 (by decide) (fun _ => ?_) (fun c1 => absurd (by decide) c1)
  refine W.widen (k := 0) (n := 0) (Nat.le_of_ble_eq_true rfl) (Nat.le_of_ble_eq_true rfl) ?_
  exact W.vret hx hb hr (fun t ht hW => ⟨⟨(), rfl, trivial, by rw [ht]; exact hP, va_K.moved hW.alike hK, hD⟩, hS.F ht⟩) hS.2.2 d_Ne_load_41
set_option maxRecDepth 100000 in
set_option maxHeartbeats 4000000 in
/-- DrawingHouse$Facts.blocksOf(II[I[I[I[I)I -/
theorem c_Fa_blocksOf_z2 (l : Launch) (D : va_G) (kA : Nat → ClassId) (a0 : Nat) (a1 : Nat) (a2 : Nat) (a3 : Nat) : Ci l y_Fa_blocksOf z_Fa_blocksOf { frames := 0, cells := 0, slots := 0, locals := 0 } D classes (TY kA) [.int 1, .int 0, .ref a0, .ref a1, .ref a2, .ref a3] [[(a2, .inl (kA 0, 25, .inl (fl (fun _ => 0) 25 0)))]] (fun r (_ : Unit) => r = 0) (fun u => [[(a2, .inl (kA 0, 25, .inl (fl (fun _ => 0) 25 0)))]]) 0 0 := by
  intro sz
  refine k_met (cc := b_Fa_blocksOf) (maxL := 11) (ret := (some .int)) (by decide) rfl (Nat.le_of_ble_eq_true rfl) (fun p e s m below meth c ls X hl hB => ?_)
  obtain ⟨hsz, hP, hK, hD0, hN⟩ := hB
  subst hsz
  have hD := hD0.self (sz := s.heap.size)
  generalize hAe : va_A (cat [[(a2, .inl (kA 0, 25, .inl (fl (fun _ => 0) 25 0)))]]) s.heap.size = A at hD ⊢
  have hA : ∀ q : Nat, s.heap.size ≤ q → A q := fun q h => by rw [← hAe]; exact Or.inr h
  have hS : va_S A s.heap s.heap [] := va_S.rf
  obtain ⟨hx, hb, hml, hown, hts, hr, hlk, hnm⟩ := id X
  have hl : lv_has ls 11 [(0, .int 1), (1, .int 0), (2, .ref a0), (3, .ref a1), (4, .ref a2), (5, .ref a3)] := hl
  have hP : va_P D classes (cat [[(a2, .inl (kA 0, 25, .inl (fl (fun _ => 0) 25 0)))]]) s.heap := hP
  have hK : va_K D classes (TY kA) s := hK
  refine lv_iconst (pc := 0) (v := 0) hx hb d_Fa_blocksOf_0 (by decide) ?_
  refine lv_istore (pc := 1) (lv' := [(6, .int 0), (0, .int 1), (1, .int 0), (2, .ref a0), (3, .ref a1), (4, .ref a2), (5, .ref a3)]) hx hb d_Fa_blocksOf_1 hl (by decide) rfl (fun ls hl => ?_)
  refine lv_iload (pc := 3) hx hb d_Fa_blocksOf_3 (lv_at hl 0 rfl) ?_
  refine lv_iload_n (pc := 5) hx hb d_Fa_blocksOf_5 rfl (lv_at hl 2 rfl) ?_
  refine lv_icmp_ge (pc := 6) (tgt := 22) hx hb d_Fa_blocksOf_6 (by decide) (fun _ => ?_) (fun c1 => absurd (by decide) c1)
  refine lv_iconst (pc := 22) (v := 1) hx hb d_Fa_blocksOf_22 (by decide) ?_
  refine lv_iload_n (pc := 23) hx hb d_Fa_blocksOf_23 rfl (lv_at hl 1 rfl) ?_
  refine lv_ishl (pc := 24) hx hb d_Fa_blocksOf_24 ?_
  refine k_cst (v := 2) (by decide) ?_
  refine lv_iconst (pc := 25) (v := 1) hx hb d_Fa_blocksOf_25 (by decide) ?_
  refine lv_isub (pc := 26) hx hb d_Fa_blocksOf_26 ?_
  refine k_cst (v := 1) (by decide) ?_
  refine lv_istore (pc := 27) (lv' := [(6, .int 1), (0, .int 1), (1, .int 0), (2, .ref a0), (3, .ref a1), (4, .ref a2), (5, .ref a3)]) hx hb d_Fa_blocksOf_27 hl (by decide) rfl (fun ls hl => ?_)
  refine lv_iconst (pc := 29) (v := 0) hx hb d_Fa_blocksOf_29 (by decide) ?_
  refine lv_istore (pc := 30) (lv' := [(7, .int 0), (6, .int 1), (0, .int 1), (1, .int 0), (2, .ref a0), (3, .ref a1), (4, .ref a2), (5, .ref a3)]) hx hb d_Fa_blocksOf_30 hl (by decide) rfl (fun ls hl => ?_)
  refine lv_iload (pc := 32) hx hb d_Fa_blocksOf_32 (lv_at hl 0 rfl) ?_
  refine lv_iload_n (pc := 34) hx hb d_Fa_blocksOf_34 rfl (lv_at hl 2 rfl) ?_
  refine lv_icmp_ge (pc := 35) (tgt := 118) hx hb d_Fa_blocksOf_35 (by decide) (fun c1 => absurd c1 (by decide)) (fun _ => ?_)
  refine lv_aload (pc := 38) hx hb d_Fa_blocksOf_38 (lv_at hl 6 rfl) ?_
  refine lv_iload (pc := 40) hx hb d_Fa_blocksOf_40 (lv_at hl 0 rfl) ?_
  refine k_ild (pc := 42) hx hb hK hP 0 0 rfl rfl (0) rfl (by decide) (by decide) d_Fa_blocksOf_42 ?_
  refine k_cst (v := 0) (by rfl) ?_
  refine lv_istore (pc := 43) (lv' := [(8, .int 0), (7, .int 0), (6, .int 1), (0, .int 1), (1, .int 0), (2, .ref a0), (3, .ref a1), (4, .ref a2), (5, .ref a3)]) hx hb d_Fa_blocksOf_43 hl (by decide) rfl (fun ls hl => ?_)
  refine lv_iconst (pc := 45) (v := 0) hx hb d_Fa_blocksOf_45 (by decide) ?_
  refine lv_istore (pc := 46) (lv' := [(9, .int 0), (8, .int 0), (7, .int 0), (6, .int 1), (0, .int 1), (1, .int 0), (2, .ref a0), (3, .ref a1), (4, .ref a2), (5, .ref a3)]) hx hb d_Fa_blocksOf_46 hl (by decide) rfl (fun ls hl => ?_)
  refine lv_iload (pc := 48) hx hb d_Fa_blocksOf_48 (lv_at hl 0 rfl) ?_
  refine lv_iload_n (pc := 50) hx hb d_Fa_blocksOf_50 rfl (lv_at hl 4 rfl) ?_
  refine lv_icmp_ge (pc := 51) (tgt := 112) hx hb d_Fa_blocksOf_51 (by decide) (fun c1 => absurd c1 (by decide)) (fun _ => ?_)
  refine lv_iload (pc := 54) hx hb d_Fa_blocksOf_54 (lv_at hl 1 rfl) ?_
  refine lv_iload (pc := 56) hx hb d_Fa_blocksOf_56 (lv_at hl 0 rfl) ?_
  refine lv_ishr (pc := 58) hx hb d_Fa_blocksOf_58 ?_
  refine k_cst (v := 0) (by decide) ?_
  refine lv_iconst (pc := 59) (v := 1) hx hb d_Fa_blocksOf_59 (by decide) ?_
  refine lv_iand (pc := 60) hx hb d_Fa_blocksOf_60 ?_
  refine k_cst (v := 0) (by decide) ?_
  refine lv_if_eq (pc := 61) (tgt := 106) hx hb d_Fa_blocksOf_61 (by decide) (fun c1 => ?_) (fun c1 => absurd (by decide) c1)
  refine lv_iinc (pc := 106) (v := 1) (lv' := [(9, .int 1), (8, .int 0), (7, .int 0), (6, .int 1), (0, .int 1), (1, .int 0), (2, .ref a0), (3, .ref a1), (4, .ref a2), (5, .ref a3)]) hx hb d_Fa_blocksOf_106 hl (k := 0) rfl (by decide) (by decide) rfl (fun ls hl => ?_)
  refine lv_goto (pc := 109) (tgt := 48) hx hb d_Fa_blocksOf_109 (by decide) ?_
  refine lv_iload (pc := 48) hx hb d_Fa_blocksOf_48 (lv_at hl 0 rfl) ?_
  refine lv_iload_n (pc := 50) hx hb d_Fa_blocksOf_50 rfl (lv_at hl 4 rfl) ?_
  refine lv_icmp_ge (pc := 51) (tgt := 112) hx hb d_Fa_blocksOf_51 (by decide) (fun _ => ?_) (fun c1 => absurd (by decide) c1)
  refine lv_iinc (pc := 112) (v := 1) (lv' := [(7, .int 1), (9, .int 1), (8, .int 0), (6, .int 1), (0, .int 1), (1, .int 0), (2, .ref a0), (3, .ref a1), (4, .ref a2), (5, .ref a3)]) hx hb d_Fa_blocksOf_112 hl (k := 2) rfl (by decide) (by decide) rfl (fun ls hl => ?_)
  refine lv_goto (pc := 115) (tgt := 32) hx hb d_Fa_blocksOf_115 (by decide) ?_
  refine lv_iload (pc := 32) hx hb d_Fa_blocksOf_32 (lv_at hl 0 rfl) ?_
  refine lv_iload_n (pc := 34) hx hb d_Fa_blocksOf_34 rfl (lv_at hl 4 rfl) ?_
  refine lv_icmp_ge (pc := 35) (tgt := 118) hx hb d_Fa_blocksOf_35 (by decide) (fun _ => ?_) (fun c1 => absurd (by decide) c1)
  refine lv_iconst (pc := 118) (v := 0) hx hb d_Fa_blocksOf_118 (by decide) ?_
  refine lv_istore (pc := 119) (lv' := [(7, .int 0), (9, .int 1), (8, .int 0), (6, .int 1), (0, .int 1), (1, .int 0), (2, .ref a0), (3, .ref a1), (4, .ref a2), (5, .ref a3)]) hx hb d_Fa_blocksOf_119 hl (by decide) rfl (fun ls hl => ?_)
  refine lv_iconst (pc := 121) (v := 0) hx hb d_Fa_blocksOf_121 (by decide) ?_
  refine lv_istore (pc := 122) (lv' := [(8, .int 0), (7, .int 0), (9, .int 1), (6, .int 1), (0, .int 1), (1, .int 0), (2, .ref a0), (3, .ref a1), (4, .ref a2), (5, .ref a3)]) hx hb d_Fa_blocksOf_122 hl (by decide) rfl (fun ls hl => ?_)
  refine lv_iload (pc := 124) hx hb d_Fa_blocksOf_124 (lv_at hl 0 rfl) ?_
  refine lv_iload_n (pc := 126) hx hb d_Fa_blocksOf_126 rfl (lv_at hl 5 rfl) ?_
  refine lv_icmp_ge (pc := 127) (tgt := 172) hx hb d_Fa_blocksOf_127 (by decide) (fun _ => ?_) (fun c1 => absurd (by decide) c1)
  refine lv_iload (pc := 172) hx hb d_Fa_blocksOf_172 (lv_at hl 1 rfl) ?_
  refine W.widen (k := 0) (n := 0) (Nat.le_of_ble_eq_true rfl) (Nat.le_of_ble_eq_true rfl) ?_
  exact W.iret (v := 0) hx hb hr (fun t ht hW => ⟨⟨0, (), rfl, rfl, by rw [ht]; exact hP, va_K.moved hW.alike hK, hD⟩, hS.F ht⟩) hS.2.2 d_Fa_blocksOf_174
set_option maxRecDepth 100000 in
set_option maxHeartbeats 4000000 in
/-- DrawingHouse$Embedder.joinBlocksAt(II)V -/
theorem c_Em_joinBlocksAt_z1 (l : Launch) (D : va_G) (kA : Nat → ClassId) (a0 : Nat) (a1 : Nat) (a2 : Nat) (a3 : Nat) (a4 : Nat) (a5 : Nat) (a6 : Nat) (a7 : Nat) (a8 : Nat) (a9 : Nat) (a10 : Nat) (a11 : Nat) (a12 : Nat) (a13 : Nat) (a14 : Nat) (a15 : Nat) (a16 : Nat) (a17 : Nat) (a18 : Nat) (a19 : Nat) (a20 : Nat) (a21 : Nat) (a22 : Nat) (f0 : Nat → Int32) : Cv l y_Em_joinBlocksAt z_Em_joinBlocksAt { frames := 0, cells := 0, slots := 0, locals := 0 } D classes (TY kA) [.ref a0, .int 0, .int 0] [[(a0, .inr (1, [.ref a1, .ref a1, .ref a2, .ref a3, .ref a4, .int 0, .int 0, .int 0, .ref a5, .ref a6, .ref a7, .ref a8, .ref a9, .ref a10, .ref a11, .int 0, .int 0, .int 0, .int 0, .ref a12]))], [(a1, .inr (5, [.int ((-1)), .int ((-1)), .int ((-1)), .int 0, .ref a13, .int 1, .int 0, .ref a14, .ref a15, .ref a16, .ref a17, .ref a18, .ref a19, .int 0, .ref a20, .ref a21, .ref a22]))], [(a19, .inl (kA 0, 25, .inl f0))]] (fun _ : Unit => True) (fun u => [[(a0, .inr (1, [.ref a1, .ref a1, .ref a2, .ref a3, .ref a4, .int 0, .int 0, .int 0, .ref a5, .ref a6, .ref a7, .ref a8, .ref a9, .ref a10, .ref a11, .int 0, .int 0, .int 0, .int 0, .ref a12]))], [(a1, .inr (5, [.int ((-1)), .int ((-1)), .int ((-1)), .int 0, .ref a13, .int 1, .int 0, .ref a14, .ref a15, .ref a16, .ref a17, .ref a18, .ref a19, .int 0, .ref a20, .ref a21, .ref a22]))], [(a19, .inl (kA 0, 25, .inl (upd (f0) 0 (-1))))]]) 0 0 := by
  intro sz
  refine k_met (cc := b_Em_joinBlocksAt) (maxL := 8) (ret := none) (by decide) rfl (Nat.le_of_ble_eq_true rfl) (fun p e s m below meth c ls X hl hB => ?_)
  obtain ⟨hsz, hP, hK, hD0, hN⟩ := hB
  subst hsz
  have hD := hD0.self (sz := s.heap.size)
  generalize hAe : va_A (cat [[(a0, .inr (1, [.ref a1, .ref a1, .ref a2, .ref a3, .ref a4, .int 0, .int 0, .int 0, .ref a5, .ref a6, .ref a7, .ref a8, .ref a9, .ref a10, .ref a11, .int 0, .int 0, .int 0, .int 0, .ref a12]))], [(a1, .inr (5, [.int ((-1)), .int ((-1)), .int ((-1)), .int 0, .ref a13, .int 1, .int 0, .ref a14, .ref a15, .ref a16, .ref a17, .ref a18, .ref a19, .int 0, .ref a20, .ref a21, .ref a22]))], [(a19, .inl (kA 0, 25, .inl f0))]]) s.heap.size = A at hD ⊢
  have hA : ∀ q : Nat, s.heap.size ≤ q → A q := fun q h => by rw [← hAe]; exact Or.inr h
  have hS : va_S A s.heap s.heap [] := va_S.rf
  obtain ⟨hx, hb, hml, hown, hts, hr, hlk, hnm⟩ := id X
  have hl : lv_has ls 8 [(0, .ref a0), (1, .int 0), (2, .int 0)] := hl
  have hP : va_P D classes (cat [[(a0, .inr (1, [.ref a1, .ref a1, .ref a2, .ref a3, .ref a4, .int 0, .int 0, .int 0, .ref a5, .ref a6, .ref a7, .ref a8, .ref a9, .ref a10, .ref a11, .int 0, .int 0, .int 0, .int 0, .ref a12]))], [(a1, .inr (5, [.int ((-1)), .int ((-1)), .int ((-1)), .int 0, .ref a13, .int 1, .int 0, .ref a14, .ref a15, .ref a16, .ref a17, .ref a18, .ref a19, .int 0, .ref a20, .ref a21, .ref a22]))], [(a19, .inl (kA 0, 25, .inl f0))]]) s.heap := hP
  have hK : va_K D classes (TY kA) s := hK
  refine lv_iconst (pc := 0) (v := 0) hx hb d_Em_joinBlocksAt_0 (by decide) ?_
  refine lv_istore_n (pc := 1) (lv' := [(3, .int 0), (0, .ref a0), (1, .int 0), (2, .int 0)]) hx hb d_Em_joinBlocksAt_1 rfl hl (by decide) rfl (fun ls hl => ?_)
  refine lv_iconst (pc := 2) (v := 0) hx hb d_Em_joinBlocksAt_2 (by decide) ?_
  refine lv_istore (pc := 3) (lv' := [(4, .int 0), (3, .int 0), (0, .ref a0), (1, .int 0), (2, .int 0)]) hx hb d_Em_joinBlocksAt_3 hl (by decide) rfl (fun ls hl => ?_)
  refine lv_iload (pc := 5) hx hb d_Em_joinBlocksAt_5 (lv_at hl 0 rfl) ?_
  refine lv_iload_n (pc := 7) hx hb d_Em_joinBlocksAt_7 rfl (lv_at hl 4 rfl) ?_
  refine lv_icmp_ge (pc := 8) (tgt := 96) hx hb d_Em_joinBlocksAt_8 (by decide) (fun _ => ?_) (fun c1 => absurd (by decide) c1)
  refine lv_aload_n (pc := 96) hx hb d_Em_joinBlocksAt_96 rfl (lv_at hl 2 rfl) ?_
  refine k_get (pc := 97) X hK hP 0 rfl rfl i_Em 0 (by decide) wm_326 rfl rfl d_Em_joinBlocksAt_97 ?_
  refine k_get (pc := 100) X hK hP 1 rfl rfl i_Ne 12 (by decide) wm_281 rfl rfl d_Em_joinBlocksAt_100 ?_
  refine lv_iload_n (pc := 103) hx hb d_Em_joinBlocksAt_103 rfl (lv_at hl 3 rfl) ?_
  refine lv_iload_n (pc := 104) hx hb d_Em_joinBlocksAt_104 rfl (lv_at hl 1 rfl) ?_
  refine lv_if_ne (pc := 105) (tgt := 112) hx hb d_Em_joinBlocksAt_105 (by decide) (fun c1 => absurd (by decide) c1) (fun c1 => ?_)
  refine lv_iconst (pc := 108) (v := -1) hx hb d_Em_joinBlocksAt_108 (by decide) ?_
  refine lv_goto (pc := 109) (tgt := 118) hx hb d_Em_joinBlocksAt_109 (by decide) ?_
  refine va_iast (pc := 118) hx hb hK hP hD hS 2 0 rfl rfl (by unfold vp_in; decide) d_Em_joinBlocksAt_118 (fun H locs hP hD hS => ?_)
  have hP : va_P D classes (cat [[(a0, .inr (1, [.ref a1, .ref a1, .ref a2, .ref a3, .ref a4, .int 0, .int 0, .int 0, .ref a5, .ref a6, .ref a7, .ref a8, .ref a9, .ref a10, .ref a11, .int 0, .int 0, .int 0, .int 0, .ref a12]))], [(a1, .inr (5, [.int ((-1)), .int ((-1)), .int ((-1)), .int 0, .ref a13, .int 1, .int 0, .ref a14, .ref a15, .ref a16, .ref a17, .ref a18, .ref a19, .int 0, .ref a20, .ref a21, .ref a22]))], [(a19, .inl (kA 0, 25, .inl (upd (f0) 0 (-1))))]]) H := hP
  have hD : va_D A (cat [[(a0, .inr (1, [.ref a1, .ref a1, .ref a2, .ref a3, .ref a4, .int 0, .int 0, .int 0, .ref a5, .ref a6, .ref a7, .ref a8, .ref a9, .ref a10, .ref a11, .int 0, .int 0, .int 0, .int 0, .ref a12]))], [(a1, .inr (5, [.int ((-1)), .int ((-1)), .int ((-1)), .int 0, .ref a13, .int 1, .int 0, .ref a14, .ref a15, .ref a16, .ref a17, .ref a18, .ref a19, .int 0, .ref a20, .ref a21, .ref a22]))], [(a19, .inl (kA 0, 25, .inl (upd (f0) 0 (-1))))]]) := hD
  refine lv_iconst (pc := 119) (v := 0) hx hb d_Em_joinBlocksAt_119 (by decide) ?_
  refine lv_istore (pc := 120) (lv' := [(4, .int 0), (3, .int 0), (0, .ref a0), (1, .int 0), (2, .int 0)]) hx hb d_Em_joinBlocksAt_120 hl (by decide) rfl (fun ls hl => ?_)
  refine lv_iload (pc := 122) hx hb d_Em_joinBlocksAt_122 (lv_at hl 0 rfl) ?_
  refine lv_iload_n (pc := 124) hx hb d_Em_joinBlocksAt_124 rfl (lv_at hl 1 rfl) ?_
  refine lv_icmp_ge (pc := 125) (tgt := 168) hx hb d_Em_joinBlocksAt_125 (by decide) (fun _ => ?_) (fun c1 => absurd (by decide) c1)
  refine W.widen (k := 0) (n := 0) (Nat.le_of_ble_eq_true rfl) (Nat.le_of_ble_eq_true rfl) ?_
  exact W.vret hx hb hr (fun t ht hW => ⟨⟨(), rfl, trivial, by rw [ht]; exact hP, va_K.moved hW.alike hK, hD⟩, hS.F ht⟩) hS.2.2 d_Em_joinBlocksAt_168
set_option maxRecDepth 100000 in
set_option maxHeartbeats 4000000 in
/-- DrawingHouse$Net.traceFaces()V -/
theorem c_Ne_traceFaces_z2 (l : Launch) (D : va_G) (kA : Nat → ClassId) (a0 : Nat) (a1 : Nat) (a2 : Nat) (a3 : Nat) (a4 : Nat) (a5 : Nat) (a6 : Nat) (a7 : Nat) (a8 : Nat) (a9 : Nat) (a10 : Nat) (f0 : Nat → Int32) (f1 : Nat → Int32) : Cv l y_Ne_traceFaces z_Ne_traceFaces { frames := 1, cells := 0, slots := 0, locals := 23 } D classes (TY kA) [.ref a0] [[(a0, .inr (5, [.int ((-1)), .int ((-1)), .int ((-1)), .int 0, .ref a1, .int 1, .int 0, .ref a2, .ref a3, .ref a4, .ref a5, .ref a6, .ref a7, .int 0, .ref a8, .ref a9, .ref a10]))], [(a10, .inl (kA 0, 144, .inl f0))], [(a8, .inl (kA 0, 145, .inl f1))]] (fun _ : Unit => True) (fun u => [[(a0, .inr (5, [.int ((-1)), .int ((-1)), .int ((-1)), .int 0, .ref a1, .int 1, .int 0, .ref a2, .ref a3, .ref a4, .ref a5, .ref a6, .ref a7, .int 0, .ref a8, .ref a9, .ref a10]))], [(a10, .inl (kA 0, 144, .inl (fl f0 144 (-1))))], [(a8, .inl (kA 0, 145, .inl (upd (f1) 0 0)))]]) 0 0 := by
  intro sz
  refine k_met (cc := b_Ne_traceFaces) (maxL := 6) (ret := none) (by decide) rfl (Nat.le_of_ble_eq_true rfl) (fun p e s m below meth c ls X hl hB => ?_)
  obtain ⟨hsz, hP, hK, hD0, hN⟩ := hB
  subst hsz
  have hD := hD0.self (sz := s.heap.size)
  generalize hAe : va_A (cat [[(a0, .inr (5, [.int ((-1)), .int ((-1)), .int ((-1)), .int 0, .ref a1, .int 1, .int 0, .ref a2, .ref a3, .ref a4, .ref a5, .ref a6, .ref a7, .int 0, .ref a8, .ref a9, .ref a10]))], [(a10, .inl (kA 0, 144, .inl f0))], [(a8, .inl (kA 0, 145, .inl f1))]]) s.heap.size = A at hD ⊢
  have hA : ∀ q : Nat, s.heap.size ≤ q → A q := fun q h => by rw [← hAe]; exact Or.inr h
  have hS : va_S A s.heap s.heap [] := va_S.rf
  obtain ⟨hx, hb, hml, hown, hts, hr, hlk, hnm⟩ := id X
  have hl : lv_has ls 6 [(0, .ref a0)] := hl
  have hP : va_P D classes (cat [[(a0, .inr (5, [.int ((-1)), .int ((-1)), .int ((-1)), .int 0, .ref a1, .int 1, .int 0, .ref a2, .ref a3, .ref a4, .ref a5, .ref a6, .ref a7, .int 0, .ref a8, .ref a9, .ref a10]))], [(a10, .inl (kA 0, 144, .inl f0))], [(a8, .inl (kA 0, 145, .inl f1))]]) s.heap := hP
  have hK : va_K D classes (TY kA) s := hK
  refine lv_aload_n (pc := 0) hx hb d_Ne_traceFaces_0 rfl (lv_at hl 0 rfl) ?_
  refine lv_iconst (pc := 1) (v := 0) hx hb d_Ne_traceFaces_1 (by decide) ?_
  refine k_put (pc := 2) X hK hP hD hS 0 rfl rfl i_Ne t_Ne t_Ne_ok n_Ne 13 (by decide) wm_282 rfl (Or.inl rfl) rfl rfl (Nat.le_of_ble_eq_true rfl) d_Ne_traceFaces_2 (fun H locs hP hD hS => ?_)
  have hP : va_P D classes (cat [[(a0, .inr (5, [.int ((-1)), .int ((-1)), .int ((-1)), .int 0, .ref a1, .int 1, .int 0, .ref a2, .ref a3, .ref a4, .ref a5, .ref a6, .ref a7, .int 0, .ref a8, .ref a9, .ref a10]))], [(a10, .inl (kA 0, 144, .inl f0))], [(a8, .inl (kA 0, 145, .inl f1))]]) H := hP
  have hD : va_D A (cat [[(a0, .inr (5, [.int ((-1)), .int ((-1)), .int ((-1)), .int 0, .ref a1, .int 1, .int 0, .ref a2, .ref a3, .ref a4, .ref a5, .ref a6, .ref a7, .int 0, .ref a8, .ref a9, .ref a10]))], [(a10, .inl (kA 0, 144, .inl f0))], [(a8, .inl (kA 0, 145, .inl f1))]]) := hD
  refine lv_iconst (pc := 5) (v := 0) hx hb d_Ne_traceFaces_5 (by decide) ?_
  refine lv_istore_n (pc := 6) (lv' := [(1, .int 0), (0, .ref a0)]) hx hb d_Ne_traceFaces_6 rfl hl (by decide) rfl (fun ls hl => ?_)
  refine lv_aload_n (pc := 7) hx hb d_Ne_traceFaces_7 rfl (lv_at hl 1 rfl) ?_
  refine k_get (pc := 8) X hK hP 0 rfl rfl i_Ne 16 (by decide) wm_289 rfl rfl d_Ne_traceFaces_8 ?_
  refine lv_iconst (pc := 11) (v := -1) hx hb d_Ne_traceFaces_11 (by decide) ?_
  refine k_goV (gr := [[(a0, .inr (5, [.int ((-1)), .int ((-1)), .int ((-1)), .int 0, .ref a1, .int 1, .int 0, .ref a2, .ref a3, .ref a4, .ref a5, .ref a6, .ref a7, .int 0, .ref a8, .ref a9, .ref a10]))], [(a8, .inl (kA 0, 145, .inl f1))]]) (k_rS (pc := 12) (As := [.ref a10, .int ((-1))]) (rest := []) X (c_fillI l D (TY kA) 0 (kA 0) rfl a10 144 (by decide) f0 (-1) H.size) rfl wm_55 wm_4 wm_1061 wm_54 2 (by decide +kernel) ⟨Nat.le_of_ble_eq_true rfl, Nat.le_of_ble_eq_true rfl⟩ rfl rfl (k_pre hN hK hP hD [1] [0, 2] 3 rfl (by decide) rfl) rfl hl.1 rfl (Nat.le_of_ble_eq_true rfl) d_Ne_traceFaces_12 ⟨Nat.le_of_ble_eq_true rfl, Nat.le_of_ble_eq_true rfl⟩) hP hD hS hA [1] [0, 2] 3 rfl (by decide) rfl rfl (fun u1 H locs hu1 hP hD hS => ?_)
  have hP : va_P D classes (cat [[(a0, .inr (5, [.int ((-1)), .int ((-1)), .int ((-1)), .int 0, .ref a1, .int 1, .int 0, .ref a2, .ref a3, .ref a4, .ref a5, .ref a6, .ref a7, .int 0, .ref a8, .ref a9, .ref a10]))], [(a8, .inl (kA 0, 145, .inl f1))], [(a10, .inl (kA 0, 144, .inl (fl f0 144 (-1))))]]) H := hP
  have hD : va_D A (cat [[(a0, .inr (5, [.int ((-1)), .int ((-1)), .int ((-1)), .int 0, .ref a1, .int 1, .int 0, .ref a2, .ref a3, .ref a4, .ref a5, .ref a6, .ref a7, .int 0, .ref a8, .ref a9, .ref a10]))], [(a8, .inl (kA 0, 145, .inl f1))], [(a10, .inl (kA 0, 144, .inl (fl f0 144 (-1))))]]) := hD
  refine lv_iconst (pc := 15) (v := 0) hx hb d_Ne_traceFaces_15 (by decide) ?_
  refine lv_istore_n (pc := 16) (lv' := [(2, .int 0), (1, .int 0), (0, .ref a0)]) hx hb d_Ne_traceFaces_16 rfl hl (by decide) rfl (fun ls hl => ?_)
  refine lv_iload_n (pc := 17) hx hb d_Ne_traceFaces_17 rfl (lv_at hl 0 rfl) ?_
  refine lv_iconst (pc := 18) (v := 2) hx hb d_Ne_traceFaces_18 (by decide) ?_
  refine lv_aload_n (pc := 19) hx hb d_Ne_traceFaces_19 rfl (lv_at hl 2 rfl) ?_
  refine k_get (pc := 20) X hK hP 0 rfl rfl i_Ne 6 (by decide) wm_265 rfl rfl d_Ne_traceFaces_20 ?_
  refine lv_imul (pc := 23) hx hb d_Ne_traceFaces_23 ?_
  refine k_cst (v := 0) (by decide) ?_
  refine lv_icmp_ge (pc := 24) (tgt := 184) hx hb d_Ne_traceFaces_24 (by decide) (fun _ => ?_) (fun c1 => absurd (by decide) c1)
  refine lv_aload_n (pc := 184) hx hb d_Ne_traceFaces_184 rfl (lv_at hl 2 rfl) ?_
  refine k_get (pc := 185) X hK hP 0 rfl rfl i_Ne 14 (by decide) wm_285 rfl rfl d_Ne_traceFaces_185 ?_
  refine lv_aload_n (pc := 188) hx hb d_Ne_traceFaces_188 rfl (lv_at hl 2 rfl) ?_
  refine k_get (pc := 189) X hK hP 0 rfl rfl i_Ne 13 (by decide) wm_282 rfl rfl d_Ne_traceFaces_189 ?_
  refine lv_iload_n (pc := 192) hx hb d_Ne_traceFaces_192 rfl (lv_at hl 1 rfl) ?_
  refine va_iast (pc := 193) hx hb hK hP hD hS 1 0 rfl rfl (by unfold vp_in; decide) d_Ne_traceFaces_193 (fun H locs hP hD hS => ?_)
  have hP : va_P D classes (cat [[(a0, .inr (5, [.int ((-1)), .int ((-1)), .int ((-1)), .int 0, .ref a1, .int 1, .int 0, .ref a2, .ref a3, .ref a4, .ref a5, .ref a6, .ref a7, .int 0, .ref a8, .ref a9, .ref a10]))], [(a8, .inl (kA 0, 145, .inl (upd (f1) 0 0)))], [(a10, .inl (kA 0, 144, .inl (fl f0 144 (-1))))]]) H := hP
  have hD : va_D A (cat [[(a0, .inr (5, [.int ((-1)), .int ((-1)), .int ((-1)), .int 0, .ref a1, .int 1, .int 0, .ref a2, .ref a3, .ref a4, .ref a5, .ref a6, .ref a7, .int 0, .ref a8, .ref a9, .ref a10]))], [(a8, .inl (kA 0, 145, .inl (upd (f1) 0 0)))], [(a10, .inl (kA 0, 144, .inl (fl f0 144 (-1))))]]) := hD
  obtain ⟨hP, hD⟩ := k_ord (gc := [[(a0, .inr (5, [.int ((-1)), .int ((-1)), .int ((-1)), .int 0, .ref a1, .int 1, .int 0, .ref a2, .ref a3, .ref a4, .ref a5, .ref a6, .ref a7, .int 0, .ref a8, .ref a9, .ref a10]))], [(a10, .inl (kA 0, 144, .inl (fl f0 144 (-1))))], [(a8, .inl (kA 0, 145, .inl (upd (f1) 0 0)))]]) hP hD [0, 2, 1] 3 rfl (by decide) rfl
  refine W.widen (k := 0) (n := 0) (Nat.le_of_ble_eq_true rfl) (Nat.le_of_ble_eq_true rfl) ?_
  exact W.vret hx hb hr (fun t ht hW => ⟨⟨(), rfl, trivial, by rw [ht]; exact hP, va_K.moved hW.alike hK, hD⟩, hS.F ht⟩) hS.2.2 d_Ne_traceFaces_194
set_option maxRecDepth 100000 in
set_option maxHeartbeats 4000000 in
/-- DrawingHouse$Embedder.embed(LDrawingHouse$Net;)Z -/
theorem c_Em_embed_z2 (l : Launch) (D : va_G) (kA : Nat → ClassId) (a0 : Nat) (a1 : Nat) (g : Nat → Nat → Nat) (j : Nat) (a2 : Nat) (a3 : Nat) (a4 : Nat) (a5 : Nat) (a6 : Nat) (a7 : Nat) (a8 : Nat) (a9 : Nat) (a10 : Nat) (a11 : Nat) (a12 : Nat) (a13 : Nat) (a14 : Nat) (a15 : Nat) (a16 : Nat) (a17 : Nat) (a18 : Nat) (a19 : Nat) (a20 : Nat) (a21 : Nat) (a22 : Nat) (f0 : Nat → Int32) (f1 : Nat → Int32) (f2 : Nat → Int32) (hj : j < 4) : Ci l y_Em_embed z_Em_embed { frames := 2, cells := 0, slots := 0, locals := 48 } D classes (TY kA) [.ref a0, .ref a1] [[(a0, .inr (1, [.ref (g 2 j), .ref a1, .ref a2, .ref a3, .ref a4, .int 0, .int 0, .int 0, .ref a5, .ref a6, .ref a7, .ref a8, .ref a9, .ref a10, .ref a11, .int 0, .int 0, .int 0, .int 0, .ref a12]))], [(a1, .inr (5, [.int ((-1)), .int ((-1)), .int ((-1)), .int 0, .ref a13, .int 1, .int 0, .ref a14, .ref a15, .ref a16, .ref a17, .ref a18, .ref a19, .int 0, .ref a20, .ref a21, .ref a22]))], [(a16, .inl (kA 0, 25, .inl (fl (fun _ => 0) 25 0)))], [(a19, .inl (kA 0, 25, .inl f0))], [(a22, .inl (kA 0, 144, .inl f1))], [(a20, .inl (kA 0, 145, .inl f2))]] (fun r (_ : Unit) => r = 1) (fun u => [[(a0, .inr (1, [.ref a1, .ref a1, .ref a2, .ref a3, .ref a4, .int 0, .int 0, .int 0, .ref a5, .ref a6, .ref a7, .ref a8, .ref a9, .ref a10, .ref a11, .int 0, .int 0, .int 0, .int 0, .ref a12]))], [(a1, .inr (5, [.int ((-1)), .int ((-1)), .int ((-1)), .int 0, .ref a13, .int 1, .int 0, .ref a14, .ref a15, .ref a16, .ref a17, .ref a18, .ref a19, .int 0, .ref a20, .ref a21, .ref a22]))], [(a16, .inl (kA 0, 25, .inl (fl (fun _ => 0) 25 0)))], [(a19, .inl (kA 0, 25, .inl (upd (f0) 0 (-1))))], [(a22, .inl (kA 0, 144, .inl (fl f1 144 (-1))))], [(a20, .inl (kA 0, 145, .inl (upd (f2) 0 0)))]]) 0 0 := by
  intro sz
  refine k_met (cc := b_Em_embed) (maxL := 6) (ret := (some .boolean)) (by decide) rfl (Nat.le_of_ble_eq_true rfl) (fun p e s m below meth c ls X hl hB => ?_)
  obtain ⟨hsz, hP, hK, hD0, hN⟩ := hB
  subst hsz
  have hD := hD0.self (sz := s.heap.size)
  generalize hAe : va_A (cat [[(a0, .inr (1, [.ref (g 2 j), .ref a1, .ref a2, .ref a3, .ref a4, .int 0, .int 0, .int 0, .ref a5, .ref a6, .ref a7, .ref a8, .ref a9, .ref a10, .ref a11, .int 0, .int 0, .int 0, .int 0, .ref a12]))], [(a1, .inr (5, [.int ((-1)), .int ((-1)), .int ((-1)), .int 0, .ref a13, .int 1, .int 0, .ref a14, .ref a15, .ref a16, .ref a17, .ref a18, .ref a19, .int 0, .ref a20, .ref a21, .ref a22]))], [(a16, .inl (kA 0, 25, .inl (fl (fun _ => 0) 25 0)))], [(a19, .inl (kA 0, 25, .inl f0))], [(a22, .inl (kA 0, 144, .inl f1))], [(a20, .inl (kA 0, 145, .inl f2))]]) s.heap.size = A at hD ⊢
  have hA : ∀ q : Nat, s.heap.size ≤ q → A q := fun q h => by rw [← hAe]; exact Or.inr h
  have hS : va_S A s.heap s.heap [] := va_S.rf
  obtain ⟨hx, hb, hml, hown, hts, hr, hlk, hnm⟩ := id X
  have hl : lv_has ls 6 [(0, .ref a0), (1, .ref a1)] := hl
  have hP : va_P D classes (cat [[(a0, .inr (1, [.ref (g 2 j), .ref a1, .ref a2, .ref a3, .ref a4, .int 0, .int 0, .int 0, .ref a5, .ref a6, .ref a7, .ref a8, .ref a9, .ref a10, .ref a11, .int 0, .int 0, .int 0, .int 0, .ref a12]))], [(a1, .inr (5, [.int ((-1)), .int ((-1)), .int ((-1)), .int 0, .ref a13, .int 1, .int 0, .ref a14, .ref a15, .ref a16, .ref a17, .ref a18, .ref a19, .int 0, .ref a20, .ref a21, .ref a22]))], [(a16, .inl (kA 0, 25, .inl (fl (fun _ => 0) 25 0)))], [(a19, .inl (kA 0, 25, .inl f0))], [(a22, .inl (kA 0, 144, .inl f1))], [(a20, .inl (kA 0, 145, .inl f2))]]) s.heap := hP
  have hK : va_K D classes (TY kA) s := hK
  refine lv_aload_n (pc := 0) hx hb d_Em_embed_0 rfl (lv_at hl 0 rfl) ?_
  refine lv_aload_n (pc := 1) hx hb d_Em_embed_1 rfl (lv_at hl 1 rfl) ?_
  refine k_put (pc := 2) X hK hP hD hS 0 rfl rfl i_Em t_Em t_Em_ok n_Em 0 (by decide) wm_326 rfl (Or.inl rfl) rfl rfl (Nat.le_of_ble_eq_true rfl) d_Em_embed_2 (fun H locs hP hD hS => ?_)
  have hP : va_P D classes (cat [[(a0, .inr (1, [.ref a1, .ref a1, .ref a2, .ref a3, .ref a4, .int 0, .int 0, .int 0, .ref a5, .ref a6, .ref a7, .ref a8, .ref a9, .ref a10, .ref a11, .int 0, .int 0, .int 0, .int 0, .ref a12]))], [(a1, .inr (5, [.int ((-1)), .int ((-1)), .int ((-1)), .int 0, .ref a13, .int 1, .int 0, .ref a14, .ref a15, .ref a16, .ref a17, .ref a18, .ref a19, .int 0, .ref a20, .ref a21, .ref a22]))], [(a16, .inl (kA 0, 25, .inl (fl (fun _ => 0) 25 0)))], [(a19, .inl (kA 0, 25, .inl f0))], [(a22, .inl (kA 0, 144, .inl f1))], [(a20, .inl (kA 0, 145, .inl f2))]]) H := hP
  have hD : va_D A (cat [[(a0, .inr (1, [.ref a1, .ref a1, .ref a2, .ref a3, .ref a4, .int 0, .int 0, .int 0, .ref a5, .ref a6, .ref a7, .ref a8, .ref a9, .ref a10, .ref a11, .int 0, .int 0, .int 0, .int 0, .ref a12]))], [(a1, .inr (5, [.int ((-1)), .int ((-1)), .int ((-1)), .int 0, .ref a13, .int 1, .int 0, .ref a14, .ref a15, .ref a16, .ref a17, .ref a18, .ref a19, .int 0, .ref a20, .ref a21, .ref a22]))], [(a16, .inl (kA 0, 25, .inl (fl (fun _ => 0) 25 0)))], [(a19, .inl (kA 0, 25, .inl f0))], [(a22, .inl (kA 0, 144, .inl f1))], [(a20, .inl (kA 0, 145, .inl f2))]]) := hD
  refine lv_aload_n (pc := 5) hx hb d_Em_embed_5 rfl (lv_at hl 0 rfl) ?_
  refine k_get (pc := 6) X hK hP 0 rfl rfl i_Em 0 (by decide) wm_326 rfl rfl d_Em_embed_6 ?_
  refine k_get (pc := 9) X hK hP 1 rfl rfl i_Ne 5 (by decide) wm_263 rfl rfl d_Em_embed_9 ?_
  refine lv_aload_n (pc := 12) hx hb d_Em_embed_12 rfl (lv_at hl 0 rfl) ?_
  refine k_get (pc := 13) X hK hP 0 rfl rfl i_Em 0 (by decide) wm_326 rfl rfl d_Em_embed_13 ?_
  refine k_get (pc := 16) X hK hP 1 rfl rfl i_Ne 6 (by decide) wm_266 rfl rfl d_Em_embed_16 ?_
  refine lv_aload_n (pc := 19) hx hb d_Em_embed_19 rfl (lv_at hl 0 rfl) ?_
  refine k_get (pc := 20) X hK hP 0 rfl rfl i_Em 0 (by decide) wm_326 rfl rfl d_Em_embed_20 ?_
  refine k_get (pc := 23) X hK hP 1 rfl rfl i_Ne 7 (by decide) wm_268 rfl rfl d_Em_embed_23 ?_
  refine lv_aload_n (pc := 26) hx hb d_Em_embed_26 rfl (lv_at hl 0 rfl) ?_
  refine k_get (pc := 27) X hK hP 0 rfl rfl i_Em 0 (by decide) wm_326 rfl rfl d_Em_embed_27 ?_
  refine k_get (pc := 30) X hK hP 1 rfl rfl i_Ne 8 (by decide) wm_271 rfl rfl d_Em_embed_30 ?_
  refine lv_aload_n (pc := 33) hx hb d_Em_embed_33 rfl (lv_at hl 0 rfl) ?_
  refine k_get (pc := 34) X hK hP 0 rfl rfl i_Em 0 (by decide) wm_326 rfl rfl d_Em_embed_34 ?_
  refine k_get (pc := 37) X hK hP 1 rfl rfl i_Ne 9 (by decide) wm_274 rfl rfl d_Em_embed_37 ?_
  refine lv_aload_n (pc := 40) hx hb d_Em_embed_40 rfl (lv_at hl 0 rfl) ?_
  refine k_get (pc := 41) X hK hP 0 rfl rfl i_Em 2 (by decide) wm_328 rfl rfl d_Em_embed_41 ?_
  refine k_goI (gr := [[(a0, .inr (1, [.ref a1, .ref a1, .ref a2, .ref a3, .ref a4, .int 0, .int 0, .int 0, .ref a5, .ref a6, .ref a7, .ref a8, .ref a9, .ref a10, .ref a11, .int 0, .int 0, .int 0, .int 0, .ref a12]))], [(a1, .inr (5, [.int ((-1)), .int ((-1)), .int ((-1)), .int 0, .ref a13, .int 1, .int 0, .ref a14, .ref a15, .ref a16, .ref a17, .ref a18, .ref a19, .int 0, .ref a20, .ref a21, .ref a22]))], [(a19, .inl (kA 0, 25, .inl f0))], [(a22, .inl (kA 0, 144, .inl f1))], [(a20, .inl (kA 0, 145, .inl f2))]]) (k_rS (pc := 44) (As := [.int 1, .int 0, .ref a14, .ref a15, .ref a16, .ref a2]) (rest := []) X (c_Fa_blocksOf_z2 l D kA a14 a15 a16 a2 H.size) rfl wm_830 wm_7 wm_1070 wm_829 6 (by decide +kernel) ⟨Nat.le_of_ble_eq_true rfl, Nat.le_of_ble_eq_true rfl⟩ rfl rfl (k_pre hN hK hP hD [2] [0, 1, 3, 4, 5] 6 rfl (by decide) rfl) rfl hl.1 rfl (Nat.le_of_ble_eq_true rfl) d_Em_embed_44 ⟨Nat.le_of_ble_eq_true rfl, Nat.le_of_ble_eq_true rfl⟩) hP hD hS hA [2] [0, 1, 3, 4, 5] 6 rfl (by decide) rfl rfl (fun r1 u2 H locs hu2 hP hD hS => ?_)
  subst hu2
  have hP : va_P D classes (cat [[(a0, .inr (1, [.ref a1, .ref a1, .ref a2, .ref a3, .ref a4, .int 0, .int 0, .int 0, .ref a5, .ref a6, .ref a7, .ref a8, .ref a9, .ref a10, .ref a11, .int 0, .int 0, .int 0, .int 0, .ref a12]))], [(a1, .inr (5, [.int ((-1)), .int ((-1)), .int ((-1)), .int 0, .ref a13, .int 1, .int 0, .ref a14, .ref a15, .ref a16, .ref a17, .ref a18, .ref a19, .int 0, .ref a20, .ref a21, .ref a22]))], [(a19, .inl (kA 0, 25, .inl f0))], [(a22, .inl (kA 0, 144, .inl f1))], [(a20, .inl (kA 0, 145, .inl f2))], [(a16, .inl (kA 0, 25, .inl (fl (fun _ => 0) 25 0)))]]) H := hP
  have hD : va_D A (cat [[(a0, .inr (1, [.ref a1, .ref a1, .ref a2, .ref a3, .ref a4, .int 0, .int 0, .int 0, .ref a5, .ref a6, .ref a7, .ref a8, .ref a9, .ref a10, .ref a11, .int 0, .int 0, .int 0, .int 0, .ref a12]))], [(a1, .inr (5, [.int ((-1)), .int ((-1)), .int ((-1)), .int 0, .ref a13, .int 1, .int 0, .ref a14, .ref a15, .ref a16, .ref a17, .ref a18, .ref a19, .int 0, .ref a20, .ref a21, .ref a22]))], [(a19, .inl (kA 0, 25, .inl f0))], [(a22, .inl (kA 0, 144, .inl f1))], [(a20, .inl (kA 0, 145, .inl f2))], [(a16, .inl (kA 0, 25, .inl (fl (fun _ => 0) 25 0)))]]) := hD
  refine lv_istore_n (pc := 47) (lv' := [(2, .int 0), (0, .ref a0), (1, .ref a1)]) hx hb d_Em_embed_47 rfl hl (by decide) rfl (fun ls hl => ?_)
  refine lv_iconst (pc := 48) (v := 0) hx hb d_Em_embed_48 (by decide) ?_
  refine lv_istore_n (pc := 49) (lv' := [(3, .int 0), (2, .int 0), (0, .ref a0), (1, .ref a1)]) hx hb d_Em_embed_49 rfl hl (by decide) rfl (fun ls hl => ?_)
  refine lv_iload_n (pc := 50) hx hb d_Em_embed_50 rfl (lv_at hl 0 rfl) ?_
  refine lv_iload_n (pc := 51) hx hb d_Em_embed_51 rfl (lv_at hl 1 rfl) ?_
  refine lv_icmp_ge (pc := 52) (tgt := 125) hx hb d_Em_embed_52 (by decide) (fun _ => ?_) (fun c1 => absurd (by decide) c1)
  refine lv_iconst (pc := 125) (v := 0) hx hb d_Em_embed_125 (by decide) ?_
  refine lv_istore_n (pc := 126) (lv' := [(3, .int 0), (2, .int 0), (0, .ref a0), (1, .ref a1)]) hx hb d_Em_embed_126 rfl hl (by decide) rfl (fun ls hl => ?_)
  refine lv_iload_n (pc := 127) hx hb d_Em_embed_127 rfl (lv_at hl 0 rfl) ?_
  refine lv_aload_n (pc := 128) hx hb d_Em_embed_128 rfl (lv_at hl 2 rfl) ?_
  refine k_get (pc := 129) X hK hP 0 rfl rfl i_Em 0 (by decide) wm_326 rfl rfl d_Em_embed_129 ?_
  refine k_get (pc := 132) X hK hP 1 rfl rfl i_Ne 5 (by decide) wm_263 rfl rfl d_Em_embed_132 ?_
  refine lv_icmp_ge (pc := 135) (tgt := 150) hx hb d_Em_embed_135 (by decide) (fun c1 => absurd c1 (by decide)) (fun _ => ?_)
  refine lv_aload_n (pc := 138) hx hb d_Em_embed_138 rfl (lv_at hl 2 rfl) ?_
  refine lv_iload_n (pc := 139) hx hb d_Em_embed_139 rfl (lv_at hl 0 rfl) ?_
  refine lv_iload_n (pc := 140) hx hb d_Em_embed_140 rfl (lv_at hl 1 rfl) ?_
  refine k_goV (gr := [[(a22, .inl (kA 0, 144, .inl f1))], [(a20, .inl (kA 0, 145, .inl f2))], [(a16, .inl (kA 0, 25, .inl (fl (fun _ => 0) 25 0)))]]) (k_rV (pc := 141) (As := [.int 0, .int 0]) (rest := []) X (c_Em_joinBlocksAt_z1 l D kA a0 a1 a2 a3 a4 a5 a6 a7 a8 a9 a10 a11 a12 a13 a14 a15 a16 a17 a18 a19 a20 a21 a22 f0 H.size) rfl wm_1142 wm_5 wm_1139 wm_1141 wv_4_4 2 (by decide +kernel) ⟨Nat.le_of_ble_eq_true rfl, Nat.le_of_ble_eq_true rfl⟩ rfl rfl (va_recv hK hP (ci := 1) (q0 := 0) rfl rfl) (k_pre hN hK hP hD [0, 1, 2] [3, 4, 5] 6 rfl (by decide) rfl) rfl hl.1 rfl (Nat.le_of_ble_eq_true rfl) d_Em_embed_141 ⟨Nat.le_of_ble_eq_true rfl, Nat.le_of_ble_eq_true rfl⟩) hP hD hS hA [0, 1, 2] [3, 4, 5] 6 rfl (by decide) rfl rfl (fun u3 H locs hu3 hP hD hS => ?_)
  have hP : va_P D classes (cat [[(a22, .inl (kA 0, 144, .inl f1))], [(a20, .inl (kA 0, 145, .inl f2))], [(a16, .inl (kA 0, 25, .inl (fl (fun _ => 0) 25 0)))], [(a0, .inr (1, [.ref a1, .ref a1, .ref a2, .ref a3, .ref a4, .int 0, .int 0, .int 0, .ref a5, .ref a6, .ref a7, .ref a8, .ref a9, .ref a10, .ref a11, .int 0, .int 0, .int 0, .int 0, .ref a12]))], [(a1, .inr (5, [.int ((-1)), .int ((-1)), .int ((-1)), .int 0, .ref a13, .int 1, .int 0, .ref a14, .ref a15, .ref a16, .ref a17, .ref a18, .ref a19, .int 0, .ref a20, .ref a21, .ref a22]))], [(a19, .inl (kA 0, 25, .inl (upd (f0) 0 (-1))))]]) H := hP
  have hD : va_D A (cat [[(a22, .inl (kA 0, 144, .inl f1))], [(a20, .inl (kA 0, 145, .inl f2))], [(a16, .inl (kA 0, 25, .inl (fl (fun _ => 0) 25 0)))], [(a0, .inr (1, [.ref a1, .ref a1, .ref a2, .ref a3, .ref a4, .int 0, .int 0, .int 0, .ref a5, .ref a6, .ref a7, .ref a8, .ref a9, .ref a10, .ref a11, .int 0, .int 0, .int 0, .int 0, .ref a12]))], [(a1, .inr (5, [.int ((-1)), .int ((-1)), .int ((-1)), .int 0, .ref a13, .int 1, .int 0, .ref a14, .ref a15, .ref a16, .ref a17, .ref a18, .ref a19, .int 0, .ref a20, .ref a21, .ref a22]))], [(a19, .inl (kA 0, 25, .inl (upd (f0) 0 (-1))))]]) := hD
  refine lv_iinc (pc := 144) (v := 1) (lv' := [(3, .int 1), (2, .int 0), (0, .ref a0), (1, .ref a1)]) hx hb d_Em_embed_144 hl (k := 0) rfl (by decide) (by decide) rfl (fun ls hl => ?_)
  refine lv_goto (pc := 147) (tgt := 127) hx hb d_Em_embed_147 (by decide) ?_
  refine lv_iload_n (pc := 127) hx hb d_Em_embed_127 rfl (lv_at hl 0 rfl) ?_
  refine lv_aload_n (pc := 128) hx hb d_Em_embed_128 rfl (lv_at hl 2 rfl) ?_
  refine k_get (pc := 129) X hK hP 3 rfl rfl i_Em 0 (by decide) wm_326 rfl rfl d_Em_embed_129 ?_
  refine k_get (pc := 132) X hK hP 4 rfl rfl i_Ne 5 (by decide) wm_263 rfl rfl d_Em_embed_132 ?_
  refine lv_icmp_ge (pc := 135) (tgt := 150) hx hb d_Em_embed_135 (by decide) (fun _ => ?_) (fun c1 => absurd (by decide) c1)
  refine lv_aload_n (pc := 150) hx hb d_Em_embed_150 rfl (lv_at hl 2 rfl) ?_
  refine k_get (pc := 151) X hK hP 3 rfl rfl i_Em 0 (by decide) wm_326 rfl rfl d_Em_embed_151 ?_
  refine k_goV (gr := [[(a16, .inl (kA 0, 25, .inl (fl (fun _ => 0) 25 0)))], [(a0, .inr (1, [.ref a1, .ref a1, .ref a2, .ref a3, .ref a4, .int 0, .int 0, .int 0, .ref a5, .ref a6, .ref a7, .ref a8, .ref a9, .ref a10, .ref a11, .int 0, .int 0, .int 0, .int 0, .ref a12]))], [(a19, .inl (kA 0, 25, .inl (upd (f0) 0 (-1))))]]) (k_rV (pc := 154) (As := []) (rest := []) X (c_Ne_traceFaces_z2 l D kA a1 a13 a14 a15 a16 a17 a18 a19 a20 a21 a22 f1 f2 H.size) rfl wm_1150 wm_6 wm_1147 wm_1148 wm_1149 0 (by decide +kernel) ⟨Nat.le_of_ble_eq_true rfl, Nat.le_of_ble_eq_true rfl⟩ rfl rfl (va_recv hK hP (ci := 5) (q0 := 4) rfl rfl) (k_pre hN hK hP hD [4, 0, 1] [2, 3, 5] 6 rfl (by decide) rfl) rfl hl.1 rfl (Nat.le_of_ble_eq_true rfl) d_Em_embed_154 ⟨Nat.le_of_ble_eq_true rfl, Nat.le_of_ble_eq_true rfl⟩) hP hD hS hA [4, 0, 1] [2, 3, 5] 6 rfl (by decide) rfl rfl (fun u4 H locs hu4 hP hD hS => ?_)
  have hP : va_P D classes (cat [[(a16, .inl (kA 0, 25, .inl (fl (fun _ => 0) 25 0)))], [(a0, .inr (1, [.ref a1, .ref a1, .ref a2, .ref a3, .ref a4, .int 0, .int 0, .int 0, .ref a5, .ref a6, .ref a7, .ref a8, .ref a9, .ref a10, .ref a11, .int 0, .int 0, .int 0, .int 0, .ref a12]))], [(a19, .inl (kA 0, 25, .inl (upd (f0) 0 (-1))))], [(a1, .inr (5, [.int ((-1)), .int ((-1)), .int ((-1)), .int 0, .ref a13, .int 1, .int 0, .ref a14, .ref a15, .ref a16, .ref a17, .ref a18, .ref a19, .int 0, .ref a20, .ref a21, .ref a22]))], [(a22, .inl (kA 0, 144, .inl (fl f1 144 (-1))))], [(a20, .inl (kA 0, 145, .inl (upd (f2) 0 0)))]]) H := hP
  have hD : va_D A (cat [[(a16, .inl (kA 0, 25, .inl (fl (fun _ => 0) 25 0)))], [(a0, .inr (1, [.ref a1, .ref a1, .ref a2, .ref a3, .ref a4, .int 0, .int 0, .int 0, .ref a5, .ref a6, .ref a7, .ref a8, .ref a9, .ref a10, .ref a11, .int 0, .int 0, .int 0, .int 0, .ref a12]))], [(a19, .inl (kA 0, 25, .inl (upd (f0) 0 (-1))))], [(a1, .inr (5, [.int ((-1)), .int ((-1)), .int ((-1)), .int 0, .ref a13, .int 1, .int 0, .ref a14, .ref a15, .ref a16, .ref a17, .ref a18, .ref a19, .int 0, .ref a20, .ref a21, .ref a22]))], [(a22, .inl (kA 0, 144, .inl (fl f1 144 (-1))))], [(a20, .inl (kA 0, 145, .inl (upd (f2) 0 0)))]]) := hD
  refine lv_iconst (pc := 157) (v := 1) hx hb d_Em_embed_157 (by decide) ?_
  obtain ⟨hP, hD⟩ := k_ord (gc := [[(a0, .inr (1, [.ref a1, .ref a1, .ref a2, .ref a3, .ref a4, .int 0, .int 0, .int 0, .ref a5, .ref a6, .ref a7, .ref a8, .ref a9, .ref a10, .ref a11, .int 0, .int 0, .int 0, .int 0, .ref a12]))], [(a1, .inr (5, [.int ((-1)), .int ((-1)), .int ((-1)), .int 0, .ref a13, .int 1, .int 0, .ref a14, .ref a15, .ref a16, .ref a17, .ref a18, .ref a19, .int 0, .ref a20, .ref a21, .ref a22]))], [(a16, .inl (kA 0, 25, .inl (fl (fun _ => 0) 25 0)))], [(a19, .inl (kA 0, 25, .inl (upd (f0) 0 (-1))))], [(a22, .inl (kA 0, 144, .inl (fl f1 144 (-1))))], [(a20, .inl (kA 0, 145, .inl (upd (f2) 0 0)))]]) hP hD [1, 3, 0, 2, 4, 5] 6 rfl (by decide) rfl
  refine W.widen (k := 0) (n := 0) (Nat.le_of_ble_eq_true rfl) (Nat.le_of_ble_eq_true rfl) ?_
  exact W.zret (v := 1) hx hb hr rfl (fun t ht hW => ⟨⟨1, (), rfl, rfl, by rw [ht]; exact hP, va_K.moved hW.alike hK, hD⟩, hS.F ht⟩) hS.2.2 d_Em_embed_158
set_option maxRecDepth 100000 in
set_option maxHeartbeats 4000000 in
/-- DrawingHouse$Embedder.outer(LDrawingHouse$Graph;LDrawingHouse$Net;)I -/
theorem c_Em_outer_z1 (l : Launch) (D : va_G) (kA : Nat → ClassId) (a0 : Nat) (g : Nat → Nat → Nat) (j : Nat) (a1 : Nat) (a2 : Nat) (a3 : Nat) (a4 : Nat) (a5 : Nat) (a6 : Nat) (a7 : Nat) (a8 : Nat) (a9 : Nat) (a10 : Nat) (a11 : Nat) (a12 : Nat) (a13 : Nat) (a14 : Nat) (a15 : Nat) (a16 : Nat) (a17 : Nat) (a18 : Nat) (a19 : Nat) (a20 : Nat) (a21 : Nat) (a22 : Nat) (a23 : Nat) (a24 : Nat) (a25 : Nat) (a26 : Nat) (a27 : Nat) (a28 : Nat) (a29 : Nat) (a30 : Nat) (a31 : Nat) (a32 : Nat) (a33 : Nat) (a34 : Nat) (a35 : Nat) (a36 : Nat) (a37 : Nat) (a38 : Nat) (a39 : Nat) (a40 : Nat) (a41 : Nat) (a42 : Nat) (a43 : Nat) (a44 : Nat) (a45 : Nat) (f0 : Nat → Int32) (f1 : Nat → Int32) (f2 : Nat → Int32) (f3 : Nat → Int32) (hj : j < 4) : Ci l y_Em_outer z_Em_outer { frames := 3, cells := 0, slots := 0, locals := 73 } D classes (TY kA) [.ref a0, .ref (g 0 j), .ref (g 2 j)] [[(g 2 j, .inr (5, [.int 1, .int ((-1)), .int ((-1)), .int 0, .ref a1, .int 0, .int 0, .ref a2, .ref a3, .ref a4, .ref a5, .ref a6, .ref a7, .int 0, .ref a8, .ref a9, .ref a10]))], [(a0, .inr (1, [.ref (g 2 j), .ref a11, .ref a12, .ref a13, .ref a14, .int 0, .int 0, .int 0, .ref a15, .ref a16, .ref a17, .ref a18, .ref a19, .ref a20, .ref a21, .int 0, .int 0, .int 0, .int 0, .ref a22]))], [(g 0 j, .inr (3, [.int 0, .int 0, .int 1, .ref a23, .ref a24, .ref a25, .ref a26, .ref a27, .ref a28, .ref a29, .ref a30, .ref a31, .ref a32, .ref a33, .ref a34, .ref a35, .null, .int 0, .int 0]))], [(a11, .inr (5, [.int ((-1)), .int ((-1)), .int ((-1)), .int 0, .ref a36, .int 0, .int 0, .ref a37, .ref a38, .ref a39, .ref a40, .ref a41, .ref a42, .int 0, .ref a43, .ref a44, .ref a45]))], [(a39, .inl (kA 0, 25, .inl (fun _ => 0)))], [(a40, .inl (kA 0, 625, .inl f0))], [(a42, .inl (kA 0, 25, .inl f1))], [(a45, .inl (kA 0, 144, .inl f2))], [(a43, .inl (kA 0, 145, .inl f3))]] (fun r (_ : Unit) => r = 1) (fun u => [[(g 2 j, .inr (5, [.int 1, .int 1, .int ((-1)), .int 0, .ref a1, .int 0, .int 0, .ref a2, .ref a3, .ref a4, .ref a5, .ref a6, .ref a7, .int 0, .ref a8, .ref a9, .ref a10]))], [(a0, .inr (1, [.ref a11, .ref a11, .ref a12, .ref a13, .ref a14, .int 0, .int 0, .int 0, .ref a15, .ref a16, .ref a17, .ref a18, .ref a19, .ref a20, .ref a21, .int 0, .int 0, .int 0, .int 0, .ref a22]))], [(g 0 j, .inr (3, [.int 0, .int 0, .int 1, .ref a23, .ref a24, .ref a25, .ref a26, .ref a27, .ref a28, .ref a29, .ref a30, .ref a31, .ref a32, .ref a33, .ref a34, .ref a35, .null, .int 0, .int 0]))], [(a11, .inr (5, [.int ((-1)), .int ((-1)), .int ((-1)), .int 0, .ref a36, .int 1, .int 0, .ref a37, .ref a38, .ref a39, .ref a40, .ref a41, .ref a42, .int 0, .ref a43, .ref a44, .ref a45]))], [(a39, .inl (kA 0, 25, .inl (fl (fun _ => 0) 25 0)))], [(a40, .inl (kA 0, 625, .inl (fl f0 625 (-1))))], [(a42, .inl (kA 0, 25, .inl (upd ((fl f1 25 (-1))) 0 (-1))))], [(a45, .inl (kA 0, 144, .inl (fl f2 144 (-1))))], [(a43, .inl (kA 0, 145, .inl (upd (f3) 0 0)))]]) 0 0 := by
  intro sz
  refine k_met (cc := b_Em_outer) (maxL := 4) (ret := (some .int)) (by decide) rfl (Nat.le_of_ble_eq_true rfl) (fun p e s m below meth c ls X hl hB => ?_)
  obtain ⟨hsz, hP, hK, hD0, hN⟩ := hB
  subst hsz
  have hD := hD0.self (sz := s.heap.size)
  generalize hAe : va_A (cat [[(g 2 j, .inr (5, [.int 1, .int ((-1)), .int ((-1)), .int 0, .ref a1, .int 0, .int 0, .ref a2, .ref a3, .ref a4, .ref a5, .ref a6, .ref a7, .int 0, .ref a8, .ref a9, .ref a10]))], [(a0, .inr (1, [.ref (g 2 j), .ref a11, .ref a12, .ref a13, .ref a14, .int 0, .int 0, .int 0, .ref a15, .ref a16, .ref a17, .ref a18, .ref a19, .ref a20, .ref a21, .int 0, .int 0, .int 0, .int 0, .ref a22]))], [(g 0 j, .inr (3, [.int 0, .int 0, .int 1, .ref a23, .ref a24, .ref a25, .ref a26, .ref a27, .ref a28, .ref a29, .ref a30, .ref a31, .ref a32, .ref a33, .ref a34, .ref a35, .null, .int 0, .int 0]))], [(a11, .inr (5, [.int ((-1)), .int ((-1)), .int ((-1)), .int 0, .ref a36, .int 0, .int 0, .ref a37, .ref a38, .ref a39, .ref a40, .ref a41, .ref a42, .int 0, .ref a43, .ref a44, .ref a45]))], [(a39, .inl (kA 0, 25, .inl (fun _ => 0)))], [(a40, .inl (kA 0, 625, .inl f0))], [(a42, .inl (kA 0, 25, .inl f1))], [(a45, .inl (kA 0, 144, .inl f2))], [(a43, .inl (kA 0, 145, .inl f3))]]) s.heap.size = A at hD ⊢
  have hA : ∀ q : Nat, s.heap.size ≤ q → A q := fun q h => by rw [← hAe]; exact Or.inr h
  have hS : va_S A s.heap s.heap [] := va_S.rf
  obtain ⟨hx, hb, hml, hown, hts, hr, hlk, hnm⟩ := id X
  have hl : lv_has ls 4 [(0, .ref a0), (1, .ref (g 0 j)), (2, .ref (g 2 j))] := hl
  have hP : va_P D classes (cat [[(g 2 j, .inr (5, [.int 1, .int ((-1)), .int ((-1)), .int 0, .ref a1, .int 0, .int 0, .ref a2, .ref a3, .ref a4, .ref a5, .ref a6, .ref a7, .int 0, .ref a8, .ref a9, .ref a10]))], [(a0, .inr (1, [.ref (g 2 j), .ref a11, .ref a12, .ref a13, .ref a14, .int 0, .int 0, .int 0, .ref a15, .ref a16, .ref a17, .ref a18, .ref a19, .ref a20, .ref a21, .int 0, .int 0, .int 0, .int 0, .ref a22]))], [(g 0 j, .inr (3, [.int 0, .int 0, .int 1, .ref a23, .ref a24, .ref a25, .ref a26, .ref a27, .ref a28, .ref a29, .ref a30, .ref a31, .ref a32, .ref a33, .ref a34, .ref a35, .null, .int 0, .int 0]))], [(a11, .inr (5, [.int ((-1)), .int ((-1)), .int ((-1)), .int 0, .ref a36, .int 0, .int 0, .ref a37, .ref a38, .ref a39, .ref a40, .ref a41, .ref a42, .int 0, .ref a43, .ref a44, .ref a45]))], [(a39, .inl (kA 0, 25, .inl (fun _ => 0)))], [(a40, .inl (kA 0, 625, .inl f0))], [(a42, .inl (kA 0, 25, .inl f1))], [(a45, .inl (kA 0, 144, .inl f2))], [(a43, .inl (kA 0, 145, .inl f3))]]) s.heap := hP
  have hK : va_K D classes (TY kA) s := hK
  refine lv_aload_n (pc := 0) hx hb d_Em_outer_0 rfl (lv_at hl 2 rfl) ?_
  refine k_get (pc := 1) X hK hP 0 rfl rfl i_Ne 1 (by decide) wm_252 rfl rfl d_Em_outer_1 ?_
  refine lv_iconst (pc := 4) (v := -1) hx hb d_Em_outer_4 (by decide) ?_
  refine lv_icmp_ne (pc := 5) (tgt := 78) hx hb d_Em_outer_5 (by decide) (fun c1 => absurd (by decide) c1) (fun _ => ?_)
  refine lv_aload_n (pc := 8) hx hb d_Em_outer_8 rfl (lv_at hl 0 rfl) ?_
  refine k_get (pc := 9) X hK hP 1 rfl rfl i_Em 1 (by decide) wm_327 rfl rfl d_Em_outer_9 ?_
  refine lv_aload_n (pc := 12) hx hb d_Em_outer_12 rfl (lv_at hl 1 rfl) ?_
  refine k_goV (gr := [[(g 2 j, .inr (5, [.int 1, .int ((-1)), .int ((-1)), .int 0, .ref a1, .int 0, .int 0, .ref a2, .ref a3, .ref a4, .ref a5, .ref a6, .ref a7, .int 0, .ref a8, .ref a9, .ref a10]))], [(a0, .inr (1, [.ref (g 2 j), .ref a11, .ref a12, .ref a13, .ref a14, .int 0, .int 0, .int 0, .ref a15, .ref a16, .ref a17, .ref a18, .ref a19, .ref a20, .ref a21, .int 0, .int 0, .int 0, .int 0, .ref a22]))], [(a45, .inl (kA 0, 144, .inl f2))], [(a43, .inl (kA 0, 145, .inl f3))]]) (k_rV (pc := 13) (As := [.ref (g 0 j)]) (rest := []) X (c_Ne_load_z2 l D kA a11 g j a23 a24 a25 a26 a27 a28 a29 a30 a31 a32 a33 a34 a35 a36 a37 a38 a39 a40 a41 a42 a43 a44 a45 (fun _ => 0) f0 f1 hj s.heap.size) rfl wm_1056 wm_6 wm_1168 wm_1054 wm_1055 1 (by decide +kernel) ⟨Nat.le_of_ble_eq_true rfl, Nat.le_of_ble_eq_true rfl⟩ rfl rfl (va_recv hK hP (ci := 5) (q0 := 3) rfl rfl) (k_pre hN hK hP hD [2, 3, 4, 5, 6] [0, 1, 7, 8] 9 rfl (by decide) rfl) rfl hl.1 rfl (Nat.le_of_ble_eq_true rfl) d_Em_outer_13 ⟨Nat.le_of_ble_eq_true rfl, Nat.le_of_ble_eq_true rfl⟩) hP hD hS hA [2, 3, 4, 5, 6] [0, 1, 7, 8] 9 rfl (by decide) rfl rfl (fun u1 H locs hu1 hP hD hS => ?_)
  have hP : va_P D classes (cat [[(g 2 j, .inr (5, [.int 1, .int ((-1)), .int ((-1)), .int 0, .ref a1, .int 0, .int 0, .ref a2, .ref a3, .ref a4, .ref a5, .ref a6, .ref a7, .int 0, .ref a8, .ref a9, .ref a10]))], [(a0, .inr (1, [.ref (g 2 j), .ref a11, .ref a12, .ref a13, .ref a14, .int 0, .int 0, .int 0, .ref a15, .ref a16, .ref a17, .ref a18, .ref a19, .ref a20, .ref a21, .int 0, .int 0, .int 0, .int 0, .ref a22]))], [(a45, .inl (kA 0, 144, .inl f2))], [(a43, .inl (kA 0, 145, .inl f3))], [(g 0 j, .inr (3, [.int 0, .int 0, .int 1, .ref a23, .ref a24, .ref a25, .ref a26, .ref a27, .ref a28, .ref a29, .ref a30, .ref a31, .ref a32, .ref a33, .ref a34, .ref a35, .null, .int 0, .int 0]))], [(a11, .inr (5, [.int ((-1)), .int ((-1)), .int ((-1)), .int 0, .ref a36, .int 0, .int 0, .ref a37, .ref a38, .ref a39, .ref a40, .ref a41, .ref a42, .int 0, .ref a43, .ref a44, .ref a45]))], [(a39, .inl (kA 0, 25, .inl (fl (fun _ => 0) 25 0)))], [(a40, .inl (kA 0, 625, .inl (fl f0 625 (-1))))], [(a42, .inl (kA 0, 25, .inl (fl f1 25 (-1))))]]) H := hP
  have hD : va_D A (cat [[(g 2 j, .inr (5, [.int 1, .int ((-1)), .int ((-1)), .int 0, .ref a1, .int 0, .int 0, .ref a2, .ref a3, .ref a4, .ref a5, .ref a6, .ref a7, .int 0, .ref a8, .ref a9, .ref a10]))], [(a0, .inr (1, [.ref (g 2 j), .ref a11, .ref a12, .ref a13, .ref a14, .int 0, .int 0, .int 0, .ref a15, .ref a16, .ref a17, .ref a18, .ref a19, .ref a20, .ref a21, .int 0, .int 0, .int 0, .int 0, .ref a22]))], [(a45, .inl (kA 0, 144, .inl f2))], [(a43, .inl (kA 0, 145, .inl f3))], [(g 0 j, .inr (3, [.int 0, .int 0, .int 1, .ref a23, .ref a24, .ref a25, .ref a26, .ref a27, .ref a28, .ref a29, .ref a30, .ref a31, .ref a32, .ref a33, .ref a34, .ref a35, .null, .int 0, .int 0]))], [(a11, .inr (5, [.int ((-1)), .int ((-1)), .int ((-1)), .int 0, .ref a36, .int 0, .int 0, .ref a37, .ref a38, .ref a39, .ref a40, .ref a41, .ref a42, .int 0, .ref a43, .ref a44, .ref a45]))], [(a39, .inl (kA 0, 25, .inl (fl (fun _ => 0) 25 0)))], [(a40, .inl (kA 0, 625, .inl (fl f0 625 (-1))))], [(a42, .inl (kA 0, 25, .inl (fl f1 25 (-1))))]]) := hD
  refine lv_aload_n (pc := 16) hx hb d_Em_outer_16 rfl (lv_at hl 0 rfl) ?_
  refine k_get (pc := 17) X hK hP 1 rfl rfl i_Em 1 (by decide) wm_327 rfl rfl d_Em_outer_17 ?_
  refine lv_dup (pc := 20) hx hb d_Em_outer_20 rfl ?_
  refine k_get (pc := 21) X hK hP 5 rfl rfl i_Ne 5 (by decide) wm_263 rfl rfl d_Em_outer_21 ?_
  refine lv_iconst (pc := 24) (v := 1) hx hb d_Em_outer_24 (by decide) ?_
  refine lv_iadd (pc := 25) hx hb d_Em_outer_25 ?_
  refine k_cst (v := 1) (by decide) ?_
  refine k_put (pc := 26) X hK hP hD hS 5 rfl rfl i_Ne t_Ne t_Ne_ok n_Ne 5 (by decide) wm_263 rfl (Or.inl rfl) rfl rfl (Nat.le_of_ble_eq_true rfl) d_Em_outer_26 (fun H locs hP hD hS => ?_)
  have hP : va_P D classes (cat [[(g 2 j, .inr (5, [.int 1, .int ((-1)), .int ((-1)), .int 0, .ref a1, .int 0, .int 0, .ref a2, .ref a3, .ref a4, .ref a5, .ref a6, .ref a7, .int 0, .ref a8, .ref a9, .ref a10]))], [(a0, .inr (1, [.ref (g 2 j), .ref a11, .ref a12, .ref a13, .ref a14, .int 0, .int 0, .int 0, .ref a15, .ref a16, .ref a17, .ref a18, .ref a19, .ref a20, .ref a21, .int 0, .int 0, .int 0, .int 0, .ref a22]))], [(a45, .inl (kA 0, 144, .inl f2))], [(a43, .inl (kA 0, 145, .inl f3))], [(g 0 j, .inr (3, [.int 0, .int 0, .int 1, .ref a23, .ref a24, .ref a25, .ref a26, .ref a27, .ref a28, .ref a29, .ref a30, .ref a31, .ref a32, .ref a33, .ref a34, .ref a35, .null, .int 0, .int 0]))], [(a11, .inr (5, [.int ((-1)), .int ((-1)), .int ((-1)), .int 0, .ref a36, .int 1, .int 0, .ref a37, .ref a38, .ref a39, .ref a40, .ref a41, .ref a42, .int 0, .ref a43, .ref a44, .ref a45]))], [(a39, .inl (kA 0, 25, .inl (fl (fun _ => 0) 25 0)))], [(a40, .inl (kA 0, 625, .inl (fl f0 625 (-1))))], [(a42, .inl (kA 0, 25, .inl (fl f1 25 (-1))))]]) H := hP
  have hD : va_D A (cat [[(g 2 j, .inr (5, [.int 1, .int ((-1)), .int ((-1)), .int 0, .ref a1, .int 0, .int 0, .ref a2, .ref a3, .ref a4, .ref a5, .ref a6, .ref a7, .int 0, .ref a8, .ref a9, .ref a10]))], [(a0, .inr (1, [.ref (g 2 j), .ref a11, .ref a12, .ref a13, .ref a14, .int 0, .int 0, .int 0, .ref a15, .ref a16, .ref a17, .ref a18, .ref a19, .ref a20, .ref a21, .int 0, .int 0, .int 0, .int 0, .ref a22]))], [(a45, .inl (kA 0, 144, .inl f2))], [(a43, .inl (kA 0, 145, .inl f3))], [(g 0 j, .inr (3, [.int 0, .int 0, .int 1, .ref a23, .ref a24, .ref a25, .ref a26, .ref a27, .ref a28, .ref a29, .ref a30, .ref a31, .ref a32, .ref a33, .ref a34, .ref a35, .null, .int 0, .int 0]))], [(a11, .inr (5, [.int ((-1)), .int ((-1)), .int ((-1)), .int 0, .ref a36, .int 1, .int 0, .ref a37, .ref a38, .ref a39, .ref a40, .ref a41, .ref a42, .int 0, .ref a43, .ref a44, .ref a45]))], [(a39, .inl (kA 0, 25, .inl (fl (fun _ => 0) 25 0)))], [(a40, .inl (kA 0, 625, .inl (fl f0 625 (-1))))], [(a42, .inl (kA 0, 25, .inl (fl f1 25 (-1))))]]) := hD
  refine lv_iconst (pc := 29) (v := 0) hx hb d_Em_outer_29 (by decide) ?_
  refine lv_istore_n (pc := 30) (lv' := [(3, .int 0), (0, .ref a0), (1, .ref (g 0 j)), (2, .ref (g 2 j))]) hx hb d_Em_outer_30 rfl hl (by decide) rfl (fun ls hl => ?_)
  refine lv_iload_n (pc := 31) hx hb d_Em_outer_31 rfl (lv_at hl 0 rfl) ?_
  refine lv_aload_n (pc := 32) hx hb d_Em_outer_32 rfl (lv_at hl 2 rfl) ?_
  refine k_get (pc := 33) X hK hP 4 rfl rfl i_Gr 0 (by decide) wm_60 rfl rfl d_Em_outer_33 ?_
  refine lv_icmp_ge (pc := 36) (tgt := 58) hx hb d_Em_outer_36 (by decide) (fun _ => ?_) (fun c1 => absurd (by decide) c1)
  refine lv_aload_n (pc := 58) hx hb d_Em_outer_58 rfl (lv_at hl 3 rfl) ?_
  refine lv_aload_n (pc := 59) hx hb d_Em_outer_59 rfl (lv_at hl 1 rfl) ?_
  refine lv_aload_n (pc := 60) hx hb d_Em_outer_60 rfl (lv_at hl 1 rfl) ?_
  refine k_get (pc := 61) X hK hP 1 rfl rfl i_Em 1 (by decide) wm_327 rfl rfl d_Em_outer_61 ?_
  refine k_goI (gr := [[(g 2 j, .inr (5, [.int 1, .int ((-1)), .int ((-1)), .int 0, .ref a1, .int 0, .int 0, .ref a2, .ref a3, .ref a4, .ref a5, .ref a6, .ref a7, .int 0, .ref a8, .ref a9, .ref a10]))], [(g 0 j, .inr (3, [.int 0, .int 0, .int 1, .ref a23, .ref a24, .ref a25, .ref a26, .ref a27, .ref a28, .ref a29, .ref a30, .ref a31, .ref a32, .ref a33, .ref a34, .ref a35, .null, .int 0, .int 0]))], [(a40, .inl (kA 0, 625, .inl (fl f0 625 (-1))))]]) (k_rV (pc := 64) (As := [.ref a11]) (rest := [.ref (g 2 j)]) X (c_Em_embed_z2 l D kA a0 a11 g j a12 a13 a14 a15 a16 a17 a18 a19 a20 a21 a22 a36 a37 a38 a39 a40 a41 a42 a43 a44 a45 (fl f1 25 (-1)) f2 f3 hj H.size) rfl wm_1069 wm_5 wm_1162 wm_1067 wm_1068 1 (by decide +kernel) ⟨Nat.le_of_ble_eq_true rfl, Nat.le_of_ble_eq_true rfl⟩ rfl rfl (va_recv hK hP (ci := 1) (q0 := 1) rfl rfl) (k_pre hN hK hP hD [1, 5, 6, 8, 2, 3] [0, 4, 7] 9 rfl (by decide) rfl) rfl hl.1 rfl (Nat.le_of_ble_eq_true rfl) d_Em_outer_64 ⟨Nat.le_of_ble_eq_true rfl, Nat.le_of_ble_eq_true rfl⟩) hP hD hS hA [1, 5, 6, 8, 2, 3] [0, 4, 7] 9 rfl (by decide) rfl rfl (fun r2 u3 H locs hu3 hP hD hS => ?_)
  subst hu3
  have hP : va_P D classes (cat [[(g 2 j, .inr (5, [.int 1, .int ((-1)), .int ((-1)), .int 0, .ref a1, .int 0, .int 0, .ref a2, .ref a3, .ref a4, .ref a5, .ref a6, .ref a7, .int 0, .ref a8, .ref a9, .ref a10]))], [(g 0 j, .inr (3, [.int 0, .int 0, .int 1, .ref a23, .ref a24, .ref a25, .ref a26, .ref a27, .ref a28, .ref a29, .ref a30, .ref a31, .ref a32, .ref a33, .ref a34, .ref a35, .null, .int 0, .int 0]))], [(a40, .inl (kA 0, 625, .inl (fl f0 625 (-1))))], [(a0, .inr (1, [.ref a11, .ref a11, .ref a12, .ref a13, .ref a14, .int 0, .int 0, .int 0, .ref a15, .ref a16, .ref a17, .ref a18, .ref a19, .ref a20, .ref a21, .int 0, .int 0, .int 0, .int 0, .ref a22]))], [(a11, .inr (5, [.int ((-1)), .int ((-1)), .int ((-1)), .int 0, .ref a36, .int 1, .int 0, .ref a37, .ref a38, .ref a39, .ref a40, .ref a41, .ref a42, .int 0, .ref a43, .ref a44, .ref a45]))], [(a39, .inl (kA 0, 25, .inl (fl (fun _ => 0) 25 0)))], [(a42, .inl (kA 0, 25, .inl (upd ((fl f1 25 (-1))) 0 (-1))))], [(a45, .inl (kA 0, 144, .inl (fl f2 144 (-1))))], [(a43, .inl (kA 0, 145, .inl (upd (f3) 0 0)))]]) H := hP
  have hD : va_D A (cat [[(g 2 j, .inr (5, [.int 1, .int ((-1)), .int ((-1)), .int 0, .ref a1, .int 0, .int 0, .ref a2, .ref a3, .ref a4, .ref a5, .ref a6, .ref a7, .int 0, .ref a8, .ref a9, .ref a10]))], [(g 0 j, .inr (3, [.int 0, .int 0, .int 1, .ref a23, .ref a24, .ref a25, .ref a26, .ref a27, .ref a28, .ref a29, .ref a30, .ref a31, .ref a32, .ref a33, .ref a34, .ref a35, .null, .int 0, .int 0]))], [(a40, .inl (kA 0, 625, .inl (fl f0 625 (-1))))], [(a0, .inr (1, [.ref a11, .ref a11, .ref a12, .ref a13, .ref a14, .int 0, .int 0, .int 0, .ref a15, .ref a16, .ref a17, .ref a18, .ref a19, .ref a20, .ref a21, .int 0, .int 0, .int 0, .int 0, .ref a22]))], [(a11, .inr (5, [.int ((-1)), .int ((-1)), .int ((-1)), .int 0, .ref a36, .int 1, .int 0, .ref a37, .ref a38, .ref a39, .ref a40, .ref a41, .ref a42, .int 0, .ref a43, .ref a44, .ref a45]))], [(a39, .inl (kA 0, 25, .inl (fl (fun _ => 0) 25 0)))], [(a42, .inl (kA 0, 25, .inl (upd ((fl f1 25 (-1))) 0 (-1))))], [(a45, .inl (kA 0, 144, .inl (fl f2 144 (-1))))], [(a43, .inl (kA 0, 145, .inl (upd (f3) 0 0)))]]) := hD
  refine lv_if_eq (pc := 67) (tgt := 74) hx hb d_Em_outer_67 (by decide) (fun c1 => absurd c1 (by decide)) (fun c1 => ?_)
  refine lv_iconst (pc := 70) (v := 1) hx hb d_Em_outer_70 (by decide) ?_
  refine lv_goto (pc := 71) (tgt := 75) hx hb d_Em_outer_71 (by decide) ?_
  refine k_put (pc := 75) X hK hP hD hS 0 rfl rfl i_Ne t_Ne t_Ne_ok n_Ne 1 (by decide) wm_252 rfl (Or.inl rfl) rfl rfl (Nat.le_of_ble_eq_true rfl) d_Em_outer_75 (fun H locs hP hD hS => ?_)
  have hP : va_P D classes (cat [[(g 2 j, .inr (5, [.int 1, .int 1, .int ((-1)), .int 0, .ref a1, .int 0, .int 0, .ref a2, .ref a3, .ref a4, .ref a5, .ref a6, .ref a7, .int 0, .ref a8, .ref a9, .ref a10]))], [(g 0 j, .inr (3, [.int 0, .int 0, .int 1, .ref a23, .ref a24, .ref a25, .ref a26, .ref a27, .ref a28, .ref a29, .ref a30, .ref a31, .ref a32, .ref a33, .ref a34, .ref a35, .null, .int 0, .int 0]))], [(a40, .inl (kA 0, 625, .inl (fl f0 625 (-1))))], [(a0, .inr (1, [.ref a11, .ref a11, .ref a12, .ref a13, .ref a14, .int 0, .int 0, .int 0, .ref a15, .ref a16, .ref a17, .ref a18, .ref a19, .ref a20, .ref a21, .int 0, .int 0, .int 0, .int 0, .ref a22]))], [(a11, .inr (5, [.int ((-1)), .int ((-1)), .int ((-1)), .int 0, .ref a36, .int 1, .int 0, .ref a37, .ref a38, .ref a39, .ref a40, .ref a41, .ref a42, .int 0, .ref a43, .ref a44, .ref a45]))], [(a39, .inl (kA 0, 25, .inl (fl (fun _ => 0) 25 0)))], [(a42, .inl (kA 0, 25, .inl (upd ((fl f1 25 (-1))) 0 (-1))))], [(a45, .inl (kA 0, 144, .inl (fl f2 144 (-1))))], [(a43, .inl (kA 0, 145, .inl (upd (f3) 0 0)))]]) H := hP
  have hD : va_D A (cat [[(g 2 j, .inr (5, [.int 1, .int 1, .int ((-1)), .int 0, .ref a1, .int 0, .int 0, .ref a2, .ref a3, .ref a4, .ref a5, .ref a6, .ref a7, .int 0, .ref a8, .ref a9, .ref a10]))], [(g 0 j, .inr (3, [.int 0, .int 0, .int 1, .ref a23, .ref a24, .ref a25, .ref a26, .ref a27, .ref a28, .ref a29, .ref a30, .ref a31, .ref a32, .ref a33, .ref a34, .ref a35, .null, .int 0, .int 0]))], [(a40, .inl (kA 0, 625, .inl (fl f0 625 (-1))))], [(a0, .inr (1, [.ref a11, .ref a11, .ref a12, .ref a13, .ref a14, .int 0, .int 0, .int 0, .ref a15, .ref a16, .ref a17, .ref a18, .ref a19, .ref a20, .ref a21, .int 0, .int 0, .int 0, .int 0, .ref a22]))], [(a11, .inr (5, [.int ((-1)), .int ((-1)), .int ((-1)), .int 0, .ref a36, .int 1, .int 0, .ref a37, .ref a38, .ref a39, .ref a40, .ref a41, .ref a42, .int 0, .ref a43, .ref a44, .ref a45]))], [(a39, .inl (kA 0, 25, .inl (fl (fun _ => 0) 25 0)))], [(a42, .inl (kA 0, 25, .inl (upd ((fl f1 25 (-1))) 0 (-1))))], [(a45, .inl (kA 0, 144, .inl (fl f2 144 (-1))))], [(a43, .inl (kA 0, 145, .inl (upd (f3) 0 0)))]]) := hD
  refine lv_aload_n (pc := 78) hx hb d_Em_outer_78 rfl (lv_at hl 3 rfl) ?_
  refine k_get (pc := 79) X hK hP 0 rfl rfl i_Ne 1 (by decide) wm_252 rfl rfl d_Em_outer_79 ?_
  obtain ⟨hP, hD⟩ := k_ord (gc := [[(g 2 j, .inr (5, [.int 1, .int 1, .int ((-1)), .int 0, .ref a1, .int 0, .int 0, .ref a2, .ref a3, .ref a4, .ref a5, .ref a6, .ref a7, .int 0, .ref a8, .ref a9, .ref a10]))], [(a0, .inr (1, [.ref a11, .ref a11, .ref a12, .ref a13, .ref a14, .int 0, .int 0, .int 0, .ref a15, .ref a16, .ref a17, .ref a18, .ref a19, .ref a20, .ref a21, .int 0, .int 0, .int 0, .int 0, .ref a22]))], [(g 0 j, .inr (3, [.int 0, .int 0, .int 1, .ref a23, .ref a24, .ref a25, .ref a26, .ref a27, .ref a28, .ref a29, .ref a30, .ref a31, .ref a32, .ref a33, .ref a34, .ref a35, .null, .int 0, .int 0]))], [(a11, .inr (5, [.int ((-1)), .int ((-1)), .int ((-1)), .int 0, .ref a36, .int 1, .int 0, .ref a37, .ref a38, .ref a39, .ref a40, .ref a41, .ref a42, .int 0, .ref a43, .ref a44, .ref a45]))], [(a39, .inl (kA 0, 25, .inl (fl (fun _ => 0) 25 0)))], [(a40, .inl (kA 0, 625, .inl (fl f0 625 (-1))))], [(a42, .inl (kA 0, 25, .inl (upd ((fl f1 25 (-1))) 0 (-1))))], [(a45, .inl (kA 0, 144, .inl (fl f2 144 (-1))))], [(a43, .inl (kA 0, 145, .inl (upd (f3) 0 0)))]]) hP hD [0, 3, 1, 4, 5, 2, 6, 7, 8] 9 rfl (by decide) rfl
  refine W.widen (k := 0) (n := 0) (Nat.le_of_ble_eq_true rfl) (Nat.le_of_ble_eq_true rfl) ?_
  exact W.iret (v := 1) hx hb hr (fun t ht hW => ⟨⟨1, (), rfl, rfl, by rw [ht]; exact hP, va_K.moved hW.alike hK, hD⟩, hS.F ht⟩) hS.2.2 d_Em_outer_82
set_option maxRecDepth 100000 in
set_option maxHeartbeats 4000000 in
/-- DrawingHouse.planar(II)I -/
theorem c_Ho_planar_z4 (l : Launch) (D : va_G) (kA : Nat → ClassId) (a0 : Nat) (j : Nat) (a1 : Nat) (a2 : Nat) (a3 : Nat) (a4 : Nat) (a5 : Nat) (a6 : Nat) (a7 : Nat) (a8 : Nat) (a9 : Nat) (a10 : Nat) (g : Nat → Nat → Nat) (a11 : Nat) (a12 : Nat) (a13 : Nat) (a14 : Nat) (a15 : Nat) (a16 : Nat) (a17 : Nat) (a18 : Nat) (a19 : Nat) (a20 : Nat) (a21 : Nat) (a22 : Nat) (a23 : Nat) (a24 : Nat) (a25 : Nat) (a26 : Nat) (a27 : Nat) (a28 : Nat) (a29 : Nat) (a30 : Nat) (a31 : Nat) (a32 : Nat) (a33 : Nat) (f0 : Nat → Int32) (f1 : Nat → Int32) (f2 : Nat → Int32) (a34 : Nat) (a35 : Nat) (a36 : Nat) (a37 : Nat) (a38 : Nat) (a39 : Nat) (a40 : Nat) (a41 : Nat) (a42 : Nat) (a43 : Nat) (a44 : Nat) (a45 : Nat) (f3 : Nat → Int32) (f4 : Nat → Int32) (a46 : Nat) (a47 : Nat) (a48 : Nat) (a49 : Nat) (a50 : Nat) (a51 : Nat) (a52 : Nat) (a53 : Nat) (a54 : Nat) (a55 : Nat) (f5 : Nat → Int32) (f6 : Nat → Int32) (f7 : Nat → Int32) (f8 : Nat → Int32) (hj : j < 4) : Ci l y_Ho_planar z_Ho_planar { frames := 4, cells := 0, slots := 0, locals := 96 } D classes (TY kA) [.ref a0, .int (nI j), .int 1] [[(a0, .inr (12, [.ref a1, .ref a2, .ref a3, .ref a4, .ref a5, .ref a6, .ref a7, .int 0, .int ((-1)), .ref a8, .ref a9, .int 0, .int 0, .ref a10, .int 0, .int 0, .null, .null, .null, .null, .null]))], [(a3, .inl (kA 6, 4, .inr (.inr (.inr (.inr (rr (g 2)))))))], [(g 2 j, .inr (5, [.int ((-1)), .int ((-1)), .int ((-1)), .int 0, .ref a11, .int 0, .int 0, .ref a12, .ref a13, .ref a14, .ref a15, .ref a16, .ref a17, .int 0, .ref a18, .ref a19, .ref a20]))], [(a1, .inl (kA 4, 4, .inr (.inr (.inr (.inr (rr (g 0)))))))], [(g 0 j, .inr (3, [.int 0, .int 0, .int 1, .ref a21, .ref a22, .ref a23, .ref a24, .ref a25, .ref a26, .ref a27, .ref a28, .ref a29, .ref a30, .ref a31, .ref a32, .ref a33, .null, .int 0, .int 0]))], [(a14, .inl (kA 0, 25, .inl f0))], [(a15, .inl (kA 0, 625, .inl f1))], [(a17, .inl (kA 0, 25, .inl f2))], [(a6, .inr (1, [.null, .ref a34, .ref a35, .ref a36, .ref a37, .int 0, .int 0, .int 0, .ref a38, .ref a39, .ref a40, .ref a41, .ref a42, .ref a43, .ref a44, .int 0, .int 0, .int 0, .int 0, .ref a45]))], [(a20, .inl (kA 0, 144, .inl f3))], [(a18, .inl (kA 0, 145, .inl f4))], [(a34, .inr (5, [.int ((-1)), .int ((-1)), .int ((-1)), .int 0, .ref a46, .int 0, .int 0, .ref a47, .ref a48, .ref a49, .ref a50, .ref a51, .ref a52, .int 0, .ref a53, .ref a54, .ref a55]))], [(a49, .inl (kA 0, 25, .inl (fun _ => 0)))], [(a50, .inl (kA 0, 625, .inl f5))], [(a52, .inl (kA 0, 25, .inl f6))], [(a55, .inl (kA 0, 144, .inl f7))], [(a53, .inl (kA 0, 145, .inl f8))]] (fun r (_ : List va_W) => r = 1) (fun u => u) 0 0 := by
  intro sz
  refine k_met (cc := b_Ho_planar) (maxL := 4) (ret := (some .int)) (by decide) rfl (Nat.le_of_ble_eq_true rfl) (fun p e s m below meth c ls X hl hB => ?_)
  obtain ⟨hsz, hP, hK, hD0, hN⟩ := hB
  subst hsz
  have hD := hD0.self (sz := s.heap.size)
  generalize hAe : va_A (cat [[(a0, .inr (12, [.ref a1, .ref a2, .ref a3, .ref a4, .ref a5, .ref a6, .ref a7, .int 0, .int ((-1)), .ref a8, .ref a9, .int 0, .int 0, .ref a10, .int 0, .int 0, .null, .null, .null, .null, .null]))], [(a3, .inl (kA 6, 4, .inr (.inr (.inr (.inr (rr (g 2)))))))], [(g 2 j, .inr (5, [.int ((-1)), .int ((-1)), .int ((-1)), .int 0, .ref a11, .int 0, .int 0, .ref a12, .ref a13, .ref a14, .ref a15, .ref a16, .ref a17, .int 0, .ref a18, .ref a19, .ref a20]))], [(a1, .inl (kA 4, 4, .inr (.inr (.inr (.inr (rr (g 0)))))))], [(g 0 j, .inr (3, [.int 0, .int 0, .int 1, .ref a21, .ref a22, .ref a23, .ref a24, .ref a25, .ref a26, .ref a27, .ref a28, .ref a29, .ref a30, .ref a31, .ref a32, .ref a33, .null, .int 0, .int 0]))], [(a14, .inl (kA 0, 25, .inl f0))], [(a15, .inl (kA 0, 625, .inl f1))], [(a17, .inl (kA 0, 25, .inl f2))], [(a6, .inr (1, [.null, .ref a34, .ref a35, .ref a36, .ref a37, .int 0, .int 0, .int 0, .ref a38, .ref a39, .ref a40, .ref a41, .ref a42, .ref a43, .ref a44, .int 0, .int 0, .int 0, .int 0, .ref a45]))], [(a20, .inl (kA 0, 144, .inl f3))], [(a18, .inl (kA 0, 145, .inl f4))], [(a34, .inr (5, [.int ((-1)), .int ((-1)), .int ((-1)), .int 0, .ref a46, .int 0, .int 0, .ref a47, .ref a48, .ref a49, .ref a50, .ref a51, .ref a52, .int 0, .ref a53, .ref a54, .ref a55]))], [(a49, .inl (kA 0, 25, .inl (fun _ => 0)))], [(a50, .inl (kA 0, 625, .inl f5))], [(a52, .inl (kA 0, 25, .inl f6))], [(a55, .inl (kA 0, 144, .inl f7))], [(a53, .inl (kA 0, 145, .inl f8))]]) s.heap.size = A at hD ⊢
  have hA : ∀ q : Nat, s.heap.size ≤ q → A q := fun q h => by rw [← hAe]; exact Or.inr h
  have hS : va_S A s.heap s.heap [] := va_S.rf
  obtain ⟨hx, hb, hml, hown, hts, hr, hlk, hnm⟩ := id X
  have hl : lv_has ls 4 [(0, .ref a0), (1, .int (nI j)), (2, .int 1)] := hl
  have hP : va_P D classes (cat [[(a0, .inr (12, [.ref a1, .ref a2, .ref a3, .ref a4, .ref a5, .ref a6, .ref a7, .int 0, .int ((-1)), .ref a8, .ref a9, .int 0, .int 0, .ref a10, .int 0, .int 0, .null, .null, .null, .null, .null]))], [(a3, .inl (kA 6, 4, .inr (.inr (.inr (.inr (rr (g 2)))))))], [(g 2 j, .inr (5, [.int ((-1)), .int ((-1)), .int ((-1)), .int 0, .ref a11, .int 0, .int 0, .ref a12, .ref a13, .ref a14, .ref a15, .ref a16, .ref a17, .int 0, .ref a18, .ref a19, .ref a20]))], [(a1, .inl (kA 4, 4, .inr (.inr (.inr (.inr (rr (g 0)))))))], [(g 0 j, .inr (3, [.int 0, .int 0, .int 1, .ref a21, .ref a22, .ref a23, .ref a24, .ref a25, .ref a26, .ref a27, .ref a28, .ref a29, .ref a30, .ref a31, .ref a32, .ref a33, .null, .int 0, .int 0]))], [(a14, .inl (kA 0, 25, .inl f0))], [(a15, .inl (kA 0, 625, .inl f1))], [(a17, .inl (kA 0, 25, .inl f2))], [(a6, .inr (1, [.null, .ref a34, .ref a35, .ref a36, .ref a37, .int 0, .int 0, .int 0, .ref a38, .ref a39, .ref a40, .ref a41, .ref a42, .ref a43, .ref a44, .int 0, .int 0, .int 0, .int 0, .ref a45]))], [(a20, .inl (kA 0, 144, .inl f3))], [(a18, .inl (kA 0, 145, .inl f4))], [(a34, .inr (5, [.int ((-1)), .int ((-1)), .int ((-1)), .int 0, .ref a46, .int 0, .int 0, .ref a47, .ref a48, .ref a49, .ref a50, .ref a51, .ref a52, .int 0, .ref a53, .ref a54, .ref a55]))], [(a49, .inl (kA 0, 25, .inl (fun _ => 0)))], [(a50, .inl (kA 0, 625, .inl f5))], [(a52, .inl (kA 0, 25, .inl f6))], [(a55, .inl (kA 0, 144, .inl f7))], [(a53, .inl (kA 0, 145, .inl f8))]]) s.heap := hP
  have hK : va_K D classes (TY kA) s := hK
  refine lv_iload_n (pc := 0) hx hb d_Ho_planar_0 rfl (lv_at hl 1 rfl) ?_
  refine k_goI (gr := [[(a0, .inr (12, [.ref a1, .ref a2, .ref a3, .ref a4, .ref a5, .ref a6, .ref a7, .int 0, .int ((-1)), .ref a8, .ref a9, .int 0, .int 0, .ref a10, .int 0, .int 0, .null, .null, .null, .null, .null]))], [(a3, .inl (kA 6, 4, .inr (.inr (.inr (.inr (rr (g 2)))))))], [(g 2 j, .inr (5, [.int ((-1)), .int ((-1)), .int ((-1)), .int 0, .ref a11, .int 0, .int 0, .ref a12, .ref a13, .ref a14, .ref a15, .ref a16, .ref a17, .int 0, .ref a18, .ref a19, .ref a20]))], [(a1, .inl (kA 4, 4, .inr (.inr (.inr (.inr (rr (g 0)))))))], [(g 0 j, .inr (3, [.int 0, .int 0, .int 1, .ref a21, .ref a22, .ref a23, .ref a24, .ref a25, .ref a26, .ref a27, .ref a28, .ref a29, .ref a30, .ref a31, .ref a32, .ref a33, .null, .int 0, .int 0]))], [(a14, .inl (kA 0, 25, .inl f0))], [(a15, .inl (kA 0, 625, .inl f1))], [(a17, .inl (kA 0, 25, .inl f2))], [(a6, .inr (1, [.null, .ref a34, .ref a35, .ref a36, .ref a37, .int 0, .int 0, .int 0, .ref a38, .ref a39, .ref a40, .ref a41, .ref a42, .ref a43, .ref a44, .int 0, .int 0, .int 0, .int 0, .ref a45]))], [(a20, .inl (kA 0, 144, .inl f3))], [(a18, .inl (kA 0, 145, .inl f4))], [(a34, .inr (5, [.int ((-1)), .int ((-1)), .int ((-1)), .int 0, .ref a46, .int 0, .int 0, .ref a47, .ref a48, .ref a49, .ref a50, .ref a51, .ref a52, .int 0, .ref a53, .ref a54, .ref a55]))], [(a49, .inl (kA 0, 25, .inl (fun _ => 0)))], [(a50, .inl (kA 0, 625, .inl f5))], [(a52, .inl (kA 0, 25, .inl f6))], [(a55, .inl (kA 0, 144, .inl f7))], [(a53, .inl (kA 0, 145, .inl f8))]]) (k_rS (pc := 1) (As := [.int (nI j)]) (rest := []) X (c_Ho_isPlace l D kA (nI j) s.heap.size) rfl wm_633 wm_1 wm_631 wm_632 1 (by decide +kernel) ⟨Nat.le_of_ble_eq_true rfl, Nat.le_of_ble_eq_true rfl⟩ rfl rfl (k_pre hN hK hP hD [] [0, 1, 2, 3, 4, 5, 6, 7, 8, 9, 10, 11, 12, 13, 14, 15, 16] 17 rfl (by decide) rfl) rfl hl.1 rfl (Nat.le_of_ble_eq_true rfl) d_Ho_planar_1 ⟨Nat.le_of_ble_eq_true rfl, Nat.le_of_ble_eq_true rfl⟩) hP hD hS hA [] [0, 1, 2, 3, 4, 5, 6, 7, 8, 9, 10, 11, 12, 13, 14, 15, 16] 17 rfl (by decide) rfl rfl (fun r1 u2 H locs hu2 hP hD hS => ?_)
  subst hu2
  refine k_cst (v := 1) (place_ok hj) ?_
  have hP : va_P D classes (cat [[(a0, .inr (12, [.ref a1, .ref a2, .ref a3, .ref a4, .ref a5, .ref a6, .ref a7, .int 0, .int ((-1)), .ref a8, .ref a9, .int 0, .int 0, .ref a10, .int 0, .int 0, .null, .null, .null, .null, .null]))], [(a3, .inl (kA 6, 4, .inr (.inr (.inr (.inr (rr (g 2)))))))], [(g 2 j, .inr (5, [.int ((-1)), .int ((-1)), .int ((-1)), .int 0, .ref a11, .int 0, .int 0, .ref a12, .ref a13, .ref a14, .ref a15, .ref a16, .ref a17, .int 0, .ref a18, .ref a19, .ref a20]))], [(a1, .inl (kA 4, 4, .inr (.inr (.inr (.inr (rr (g 0)))))))], [(g 0 j, .inr (3, [.int 0, .int 0, .int 1, .ref a21, .ref a22, .ref a23, .ref a24, .ref a25, .ref a26, .ref a27, .ref a28, .ref a29, .ref a30, .ref a31, .ref a32, .ref a33, .null, .int 0, .int 0]))], [(a14, .inl (kA 0, 25, .inl f0))], [(a15, .inl (kA 0, 625, .inl f1))], [(a17, .inl (kA 0, 25, .inl f2))], [(a6, .inr (1, [.null, .ref a34, .ref a35, .ref a36, .ref a37, .int 0, .int 0, .int 0, .ref a38, .ref a39, .ref a40, .ref a41, .ref a42, .ref a43, .ref a44, .int 0, .int 0, .int 0, .int 0, .ref a45]))], [(a20, .inl (kA 0, 144, .inl f3))], [(a18, .inl (kA 0, 145, .inl f4))], [(a34, .inr (5, [.int ((-1)), .int ((-1)), .int ((-1)), .int 0, .ref a46, .int 0, .int 0, .ref a47, .ref a48, .ref a49, .ref a50, .ref a51, .ref a52, .int 0, .ref a53, .ref a54, .ref a55]))], [(a49, .inl (kA 0, 25, .inl (fun _ => 0)))], [(a50, .inl (kA 0, 625, .inl f5))], [(a52, .inl (kA 0, 25, .inl f6))], [(a55, .inl (kA 0, 144, .inl f7))], [(a53, .inl (kA 0, 145, .inl f8))]]) H := hP
  have hD : va_D A (cat [[(a0, .inr (12, [.ref a1, .ref a2, .ref a3, .ref a4, .ref a5, .ref a6, .ref a7, .int 0, .int ((-1)), .ref a8, .ref a9, .int 0, .int 0, .ref a10, .int 0, .int 0, .null, .null, .null, .null, .null]))], [(a3, .inl (kA 6, 4, .inr (.inr (.inr (.inr (rr (g 2)))))))], [(g 2 j, .inr (5, [.int ((-1)), .int ((-1)), .int ((-1)), .int 0, .ref a11, .int 0, .int 0, .ref a12, .ref a13, .ref a14, .ref a15, .ref a16, .ref a17, .int 0, .ref a18, .ref a19, .ref a20]))], [(a1, .inl (kA 4, 4, .inr (.inr (.inr (.inr (rr (g 0)))))))], [(g 0 j, .inr (3, [.int 0, .int 0, .int 1, .ref a21, .ref a22, .ref a23, .ref a24, .ref a25, .ref a26, .ref a27, .ref a28, .ref a29, .ref a30, .ref a31, .ref a32, .ref a33, .null, .int 0, .int 0]))], [(a14, .inl (kA 0, 25, .inl f0))], [(a15, .inl (kA 0, 625, .inl f1))], [(a17, .inl (kA 0, 25, .inl f2))], [(a6, .inr (1, [.null, .ref a34, .ref a35, .ref a36, .ref a37, .int 0, .int 0, .int 0, .ref a38, .ref a39, .ref a40, .ref a41, .ref a42, .ref a43, .ref a44, .int 0, .int 0, .int 0, .int 0, .ref a45]))], [(a20, .inl (kA 0, 144, .inl f3))], [(a18, .inl (kA 0, 145, .inl f4))], [(a34, .inr (5, [.int ((-1)), .int ((-1)), .int ((-1)), .int 0, .ref a46, .int 0, .int 0, .ref a47, .ref a48, .ref a49, .ref a50, .ref a51, .ref a52, .int 0, .ref a53, .ref a54, .ref a55]))], [(a49, .inl (kA 0, 25, .inl (fun _ => 0)))], [(a50, .inl (kA 0, 625, .inl f5))], [(a52, .inl (kA 0, 25, .inl f6))], [(a55, .inl (kA 0, 144, .inl f7))], [(a53, .inl (kA 0, 145, .inl f8))]]) := hD
  refine lv_if_ne (pc := 4) (tgt := 9) hx hb d_Ho_planar_4 (by decide) (fun c1 => ?_) (fun c1 => absurd c1 (by decide))
  refine lv_aload_n (pc := 9) hx hb d_Ho_planar_9 rfl (lv_at hl 0 rfl) ?_
  refine lv_iload_n (pc := 10) hx hb d_Ho_planar_10 rfl (lv_at hl 1 rfl) ?_
  refine k_goR (gr := [[(a34, .inr (5, [.int ((-1)), .int ((-1)), .int ((-1)), .int 0, .ref a46, .int 0, .int 0, .ref a47, .ref a48, .ref a49, .ref a50, .ref a51, .ref a52, .int 0, .ref a53, .ref a54, .ref a55]))], [(a49, .inl (kA 0, 25, .inl (fun _ => 0)))], [(a50, .inl (kA 0, 625, .inl f5))], [(a52, .inl (kA 0, 25, .inl f6))], [(a55, .inl (kA 0, 144, .inl f7))], [(a53, .inl (kA 0, 145, .inl f8))]]) (k_rV (pc := 11) (As := [.int (nI j)]) (rest := []) X (c_Ho_embedded_z1 l D kA a0 j a1 a2 a3 a4 a5 a6 a7 a8 a9 a10 g a11 a12 a13 a14 a15 a16 a17 a18 a19 a20 a21 a22 a23 a24 a25 a26 a27 a28 a29 a30 a31 a32 a33 f0 f1 f2 a34 a35 a36 a37 a38 a39 a40 a41 a42 a43 a44 a45 f3 f4 hj H.size) rfl wm_1052 wm_1 wm_1049 wm_1051 wv_3_6 1 (by decide +kernel) ⟨Nat.le_of_ble_eq_true rfl, Nat.le_of_ble_eq_true rfl⟩ rfl rfl (va_recv hK hP (ci := 12) (q0 := 0) rfl rfl) (k_pre hN hK hP hD [0, 1, 2, 3, 4, 5, 6, 7, 8, 9, 10] [11, 12, 13, 14, 15, 16] 17 rfl (by decide) rfl) rfl hl.1 rfl (Nat.le_of_ble_eq_true rfl) d_Ho_planar_11 ⟨Nat.le_of_ble_eq_true rfl, Nat.le_of_ble_eq_true rfl⟩) hP hD hS hA [0, 1, 2, 3, 4, 5, 6, 7, 8, 9, 10] [11, 12, 13, 14, 15, 16] 17 rfl (by decide) rfl rfl (fun u4 H locs hu4 hP hD hS => ?_)
  have hP : va_P D classes (cat [[(a34, .inr (5, [.int ((-1)), .int ((-1)), .int ((-1)), .int 0, .ref a46, .int 0, .int 0, .ref a47, .ref a48, .ref a49, .ref a50, .ref a51, .ref a52, .int 0, .ref a53, .ref a54, .ref a55]))], [(a49, .inl (kA 0, 25, .inl (fun _ => 0)))], [(a50, .inl (kA 0, 625, .inl f5))], [(a52, .inl (kA 0, 25, .inl f6))], [(a55, .inl (kA 0, 144, .inl f7))], [(a53, .inl (kA 0, 145, .inl f8))], [(a0, .inr (12, [.ref a1, .ref a2, .ref a3, .ref a4, .ref a5, .ref a6, .ref a7, .int 0, .int ((-1)), .ref a8, .ref a9, .int 0, .int 0, .ref a10, .int 0, .int 0, .null, .null, .null, .null, .null]))], [(a3, .inl (kA 6, 4, .inr (.inr (.inr (.inr (rr (g 2)))))))], [(g 2 j, .inr (5, [.int 1, .int ((-1)), .int ((-1)), .int 0, .ref a11, .int 0, .int 0, .ref a12, .ref a13, .ref a14, .ref a15, .ref a16, .ref a17, .int 0, .ref a18, .ref a19, .ref a20]))], [(a1, .inl (kA 4, 4, .inr (.inr (.inr (.inr (rr (g 0)))))))], [(g 0 j, .inr (3, [.int 0, .int 0, .int 1, .ref a21, .ref a22, .ref a23, .ref a24, .ref a25, .ref a26, .ref a27, .ref a28, .ref a29, .ref a30, .ref a31, .ref a32, .ref a33, .null, .int 0, .int 0]))], [(a14, .inl (kA 0, 25, .inl (fl f0 25 0)))], [(a15, .inl (kA 0, 625, .inl (fl f1 625 (-1))))], [(a17, .inl (kA 0, 25, .inl (fl f2 25 (-1))))], [(a6, .inr (1, [.ref (g 2 j), .ref a34, .ref a35, .ref a36, .ref a37, .int 0, .int 0, .int 0, .ref a38, .ref a39, .ref a40, .ref a41, .ref a42, .ref a43, .ref a44, .int 0, .int 0, .int 0, .int 0, .ref a45]))], [(a20, .inl (kA 0, 144, .inl (fl f3 144 (-1))))], [(a18, .inl (kA 0, 145, .inl (upd (f4) 0 0)))]]) H := hP
  have hD : va_D A (cat [[(a34, .inr (5, [.int ((-1)), .int ((-1)), .int ((-1)), .int 0, .ref a46, .int 0, .int 0, .ref a47, .ref a48, .ref a49, .ref a50, .ref a51, .ref a52, .int 0, .ref a53, .ref a54, .ref a55]))], [(a49, .inl (kA 0, 25, .inl (fun _ => 0)))], [(a50, .inl (kA 0, 625, .inl f5))], [(a52, .inl (kA 0, 25, .inl f6))], [(a55, .inl (kA 0, 144, .inl f7))], [(a53, .inl (kA 0, 145, .inl f8))], [(a0, .inr (12, [.ref a1, .ref a2, .ref a3, .ref a4, .ref a5, .ref a6, .ref a7, .int 0, .int ((-1)), .ref a8, .ref a9, .int 0, .int 0, .ref a10, .int 0, .int 0, .null, .null, .null, .null, .null]))], [(a3, .inl (kA 6, 4, .inr (.inr (.inr (.inr (rr (g 2)))))))], [(g 2 j, .inr (5, [.int 1, .int ((-1)), .int ((-1)), .int 0, .ref a11, .int 0, .int 0, .ref a12, .ref a13, .ref a14, .ref a15, .ref a16, .ref a17, .int 0, .ref a18, .ref a19, .ref a20]))], [(a1, .inl (kA 4, 4, .inr (.inr (.inr (.inr (rr (g 0)))))))], [(g 0 j, .inr (3, [.int 0, .int 0, .int 1, .ref a21, .ref a22, .ref a23, .ref a24, .ref a25, .ref a26, .ref a27, .ref a28, .ref a29, .ref a30, .ref a31, .ref a32, .ref a33, .null, .int 0, .int 0]))], [(a14, .inl (kA 0, 25, .inl (fl f0 25 0)))], [(a15, .inl (kA 0, 625, .inl (fl f1 625 (-1))))], [(a17, .inl (kA 0, 25, .inl (fl f2 25 (-1))))], [(a6, .inr (1, [.ref (g 2 j), .ref a34, .ref a35, .ref a36, .ref a37, .int 0, .int 0, .int 0, .ref a38, .ref a39, .ref a40, .ref a41, .ref a42, .ref a43, .ref a44, .int 0, .int 0, .int 0, .int 0, .ref a45]))], [(a20, .inl (kA 0, 144, .inl (fl f3 144 (-1))))], [(a18, .inl (kA 0, 145, .inl (upd (f4) 0 0)))]]) := hD
  refine lv_astore_n (pc := 14) (lv' := [(3, .ref (g 2 j)), (0, .ref a0), (1, .int (nI j)), (2, .int 1)]) hx hb d_Ho_planar_14 rfl hl (by decide) rfl (fun ls hl => ?_)
  refine lv_iload_n (pc := 15) hx hb d_Ho_planar_15 rfl (lv_at hl 3 rfl) ?_
  refine lv_tableIn (pc := 16) (tgt := 57) hx hb d_Ho_planar_16 (by decide) (by decide) rfl (by decide) ?_
  refine lv_aload_n (pc := 57) hx hb d_Ho_planar_57 rfl (lv_at hl 1 rfl) ?_
  refine k_get (pc := 58) X hK hP 6 rfl rfl i_Ho 5 (by decide) wm_560 rfl rfl d_Ho_planar_58 ?_
  refine lv_aload_n (pc := 61) hx hb d_Ho_planar_61 rfl (lv_at hl 1 rfl) ?_
  refine k_get (pc := 62) X hK hP 6 rfl rfl i_Ho 0 (by decide) wm_555 rfl rfl d_Ho_planar_62 ?_
  refine lv_iload_n (pc := 65) hx hb d_Ho_planar_65 rfl (lv_at hl 2 rfl) ?_
  refine k_ald (pc := 66) hx hb hK hP 9 4 rfl rfl (j) rfl (by omega) (by decide) (rr_at (by omega)) d_Ho_planar_66 ?_
  refine lv_aload_n (pc := 67) hx hb d_Ho_planar_67 rfl (lv_at hl 0 rfl) ?_
  refine k_goI (gr := [[(a0, .inr (12, [.ref a1, .ref a2, .ref a3, .ref a4, .ref a5, .ref a6, .ref a7, .int 0, .int ((-1)), .ref a8, .ref a9, .int 0, .int 0, .ref a10, .int 0, .int 0, .null, .null, .null, .null, .null]))], [(a3, .inl (kA 6, 4, .inr (.inr (.inr (.inr (rr (g 2)))))))], [(a1, .inl (kA 4, 4, .inr (.inr (.inr (.inr (rr (g 0)))))))], [(a14, .inl (kA 0, 25, .inl (fl f0 25 0)))], [(a15, .inl (kA 0, 625, .inl (fl f1 625 (-1))))], [(a17, .inl (kA 0, 25, .inl (fl f2 25 (-1))))], [(a20, .inl (kA 0, 144, .inl (fl f3 144 (-1))))], [(a18, .inl (kA 0, 145, .inl (upd (f4) 0 0)))]]) (k_rV (pc := 68) (As := [.ref (g 0 j), .ref (g 2 j)]) (rest := []) X (c_Em_outer_z1 l D kA a6 g j a11 a12 a13 a14 a15 a16 a17 a18 a19 a20 a34 a35 a36 a37 a38 a39 a40 a41 a42 a43 a44 a45 a21 a22 a23 a24 a25 a26 a27 a28 a29 a30 a31 a32 a33 a46 a47 a48 a49 a50 a51 a52 a53 a54 a55 f5 f6 f7 f8 hj H.size) rfl wm_1167 wm_5 wm_1164 wm_1165 wm_1166 2 (by decide +kernel) ⟨Nat.le_of_ble_eq_true rfl, Nat.le_of_ble_eq_true rfl⟩ rfl rfl (va_recv hK hP (ci := 1) (q0 := 14) rfl rfl) (k_pre hN hK hP hD [8, 14, 10, 0, 1, 2, 3, 4, 5] [6, 7, 9, 11, 12, 13, 15, 16] 17 rfl (by decide) rfl) rfl hl.1 rfl (Nat.le_of_ble_eq_true rfl) d_Ho_planar_68 ⟨Nat.le_of_ble_eq_true rfl, Nat.le_of_ble_eq_true rfl⟩) hP hD hS hA [8, 14, 10, 0, 1, 2, 3, 4, 5] [6, 7, 9, 11, 12, 13, 15, 16] 17 rfl (by decide) rfl rfl (fun r5 u6 H locs hu6 hP hD hS => ?_)
  subst hu6
  have hP : va_P D classes (cat [[(a0, .inr (12, [.ref a1, .ref a2, .ref a3, .ref a4, .ref a5, .ref a6, .ref a7, .int 0, .int ((-1)), .ref a8, .ref a9, .int 0, .int 0, .ref a10, .int 0, .int 0, .null, .null, .null, .null, .null]))], [(a3, .inl (kA 6, 4, .inr (.inr (.inr (.inr (rr (g 2)))))))], [(a1, .inl (kA 4, 4, .inr (.inr (.inr (.inr (rr (g 0)))))))], [(a14, .inl (kA 0, 25, .inl (fl f0 25 0)))], [(a15, .inl (kA 0, 625, .inl (fl f1 625 (-1))))], [(a17, .inl (kA 0, 25, .inl (fl f2 25 (-1))))], [(a20, .inl (kA 0, 144, .inl (fl f3 144 (-1))))], [(a18, .inl (kA 0, 145, .inl (upd (f4) 0 0)))], [(g 2 j, .inr (5, [.int 1, .int 1, .int ((-1)), .int 0, .ref a11, .int 0, .int 0, .ref a12, .ref a13, .ref a14, .ref a15, .ref a16, .ref a17, .int 0, .ref a18, .ref a19, .ref a20]))], [(a6, .inr (1, [.ref a34, .ref a34, .ref a35, .ref a36, .ref a37, .int 0, .int 0, .int 0, .ref a38, .ref a39, .ref a40, .ref a41, .ref a42, .ref a43, .ref a44, .int 0, .int 0, .int 0, .int 0, .ref a45]))], [(g 0 j, .inr (3, [.int 0, .int 0, .int 1, .ref a21, .ref a22, .ref a23, .ref a24, .ref a25, .ref a26, .ref a27, .ref a28, .ref a29, .ref a30, .ref a31, .ref a32, .ref a33, .null, .int 0, .int 0]))], [(a34, .inr (5, [.int ((-1)), .int ((-1)), .int ((-1)), .int 0, .ref a46, .int 1, .int 0, .ref a47, .ref a48, .ref a49, .ref a50, .ref a51, .ref a52, .int 0, .ref a53, .ref a54, .ref a55]))], [(a49, .inl (kA 0, 25, .inl (fl (fun _ => 0) 25 0)))], [(a50, .inl (kA 0, 625, .inl (fl f5 625 (-1))))], [(a52, .inl (kA 0, 25, .inl (upd ((fl f6 25 (-1))) 0 (-1))))], [(a55, .inl (kA 0, 144, .inl (fl f7 144 (-1))))], [(a53, .inl (kA 0, 145, .inl (upd (f8) 0 0)))]]) H := hP
  have hD : va_D A (cat [[(a0, .inr (12, [.ref a1, .ref a2, .ref a3, .ref a4, .ref a5, .ref a6, .ref a7, .int 0, .int ((-1)), .ref a8, .ref a9, .int 0, .int 0, .ref a10, .int 0, .int 0, .null, .null, .null, .null, .null]))], [(a3, .inl (kA 6, 4, .inr (.inr (.inr (.inr (rr (g 2)))))))], [(a1, .inl (kA 4, 4, .inr (.inr (.inr (.inr (rr (g 0)))))))], [(a14, .inl (kA 0, 25, .inl (fl f0 25 0)))], [(a15, .inl (kA 0, 625, .inl (fl f1 625 (-1))))], [(a17, .inl (kA 0, 25, .inl (fl f2 25 (-1))))], [(a20, .inl (kA 0, 144, .inl (fl f3 144 (-1))))], [(a18, .inl (kA 0, 145, .inl (upd (f4) 0 0)))], [(g 2 j, .inr (5, [.int 1, .int 1, .int ((-1)), .int 0, .ref a11, .int 0, .int 0, .ref a12, .ref a13, .ref a14, .ref a15, .ref a16, .ref a17, .int 0, .ref a18, .ref a19, .ref a20]))], [(a6, .inr (1, [.ref a34, .ref a34, .ref a35, .ref a36, .ref a37, .int 0, .int 0, .int 0, .ref a38, .ref a39, .ref a40, .ref a41, .ref a42, .ref a43, .ref a44, .int 0, .int 0, .int 0, .int 0, .ref a45]))], [(g 0 j, .inr (3, [.int 0, .int 0, .int 1, .ref a21, .ref a22, .ref a23, .ref a24, .ref a25, .ref a26, .ref a27, .ref a28, .ref a29, .ref a30, .ref a31, .ref a32, .ref a33, .null, .int 0, .int 0]))], [(a34, .inr (5, [.int ((-1)), .int ((-1)), .int ((-1)), .int 0, .ref a46, .int 1, .int 0, .ref a47, .ref a48, .ref a49, .ref a50, .ref a51, .ref a52, .int 0, .ref a53, .ref a54, .ref a55]))], [(a49, .inl (kA 0, 25, .inl (fl (fun _ => 0) 25 0)))], [(a50, .inl (kA 0, 625, .inl (fl f5 625 (-1))))], [(a52, .inl (kA 0, 25, .inl (upd ((fl f6 25 (-1))) 0 (-1))))], [(a55, .inl (kA 0, 144, .inl (fl f7 144 (-1))))], [(a53, .inl (kA 0, 145, .inl (upd (f8) 0 0)))]]) := hD
  refine W.widen (k := 0) (n := 0) (Nat.le_of_ble_eq_true rfl) (Nat.le_of_ble_eq_true rfl) ?_
  exact W.iret (v := 1) hx hb hr (fun t ht hW => ⟨⟨1, [[(a0, .inr (12, [.ref a1, .ref a2, .ref a3, .ref a4, .ref a5, .ref a6, .ref a7, .int 0, .int ((-1)), .ref a8, .ref a9, .int 0, .int 0, .ref a10, .int 0, .int 0, .null, .null, .null, .null, .null]))], [(a3, .inl (kA 6, 4, .inr (.inr (.inr (.inr (rr (g 2)))))))], [(a1, .inl (kA 4, 4, .inr (.inr (.inr (.inr (rr (g 0)))))))], [(a14, .inl (kA 0, 25, .inl (fl f0 25 0)))], [(a15, .inl (kA 0, 625, .inl (fl f1 625 (-1))))], [(a17, .inl (kA 0, 25, .inl (fl f2 25 (-1))))], [(a20, .inl (kA 0, 144, .inl (fl f3 144 (-1))))], [(a18, .inl (kA 0, 145, .inl (upd (f4) 0 0)))], [(g 2 j, .inr (5, [.int 1, .int 1, .int ((-1)), .int 0, .ref a11, .int 0, .int 0, .ref a12, .ref a13, .ref a14, .ref a15, .ref a16, .ref a17, .int 0, .ref a18, .ref a19, .ref a20]))], [(a6, .inr (1, [.ref a34, .ref a34, .ref a35, .ref a36, .ref a37, .int 0, .int 0, .int 0, .ref a38, .ref a39, .ref a40, .ref a41, .ref a42, .ref a43, .ref a44, .int 0, .int 0, .int 0, .int 0, .ref a45]))], [(g 0 j, .inr (3, [.int 0, .int 0, .int 1, .ref a21, .ref a22, .ref a23, .ref a24, .ref a25, .ref a26, .ref a27, .ref a28, .ref a29, .ref a30, .ref a31, .ref a32, .ref a33, .null, .int 0, .int 0]))], [(a34, .inr (5, [.int ((-1)), .int ((-1)), .int ((-1)), .int 0, .ref a46, .int 1, .int 0, .ref a47, .ref a48, .ref a49, .ref a50, .ref a51, .ref a52, .int 0, .ref a53, .ref a54, .ref a55]))], [(a49, .inl (kA 0, 25, .inl (fl (fun _ => 0) 25 0)))], [(a50, .inl (kA 0, 625, .inl (fl f5 625 (-1))))], [(a52, .inl (kA 0, 25, .inl (upd ((fl f6 25 (-1))) 0 (-1))))], [(a55, .inl (kA 0, 144, .inl (fl f7 144 (-1))))], [(a53, .inl (kA 0, 145, .inl (upd (f8) 0 0)))]], rfl, rfl, by rw [ht]; exact hP, va_K.moved hW.alike hK, hD⟩, hS.F ht⟩) hS.2.2 d_Ho_planar_71
set_option maxRecDepth 100000 in
set_option maxHeartbeats 4000000 in
/-- DrawingHouseModel.in(III)Z -/
theorem c_Mo_in_z22 (l : Launch) (D : va_G) (kA : Nat → ClassId) : Ci l y_Mo_in z_Mo_in { frames := 0, cells := 0, slots := 0, locals := 0 } D classes (TY kA) [.int 1, .int 0, .int 4] [] (fun r (_ : Unit) => r = 1) (fun u => []) 0 0 := by
  intro sz
  refine k_met (cc := b_Mo_in) (maxL := 3) (ret := (some .boolean)) (by decide) rfl (Nat.le_of_ble_eq_true rfl) (fun p e s m below meth c ls X hl hB => ?_)
  obtain ⟨hsz, hP, hK, hD0, hN⟩ := hB
  subst hsz
  have hD := hD0.self (sz := s.heap.size)
  generalize hAe : va_A (cat []) s.heap.size = A at hD ⊢
  have hA : ∀ q : Nat, s.heap.size ≤ q → A q := fun q h => by rw [← hAe]; exact Or.inr h
  have hS : va_S A s.heap s.heap [] := va_S.rf
  obtain ⟨hx, hb, hml, hown, hts, hr, hlk, hnm⟩ := id X
  have hl : lv_has ls 3 [(0, .int 1), (1, .int 0), (2, .int 4)] := hl
  have hP : va_P D classes (cat []) s.heap := hP
  have hK : va_K D classes (TY kA) s := hK
  refine lv_iload_n (pc := 0) hx hb d_Mo_in_0 rfl (lv_at hl 0 rfl) ?_
  refine lv_iload_n (pc := 1) hx hb d_Mo_in_1 rfl (lv_at hl 1 rfl) ?_
  refine lv_icmp_lt (pc := 2) (tgt := 14) hx hb d_Mo_in_2 (by decide) (fun c1 => absurd c1 (by decide)) (fun _ => ?_)
  refine lv_iload_n (pc := 5) hx hb d_Mo_in_5 rfl (lv_at hl 0 rfl) ?_
  refine lv_iload_n (pc := 6) hx hb d_Mo_in_6 rfl (lv_at hl 2 rfl) ?_
  refine lv_icmp_gt (pc := 7) (tgt := 14) hx hb d_Mo_in_7 (by decide) (fun c1 => absurd c1 (by decide)) (fun _ => ?_)
  refine lv_iconst (pc := 10) (v := 1) hx hb d_Mo_in_10 (by decide) ?_
  refine lv_goto (pc := 11) (tgt := 15) hx hb d_Mo_in_11 (by decide) ?_
  refine W.widen (k := 0) (n := 0) (Nat.le_of_ble_eq_true rfl) (Nat.le_of_ble_eq_true rfl) ?_
  exact W.zret (v := 1) hx hb hr rfl (fun t ht hW => ⟨⟨1, (), rfl, rfl, by rw [ht]; exact hP, va_K.moved hW.alike hK, hD⟩, hS.F ht⟩) hS.2.2 d_Mo_in_15
set_option maxRecDepth 100000 in
set_option maxHeartbeats 4000000 in
/-- DrawingHouseModel.blocks()I -/
theorem c_Mo_blocks_z3 (l : Launch) (D : va_G) (kA : Nat → ClassId) (a0 : Nat) (qm : Nat → Nat) (j : Nat) (hj : j < 4) : Ci l y_Mo_blocks z_Mo_blocks { frames := 0, cells := 0, slots := 0, locals := 0 } D classes (TY kA) [.ref a0] [[(a0, .inr (13, mF qm (va_up (va_up (va_up x0Mo 5 (nI (539 * (31 * j + 0)))) 31 1) 49 (-1)) y0Mo))]] (fun r (_ : Unit) => r = 0) (fun u => [[(a0, .inr (13, mF qm (va_up (va_up (va_up x0Mo 5 (nI (539 * (31 * j + 0)))) 31 1) 49 (-1)) y0Mo))]]) 0 0 := by
  intro sz
  refine k_met (cc := b_Mo_blocks) (maxL := 4) (ret := (some .int)) (by decide) rfl (Nat.le_of_ble_eq_true rfl) (fun p e s m below meth c ls X hl hB => ?_)
  obtain ⟨hsz, hP, hK, hD0, hN⟩ := hB
  subst hsz
  have hD := hD0.self (sz := s.heap.size)
  generalize hAe : va_A (cat [[(a0, .inr (13, mF qm (va_up (va_up (va_up x0Mo 5 (nI (539 * (31 * j + 0)))) 31 1) 49 (-1)) y0Mo))]]) s.heap.size = A at hD ⊢
  have hA : ∀ q : Nat, s.heap.size ≤ q → A q := fun q h => by rw [← hAe]; exact Or.inr h
  have hS : va_S A s.heap s.heap [] := va_S.rf
  obtain ⟨hx, hb, hml, hown, hts, hr, hlk, hnm⟩ := id X
  have hl : lv_has ls 4 [(0, .ref a0)] := hl
  have hP : va_P D classes (cat [[(a0, .inr (13, mF qm (va_up (va_up (va_up x0Mo 5 (nI (539 * (31 * j + 0)))) 31 1) 49 (-1)) y0Mo))]]) s.heap := hP
  have hK : va_K D classes (TY kA) s := hK
  refine lv_iconst (pc := 0) (v := 0) hx hb d_Mo_blocks_0 (by decide) ?_
  refine lv_istore_n (pc := 1) (lv' := [(1, .int 0), (0, .ref a0)]) hx hb d_Mo_blocks_1 rfl hl (by decide) rfl (fun ls hl => ?_)
  refine lv_iload_n (pc := 2) hx hb d_Mo_blocks_2 rfl (lv_at hl 0 rfl) ?_
  refine lv_aload_n (pc := 3) hx hb d_Mo_blocks_3 rfl (lv_at hl 1 rfl) ?_
  refine k_get (pc := 4) (v := .int 0) X hK hP 0 rfl rfl i_Mo 32 (by decide) wm_2465 rfl rfl d_Mo_blocks_4 ?_
  refine lv_icmp_ge (pc := 7) (tgt := 23) hx hb d_Mo_blocks_7 (by decide) (fun _ => ?_) (fun c1 => absurd (by decide) c1)
  refine lv_iconst (pc := 23) (v := 0) hx hb d_Mo_blocks_23 (by decide) ?_
  refine lv_istore_n (pc := 24) (lv' := [(1, .int 0), (0, .ref a0)]) hx hb d_Mo_blocks_24 rfl hl (by decide) rfl (fun ls hl => ?_)
  refine lv_iload_n (pc := 25) hx hb d_Mo_blocks_25 rfl (lv_at hl 0 rfl) ?_
  refine lv_aload_n (pc := 26) hx hb d_Mo_blocks_26 rfl (lv_at hl 1 rfl) ?_
  refine k_get (pc := 27) (v := .int 1) X hK hP 0 rfl rfl i_Mo 31 (by decide) wm_2464 rfl rfl d_Mo_blocks_27 ?_
  refine lv_icmp_ge (pc := 30) (tgt := 135) hx hb d_Mo_blocks_30 (by decide) (fun c1 => absurd c1 (by decide)) (fun _ => ?_)
  refine lv_iconst (pc := 33) (v := 0) hx hb d_Mo_blocks_33 (by decide) ?_
  refine lv_istore_n (pc := 34) (lv' := [(2, .int 0), (1, .int 0), (0, .ref a0)]) hx hb d_Mo_blocks_34 rfl hl (by decide) rfl (fun ls hl => ?_)
  refine lv_iload_n (pc := 35) hx hb d_Mo_blocks_35 rfl (lv_at hl 0 rfl) ?_
  refine lv_aload_n (pc := 36) hx hb d_Mo_blocks_36 rfl (lv_at hl 2 rfl) ?_
  refine k_get (pc := 37) (v := .int 0) X hK hP 0 rfl rfl i_Mo 32 (by decide) wm_2465 rfl rfl d_Mo_blocks_37 ?_
  refine lv_icmp_ge (pc := 40) (tgt := 129) hx hb d_Mo_blocks_40 (by decide) (fun _ => ?_) (fun c1 => absurd (by decide) c1)
  refine lv_iinc (pc := 129) (v := 1) (lv' := [(1, .int 1), (2, .int 0), (0, .ref a0)]) hx hb d_Mo_blocks_129 hl (k := 1) rfl (by decide) (by decide) rfl (fun ls hl => ?_)
  refine lv_goto (pc := 132) (tgt := 25) hx hb d_Mo_blocks_132 (by decide) ?_
  refine lv_iload_n (pc := 25) hx hb d_Mo_blocks_25 rfl (lv_at hl 0 rfl) ?_
  refine lv_aload_n (pc := 26) hx hb d_Mo_blocks_26 rfl (lv_at hl 2 rfl) ?_
  refine k_get (pc := 27) (v := .int 1) X hK hP 0 rfl rfl i_Mo 31 (by decide) wm_2464 rfl rfl d_Mo_blocks_27 ?_
  refine lv_icmp_ge (pc := 30) (tgt := 135) hx hb d_Mo_blocks_30 (by decide) (fun _ => ?_) (fun c1 => absurd (by decide) c1)
  refine lv_iconst (pc := 135) (v := 0) hx hb d_Mo_blocks_135 (by decide) ?_
  refine lv_istore_n (pc := 136) (lv' := [(1, .int 0), (2, .int 0), (0, .ref a0)]) hx hb d_Mo_blocks_136 rfl hl (by decide) rfl (fun ls hl => ?_)
  refine lv_iconst (pc := 137) (v := 0) hx hb d_Mo_blocks_137 (by decide) ?_
  refine lv_istore_n (pc := 138) (lv' := [(2, .int 0), (1, .int 0), (0, .ref a0)]) hx hb d_Mo_blocks_138 rfl hl (by decide) rfl (fun ls hl => ?_)
  refine lv_iload_n (pc := 139) hx hb d_Mo_blocks_139 rfl (lv_at hl 0 rfl) ?_
  refine lv_aload_n (pc := 140) hx hb d_Mo_blocks_140 rfl (lv_at hl 2 rfl) ?_
  refine k_get (pc := 141) (v := .int 0) X hK hP 0 rfl rfl i_Mo 32 (by decide) wm_2465 rfl rfl d_Mo_blocks_141 ?_
  refine lv_icmp_ge (pc := 144) (tgt := 160) hx hb d_Mo_blocks_144 (by decide) (fun _ => ?_) (fun c1 => absurd (by decide) c1)
  refine lv_iconst (pc := 160) (v := 0) hx hb d_Mo_blocks_160 (by decide) ?_
  refine lv_istore_n (pc := 161) (lv' := [(2, .int 0), (1, .int 0), (0, .ref a0)]) hx hb d_Mo_blocks_161 rfl hl (by decide) rfl (fun ls hl => ?_)
  refine lv_iload_n (pc := 162) hx hb d_Mo_blocks_162 rfl (lv_at hl 0 rfl) ?_
  refine lv_aload_n (pc := 163) hx hb d_Mo_blocks_163 rfl (lv_at hl 2 rfl) ?_
  refine k_get (pc := 164) (v := .int 0) X hK hP 0 rfl rfl i_Mo 32 (by decide) wm_2465 rfl rfl d_Mo_blocks_164 ?_
  refine lv_icmp_ge (pc := 167) (tgt := 233) hx hb d_Mo_blocks_167 (by decide) (fun _ => ?_) (fun c1 => absurd (by decide) c1)
  refine lv_iload_n (pc := 233) hx hb d_Mo_blocks_233 rfl (lv_at hl 1 rfl) ?_
  refine W.widen (k := 0) (n := 0) (Nat.le_of_ble_eq_true rfl) (Nat.le_of_ble_eq_true rfl) ?_
  exact W.iret (v := 0) hx hb hr (fun t ht hW => ⟨⟨0, (), rfl, rfl, by rw [ht]; exact hP, va_K.moved hW.alike hK, hD⟩, hS.F ht⟩) hS.2.2 d_Mo_blocks_234
set_option maxRecDepth 100000 in
set_option maxHeartbeats 4000000 in
/-- DrawingHouseModel.embed()Z -/
theorem c_Mo_embed_z2 (l : Launch) (D : va_G) (kA : Nat → ClassId) (a0 : Nat) (qm : Nat → Nat) (j : Nat) (f0 : Nat → Int32) (hj : j < 4) : Ci l y_Mo_embed z_Mo_embed { frames := 1, cells := 0, slots := 0, locals := 23 } D classes (TY kA) [.ref a0] [[(a0, .inr (13, mF qm (va_up (va_up x0Mo 5 (nI (539 * (31 * j + 0)))) 31 1) y0Mo))], [(qm 36, .inl (kA 0, 26, .inl f0))]] (fun r (_ : Unit) => r = 1) (fun u => [[(a0, .inr (13, mF qm (va_up (va_up (va_up x0Mo 5 (nI (539 * (31 * j + 0)))) 31 1) 49 (-1)) y0Mo))], [(qm 36, .inl (kA 0, 26, .inl (upd (f0) 0 0)))]]) 0 0 := by
  intro sz
  refine k_met (cc := b_Mo_embed) (maxL := 4) (ret := (some .boolean)) (by decide) rfl (Nat.le_of_ble_eq_true rfl) (fun p e s m below meth c ls X hl hB => ?_)
  obtain ⟨hsz, hP, hK, hD0, hN⟩ := hB
  subst hsz
  have hD := hD0.self (sz := s.heap.size)
  generalize hAe : va_A (cat [[(a0, .inr (13, mF qm (va_up (va_up x0Mo 5 (nI (539 * (31 * j + 0)))) 31 1) y0Mo))], [(qm 36, .inl (kA 0, 26, .inl f0))]]) s.heap.size = A at hD ⊢
  have hA : ∀ q : Nat, s.heap.size ≤ q → A q := fun q h => by rw [← hAe]; exact Or.inr h
  have hS : va_S A s.heap s.heap [] := va_S.rf
  obtain ⟨hx, hb, hml, hown, hts, hr, hlk, hnm⟩ := id X
  have hl : lv_has ls 4 [(0, .ref a0)] := hl
  have hP : va_P D classes (cat [[(a0, .inr (13, mF qm (va_up (va_up x0Mo 5 (nI (539 * (31 * j + 0)))) 31 1) y0Mo))], [(qm 36, .inl (kA 0, 26, .inl f0))]]) s.heap := hP
  have hK : va_K D classes (TY kA) s := hK
  refine lv_aload_n (pc := 0) hx hb d_Mo_embed_0 rfl (lv_at hl 0 rfl) ?_
  refine lv_iconst (pc := 1) (v := -1) hx hb d_Mo_embed_1 (by decide) ?_
  refine k_put (pc := 2) X hK hP hD hS 0 rfl rfl i_Mo t_Mo t_Mo_ok n_Mo 49 (by decide) wm_2481 rfl (Or.inl rfl) rfl rfl (Nat.le_of_ble_eq_true rfl) d_Mo_embed_2 (fun H locs hP hD hS => ?_)
  have hP : va_P D classes (cat [[(a0, .inr (13, mF qm (va_up (va_up (va_up x0Mo 5 (nI (539 * (31 * j + 0)))) 31 1) 49 (-1)) y0Mo))], [(qm 36, .inl (kA 0, 26, .inl f0))]]) H := hP
  have hD : va_D A (cat [[(a0, .inr (13, mF qm (va_up (va_up (va_up x0Mo 5 (nI (539 * (31 * j + 0)))) 31 1) 49 (-1)) y0Mo))], [(qm 36, .inl (kA 0, 26, .inl f0))]]) := hD
  refine lv_aload_n (pc := 5) hx hb d_Mo_embed_5 rfl (lv_at hl 0 rfl) ?_
  refine k_goI (gr := [[(qm 36, .inl (kA 0, 26, .inl f0))]]) (k_rV (pc := 6) (As := []) (rest := []) X (c_Mo_blocks_z3 l D kA a0 qm j hj H.size) rfl wm_3155 wm_9 wm_3152 wm_3154 wv_14_14 0 (by decide +kernel) ⟨Nat.le_of_ble_eq_true rfl, Nat.le_of_ble_eq_true rfl⟩ rfl rfl (va_recv hK hP (ci := 13) (q0 := 0) rfl rfl) (k_pre hN hK hP hD [0] [1] 2 rfl (by decide) rfl) rfl hl.1 rfl (Nat.le_of_ble_eq_true rfl) d_Mo_embed_6 ⟨Nat.le_of_ble_eq_true rfl, Nat.le_of_ble_eq_true rfl⟩) hP hD hS hA [0] [1] 2 rfl (by decide) rfl rfl (fun r1 u2 H locs hu2 hP hD hS => ?_)
  subst hu2
  have hP : va_P D classes (cat [[(qm 36, .inl (kA 0, 26, .inl f0))], [(a0, .inr (13, mF qm (va_up (va_up (va_up x0Mo 5 (nI (539 * (31 * j + 0)))) 31 1) 49 (-1)) y0Mo))]]) H := hP
  have hD : va_D A (cat [[(qm 36, .inl (kA 0, 26, .inl f0))], [(a0, .inr (13, mF qm (va_up (va_up (va_up x0Mo 5 (nI (539 * (31 * j + 0)))) 31 1) 49 (-1)) y0Mo))]]) := hD
  refine lv_istore_n (pc := 9) (lv' := [(1, .int 0), (0, .ref a0)]) hx hb d_Mo_embed_9 rfl hl (by decide) rfl (fun ls hl => ?_)
  refine lv_iconst (pc := 10) (v := 0) hx hb d_Mo_embed_10 (by decide) ?_
  refine lv_istore_n (pc := 11) (lv' := [(2, .int 0), (1, .int 0), (0, .ref a0)]) hx hb d_Mo_embed_11 rfl hl (by decide) rfl (fun ls hl => ?_)
  refine lv_iload_n (pc := 12) hx hb d_Mo_embed_12 rfl (lv_at hl 0 rfl) ?_
  refine lv_aload_n (pc := 13) hx hb d_Mo_embed_13 rfl (lv_at hl 2 rfl) ?_
  refine k_get (pc := 14) (v := .int 1) X hK hP 1 rfl rfl i_Mo 31 (by decide) wm_2464 rfl rfl d_Mo_embed_14 ?_
  refine lv_icmp_ge (pc := 17) (tgt := 33) hx hb d_Mo_embed_17 (by decide) (fun c1 => absurd c1 (by decide)) (fun _ => ?_)
  refine lv_aload_n (pc := 20) hx hb d_Mo_embed_20 rfl (lv_at hl 2 rfl) ?_
  refine k_get (pc := 21) (v := .ref (qm 36)) X hK hP 1 rfl rfl i_Mo 36 (by decide) wm_2469 rfl rfl d_Mo_embed_21 ?_
  refine lv_iload_n (pc := 24) hx hb d_Mo_embed_24 rfl (lv_at hl 0 rfl) ?_
  refine lv_iconst (pc := 25) (v := 0) hx hb d_Mo_embed_25 (by decide) ?_
  refine va_iast (pc := 26) hx hb hK hP hD hS 0 0 rfl rfl (by unfold vp_in; decide) d_Mo_embed_26 (fun H locs hP hD hS => ?_)
  have hP : va_P D classes (cat [[(qm 36, .inl (kA 0, 26, .inl (upd (f0) 0 0)))], [(a0, .inr (13, mF qm (va_up (va_up (va_up x0Mo 5 (nI (539 * (31 * j + 0)))) 31 1) 49 (-1)) y0Mo))]]) H := hP
  have hD : va_D A (cat [[(qm 36, .inl (kA 0, 26, .inl (upd (f0) 0 0)))], [(a0, .inr (13, mF qm (va_up (va_up (va_up x0Mo 5 (nI (539 * (31 * j + 0)))) 31 1) 49 (-1)) y0Mo))]]) := hD
  refine lv_iinc (pc := 27) (v := 1) (lv' := [(2, .int 1), (1, .int 0), (0, .ref a0)]) hx hb d_Mo_embed_27 hl (k := 0) rfl (by decide) (by decide) rfl (fun ls hl => ?_)
  refine lv_goto (pc := 30) (tgt := 12) hx hb d_Mo_embed_30 (by decide) ?_
  refine lv_iload_n (pc := 12) hx hb d_Mo_embed_12 rfl (lv_at hl 0 rfl) ?_
  refine lv_aload_n (pc := 13) hx hb d_Mo_embed_13 rfl (lv_at hl 2 rfl) ?_
  refine k_get (pc := 14) (v := .int 1) X hK hP 1 rfl rfl i_Mo 31 (by decide) wm_2464 rfl rfl d_Mo_embed_14 ?_
  refine lv_icmp_ge (pc := 17) (tgt := 33) hx hb d_Mo_embed_17 (by decide) (fun _ => ?_) (fun c1 => absurd (by decide) c1)
  refine lv_iconst (pc := 33) (v := 0) hx hb d_Mo_embed_33 (by decide) ?_
  refine lv_istore_n (pc := 34) (lv' := [(2, .int 0), (1, .int 0), (0, .ref a0)]) hx hb d_Mo_embed_34 rfl hl (by decide) rfl (fun ls hl => ?_)
  refine lv_iload_n (pc := 35) hx hb d_Mo_embed_35 rfl (lv_at hl 0 rfl) ?_
  refine lv_iload_n (pc := 36) hx hb d_Mo_embed_36 rfl (lv_at hl 1 rfl) ?_
  refine lv_icmp_ge (pc := 37) (tgt := 78) hx hb d_Mo_embed_37 (by decide) (fun _ => ?_) (fun c1 => absurd (by decide) c1)
  refine lv_iconst (pc := 78) (v := 1) hx hb d_Mo_embed_78 (by decide) ?_
  obtain ⟨hP, hD⟩ := k_ord (gc := [[(a0, .inr (13, mF qm (va_up (va_up (va_up x0Mo 5 (nI (539 * (31 * j + 0)))) 31 1) 49 (-1)) y0Mo))], [(qm 36, .inl (kA 0, 26, .inl (upd (f0) 0 0)))]]) hP hD [1, 0] 2 rfl (by decide) rfl
  refine W.widen (k := 0) (n := 0) (Nat.le_of_ble_eq_true rfl) (Nat.le_of_ble_eq_true rfl) ?_
  exact W.zret (v := 1) hx hb hr rfl (fun t ht hW => ⟨⟨1, (), rfl, rfl, by rw [ht]; exact hP, va_K.moved hW.alike hK, hD⟩, hS.F ht⟩) hS.2.2 d_Mo_embed_79
set_option maxRecDepth 100000 in
set_option maxHeartbeats 4000000 in
/-- DrawingHouseModel.isOuter()Z -/
theorem c_Mo_isOuter_z1 (l : Launch) (D : va_G) (kA : Nat → ClassId) (a0 : Nat) (qm : Nat → Nat) (j : Nat) (f0 : Nat → Int32) (hj : j < 4) : Ci l y_Mo_isOuter z_Mo_isOuter { frames := 2, cells := 0, slots := 0, locals := 46 } D classes (TY kA) [.ref a0] [[(a0, .inr (13, mF qm (va_up x0Mo 5 (nI (539 * (31 * j + 0)))) y0Mo))], [(qm 2, .inl (kA 0, 66836, .inl all0))], [(qm 36, .inl (kA 0, 26, .inl f0))]] (fun r (_ : Unit) => r = 1) (fun u => [[(a0, .inr (13, mF qm (va_up (va_up (va_up x0Mo 5 (nI (539 * (31 * j + 0)))) 31 1) 49 (-1)) y0Mo))], [(qm 2, .inl (kA 0, 66836, .inl all0))], [(qm 36, .inl (kA 0, 26, .inl (upd (f0) 0 0)))]]) 0 0 := by
  intro sz
  refine k_met (cc := b_Mo_isOuter) (maxL := 2) (ret := (some .boolean)) (by decide) rfl (Nat.le_of_ble_eq_true rfl) (fun p e s m below meth c ls X hl hB => ?_)
  obtain ⟨hsz, hP, hK, hD0, hN⟩ := hB
  subst hsz
  have hD := hD0.self (sz := s.heap.size)
  generalize hAe : va_A (cat [[(a0, .inr (13, mF qm (va_up x0Mo 5 (nI (539 * (31 * j + 0)))) y0Mo))], [(qm 2, .inl (kA 0, 66836, .inl all0))], [(qm 36, .inl (kA 0, 26, .inl f0))]]) s.heap.size = A at hD ⊢
  have hA : ∀ q : Nat, s.heap.size ≤ q → A q := fun q h => by rw [← hAe]; exact Or.inr h
  have hS : va_S A s.heap s.heap [] := va_S.rf
  obtain ⟨hx, hb, hml, hown, hts, hr, hlk, hnm⟩ := id X
  have hl : lv_has ls 2 [(0, .ref a0)] := hl
  have hP : va_P D classes (cat [[(a0, .inr (13, mF qm (va_up x0Mo 5 (nI (539 * (31 * j + 0)))) y0Mo))], [(qm 2, .inl (kA 0, 66836, .inl all0))], [(qm 36, .inl (kA 0, 26, .inl f0))]]) s.heap := hP
  have hK : va_K D classes (TY kA) s := hK
  refine lv_aload_n (pc := 0) hx hb d_Mo_isOuter_0 rfl (lv_at hl 0 rfl) ?_
  refine k_goV (gr := [[(qm 36, .inl (kA 0, 26, .inl f0))]]) (k_rV (pc := 1) (As := []) (rest := []) X (c_Mo_plane_z1 l D kA a0 qm j hj s.heap.size) rfl wm_3147 wm_9 wm_3144 wm_3146 wv_14_12 0 (by decide +kernel) ⟨Nat.le_of_ble_eq_true rfl, Nat.le_of_ble_eq_true rfl⟩ rfl rfl (va_recv hK hP (ci := 13) (q0 := 0) rfl rfl) (k_pre hN hK hP hD [0, 1] [2] 3 rfl (by decide) rfl) rfl hl.1 rfl (Nat.le_of_ble_eq_true rfl) d_Mo_isOuter_1 ⟨Nat.le_of_ble_eq_true rfl, Nat.le_of_ble_eq_true rfl⟩) hP hD hS hA [0, 1] [2] 3 rfl (by decide) rfl rfl (fun u1 H locs hu1 hP hD hS => ?_)
  have hP : va_P D classes (cat [[(qm 36, .inl (kA 0, 26, .inl f0))], [(a0, .inr (13, mF qm (va_up x0Mo 5 (nI (539 * (31 * j + 0)))) y0Mo))], [(qm 2, .inl (kA 0, 66836, .inl all0))]]) H := hP
  have hD : va_D A (cat [[(qm 36, .inl (kA 0, 26, .inl f0))], [(a0, .inr (13, mF qm (va_up x0Mo 5 (nI (539 * (31 * j + 0)))) y0Mo))], [(qm 2, .inl (kA 0, 66836, .inl all0))]]) := hD
  refine lv_iconst (pc := 4) (v := 0) hx hb d_Mo_isOuter_4 (by decide) ?_
  refine lv_istore_n (pc := 5) (lv' := [(1, .int 0), (0, .ref a0)]) hx hb d_Mo_isOuter_5 rfl hl (by decide) rfl (fun ls hl => ?_)
  refine lv_iload_n (pc := 6) hx hb d_Mo_isOuter_6 rfl (lv_at hl 0 rfl) ?_
  refine lv_aload_n (pc := 7) hx hb d_Mo_isOuter_7 rfl (lv_at hl 1 rfl) ?_
  refine k_goI (gr := [[(qm 36, .inl (kA 0, 26, .inl f0))]]) (k_rV (pc := 8) (As := []) (rest := [.int 0]) X (c_Mo_nodes_z1 l D kA a0 qm j hj H.size) rfl wm_3025 wm_9 wm_3022 wm_3024 wv_13_3 0 (by decide +kernel) ⟨Nat.le_of_ble_eq_true rfl, Nat.le_of_ble_eq_true rfl⟩ rfl rfl (va_recv hK hP (ci := 13) (q0 := 1) rfl rfl) (k_pre hN hK hP hD [1, 2] [0] 3 rfl (by decide) rfl) rfl hl.1 rfl (Nat.le_of_ble_eq_true rfl) d_Mo_isOuter_8 ⟨Nat.le_of_ble_eq_true rfl, Nat.le_of_ble_eq_true rfl⟩) hP hD hS hA [1, 2] [0] 3 rfl (by decide) rfl rfl (fun r2 u3 H locs hu3 hP hD hS => ?_)
  subst hu3
  have hP : va_P D classes (cat [[(qm 36, .inl (kA 0, 26, .inl f0))], [(a0, .inr (13, mF qm (va_up x0Mo 5 (nI (539 * (31 * j + 0)))) y0Mo))], [(qm 2, .inl (kA 0, 66836, .inl all0))]]) H := hP
  have hD : va_D A (cat [[(qm 36, .inl (kA 0, 26, .inl f0))], [(a0, .inr (13, mF qm (va_up x0Mo 5 (nI (539 * (31 * j + 0)))) y0Mo))], [(qm 2, .inl (kA 0, 66836, .inl all0))]]) := hD
  refine lv_icmp_ge (pc := 11) (tgt := 63) hx hb d_Mo_isOuter_11 (by decide) (fun _ => ?_) (fun c1 => absurd (by decide) c1)
  refine lv_aload_n (pc := 63) hx hb d_Mo_isOuter_63 rfl (lv_at hl 1 rfl) ?_
  refine lv_dup (pc := 64) hx hb d_Mo_isOuter_64 rfl ?_
  refine k_get (pc := 65) (v := .int 0) X hK hP 1 rfl rfl i_Mo 31 (by decide) wm_2464 rfl rfl d_Mo_isOuter_65 ?_
  refine lv_iconst (pc := 68) (v := 1) hx hb d_Mo_isOuter_68 (by decide) ?_
  refine lv_iadd (pc := 69) hx hb d_Mo_isOuter_69 ?_
  refine k_cst (v := 1) (by decide) ?_
  refine k_put (pc := 70) X hK hP hD hS 1 rfl rfl i_Mo t_Mo t_Mo_ok n_Mo 31 (by decide) wm_2464 rfl (Or.inl rfl) rfl rfl (Nat.le_of_ble_eq_true rfl) d_Mo_isOuter_70 (fun H locs hP hD hS => ?_)
  have hP : va_P D classes (cat [[(qm 36, .inl (kA 0, 26, .inl f0))], [(a0, .inr (13, mF qm (va_up (va_up x0Mo 5 (nI (539 * (31 * j + 0)))) 31 1) y0Mo))], [(qm 2, .inl (kA 0, 66836, .inl all0))]]) H := hP
  have hD : va_D A (cat [[(qm 36, .inl (kA 0, 26, .inl f0))], [(a0, .inr (13, mF qm (va_up (va_up x0Mo 5 (nI (539 * (31 * j + 0)))) 31 1) y0Mo))], [(qm 2, .inl (kA 0, 66836, .inl all0))]]) := hD
  refine lv_aload_n (pc := 73) hx hb d_Mo_isOuter_73 rfl (lv_at hl 1 rfl) ?_
  refine k_goI (gr := [[(qm 2, .inl (kA 0, 66836, .inl all0))]]) (k_rV (pc := 74) (As := []) (rest := []) X (c_Mo_embed_z2 l D kA a0 qm j f0 hj H.size) rfl wm_3151 wm_9 wm_3148 wm_3150 wv_14_13 0 (by decide +kernel) ⟨Nat.le_of_ble_eq_true rfl, Nat.le_of_ble_eq_true rfl⟩ rfl rfl (va_recv hK hP (ci := 13) (q0 := 1) rfl rfl) (k_pre hN hK hP hD [1, 0] [2] 3 rfl (by decide) rfl) rfl hl.1 rfl (Nat.le_of_ble_eq_true rfl) d_Mo_isOuter_74 ⟨Nat.le_of_ble_eq_true rfl, Nat.le_of_ble_eq_true rfl⟩) hP hD hS hA [1, 0] [2] 3 rfl (by decide) rfl rfl (fun r4 u5 H locs hu5 hP hD hS => ?_)
  subst hu5
  have hP : va_P D classes (cat [[(qm 2, .inl (kA 0, 66836, .inl all0))], [(a0, .inr (13, mF qm (va_up (va_up (va_up x0Mo 5 (nI (539 * (31 * j + 0)))) 31 1) 49 (-1)) y0Mo))], [(qm 36, .inl (kA 0, 26, .inl (upd (f0) 0 0)))]]) H := hP
  have hD : va_D A (cat [[(qm 2, .inl (kA 0, 66836, .inl all0))], [(a0, .inr (13, mF qm (va_up (va_up (va_up x0Mo 5 (nI (539 * (31 * j + 0)))) 31 1) 49 (-1)) y0Mo))], [(qm 36, .inl (kA 0, 26, .inl (upd (f0) 0 0)))]]) := hD
  obtain ⟨hP, hD⟩ := k_ord (gc := [[(a0, .inr (13, mF qm (va_up (va_up (va_up x0Mo 5 (nI (539 * (31 * j + 0)))) 31 1) 49 (-1)) y0Mo))], [(qm 2, .inl (kA 0, 66836, .inl all0))], [(qm 36, .inl (kA 0, 26, .inl (upd (f0) 0 0)))]]) hP hD [1, 0, 2] 3 rfl (by decide) rfl
  refine W.widen (k := 0) (n := 0) (Nat.le_of_ble_eq_true rfl) (Nat.le_of_ble_eq_true rfl) ?_
  exact W.zret (v := 1) hx hb hr rfl (fun t ht hW => ⟨⟨1, (), rfl, rfl, by rw [ht]; exact hP, va_K.moved hW.alike hK, hD⟩, hS.F ht⟩) hS.2.2 d_Mo_isOuter_77
set_option maxRecDepth 100000 in
set_option maxHeartbeats 4000000 in
/-- DrawingHouseModel.planar(II)I -/
theorem c_Mo_planar_z4 (l : Launch) (D : va_G) (kA : Nat → ClassId) (a0 : Nat) (j : Nat) (qm : Nat → Nat) (f0 : Nat → Int32) (hj : j < 4) : Ci l y_Mo_planar z_Mo_planar { frames := 3, cells := 0, slots := 0, locals := 67 } D classes (TY kA) [.ref a0, .int (nI j), .int 1] [[(a0, .inr (13, mF qm x0Mo y0Mo))], [(qm 3, .inl (kA 0, 4, .inl (fun _ => 0)))], [(qm 2, .inl (kA 0, 66836, .inl all0))], [(qm 36, .inl (kA 0, 26, .inl f0))]] (fun r (_ : List va_W) => r = 1) (fun u => u) 0 0 := by
  intro sz
  refine k_met (cc := b_Mo_planar) (maxL := 4) (ret := (some .int)) (by decide) rfl (Nat.le_of_ble_eq_true rfl) (fun p e s m below meth c ls X hl hB => ?_)
  obtain ⟨hsz, hP, hK, hD0, hN⟩ := hB
  subst hsz
  have hD := hD0.self (sz := s.heap.size)
  generalize hAe : va_A (cat [[(a0, .inr (13, mF qm x0Mo y0Mo))], [(qm 3, .inl (kA 0, 4, .inl (fun _ => 0)))], [(qm 2, .inl (kA 0, 66836, .inl all0))], [(qm 36, .inl (kA 0, 26, .inl f0))]]) s.heap.size = A at hD ⊢
  have hA : ∀ q : Nat, s.heap.size ≤ q → A q := fun q h => by rw [← hAe]; exact Or.inr h
  have hS : va_S A s.heap s.heap [] := va_S.rf
  obtain ⟨hx, hb, hml, hown, hts, hr, hlk, hnm⟩ := id X
  have hl : lv_has ls 4 [(0, .ref a0), (1, .int (nI j)), (2, .int 1)] := hl
  have hP : va_P D classes (cat [[(a0, .inr (13, mF qm x0Mo y0Mo))], [(qm 3, .inl (kA 0, 4, .inl (fun _ => 0)))], [(qm 2, .inl (kA 0, 66836, .inl all0))], [(qm 36, .inl (kA 0, 26, .inl f0))]]) s.heap := hP
  have hK : va_K D classes (TY kA) s := hK
  refine lv_iload_n (pc := 0) hx hb d_Mo_planar_0 rfl (lv_at hl 1 rfl) ?_
  refine k_goI (gr := [[(a0, .inr (13, mF qm x0Mo y0Mo))], [(qm 3, .inl (kA 0, 4, .inl (fun _ => 0)))], [(qm 2, .inl (kA 0, 66836, .inl all0))], [(qm 36, .inl (kA 0, 26, .inl f0))]]) (k_rS (pc := 1) (As := [.int (nI j)]) (rest := []) X (c_Mo_isPlace l D kA (nI j) s.heap.size) rfl wm_2978 wm_9 wm_2976 wm_2977 1 (by decide +kernel) ⟨Nat.le_of_ble_eq_true rfl, Nat.le_of_ble_eq_true rfl⟩ rfl rfl (k_pre hN hK hP hD [] [0, 1, 2, 3] 4 rfl (by decide) rfl) rfl hl.1 rfl (Nat.le_of_ble_eq_true rfl) d_Mo_planar_1 ⟨Nat.le_of_ble_eq_true rfl, Nat.le_of_ble_eq_true rfl⟩) hP hD hS hA [] [0, 1, 2, 3] 4 rfl (by decide) rfl rfl (fun r1 u2 H locs hu2 hP hD hS => ?_)
  subst hu2
  refine k_cst (v := 1) (placeM_ok hj) ?_
  have hP : va_P D classes (cat [[(a0, .inr (13, mF qm x0Mo y0Mo))], [(qm 3, .inl (kA 0, 4, .inl (fun _ => 0)))], [(qm 2, .inl (kA 0, 66836, .inl all0))], [(qm 36, .inl (kA 0, 26, .inl f0))]]) H := hP
  have hD : va_D A (cat [[(a0, .inr (13, mF qm x0Mo y0Mo))], [(qm 3, .inl (kA 0, 4, .inl (fun _ => 0)))], [(qm 2, .inl (kA 0, 66836, .inl all0))], [(qm 36, .inl (kA 0, 26, .inl f0))]]) := hD
  refine lv_if_eq (pc := 4) (tgt := 16) hx hb d_Mo_planar_4 (by decide) (fun c1 => absurd c1 (by decide)) (fun c1 => ?_)
  refine lv_iload_n (pc := 7) hx hb d_Mo_planar_7 rfl (lv_at hl 2 rfl) ?_
  refine lv_iconst (pc := 8) (v := 0) hx hb d_Mo_planar_8 (by decide) ?_
  refine lv_iconst (pc := 9) (v := 4) hx hb d_Mo_planar_9 (by decide) ?_
  refine k_goI (gr := [[(a0, .inr (13, mF qm x0Mo y0Mo))], [(qm 3, .inl (kA 0, 4, .inl (fun _ => 0)))], [(qm 2, .inl (kA 0, 66836, .inl all0))], [(qm 36, .inl (kA 0, 26, .inl f0))]]) (k_rS (pc := 10) (As := [.int 1, .int 0, .int 4]) (rest := []) X (c_Mo_in_z22 l D kA  H.size) rfl wm_2971 wm_9 wm_2969 wm_2970 3 (by decide +kernel) ⟨Nat.le_of_ble_eq_true rfl, Nat.le_of_ble_eq_true rfl⟩ rfl rfl (k_pre hN hK hP hD [] [0, 1, 2, 3] 4 rfl (by decide) rfl) rfl hl.1 rfl (Nat.le_of_ble_eq_true rfl) d_Mo_planar_10 ⟨Nat.le_of_ble_eq_true rfl, Nat.le_of_ble_eq_true rfl⟩) hP hD hS hA [] [0, 1, 2, 3] 4 rfl (by decide) rfl rfl (fun r3 u4 H locs hu4 hP hD hS => ?_)
  subst hu4
  have hP : va_P D classes (cat [[(a0, .inr (13, mF qm x0Mo y0Mo))], [(qm 3, .inl (kA 0, 4, .inl (fun _ => 0)))], [(qm 2, .inl (kA 0, 66836, .inl all0))], [(qm 36, .inl (kA 0, 26, .inl f0))]]) H := hP
  have hD : va_D A (cat [[(a0, .inr (13, mF qm x0Mo y0Mo))], [(qm 3, .inl (kA 0, 4, .inl (fun _ => 0)))], [(qm 2, .inl (kA 0, 66836, .inl all0))], [(qm 36, .inl (kA 0, 26, .inl f0))]]) := hD
  refine lv_if_ne (pc := 13) (tgt := 18) hx hb d_Mo_planar_13 (by decide) (fun c1 => ?_) (fun c1 => absurd c1 (by decide))
  refine lv_aload_n (pc := 18) hx hb d_Mo_planar_18 rfl (lv_at hl 0 rfl) ?_
  refine lv_iload_n (pc := 19) hx hb d_Mo_planar_19 rfl (lv_at hl 1 rfl) ?_
  refine k_goV (gr := [[(qm 2, .inl (kA 0, 66836, .inl all0))], [(qm 36, .inl (kA 0, 26, .inl f0))]]) (k_rV (pc := 20) (As := [.int (nI j)]) (rest := []) X (c_Mo_take_z1 l D kA a0 j qm hj H.size) rfl wm_3091 wm_9 wm_3088 wm_3090 wv_14_2 1 (by decide +kernel) ⟨Nat.le_of_ble_eq_true rfl, Nat.le_of_ble_eq_true rfl⟩ rfl rfl (va_recv hK hP (ci := 13) (q0 := 0) rfl rfl) (k_pre hN hK hP hD [0, 1] [2, 3] 4 rfl (by decide) rfl) rfl hl.1 rfl (Nat.le_of_ble_eq_true rfl) d_Mo_planar_20 ⟨Nat.le_of_ble_eq_true rfl, Nat.le_of_ble_eq_true rfl⟩) hP hD hS hA [0, 1] [2, 3] 4 rfl (by decide) rfl rfl (fun u5 H locs hu5 hP hD hS => ?_)
  have hP : va_P D classes (cat [[(qm 2, .inl (kA 0, 66836, .inl all0))], [(qm 36, .inl (kA 0, 26, .inl f0))], [(a0, .inr (13, mF qm (va_up x0Mo 5 (nI (539 * (31 * j + 0)))) y0Mo))], [(qm 3, .inl (kA 0, 4, .inl (fun _ => 0)))]]) H := hP
  have hD : va_D A (cat [[(qm 2, .inl (kA 0, 66836, .inl all0))], [(qm 36, .inl (kA 0, 26, .inl f0))], [(a0, .inr (13, mF qm (va_up x0Mo 5 (nI (539 * (31 * j + 0)))) y0Mo))], [(qm 3, .inl (kA 0, 4, .inl (fun _ => 0)))]]) := hD
  refine lv_iload_n (pc := 23) hx hb d_Mo_planar_23 rfl (lv_at hl 2 rfl) ?_
  refine lv_iconst (pc := 24) (v := 1) hx hb d_Mo_planar_24 (by decide) ?_
  refine lv_icmp_ne (pc := 25) (tgt := 41) hx hb d_Mo_planar_25 (by decide) (fun c1 => absurd (by decide) c1) (fun _ => ?_)
  refine lv_aload_n (pc := 28) hx hb d_Mo_planar_28 rfl (lv_at hl 0 rfl) ?_
  refine k_goI (gr := [[(qm 3, .inl (kA 0, 4, .inl (fun _ => 0)))]]) (k_rV (pc := 29) (As := []) (rest := []) X (c_Mo_isOuter_z1 l D kA a0 qm j f0 hj H.size) rfl wm_3143 wm_9 wm_3140 wm_3142 wv_14_11 0 (by decide +kernel) ⟨Nat.le_of_ble_eq_true rfl, Nat.le_of_ble_eq_true rfl⟩ rfl rfl (va_recv hK hP (ci := 13) (q0 := 2) rfl rfl) (k_pre hN hK hP hD [2, 0, 1] [3] 4 rfl (by decide) rfl) rfl hl.1 rfl (Nat.le_of_ble_eq_true rfl) d_Mo_planar_29 ⟨Nat.le_of_ble_eq_true rfl, Nat.le_of_ble_eq_true rfl⟩) hP hD hS hA [2, 0, 1] [3] 4 rfl (by decide) rfl rfl (fun r6 u7 H locs hu7 hP hD hS => ?_)
  subst hu7
  have hP : va_P D classes (cat [[(qm 3, .inl (kA 0, 4, .inl (fun _ => 0)))], [(a0, .inr (13, mF qm (va_up (va_up (va_up x0Mo 5 (nI (539 * (31 * j + 0)))) 31 1) 49 (-1)) y0Mo))], [(qm 2, .inl (kA 0, 66836, .inl all0))], [(qm 36, .inl (kA 0, 26, .inl (upd (f0) 0 0)))]]) H := hP
  have hD : va_D A (cat [[(qm 3, .inl (kA 0, 4, .inl (fun _ => 0)))], [(a0, .inr (13, mF qm (va_up (va_up (va_up x0Mo 5 (nI (539 * (31 * j + 0)))) 31 1) 49 (-1)) y0Mo))], [(qm 2, .inl (kA 0, 66836, .inl all0))], [(qm 36, .inl (kA 0, 26, .inl (upd (f0) 0 0)))]]) := hD
  refine lv_if_eq (pc := 32) (tgt := 39) hx hb d_Mo_planar_32 (by decide) (fun c1 => absurd c1 (by decide)) (fun c1 => ?_)
  refine lv_iconst (pc := 35) (v := 1) hx hb d_Mo_planar_35 (by decide) ?_
  refine lv_goto (pc := 36) (tgt := 40) hx hb d_Mo_planar_36 (by decide) ?_
  refine W.widen (k := 0) (n := 0) (Nat.le_of_ble_eq_true rfl) (Nat.le_of_ble_eq_true rfl) ?_
  exact W.iret (v := 1) hx hb hr (fun t ht hW => ⟨⟨1, [[(qm 3, .inl (kA 0, 4, .inl (fun _ => 0)))], [(a0, .inr (13, mF qm (va_up (va_up (va_up x0Mo 5 (nI (539 * (31 * j + 0)))) 31 1) 49 (-1)) y0Mo))], [(qm 2, .inl (kA 0, 66836, .inl all0))], [(qm 36, .inl (kA 0, 26, .inl (upd (f0) 0 0)))]], rfl, rfl, by rw [ht]; exact hP, va_K.moved hW.alike hK, hD⟩, hS.F ht⟩) hS.2.2 d_Mo_planar_40
set_option maxRecDepth 100000 in
set_option maxHeartbeats 4000000 in
/-- planar, a fresh house -/
theorem lf_planar_4 {p : Program} {e : Env} {s : State} {m : MethodId} {below : List Frame} {meth : Method} {c : Code} (l : Launch) {b : Nat} {xs : Nat → Int32} (C0 : lw_At p s m meth c b 6 xs) {D : va_G} {kA : Nat → ClassId} (h : Nat) (h2 : Nat) (q : Nat → Nat) (qg : Nat → Nat) (qn : Nat → Nat) (qe : Nat → Nat) (qp : Nat → Nat) (qm : Nat → Nat) (g : Nat → Nat → Nat) (j : Nat) (hj : j < 4) (hv1 : xs 1 = nI j) (hv2 : xs 2 = 1) {H : Heap} {locs : List Loc} {ls : Array Slot} (hK : va_K D classes (TY kA) s) (hN : nst s) (hP : va_P D classes (cat [[(h, .inr (12, [.ref (q 0), .ref (q 1), .ref (q 2), .ref (q 3), .ref (q 4), .ref (q 5), .ref (q 6), .int 0, .int ((-1)), .ref (q 9), .ref (q 10), .int 0, .int 0, .ref (q 13), .int 0, .int 0, .null, .null, .null, .null, .null]))], [(q 2, .inl (kA 6, 4, .inr (.inr (.inr (.inr (rr (g 2)))))))], [(g 2 j, .inr (5, [.int ((-1)), .int ((-1)), .int ((-1)), .int 0, .ref (qn 4), .int 0, .int 0, .ref (qn 7), .ref (qn 8), .ref (qn 9), .ref (qn 10), .ref (qn 11), .ref (qn 12), .int 0, .ref (qn 14), .ref (qn 15), .ref (qn 16)]))], [(q 0, .inl (kA 4, 4, .inr (.inr (.inr (.inr (rr (g 0)))))))], [(g 0 j, .inr (3, [.int 0, .int 0, .int 1, .ref (qg 3), .ref (qg 4), .ref (qg 5), .ref (qg 6), .ref (qg 7), .ref (qg 8), .ref (qg 9), .ref (qg 10), .ref (qg 11), .ref (qg 12), .ref (qg 13), .ref (qg 14), .ref (qg 15), .null, .int 0, .int 0]))], [(qn 9, .inl (kA 0, 25, .inl (fun _ => 0)))], [(qn 10, .inl (kA 0, 625, .inl (fun _ => 0)))], [(qn 12, .inl (kA 0, 25, .inl (fun _ => 0)))], [(q 5, .inr (1, [.null, .ref (qe 1), .ref (qe 2), .ref (qe 3), .ref (qe 4), .int 0, .int 0, .int 0, .ref (qe 8), .ref (qe 9), .ref (qe 10), .ref (qe 11), .ref (qe 12), .ref (qe 13), .ref (qe 14), .int 0, .int 0, .int 0, .int 0, .ref (qe 19)]))], [(qn 16, .inl (kA 0, 144, .inl (fun _ => 0)))], [(qn 14, .inl (kA 0, 145, .inl (fun _ => 0)))], [(qe 1, .inr (5, [.int ((-1)), .int ((-1)), .int ((-1)), .int 0, .ref (qp 4), .int 0, .int 0, .ref (qp 7), .ref (qp 8), .ref (qp 9), .ref (qp 10), .ref (qp 11), .ref (qp 12), .int 0, .ref (qp 14), .ref (qp 15), .ref (qp 16)]))], [(qp 9, .inl (kA 0, 25, .inl (fun _ => 0)))], [(qp 10, .inl (kA 0, 625, .inl (fun _ => 0)))], [(qp 12, .inl (kA 0, 25, .inl (fun _ => 0)))], [(qp 16, .inl (kA 0, 144, .inl (fun _ => 0)))], [(qp 14, .inl (kA 0, 145, .inl (fun _ => 0)))], [(h2, .inr (13, mF qm x0Mo y0Mo))], [(qm 3, .inl (kA 0, 4, .inl (fun _ => 0)))], [(qm 2, .inl (kA 0, 66836, .inl all0))], [(qm 36, .inl (kA 0, 26, .inl (fun _ => 0)))]]) H) (hD : va_D (fun q : Nat => s.heap.size ≤ q) (cat [[(h, .inr (12, [.ref (q 0), .ref (q 1), .ref (q 2), .ref (q 3), .ref (q 4), .ref (q 5), .ref (q 6), .int 0, .int ((-1)), .ref (q 9), .ref (q 10), .int 0, .int 0, .ref (q 13), .int 0, .int 0, .null, .null, .null, .null, .null]))], [(q 2, .inl (kA 6, 4, .inr (.inr (.inr (.inr (rr (g 2)))))))], [(g 2 j, .inr (5, [.int ((-1)), .int ((-1)), .int ((-1)), .int 0, .ref (qn 4), .int 0, .int 0, .ref (qn 7), .ref (qn 8), .ref (qn 9), .ref (qn 10), .ref (qn 11), .ref (qn 12), .int 0, .ref (qn 14), .ref (qn 15), .ref (qn 16)]))], [(q 0, .inl (kA 4, 4, .inr (.inr (.inr (.inr (rr (g 0)))))))], [(g 0 j, .inr (3, [.int 0, .int 0, .int 1, .ref (qg 3), .ref (qg 4), .ref (qg 5), .ref (qg 6), .ref (qg 7), .ref (qg 8), .ref (qg 9), .ref (qg 10), .ref (qg 11), .ref (qg 12), .ref (qg 13), .ref (qg 14), .ref (qg 15), .null, .int 0, .int 0]))], [(qn 9, .inl (kA 0, 25, .inl (fun _ => 0)))], [(qn 10, .inl (kA 0, 625, .inl (fun _ => 0)))], [(qn 12, .inl (kA 0, 25, .inl (fun _ => 0)))], [(q 5, .inr (1, [.null, .ref (qe 1), .ref (qe 2), .ref (qe 3), .ref (qe 4), .int 0, .int 0, .int 0, .ref (qe 8), .ref (qe 9), .ref (qe 10), .ref (qe 11), .ref (qe 12), .ref (qe 13), .ref (qe 14), .int 0, .int 0, .int 0, .int 0, .ref (qe 19)]))], [(qn 16, .inl (kA 0, 144, .inl (fun _ => 0)))], [(qn 14, .inl (kA 0, 145, .inl (fun _ => 0)))], [(qe 1, .inr (5, [.int ((-1)), .int ((-1)), .int ((-1)), .int 0, .ref (qp 4), .int 0, .int 0, .ref (qp 7), .ref (qp 8), .ref (qp 9), .ref (qp 10), .ref (qp 11), .ref (qp 12), .int 0, .ref (qp 14), .ref (qp 15), .ref (qp 16)]))], [(qp 9, .inl (kA 0, 25, .inl (fun _ => 0)))], [(qp 10, .inl (kA 0, 625, .inl (fun _ => 0)))], [(qp 12, .inl (kA 0, 25, .inl (fun _ => 0)))], [(qp 16, .inl (kA 0, 144, .inl (fun _ => 0)))], [(qp 14, .inl (kA 0, 145, .inl (fun _ => 0)))], [(h2, .inr (13, mF qm x0Mo y0Mo))], [(qm 3, .inl (kA 0, 4, .inl (fun _ => 0)))], [(qm 2, .inl (kA 0, 66836, .inl all0))], [(qm 36, .inl (kA 0, 26, .inl (fun _ => 0)))]])) (hS : va_S (fun q : Nat => s.heap.size ≤ q) s.heap H locs) (hl : lv_has ls 4 [(3, .int 0), (2, .ref h2), (1, .ref h), (0, .ref b)]) : W p l e room_1 s m #[Value.ref b] below meth c H locs 368 365796 (lw_Z below #[Value.ref b] s) (F0 m 679 ls []) := by
  obtain ⟨hx, hb, hr, hml, hown, hts0, hX, hbl, hlocks, hgv⟩ := id C0
  have hts : ∀ w ∈ lw_g, w.before #[Value.ref b] s = true := fun w h => hts0 w (lw_gt h)
  have X : cx p s m #[Value.ref b] meth c b_law_law 4 ret "DrawingHouseLaw" meth.name := ⟨hx, hb, hml, hown, hts, hr, hlocks, rfl⟩
  obtain ⟨A, hAe⟩ : ∃ A : Nat → Prop, A = fun q : Nat => s.heap.size ≤ q := ⟨_, rfl⟩
  have hA : ∀ q : Nat, s.heap.size ≤ q → A q := fun q h => by rw [hAe]; exact h
  have hbA : ¬ A b := by rw [hAe]; exact Nat.not_le.mpr hbl
  rw [← hAe] at hD hS
  refine lv_aload_n (pc := 679) hx hb d_law_law_679 rfl (lv_at hl 2 rfl) ?_
  refine lv_aload_n (pc := 680) hx hb d_law_law_680 rfl (lv_at hl 3 rfl) ?_
  refine lv_iload_n (pc := 681) hx hb d_law_law_681 rfl (lv_at hl 0 rfl) ?_
  refine lv_iconst (pc := 682) (v := 1) hx hb d_law_law_682 (by decide) ?_
  refine lv_iadd (pc := 683) hx hb d_law_law_683 ?_
  refine k_cst (v := 1) (by decide) ?_
  refine va_sld (pc := 684) hx hb hX hbl hbA hS (by unfold vp_in; decide) d_law_law_684 ?_
  refine k_cst (v := nI j) hv1 ?_
  refine lv_aload_n (pc := 685) hx hb d_law_law_685 rfl (lv_at hl 3 rfl) ?_
  refine lv_iload_n (pc := 686) hx hb d_law_law_686 rfl (lv_at hl 0 rfl) ?_
  refine lv_iconst (pc := 687) (v := 2) hx hb d_law_law_687 (by decide) ?_
  refine lv_iadd (pc := 688) hx hb d_law_law_688 ?_
  refine k_cst (v := 2) (by decide) ?_
  refine va_sld (pc := 689) hx hb hX hbl hbA hS (by unfold vp_in; decide) d_law_law_689 ?_
  refine k_cst (v := 1) hv2 ?_
  refine k_goI (gr := [[(h2, .inr (13, mF qm x0Mo y0Mo))], [(qm 3, .inl (kA 0, 4, .inl (fun _ => 0)))], [(qm 2, .inl (kA 0, 66836, .inl all0))], [(qm 36, .inl (kA 0, 26, .inl (fun _ => 0)))]]) (k_rV (pc := 690) (As := [.int (nI j), .int 1]) (rest := []) X (c_Ho_planar_z4 l D kA h j (q 0) (q 1) (q 2) (q 3) (q 4) (q 5) (q 6) (q 9) (q 10) (q 13) g (qn 4) (qn 7) (qn 8) (qn 9) (qn 10) (qn 11) (qn 12) (qn 14) (qn 15) (qn 16) (qg 3) (qg 4) (qg 5) (qg 6) (qg 7) (qg 8) (qg 9) (qg 10) (qg 11) (qg 12) (qg 13) (qg 14) (qg 15) (fun _ => 0) (fun _ => 0) (fun _ => 0) (qe 1) (qe 2) (qe 3) (qe 4) (qe 8) (qe 9) (qe 10) (qe 11) (qe 12) (qe 13) (qe 14) (qe 19) (fun _ => 0) (fun _ => 0) (qp 4) (qp 7) (qp 8) (qp 9) (qp 10) (qp 11) (qp 12) (qp 14) (qp 15) (qp 16) (fun _ => 0) (fun _ => 0) (fun _ => 0) (fun _ => 0) hj H.size) rfl wm_1048 wm_1 wm_1045 wm_1046 wm_1047 2 (by decide +kernel) ⟨Nat.le_of_ble_eq_true rfl, Nat.le_of_ble_eq_true rfl⟩ rfl rfl (va_recv hK hP (ci := 12) (q0 := 0) rfl rfl) (k_pre hN hK hP hD [0, 1, 2, 3, 4, 5, 6, 7, 8, 9, 10, 11, 12, 13, 14, 15, 16] [17, 18, 19, 20] 21 rfl (by decide) rfl) rfl hl.1 rfl (Nat.le_of_ble_eq_true rfl) d_law_law_690 ⟨Nat.le_of_ble_eq_true rfl, Nat.le_of_ble_eq_true rfl⟩) hP hD hS hA [0, 1, 2, 3, 4, 5, 6, 7, 8, 9, 10, 11, 12, 13, 14, 15, 16] [17, 18, 19, 20] 21 rfl (by decide) rfl rfl (fun r1 u2 H locs hu2 hP hD hS => ?_)
  obtain ⟨hP, hD⟩ := k_left hP hD
  subst hu2
  have hP : va_P D classes (cat [[(h2, .inr (13, mF qm x0Mo y0Mo))], [(qm 3, .inl (kA 0, 4, .inl (fun _ => 0)))], [(qm 2, .inl (kA 0, 66836, .inl all0))], [(qm 36, .inl (kA 0, 26, .inl (fun _ => 0)))]]) H := hP
  have hD : va_D A (cat [[(h2, .inr (13, mF qm x0Mo y0Mo))], [(qm 3, .inl (kA 0, 4, .inl (fun _ => 0)))], [(qm 2, .inl (kA 0, 66836, .inl all0))], [(qm 36, .inl (kA 0, 26, .inl (fun _ => 0)))]]) := hD
  refine lv_aload_n (pc := 693) hx hb d_law_law_693 rfl (lv_at hl 1 rfl) ?_
  refine lv_aload_n (pc := 694) hx hb d_law_law_694 rfl (lv_at hl 3 rfl) ?_
  refine lv_iload_n (pc := 695) hx hb d_law_law_695 rfl (lv_at hl 0 rfl) ?_
  refine lv_iconst (pc := 696) (v := 1) hx hb d_law_law_696 (by decide) ?_
  refine lv_iadd (pc := 697) hx hb d_law_law_697 ?_
  refine k_cst (v := 1) (by decide) ?_
  refine va_sld (pc := 698) hx hb hX hbl hbA hS (by unfold vp_in; decide) d_law_law_698 ?_
  refine k_cst (v := nI j) hv1 ?_
  refine lv_aload_n (pc := 699) hx hb d_law_law_699 rfl (lv_at hl 3 rfl) ?_
  refine lv_iload_n (pc := 700) hx hb d_law_law_700 rfl (lv_at hl 0 rfl) ?_
  refine lv_iconst (pc := 701) (v := 2) hx hb d_law_law_701 (by decide) ?_
  refine lv_iadd (pc := 702) hx hb d_law_law_702 ?_
  refine k_cst (v := 2) (by decide) ?_
  refine va_sld (pc := 703) hx hb hX hbl hbA hS (by unfold vp_in; decide) d_law_law_703 ?_
  refine k_cst (v := 1) hv2 ?_
  refine k_goI (gr := []) (k_rV (pc := 704) (As := [.int (nI j), .int 1]) (rest := [.int 1]) X (c_Mo_planar_z4 l D kA h2 j qm (fun _ => 0) hj H.size) rfl wm_3139 wm_9 wm_3136 wm_3137 wm_3138 2 (by decide +kernel) ⟨Nat.le_of_ble_eq_true rfl, Nat.le_of_ble_eq_true rfl⟩ rfl rfl (va_recv hK hP (ci := 13) (q0 := 0) rfl rfl) (k_pre hN hK hP hD [0, 1, 2, 3] [] 4 rfl (by decide) rfl) rfl hl.1 rfl (Nat.le_of_ble_eq_true rfl) d_law_law_704 ⟨Nat.le_of_ble_eq_true rfl, Nat.le_of_ble_eq_true rfl⟩) hP hD hS hA [0, 1, 2, 3] [] 4 rfl (by decide) rfl rfl (fun r3 u4 H locs hu4 hP hD hS => ?_)
  obtain ⟨hP, hD⟩ := k_left hP hD
  subst hu4
  have hP : va_P D classes (cat []) H := hP
  have hD : va_D A (cat []) := hD
  refine lv_icmp_eq (pc := 707) (tgt := 1295) hx hb d_law_law_707 (by decide) (fun _ => ?_) (fun c1 => absurd (by decide) c1)
  rw [hAe] at hS
  exact law_exit l C0 (Nat.le_of_ble_eq_true rfl) (Nat.le_of_ble_eq_true rfl) hS hl
set_option maxRecDepth 100000 in
set_option maxHeartbeats 4000000 in
/-- DrawingHouse.planar(II)I -/
theorem c_Ho_planar_z5 (l : Launch) (D : va_G) (kA : Nat → ClassId) (a0 : Nat) (j : Nat) (a1 : Nat) (a2 : Nat) (a3 : Nat) (a4 : Nat) (a5 : Nat) (a6 : Nat) (a7 : Nat) (a8 : Nat) (a9 : Nat) (a10 : Nat) (g : Nat → Nat → Nat) (a11 : Nat) (a12 : Nat) (a13 : Nat) (a14 : Nat) (a15 : Nat) (a16 : Nat) (a17 : Nat) (a18 : Nat) (a19 : Nat) (a20 : Nat) (a21 : Nat) (a22 : Nat) (a23 : Nat) (a24 : Nat) (a25 : Nat) (a26 : Nat) (a27 : Nat) (a28 : Nat) (a29 : Nat) (a30 : Nat) (a31 : Nat) (a32 : Nat) (a33 : Nat) (f0 : Nat → Int32) (f1 : Nat → Int32) (f2 : Nat → Int32) (a34 : Nat) (a35 : Nat) (a36 : Nat) (a37 : Nat) (a38 : Nat) (a39 : Nat) (a40 : Nat) (a41 : Nat) (a42 : Nat) (a43 : Nat) (a44 : Nat) (a45 : Nat) (f3 : Nat → Int32) (f4 : Nat → Int32) (hj : j < 4) : Ci l y_Ho_planar z_Ho_planar { frames := 4, cells := 0, slots := 0, locals := 95 } D classes (TY kA) [.ref a0, .int (nI j), .int 2] [[(a0, .inr (12, [.ref a1, .ref a2, .ref a3, .ref a4, .ref a5, .ref a6, .ref a7, .int 0, .int ((-1)), .ref a8, .ref a9, .int 0, .int 0, .ref a10, .int 0, .int 0, .null, .null, .null, .null, .null]))], [(a3, .inl (kA 6, 4, .inr (.inr (.inr (.inr (rr (g 2)))))))], [(g 2 j, .inr (5, [.int ((-1)), .int ((-1)), .int ((-1)), .int 0, .ref a11, .int 0, .int 0, .ref a12, .ref a13, .ref a14, .ref a15, .ref a16, .ref a17, .int 0, .ref a18, .ref a19, .ref a20]))], [(a1, .inl (kA 4, 4, .inr (.inr (.inr (.inr (rr (g 0)))))))], [(g 0 j, .inr (3, [.int 0, .int 0, .int 1, .ref a21, .ref a22, .ref a23, .ref a24, .ref a25, .ref a26, .ref a27, .ref a28, .ref a29, .ref a30, .ref a31, .ref a32, .ref a33, .null, .int 0, .int 0]))], [(a14, .inl (kA 0, 25, .inl f0))], [(a15, .inl (kA 0, 625, .inl f1))], [(a17, .inl (kA 0, 25, .inl f2))], [(a6, .inr (1, [.null, .ref a34, .ref a35, .ref a36, .ref a37, .int 0, .int 0, .int 0, .ref a38, .ref a39, .ref a40, .ref a41, .ref a42, .ref a43, .ref a44, .int 0, .int 0, .int 0, .int 0, .ref a45]))], [(a20, .inl (kA 0, 144, .inl f3))], [(a18, .inl (kA 0, 145, .inl f4))]] (fun r (_ : List va_W) => r = 0) (fun u => u) 0 0 := by
  intro sz
  refine k_met (cc := b_Ho_planar) (maxL := 4) (ret := (some .int)) (by decide) rfl (Nat.le_of_ble_eq_true rfl) (fun p e s m below meth c ls X hl hB => ?_)
  obtain ⟨hsz, hP, hK, hD0, hN⟩ := hB
  subst hsz
  have hD := hD0.self (sz := s.heap.size)
  generalize hAe : va_A (cat [[(a0, .inr (12, [.ref a1, .ref a2, .ref a3, .ref a4, .ref a5, .ref a6, .ref a7, .int 0, .int ((-1)), .ref a8, .ref a9, .int 0, .int 0, .ref a10, .int 0, .int 0, .null, .null, .null, .null, .null]))], [(a3, .inl (kA 6, 4, .inr (.inr (.inr (.inr (rr (g 2)))))))], [(g 2 j, .inr (5, [.int ((-1)), .int ((-1)), .int ((-1)), .int 0, .ref a11, .int 0, .int 0, .ref a12, .ref a13, .ref a14, .ref a15, .ref a16, .ref a17, .int 0, .ref a18, .ref a19, .ref a20]))], [(a1, .inl (kA 4, 4, .inr (.inr (.inr (.inr (rr (g 0)))))))], [(g 0 j, .inr (3, [.int 0, .int 0, .int 1, .ref a21, .ref a22, .ref a23, .ref a24, .ref a25, .ref a26, .ref a27, .ref a28, .ref a29, .ref a30, .ref a31, .ref a32, .ref a33, .null, .int 0, .int 0]))], [(a14, .inl (kA 0, 25, .inl f0))], [(a15, .inl (kA 0, 625, .inl f1))], [(a17, .inl (kA 0, 25, .inl f2))], [(a6, .inr (1, [.null, .ref a34, .ref a35, .ref a36, .ref a37, .int 0, .int 0, .int 0, .ref a38, .ref a39, .ref a40, .ref a41, .ref a42, .ref a43, .ref a44, .int 0, .int 0, .int 0, .int 0, .ref a45]))], [(a20, .inl (kA 0, 144, .inl f3))], [(a18, .inl (kA 0, 145, .inl f4))]]) s.heap.size = A at hD ⊢
  have hA : ∀ q : Nat, s.heap.size ≤ q → A q := fun q h => by rw [← hAe]; exact Or.inr h
  have hS : va_S A s.heap s.heap [] := va_S.rf
  obtain ⟨hx, hb, hml, hown, hts, hr, hlk, hnm⟩ := id X
  have hl : lv_has ls 4 [(0, .ref a0), (1, .int (nI j)), (2, .int 2)] := hl
  have hP : va_P D classes (cat [[(a0, .inr (12, [.ref a1, .ref a2, .ref a3, .ref a4, .ref a5, .ref a6, .ref a7, .int 0, .int ((-1)), .ref a8, .ref a9, .int 0, .int 0, .ref a10, .int 0, .int 0, .null, .null, .null, .null, .null]))], [(a3, .inl (kA 6, 4, .inr (.inr (.inr (.inr (rr (g 2)))))))], [(g 2 j, .inr (5, [.int ((-1)), .int ((-1)), .int ((-1)), .int 0, .ref a11, .int 0, .int 0, .ref a12, .ref a13, .ref a14, .ref a15, .ref a16, .ref a17, .int 0, .ref a18, .ref a19, .ref a20]))], [(a1, .inl (kA 4, 4, .inr (.inr (.inr (.inr (rr (g 0)))))))], [(g 0 j, .inr (3, [.int 0, .int 0, .int 1, .ref a21, .ref a22, .ref a23, .ref a24, .ref a25, .ref a26, .ref a27, .ref a28, .ref a29, .ref a30, .ref a31, .ref a32, .ref a33, .null, .int 0, .int 0]))], [(a14, .inl (kA 0, 25, .inl f0))], [(a15, .inl (kA 0, 625, .inl f1))], [(a17, .inl (kA 0, 25, .inl f2))], [(a6, .inr (1, [.null, .ref a34, .ref a35, .ref a36, .ref a37, .int 0, .int 0, .int 0, .ref a38, .ref a39, .ref a40, .ref a41, .ref a42, .ref a43, .ref a44, .int 0, .int 0, .int 0, .int 0, .ref a45]))], [(a20, .inl (kA 0, 144, .inl f3))], [(a18, .inl (kA 0, 145, .inl f4))]]) s.heap := hP
  have hK : va_K D classes (TY kA) s := hK
  refine lv_iload_n (pc := 0) hx hb d_Ho_planar_0 rfl (lv_at hl 1 rfl) ?_
  refine k_goI (gr := [[(a0, .inr (12, [.ref a1, .ref a2, .ref a3, .ref a4, .ref a5, .ref a6, .ref a7, .int 0, .int ((-1)), .ref a8, .ref a9, .int 0, .int 0, .ref a10, .int 0, .int 0, .null, .null, .null, .null, .null]))], [(a3, .inl (kA 6, 4, .inr (.inr (.inr (.inr (rr (g 2)))))))], [(g 2 j, .inr (5, [.int ((-1)), .int ((-1)), .int ((-1)), .int 0, .ref a11, .int 0, .int 0, .ref a12, .ref a13, .ref a14, .ref a15, .ref a16, .ref a17, .int 0, .ref a18, .ref a19, .ref a20]))], [(a1, .inl (kA 4, 4, .inr (.inr (.inr (.inr (rr (g 0)))))))], [(g 0 j, .inr (3, [.int 0, .int 0, .int 1, .ref a21, .ref a22, .ref a23, .ref a24, .ref a25, .ref a26, .ref a27, .ref a28, .ref a29, .ref a30, .ref a31, .ref a32, .ref a33, .null, .int 0, .int 0]))], [(a14, .inl (kA 0, 25, .inl f0))], [(a15, .inl (kA 0, 625, .inl f1))], [(a17, .inl (kA 0, 25, .inl f2))], [(a6, .inr (1, [.null, .ref a34, .ref a35, .ref a36, .ref a37, .int 0, .int 0, .int 0, .ref a38, .ref a39, .ref a40, .ref a41, .ref a42, .ref a43, .ref a44, .int 0, .int 0, .int 0, .int 0, .ref a45]))], [(a20, .inl (kA 0, 144, .inl f3))], [(a18, .inl (kA 0, 145, .inl f4))]]) (k_rS (pc := 1) (As := [.int (nI j)]) (rest := []) X (c_Ho_isPlace l D kA (nI j) s.heap.size) rfl wm_633 wm_1 wm_631 wm_632 1 (by decide +kernel) ⟨Nat.le_of_ble_eq_true rfl, Nat.le_of_ble_eq_true rfl⟩ rfl rfl (k_pre hN hK hP hD [] [0, 1, 2, 3, 4, 5, 6, 7, 8, 9, 10] 11 rfl (by decide) rfl) rfl hl.1 rfl (Nat.le_of_ble_eq_true rfl) d_Ho_planar_1 ⟨Nat.le_of_ble_eq_true rfl, Nat.le_of_ble_eq_true rfl⟩) hP hD hS hA [] [0, 1, 2, 3, 4, 5, 6, 7, 8, 9, 10] 11 rfl (by decide) rfl rfl (fun r1 u2 H locs hu2 hP hD hS => ?_)
  subst hu2
  refine k_cst (v := 1) (place_ok hj) ?_
  have hP : va_P D classes (cat [[(a0, .inr (12, [.ref a1, .ref a2, .ref a3, .ref a4, .ref a5, .ref a6, .ref a7, .int 0, .int ((-1)), .ref a8, .ref a9, .int 0, .int 0, .ref a10, .int 0, .int 0, .null, .null, .null, .null, .null]))], [(a3, .inl (kA 6, 4, .inr (.inr (.inr (.inr (rr (g 2)))))))], [(g 2 j, .inr (5, [.int ((-1)), .int ((-1)), .int ((-1)), .int 0, .ref a11, .int 0, .int 0, .ref a12, .ref a13, .ref a14, .ref a15, .ref a16, .ref a17, .int 0, .ref a18, .ref a19, .ref a20]))], [(a1, .inl (kA 4, 4, .inr (.inr (.inr (.inr (rr (g 0)))))))], [(g 0 j, .inr (3, [.int 0, .int 0, .int 1, .ref a21, .ref a22, .ref a23, .ref a24, .ref a25, .ref a26, .ref a27, .ref a28, .ref a29, .ref a30, .ref a31, .ref a32, .ref a33, .null, .int 0, .int 0]))], [(a14, .inl (kA 0, 25, .inl f0))], [(a15, .inl (kA 0, 625, .inl f1))], [(a17, .inl (kA 0, 25, .inl f2))], [(a6, .inr (1, [.null, .ref a34, .ref a35, .ref a36, .ref a37, .int 0, .int 0, .int 0, .ref a38, .ref a39, .ref a40, .ref a41, .ref a42, .ref a43, .ref a44, .int 0, .int 0, .int 0, .int 0, .ref a45]))], [(a20, .inl (kA 0, 144, .inl f3))], [(a18, .inl (kA 0, 145, .inl f4))]]) H := hP
  have hD : va_D A (cat [[(a0, .inr (12, [.ref a1, .ref a2, .ref a3, .ref a4, .ref a5, .ref a6, .ref a7, .int 0, .int ((-1)), .ref a8, .ref a9, .int 0, .int 0, .ref a10, .int 0, .int 0, .null, .null, .null, .null, .null]))], [(a3, .inl (kA 6, 4, .inr (.inr (.inr (.inr (rr (g 2)))))))], [(g 2 j, .inr (5, [.int ((-1)), .int ((-1)), .int ((-1)), .int 0, .ref a11, .int 0, .int 0, .ref a12, .ref a13, .ref a14, .ref a15, .ref a16, .ref a17, .int 0, .ref a18, .ref a19, .ref a20]))], [(a1, .inl (kA 4, 4, .inr (.inr (.inr (.inr (rr (g 0)))))))], [(g 0 j, .inr (3, [.int 0, .int 0, .int 1, .ref a21, .ref a22, .ref a23, .ref a24, .ref a25, .ref a26, .ref a27, .ref a28, .ref a29, .ref a30, .ref a31, .ref a32, .ref a33, .null, .int 0, .int 0]))], [(a14, .inl (kA 0, 25, .inl f0))], [(a15, .inl (kA 0, 625, .inl f1))], [(a17, .inl (kA 0, 25, .inl f2))], [(a6, .inr (1, [.null, .ref a34, .ref a35, .ref a36, .ref a37, .int 0, .int 0, .int 0, .ref a38, .ref a39, .ref a40, .ref a41, .ref a42, .ref a43, .ref a44, .int 0, .int 0, .int 0, .int 0, .ref a45]))], [(a20, .inl (kA 0, 144, .inl f3))], [(a18, .inl (kA 0, 145, .inl f4))]]) := hD
  refine lv_if_ne (pc := 4) (tgt := 9) hx hb d_Ho_planar_4 (by decide) (fun c1 => ?_) (fun c1 => absurd c1 (by decide))
  refine lv_aload_n (pc := 9) hx hb d_Ho_planar_9 rfl (lv_at hl 0 rfl) ?_
  refine lv_iload_n (pc := 10) hx hb d_Ho_planar_10 rfl (lv_at hl 1 rfl) ?_
  refine k_goR (gr := []) (k_rV (pc := 11) (As := [.int (nI j)]) (rest := []) X (c_Ho_embedded_z1 l D kA a0 j a1 a2 a3 a4 a5 a6 a7 a8 a9 a10 g a11 a12 a13 a14 a15 a16 a17 a18 a19 a20 a21 a22 a23 a24 a25 a26 a27 a28 a29 a30 a31 a32 a33 f0 f1 f2 a34 a35 a36 a37 a38 a39 a40 a41 a42 a43 a44 a45 f3 f4 hj H.size) rfl wm_1052 wm_1 wm_1049 wm_1051 wv_3_6 1 (by decide +kernel) ⟨Nat.le_of_ble_eq_true rfl, Nat.le_of_ble_eq_true rfl⟩ rfl rfl (va_recv hK hP (ci := 12) (q0 := 0) rfl rfl) (k_pre hN hK hP hD [0, 1, 2, 3, 4, 5, 6, 7, 8, 9, 10] [] 11 rfl (by decide) rfl) rfl hl.1 rfl (Nat.le_of_ble_eq_true rfl) d_Ho_planar_11 ⟨Nat.le_of_ble_eq_true rfl, Nat.le_of_ble_eq_true rfl⟩) hP hD hS hA [0, 1, 2, 3, 4, 5, 6, 7, 8, 9, 10] [] 11 rfl (by decide) rfl rfl (fun u4 H locs hu4 hP hD hS => ?_)
  have hP : va_P D classes (cat [[(a0, .inr (12, [.ref a1, .ref a2, .ref a3, .ref a4, .ref a5, .ref a6, .ref a7, .int 0, .int ((-1)), .ref a8, .ref a9, .int 0, .int 0, .ref a10, .int 0, .int 0, .null, .null, .null, .null, .null]))], [(a3, .inl (kA 6, 4, .inr (.inr (.inr (.inr (rr (g 2)))))))], [(g 2 j, .inr (5, [.int 1, .int ((-1)), .int ((-1)), .int 0, .ref a11, .int 0, .int 0, .ref a12, .ref a13, .ref a14, .ref a15, .ref a16, .ref a17, .int 0, .ref a18, .ref a19, .ref a20]))], [(a1, .inl (kA 4, 4, .inr (.inr (.inr (.inr (rr (g 0)))))))], [(g 0 j, .inr (3, [.int 0, .int 0, .int 1, .ref a21, .ref a22, .ref a23, .ref a24, .ref a25, .ref a26, .ref a27, .ref a28, .ref a29, .ref a30, .ref a31, .ref a32, .ref a33, .null, .int 0, .int 0]))], [(a14, .inl (kA 0, 25, .inl (fl f0 25 0)))], [(a15, .inl (kA 0, 625, .inl (fl f1 625 (-1))))], [(a17, .inl (kA 0, 25, .inl (fl f2 25 (-1))))], [(a6, .inr (1, [.ref (g 2 j), .ref a34, .ref a35, .ref a36, .ref a37, .int 0, .int 0, .int 0, .ref a38, .ref a39, .ref a40, .ref a41, .ref a42, .ref a43, .ref a44, .int 0, .int 0, .int 0, .int 0, .ref a45]))], [(a20, .inl (kA 0, 144, .inl (fl f3 144 (-1))))], [(a18, .inl (kA 0, 145, .inl (upd (f4) 0 0)))]]) H := hP
  have hD : va_D A (cat [[(a0, .inr (12, [.ref a1, .ref a2, .ref a3, .ref a4, .ref a5, .ref a6, .ref a7, .int 0, .int ((-1)), .ref a8, .ref a9, .int 0, .int 0, .ref a10, .int 0, .int 0, .null, .null, .null, .null, .null]))], [(a3, .inl (kA 6, 4, .inr (.inr (.inr (.inr (rr (g 2)))))))], [(g 2 j, .inr (5, [.int 1, .int ((-1)), .int ((-1)), .int 0, .ref a11, .int 0, .int 0, .ref a12, .ref a13, .ref a14, .ref a15, .ref a16, .ref a17, .int 0, .ref a18, .ref a19, .ref a20]))], [(a1, .inl (kA 4, 4, .inr (.inr (.inr (.inr (rr (g 0)))))))], [(g 0 j, .inr (3, [.int 0, .int 0, .int 1, .ref a21, .ref a22, .ref a23, .ref a24, .ref a25, .ref a26, .ref a27, .ref a28, .ref a29, .ref a30, .ref a31, .ref a32, .ref a33, .null, .int 0, .int 0]))], [(a14, .inl (kA 0, 25, .inl (fl f0 25 0)))], [(a15, .inl (kA 0, 625, .inl (fl f1 625 (-1))))], [(a17, .inl (kA 0, 25, .inl (fl f2 25 (-1))))], [(a6, .inr (1, [.ref (g 2 j), .ref a34, .ref a35, .ref a36, .ref a37, .int 0, .int 0, .int 0, .ref a38, .ref a39, .ref a40, .ref a41, .ref a42, .ref a43, .ref a44, .int 0, .int 0, .int 0, .int 0, .ref a45]))], [(a20, .inl (kA 0, 144, .inl (fl f3 144 (-1))))], [(a18, .inl (kA 0, 145, .inl (upd (f4) 0 0)))]]) := hD
  refine lv_astore_n (pc := 14) (lv' := [(3, .ref (g 2 j)), (0, .ref a0), (1, .int (nI j)), (2, .int 2)]) hx hb d_Ho_planar_14 rfl hl (by decide) rfl (fun ls hl => ?_)
  refine lv_iload_n (pc := 15) hx hb d_Ho_planar_15 rfl (lv_at hl 3 rfl) ?_
  refine lv_tableIn (pc := 16) (tgt := 72) hx hb d_Ho_planar_16 (by decide) (by decide) rfl (by decide) ?_
  refine lv_aload_n (pc := 72) hx hb d_Ho_planar_72 rfl (lv_at hl 0 rfl) ?_
  refine k_get (pc := 73) X hK hP 2 rfl rfl i_Ne 0 (by decide) wm_250 rfl rfl d_Ho_planar_73 ?_
  refine lv_iconst (pc := 76) (v := 1) hx hb d_Ho_planar_76 (by decide) ?_
  refine lv_icmp_ne (pc := 77) (tgt := 87) hx hb d_Ho_planar_77 (by decide) (fun c1 => absurd (by decide) c1) (fun _ => ?_)
  refine lv_aload_n (pc := 80) hx hb d_Ho_planar_80 rfl (lv_at hl 0 rfl) ?_
  refine k_get (pc := 81) X hK hP 2 rfl rfl i_Ne 13 (by decide) wm_284 rfl rfl d_Ho_planar_81 ?_
  refine lv_goto (pc := 84) (tgt := 88) hx hb d_Ho_planar_84 (by decide) ?_
  refine W.widen (k := 0) (n := 0) (Nat.le_of_ble_eq_true rfl) (Nat.le_of_ble_eq_true rfl) ?_
  exact W.iret (v := 0) hx hb hr (fun t ht hW => ⟨⟨0, [[(a0, .inr (12, [.ref a1, .ref a2, .ref a3, .ref a4, .ref a5, .ref a6, .ref a7, .int 0, .int ((-1)), .ref a8, .ref a9, .int 0, .int 0, .ref a10, .int 0, .int 0, .null, .null, .null, .null, .null]))], [(a3, .inl (kA 6, 4, .inr (.inr (.inr (.inr (rr (g 2)))))))], [(g 2 j, .inr (5, [.int 1, .int ((-1)), .int ((-1)), .int 0, .ref a11, .int 0, .int 0, .ref a12, .ref a13, .ref a14, .ref a15, .ref a16, .ref a17, .int 0, .ref a18, .ref a19, .ref a20]))], [(a1, .inl (kA 4, 4, .inr (.inr (.inr (.inr (rr (g 0)))))))], [(g 0 j, .inr (3, [.int 0, .int 0, .int 1, .ref a21, .ref a22, .ref a23, .ref a24, .ref a25, .ref a26, .ref a27, .ref a28, .ref a29, .ref a30, .ref a31, .ref a32, .ref a33, .null, .int 0, .int 0]))], [(a14, .inl (kA 0, 25, .inl (fl f0 25 0)))], [(a15, .inl (kA 0, 625, .inl (fl f1 625 (-1))))], [(a17, .inl (kA 0, 25, .inl (fl f2 25 (-1))))], [(a6, .inr (1, [.ref (g 2 j), .ref a34, .ref a35, .ref a36, .ref a37, .int 0, .int 0, .int 0, .ref a38, .ref a39, .ref a40, .ref a41, .ref a42, .ref a43, .ref a44, .int 0, .int 0, .int 0, .int 0, .ref a45]))], [(a20, .inl (kA 0, 144, .inl (fl f3 144 (-1))))], [(a18, .inl (kA 0, 145, .inl (upd (f4) 0 0)))]], rfl, rfl, by rw [ht]; exact hP, va_K.moved hW.alike hK, hD⟩, hS.F ht⟩) hS.2.2 d_Ho_planar_88
set_option maxRecDepth 100000 in
set_option maxHeartbeats 4000000 in
/-- DrawingHouseModel.in(III)Z -/
theorem c_Mo_in_z23 (l : Launch) (D : va_G) (kA : Nat → ClassId) : Ci l y_Mo_in z_Mo_in { frames := 0, cells := 0, slots := 0, locals := 0 } D classes (TY kA) [.int 2, .int 0, .int 4] [] (fun r (_ : Unit) => r = 1) (fun u => []) 0 0 := by
  intro sz
  refine k_met (cc := b_Mo_in) (maxL := 3) (ret := (some .boolean)) (by decide) rfl (Nat.le_of_ble_eq_true rfl) (fun p e s m below meth c ls X hl hB => ?_)
  obtain ⟨hsz, hP, hK, hD0, hN⟩ := hB
  subst hsz
  have hD := hD0.self (sz := s.heap.size)
  generalize hAe : va_A (cat []) s.heap.size = A at hD ⊢
  have hA : ∀ q : Nat, s.heap.size ≤ q → A q := fun q h => by rw [← hAe]; exact Or.inr h
  have hS : va_S A s.heap s.heap [] := va_S.rf
  obtain ⟨hx, hb, hml, hown, hts, hr, hlk, hnm⟩ := id X
  have hl : lv_has ls 3 [(0, .int 2), (1, .int 0), (2, .int 4)] := hl
  have hP : va_P D classes (cat []) s.heap := hP
  have hK : va_K D classes (TY kA) s := hK
  refine lv_iload_n (pc := 0) hx hb d_Mo_in_0 rfl (lv_at hl 0 rfl) ?_
  refine lv_iload_n (pc := 1) hx hb d_Mo_in_1 rfl (lv_at hl 1 rfl) ?_
  refine lv_icmp_lt (pc := 2) (tgt := 14) hx hb d_Mo_in_2 (by decide) (fun c1 => absurd c1 (by decide)) (fun _ => ?_)
  refine lv_iload_n (pc := 5) hx hb d_Mo_in_5 rfl (lv_at hl 0 rfl) ?_
  refine lv_iload_n (pc := 6) hx hb d_Mo_in_6 rfl (lv_at hl 2 rfl) ?_
  refine lv_icmp_gt (pc := 7) (tgt := 14) hx hb d_Mo_in_7 (by decide) (fun c1 => absurd c1 (by decide)) (fun _ => ?_)
  refine lv_iconst (pc := 10) (v := 1) hx hb d_Mo_in_10 (by decide) ?_
  refine lv_goto (pc := 11) (tgt := 15) hx hb d_Mo_in_11 (by decide) ?_
  refine W.widen (k := 0) (n := 0) (Nat.le_of_ble_eq_true rfl) (Nat.le_of_ble_eq_true rfl) ?_
  exact W.zret (v := 1) hx hb hr rfl (fun t ht hW => ⟨⟨1, (), rfl, rfl, by rw [ht]; exact hP, va_K.moved hW.alike hK, hD⟩, hS.F ht⟩) hS.2.2 d_Mo_in_15
set_option maxRecDepth 100000 in
set_option maxHeartbeats 4000000 in
/-- DrawingHouseModel.goRound()V -/
theorem c_Mo_goRound_z1 (l : Launch) (D : va_G) (kA : Nat → ClassId) (a0 : Nat) (qm : Nat → Nat) (j : Nat) (f0 : Nat → Int32) (hj : j < 4) : Cv l y_Mo_goRound z_Mo_goRound { frames := 0, cells := 0, slots := 0, locals := 0 } D classes (TY kA) [.ref a0] [[(a0, .inr (13, mF qm (va_up (va_up x0Mo 5 (nI (539 * (31 * j + 0)))) 49 (-1)) y0Mo))], [(qm 56, .inl (kA 0, 161, .inl f0))]] (fun _ : Unit => True) (fun u => [[(a0, .inr (13, mF qm (va_up (va_up x0Mo 5 (nI (539 * (31 * j + 0)))) 49 (-1)) y0Mo))], [(qm 56, .inl (kA 0, 161, .inl (upd (f0) 0 0)))]]) 0 0 := by
  intro sz
  refine k_met (cc := b_Mo_goRound) (maxL := 4) (ret := none) (by decide) rfl (Nat.le_of_ble_eq_true rfl) (fun p e s m below meth c ls X hl hB => ?_)
  obtain ⟨hsz, hP, hK, hD0, hN⟩ := hB
  subst hsz
  have hD := hD0.self (sz := s.heap.size)
  generalize hAe : va_A (cat [[(a0, .inr (13, mF qm (va_up (va_up x0Mo 5 (nI (539 * (31 * j + 0)))) 49 (-1)) y0Mo))], [(qm 56, .inl (kA 0, 161, .inl f0))]]) s.heap.size = A at hD ⊢
  have hA : ∀ q : Nat, s.heap.size ≤ q → A q := fun q h => by rw [← hAe]; exact Or.inr h
  have hS : va_S A s.heap s.heap [] := va_S.rf
  obtain ⟨hx, hb, hml, hown, hts, hr, hlk, hnm⟩ := id X
  have hl : lv_has ls 4 [(0, .ref a0)] := hl
  have hP : va_P D classes (cat [[(a0, .inr (13, mF qm (va_up (va_up x0Mo 5 (nI (539 * (31 * j + 0)))) 49 (-1)) y0Mo))], [(qm 56, .inl (kA 0, 161, .inl f0))]]) s.heap := hP
  have hK : va_K D classes (TY kA) s := hK
  refine lv_aload_n (pc := 0) hx hb d_Mo_goRound_0 rfl (lv_at hl 0 rfl) ?_
  refine lv_iconst (pc := 1) (v := 0) hx hb d_Mo_goRound_1 (by decide) ?_
  refine k_put (pc := 2) X hK hP hD hS 0 rfl rfl i_Mo t_Mo t_Mo_ok n_Mo 53 (by decide) wm_2485 rfl (Or.inl rfl) rfl rfl (Nat.le_of_ble_eq_true rfl) d_Mo_goRound_2 (fun H locs hP hD hS => ?_)
  have hP : va_P D classes (cat [[(a0, .inr (13, mF qm (va_up (va_up x0Mo 5 (nI (539 * (31 * j + 0)))) 49 (-1)) y0Mo))], [(qm 56, .inl (kA 0, 161, .inl f0))]]) H := hP
  have hD : va_D A (cat [[(a0, .inr (13, mF qm (va_up (va_up x0Mo 5 (nI (539 * (31 * j + 0)))) 49 (-1)) y0Mo))], [(qm 56, .inl (kA 0, 161, .inl f0))]]) := hD
  refine lv_iconst (pc := 5) (v := 0) hx hb d_Mo_goRound_5 (by decide) ?_
  refine lv_istore_n (pc := 6) (lv' := [(1, .int 0), (0, .ref a0)]) hx hb d_Mo_goRound_6 rfl hl (by decide) rfl (fun ls hl => ?_)
  refine lv_iconst (pc := 7) (v := 0) hx hb d_Mo_goRound_7 (by decide) ?_
  refine lv_istore_n (pc := 8) (lv' := [(2, .int 0), (1, .int 0), (0, .ref a0)]) hx hb d_Mo_goRound_8 rfl hl (by decide) rfl (fun ls hl => ?_)
  refine lv_iload_n (pc := 9) hx hb d_Mo_goRound_9 rfl (lv_at hl 0 rfl) ?_
  refine lv_iconst (pc := 10) (v := 2) hx hb d_Mo_goRound_10 (by decide) ?_
  refine lv_aload_n (pc := 11) hx hb d_Mo_goRound_11 rfl (lv_at hl 2 rfl) ?_
  refine k_get (pc := 12) (v := .int 0) X hK hP 0 rfl rfl i_Mo 32 (by decide) wm_2465 rfl rfl d_Mo_goRound_12 ?_
  refine lv_imul (pc := 15) hx hb d_Mo_goRound_15 ?_
  refine k_cst (v := 0) (by decide) ?_
  refine lv_icmp_ge (pc := 16) (tgt := 32) hx hb d_Mo_goRound_16 (by decide) (fun _ => ?_) (fun c1 => absurd (by decide) c1)
  refine lv_iconst (pc := 32) (v := 0) hx hb d_Mo_goRound_32 (by decide) ?_
  refine lv_istore_n (pc := 33) (lv' := [(2, .int 0), (1, .int 0), (0, .ref a0)]) hx hb d_Mo_goRound_33 rfl hl (by decide) rfl (fun ls hl => ?_)
  refine lv_iload_n (pc := 34) hx hb d_Mo_goRound_34 rfl (lv_at hl 0 rfl) ?_
  refine lv_iconst (pc := 35) (v := 2) hx hb d_Mo_goRound_35 (by decide) ?_
  refine lv_aload_n (pc := 36) hx hb d_Mo_goRound_36 rfl (lv_at hl 2 rfl) ?_
  refine k_get (pc := 37) (v := .int 0) X hK hP 0 rfl rfl i_Mo 32 (by decide) wm_2465 rfl rfl d_Mo_goRound_37 ?_
  refine lv_imul (pc := 40) hx hb d_Mo_goRound_40 ?_
  refine k_cst (v := 0) (by decide) ?_
  refine lv_icmp_ge (pc := 41) (tgt := 126) hx hb d_Mo_goRound_41 (by decide) (fun _ => ?_) (fun c1 => absurd (by decide) c1)
  refine lv_aload_n (pc := 126) hx hb d_Mo_goRound_126 rfl (lv_at hl 2 rfl) ?_
  refine k_get (pc := 127) (v := .ref (qm 56)) X hK hP 0 rfl rfl i_Mo 56 (by decide) wm_2488 rfl rfl d_Mo_goRound_127 ?_
  refine lv_aload_n (pc := 130) hx hb d_Mo_goRound_130 rfl (lv_at hl 2 rfl) ?_
  refine k_get (pc := 131) (v := .int 0) X hK hP 0 rfl rfl i_Mo 53 (by decide) wm_2485 rfl rfl d_Mo_goRound_131 ?_
  refine lv_iload_n (pc := 134) hx hb d_Mo_goRound_134 rfl (lv_at hl 1 rfl) ?_
  refine va_iast (pc := 135) hx hb hK hP hD hS 1 0 rfl rfl (by unfold vp_in; decide) d_Mo_goRound_135 (fun H locs hP hD hS => ?_)
  have hP : va_P D classes (cat [[(a0, .inr (13, mF qm (va_up (va_up x0Mo 5 (nI (539 * (31 * j + 0)))) 49 (-1)) y0Mo))], [(qm 56, .inl (kA 0, 161, .inl (upd (f0) 0 0)))]]) H := hP
  have hD : va_D A (cat [[(a0, .inr (13, mF qm (va_up (va_up x0Mo 5 (nI (539 * (31 * j + 0)))) 49 (-1)) y0Mo))], [(qm 56, .inl (kA 0, 161, .inl (upd (f0) 0 0)))]]) := hD
  refine W.widen (k := 0) (n := 0) (Nat.le_of_ble_eq_true rfl) (Nat.le_of_ble_eq_true rfl) ?_
  exact W.vret hx hb hr (fun t ht hW => ⟨⟨(), rfl, trivial, by rw [ht]; exact hP, va_K.moved hW.alike hK, hD⟩, hS.F ht⟩) hS.2.2 d_Mo_goRound_136
set_option maxRecDepth 100000 in
set_option maxHeartbeats 4000000 in
/-- DrawingHouseModel.planar(II)I -/
theorem c_Mo_planar_z5 (l : Launch) (D : va_G) (kA : Nat → ClassId) (a0 : Nat) (j : Nat) (qm : Nat → Nat) (f0 : Nat → Int32) (hj : j < 4) : Ci l y_Mo_planar z_Mo_planar { frames := 3, cells := 0, slots := 0, locals := 66 } D classes (TY kA) [.ref a0, .int (nI j), .int 2] [[(a0, .inr (13, mF qm x0Mo y0Mo))], [(qm 3, .inl (kA 0, 4, .inl (fun _ => 0)))], [(qm 2, .inl (kA 0, 66836, .inl all0))], [(qm 56, .inl (kA 0, 161, .inl f0))]] (fun r (_ : List va_W) => r = 0) (fun u => u) 0 0 := by
  intro sz
  refine k_met (cc := b_Mo_planar) (maxL := 4) (ret := (some .int)) (by decide) rfl (Nat.le_of_ble_eq_true rfl) (fun p e s m below meth c ls X hl hB => ?_)
  obtain ⟨hsz, hP, hK, hD0, hN⟩ := hB
  subst hsz
  have hD := hD0.self (sz := s.heap.size)
  generalize hAe : va_A (cat [[(a0, .inr (13, mF qm x0Mo y0Mo))], [(qm 3, .inl (kA 0, 4, .inl (fun _ => 0)))], [(qm 2, .inl (kA 0, 66836, .inl all0))], [(qm 56, .inl (kA 0, 161, .inl f0))]]) s.heap.size = A at hD ⊢
  have hA : ∀ q : Nat, s.heap.size ≤ q → A q := fun q h => by rw [← hAe]; exact Or.inr h
  have hS : va_S A s.heap s.heap [] := va_S.rf
  obtain ⟨hx, hb, hml, hown, hts, hr, hlk, hnm⟩ := id X
  have hl : lv_has ls 4 [(0, .ref a0), (1, .int (nI j)), (2, .int 2)] := hl
  have hP : va_P D classes (cat [[(a0, .inr (13, mF qm x0Mo y0Mo))], [(qm 3, .inl (kA 0, 4, .inl (fun _ => 0)))], [(qm 2, .inl (kA 0, 66836, .inl all0))], [(qm 56, .inl (kA 0, 161, .inl f0))]]) s.heap := hP
  have hK : va_K D classes (TY kA) s := hK
  refine lv_iload_n (pc := 0) hx hb d_Mo_planar_0 rfl (lv_at hl 1 rfl) ?_
  refine k_goI (gr := [[(a0, .inr (13, mF qm x0Mo y0Mo))], [(qm 3, .inl (kA 0, 4, .inl (fun _ => 0)))], [(qm 2, .inl (kA 0, 66836, .inl all0))], [(qm 56, .inl (kA 0, 161, .inl f0))]]) (k_rS (pc := 1) (As := [.int (nI j)]) (rest := []) X (c_Mo_isPlace l D kA (nI j) s.heap.size) rfl wm_2978 wm_9 wm_2976 wm_2977 1 (by decide +kernel) ⟨Nat.le_of_ble_eq_true rfl, Nat.le_of_ble_eq_true rfl⟩ rfl rfl (k_pre hN hK hP hD [] [0, 1, 2, 3] 4 rfl (by decide) rfl) rfl hl.1 rfl (Nat.le_of_ble_eq_true rfl) d_Mo_planar_1 ⟨Nat.le_of_ble_eq_true rfl, Nat.le_of_ble_eq_true rfl⟩) hP hD hS hA [] [0, 1, 2, 3] 4 rfl (by decide) rfl rfl (fun r1 u2 H locs hu2 hP hD hS => ?_)
  subst hu2
  refine k_cst (v := 1) (placeM_ok hj) ?_
  have hP : va_P D classes (cat [[(a0, .inr (13, mF qm x0Mo y0Mo))], [(qm 3, .inl (kA 0, 4, .inl (fun _ => 0)))], [(qm 2, .inl (kA 0, 66836, .inl all0))], [(qm 56, .inl (kA 0, 161, .inl f0))]]) H := hP
  have hD : va_D A (cat [[(a0, .inr (13, mF qm x0Mo y0Mo))], [(qm 3, .inl (kA 0, 4, .inl (fun _ => 0)))], [(qm 2, .inl (kA 0, 66836, .inl all0))], [(qm 56, .inl (kA 0, 161, .inl f0))]]) := hD
  refine lv_if_eq (pc := 4) (tgt := 16) hx hb d_Mo_planar_4 (by decide) (fun c1 => absurd c1 (by decide)) (fun c1 => ?_)
  refine lv_iload_n (pc := 7) hx hb d_Mo_planar_7 rfl (lv_at hl 2 rfl) ?_
  refine lv_iconst (pc := 8) (v := 0) hx hb d_Mo_planar_8 (by decide) ?_
  refine lv_iconst (pc := 9) (v := 4) hx hb d_Mo_planar_9 (by decide) ?_
  refine k_goI (gr := [[(a0, .inr (13, mF qm x0Mo y0Mo))], [(qm 3, .inl (kA 0, 4, .inl (fun _ => 0)))], [(qm 2, .inl (kA 0, 66836, .inl all0))], [(qm 56, .inl (kA 0, 161, .inl f0))]]) (k_rS (pc := 10) (As := [.int 2, .int 0, .int 4]) (rest := []) X (c_Mo_in_z23 l D kA  H.size) rfl wm_2971 wm_9 wm_2969 wm_2970 3 (by decide +kernel) ⟨Nat.le_of_ble_eq_true rfl, Nat.le_of_ble_eq_true rfl⟩ rfl rfl (k_pre hN hK hP hD [] [0, 1, 2, 3] 4 rfl (by decide) rfl) rfl hl.1 rfl (Nat.le_of_ble_eq_true rfl) d_Mo_planar_10 ⟨Nat.le_of_ble_eq_true rfl, Nat.le_of_ble_eq_true rfl⟩) hP hD hS hA [] [0, 1, 2, 3] 4 rfl (by decide) rfl rfl (fun r3 u4 H locs hu4 hP hD hS => ?_)
  subst hu4
  have hP : va_P D classes (cat [[(a0, .inr (13, mF qm x0Mo y0Mo))], [(qm 3, .inl (kA 0, 4, .inl (fun _ => 0)))], [(qm 2, .inl (kA 0, 66836, .inl all0))], [(qm 56, .inl (kA 0, 161, .inl f0))]]) H := hP
  have hD : va_D A (cat [[(a0, .inr (13, mF qm x0Mo y0Mo))], [(qm 3, .inl (kA 0, 4, .inl (fun _ => 0)))], [(qm 2, .inl (kA 0, 66836, .inl all0))], [(qm 56, .inl (kA 0, 161, .inl f0))]]) := hD
  refine lv_if_ne (pc := 13) (tgt := 18) hx hb d_Mo_planar_13 (by decide) (fun c1 => ?_) (fun c1 => absurd c1 (by decide))
  refine lv_aload_n (pc := 18) hx hb d_Mo_planar_18 rfl (lv_at hl 0 rfl) ?_
  refine lv_iload_n (pc := 19) hx hb d_Mo_planar_19 rfl (lv_at hl 1 rfl) ?_
  refine k_goV (gr := [[(qm 2, .inl (kA 0, 66836, .inl all0))], [(qm 56, .inl (kA 0, 161, .inl f0))]]) (k_rV (pc := 20) (As := [.int (nI j)]) (rest := []) X (c_Mo_take_z1 l D kA a0 j qm hj H.size) rfl wm_3091 wm_9 wm_3088 wm_3090 wv_14_2 1 (by decide +kernel) ⟨Nat.le_of_ble_eq_true rfl, Nat.le_of_ble_eq_true rfl⟩ rfl rfl (va_recv hK hP (ci := 13) (q0 := 0) rfl rfl) (k_pre hN hK hP hD [0, 1] [2, 3] 4 rfl (by decide) rfl) rfl hl.1 rfl (Nat.le_of_ble_eq_true rfl) d_Mo_planar_20 ⟨Nat.le_of_ble_eq_true rfl, Nat.le_of_ble_eq_true rfl⟩) hP hD hS hA [0, 1] [2, 3] 4 rfl (by decide) rfl rfl (fun u5 H locs hu5 hP hD hS => ?_)
  have hP : va_P D classes (cat [[(qm 2, .inl (kA 0, 66836, .inl all0))], [(qm 56, .inl (kA 0, 161, .inl f0))], [(a0, .inr (13, mF qm (va_up x0Mo 5 (nI (539 * (31 * j + 0)))) y0Mo))], [(qm 3, .inl (kA 0, 4, .inl (fun _ => 0)))]]) H := hP
  have hD : va_D A (cat [[(qm 2, .inl (kA 0, 66836, .inl all0))], [(qm 56, .inl (kA 0, 161, .inl f0))], [(a0, .inr (13, mF qm (va_up x0Mo 5 (nI (539 * (31 * j + 0)))) y0Mo))], [(qm 3, .inl (kA 0, 4, .inl (fun _ => 0)))]]) := hD
  refine lv_iload_n (pc := 23) hx hb d_Mo_planar_23 rfl (lv_at hl 2 rfl) ?_
  refine lv_iconst (pc := 24) (v := 1) hx hb d_Mo_planar_24 (by decide) ?_
  refine lv_icmp_ne (pc := 25) (tgt := 41) hx hb d_Mo_planar_25 (by decide) (fun _ => ?_) (fun c1 => absurd c1 (by decide))
  refine lv_aload_n (pc := 41) hx hb d_Mo_planar_41 rfl (lv_at hl 0 rfl) ?_
  refine k_goI (gr := [[(qm 56, .inl (kA 0, 161, .inl f0))], [(qm 3, .inl (kA 0, 4, .inl (fun _ => 0)))]]) (k_rV (pc := 42) (As := []) (rest := []) X (c_Mo_isPlanar_z1 l D kA a0 qm j hj H.size) rfl wm_3251 wm_9 wm_3248 wm_3250 wv_16_5 0 (by decide +kernel) ⟨Nat.le_of_ble_eq_true rfl, Nat.le_of_ble_eq_true rfl⟩ rfl rfl (va_recv hK hP (ci := 13) (q0 := 2) rfl rfl) (k_pre hN hK hP hD [2, 0] [1, 3] 4 rfl (by decide) rfl) rfl hl.1 rfl (Nat.le_of_ble_eq_true rfl) d_Mo_planar_42 ⟨Nat.le_of_ble_eq_true rfl, Nat.le_of_ble_eq_true rfl⟩) hP hD hS hA [2, 0] [1, 3] 4 rfl (by decide) rfl rfl (fun r6 u7 H locs hu7 hP hD hS => ?_)
  subst hu7
  have hP : va_P D classes (cat [[(qm 56, .inl (kA 0, 161, .inl f0))], [(qm 3, .inl (kA 0, 4, .inl (fun _ => 0)))], [(a0, .inr (13, mF qm (va_up (va_up x0Mo 5 (nI (539 * (31 * j + 0)))) 49 (-1)) y0Mo))], [(qm 2, .inl (kA 0, 66836, .inl all0))]]) H := hP
  have hD : va_D A (cat [[(qm 56, .inl (kA 0, 161, .inl f0))], [(qm 3, .inl (kA 0, 4, .inl (fun _ => 0)))], [(a0, .inr (13, mF qm (va_up (va_up x0Mo 5 (nI (539 * (31 * j + 0)))) 49 (-1)) y0Mo))], [(qm 2, .inl (kA 0, 66836, .inl all0))]]) := hD
  refine lv_istore_n (pc := 45) (lv' := [(3, .int 1), (0, .ref a0), (1, .int (nI j)), (2, .int 2)]) hx hb d_Mo_planar_45 rfl hl (by decide) rfl (fun ls hl => ?_)
  refine lv_iload_n (pc := 46) hx hb d_Mo_planar_46 rfl (lv_at hl 3 rfl) ?_
  refine lv_if_ne (pc := 47) (tgt := 60) hx hb d_Mo_planar_47 (by decide) (fun c1 => ?_) (fun c1 => absurd c1 (by decide))
  refine lv_iload_n (pc := 60) hx hb d_Mo_planar_60 rfl (lv_at hl 3 rfl) ?_
  refine lv_iconst (pc := 61) (v := 2) hx hb d_Mo_planar_61 (by decide) ?_
  refine lv_icmp_ne (pc := 62) (tgt := 69) hx hb d_Mo_planar_62 (by decide) (fun c1 => absurd (by decide) c1) (fun _ => ?_)
  refine lv_iconst (pc := 65) (v := 1) hx hb d_Mo_planar_65 (by decide) ?_
  refine lv_goto (pc := 66) (tgt := 70) hx hb d_Mo_planar_66 (by decide) ?_
  refine lv_iload_n (pc := 70) hx hb d_Mo_planar_70 rfl (lv_at hl 0 rfl) ?_
  refine lv_icmp_eq (pc := 71) (tgt := 76) hx hb d_Mo_planar_71 (by decide) (fun _ => ?_) (fun c1 => absurd (by decide) c1)
  refine lv_iload_n (pc := 76) hx hb d_Mo_planar_76 rfl (lv_at hl 0 rfl) ?_
  refine lv_if_eq (pc := 77) (tgt := 89) hx hb d_Mo_planar_77 (by decide) (fun c1 => absurd c1 (by decide)) (fun c1 => ?_)
  refine lv_aload_n (pc := 80) hx hb d_Mo_planar_80 rfl (lv_at hl 1 rfl) ?_
  refine k_goV (gr := [[(qm 3, .inl (kA 0, 4, .inl (fun _ => 0)))], [(qm 2, .inl (kA 0, 66836, .inl all0))]]) (k_rV (pc := 81) (As := []) (rest := []) X (c_Mo_goRound_z1 l D kA a0 qm j f0 hj H.size) rfl wm_3255 wm_9 wm_3252 wm_3254 wv_16_6 0 (by decide +kernel) ⟨Nat.le_of_ble_eq_true rfl, Nat.le_of_ble_eq_true rfl⟩ rfl rfl (va_recv hK hP (ci := 13) (q0 := 2) rfl rfl) (k_pre hN hK hP hD [2, 0] [1, 3] 4 rfl (by decide) rfl) rfl hl.1 rfl (Nat.le_of_ble_eq_true rfl) d_Mo_planar_81 ⟨Nat.le_of_ble_eq_true rfl, Nat.le_of_ble_eq_true rfl⟩) hP hD hS hA [2, 0] [1, 3] 4 rfl (by decide) rfl rfl (fun u8 H locs hu8 hP hD hS => ?_)
  have hP : va_P D classes (cat [[(qm 3, .inl (kA 0, 4, .inl (fun _ => 0)))], [(qm 2, .inl (kA 0, 66836, .inl all0))], [(a0, .inr (13, mF qm (va_up (va_up x0Mo 5 (nI (539 * (31 * j + 0)))) 49 (-1)) y0Mo))], [(qm 56, .inl (kA 0, 161, .inl (upd (f0) 0 0)))]]) H := hP
  have hD : va_D A (cat [[(qm 3, .inl (kA 0, 4, .inl (fun _ => 0)))], [(qm 2, .inl (kA 0, 66836, .inl all0))], [(a0, .inr (13, mF qm (va_up (va_up x0Mo 5 (nI (539 * (31 * j + 0)))) 49 (-1)) y0Mo))], [(qm 56, .inl (kA 0, 161, .inl (upd (f0) 0 0)))]]) := hD
  refine lv_aload_n (pc := 84) hx hb d_Mo_planar_84 rfl (lv_at hl 1 rfl) ?_
  refine k_get (pc := 85) (v := .int 0) X hK hP 2 rfl rfl i_Mo 53 (by decide) wm_2485 rfl rfl d_Mo_planar_85 ?_
  refine W.widen (k := 0) (n := 0) (Nat.le_of_ble_eq_true rfl) (Nat.le_of_ble_eq_true rfl) ?_
  exact W.iret (v := 0) hx hb hr (fun t ht hW => ⟨⟨0, [[(qm 3, .inl (kA 0, 4, .inl (fun _ => 0)))], [(qm 2, .inl (kA 0, 66836, .inl all0))], [(a0, .inr (13, mF qm (va_up (va_up x0Mo 5 (nI (539 * (31 * j + 0)))) 49 (-1)) y0Mo))], [(qm 56, .inl (kA 0, 161, .inl (upd (f0) 0 0)))]], rfl, rfl, by rw [ht]; exact hP, va_K.moved hW.alike hK, hD⟩, hS.F ht⟩) hS.2.2 d_Mo_planar_88
set_option maxRecDepth 100000 in
set_option maxHeartbeats 4000000 in
/-- planar, a fresh house -/
theorem lf_planar_5 {p : Program} {e : Env} {s : State} {m : MethodId} {below : List Frame} {meth : Method} {c : Code} (l : Launch) {b : Nat} {xs : Nat → Int32} (C0 : lw_At p s m meth c b 6 xs) {D : va_G} {kA : Nat → ClassId} (h : Nat) (h2 : Nat) (q : Nat → Nat) (qg : Nat → Nat) (qn : Nat → Nat) (qe : Nat → Nat) (qm : Nat → Nat) (g : Nat → Nat → Nat) (j : Nat) (hj : j < 4) (hv1 : xs 1 = nI j) (hv2 : xs 2 = 2) {H : Heap} {locs : List Loc} {ls : Array Slot} (hK : va_K D classes (TY kA) s) (hN : nst s) (hP : va_P D classes (cat [[(h, .inr (12, [.ref (q 0), .ref (q 1), .ref (q 2), .ref (q 3), .ref (q 4), .ref (q 5), .ref (q 6), .int 0, .int ((-1)), .ref (q 9), .ref (q 10), .int 0, .int 0, .ref (q 13), .int 0, .int 0, .null, .null, .null, .null, .null]))], [(q 2, .inl (kA 6, 4, .inr (.inr (.inr (.inr (rr (g 2)))))))], [(g 2 j, .inr (5, [.int ((-1)), .int ((-1)), .int ((-1)), .int 0, .ref (qn 4), .int 0, .int 0, .ref (qn 7), .ref (qn 8), .ref (qn 9), .ref (qn 10), .ref (qn 11), .ref (qn 12), .int 0, .ref (qn 14), .ref (qn 15), .ref (qn 16)]))], [(q 0, .inl (kA 4, 4, .inr (.inr (.inr (.inr (rr (g 0)))))))], [(g 0 j, .inr (3, [.int 0, .int 0, .int 1, .ref (qg 3), .ref (qg 4), .ref (qg 5), .ref (qg 6), .ref (qg 7), .ref (qg 8), .ref (qg 9), .ref (qg 10), .ref (qg 11), .ref (qg 12), .ref (qg 13), .ref (qg 14), .ref (qg 15), .null, .int 0, .int 0]))], [(qn 9, .inl (kA 0, 25, .inl (fun _ => 0)))], [(qn 10, .inl (kA 0, 625, .inl (fun _ => 0)))], [(qn 12, .inl (kA 0, 25, .inl (fun _ => 0)))], [(q 5, .inr (1, [.null, .ref (qe 1), .ref (qe 2), .ref (qe 3), .ref (qe 4), .int 0, .int 0, .int 0, .ref (qe 8), .ref (qe 9), .ref (qe 10), .ref (qe 11), .ref (qe 12), .ref (qe 13), .ref (qe 14), .int 0, .int 0, .int 0, .int 0, .ref (qe 19)]))], [(qn 16, .inl (kA 0, 144, .inl (fun _ => 0)))], [(qn 14, .inl (kA 0, 145, .inl (fun _ => 0)))], [(h2, .inr (13, mF qm x0Mo y0Mo))], [(qm 3, .inl (kA 0, 4, .inl (fun _ => 0)))], [(qm 2, .inl (kA 0, 66836, .inl all0))], [(qm 56, .inl (kA 0, 161, .inl (fun _ => 0)))]]) H) (hD : va_D (fun q : Nat => s.heap.size ≤ q) (cat [[(h, .inr (12, [.ref (q 0), .ref (q 1), .ref (q 2), .ref (q 3), .ref (q 4), .ref (q 5), .ref (q 6), .int 0, .int ((-1)), .ref (q 9), .ref (q 10), .int 0, .int 0, .ref (q 13), .int 0, .int 0, .null, .null, .null, .null, .null]))], [(q 2, .inl (kA 6, 4, .inr (.inr (.inr (.inr (rr (g 2)))))))], [(g 2 j, .inr (5, [.int ((-1)), .int ((-1)), .int ((-1)), .int 0, .ref (qn 4), .int 0, .int 0, .ref (qn 7), .ref (qn 8), .ref (qn 9), .ref (qn 10), .ref (qn 11), .ref (qn 12), .int 0, .ref (qn 14), .ref (qn 15), .ref (qn 16)]))], [(q 0, .inl (kA 4, 4, .inr (.inr (.inr (.inr (rr (g 0)))))))], [(g 0 j, .inr (3, [.int 0, .int 0, .int 1, .ref (qg 3), .ref (qg 4), .ref (qg 5), .ref (qg 6), .ref (qg 7), .ref (qg 8), .ref (qg 9), .ref (qg 10), .ref (qg 11), .ref (qg 12), .ref (qg 13), .ref (qg 14), .ref (qg 15), .null, .int 0, .int 0]))], [(qn 9, .inl (kA 0, 25, .inl (fun _ => 0)))], [(qn 10, .inl (kA 0, 625, .inl (fun _ => 0)))], [(qn 12, .inl (kA 0, 25, .inl (fun _ => 0)))], [(q 5, .inr (1, [.null, .ref (qe 1), .ref (qe 2), .ref (qe 3), .ref (qe 4), .int 0, .int 0, .int 0, .ref (qe 8), .ref (qe 9), .ref (qe 10), .ref (qe 11), .ref (qe 12), .ref (qe 13), .ref (qe 14), .int 0, .int 0, .int 0, .int 0, .ref (qe 19)]))], [(qn 16, .inl (kA 0, 144, .inl (fun _ => 0)))], [(qn 14, .inl (kA 0, 145, .inl (fun _ => 0)))], [(h2, .inr (13, mF qm x0Mo y0Mo))], [(qm 3, .inl (kA 0, 4, .inl (fun _ => 0)))], [(qm 2, .inl (kA 0, 66836, .inl all0))], [(qm 56, .inl (kA 0, 161, .inl (fun _ => 0)))]])) (hS : va_S (fun q : Nat => s.heap.size ≤ q) s.heap H locs) (hl : lv_has ls 4 [(3, .int 0), (2, .ref h2), (1, .ref h), (0, .ref b)]) : W p l e room_1 s m #[Value.ref b] below meth c H locs 368 365796 (lw_Z below #[Value.ref b] s) (F0 m 679 ls []) := by
  obtain ⟨hx, hb, hr, hml, hown, hts0, hX, hbl, hlocks, hgv⟩ := id C0
  have hts : ∀ w ∈ lw_g, w.before #[Value.ref b] s = true := fun w h => hts0 w (lw_gt h)
  have X : cx p s m #[Value.ref b] meth c b_law_law 4 ret "DrawingHouseLaw" meth.name := ⟨hx, hb, hml, hown, hts, hr, hlocks, rfl⟩
  obtain ⟨A, hAe⟩ : ∃ A : Nat → Prop, A = fun q : Nat => s.heap.size ≤ q := ⟨_, rfl⟩
  have hA : ∀ q : Nat, s.heap.size ≤ q → A q := fun q h => by rw [hAe]; exact h
  have hbA : ¬ A b := by rw [hAe]; exact Nat.not_le.mpr hbl
  rw [← hAe] at hD hS
  refine lv_aload_n (pc := 679) hx hb d_law_law_679 rfl (lv_at hl 2 rfl) ?_
  refine lv_aload_n (pc := 680) hx hb d_law_law_680 rfl (lv_at hl 3 rfl) ?_
  refine lv_iload_n (pc := 681) hx hb d_law_law_681 rfl (lv_at hl 0 rfl) ?_
  refine lv_iconst (pc := 682) (v := 1) hx hb d_law_law_682 (by decide) ?_
  refine lv_iadd (pc := 683) hx hb d_law_law_683 ?_
  refine k_cst (v := 1) (by decide) ?_
  refine va_sld (pc := 684) hx hb hX hbl hbA hS (by unfold vp_in; decide) d_law_law_684 ?_
  refine k_cst (v := nI j) hv1 ?_
  refine lv_aload_n (pc := 685) hx hb d_law_law_685 rfl (lv_at hl 3 rfl) ?_
  refine lv_iload_n (pc := 686) hx hb d_law_law_686 rfl (lv_at hl 0 rfl) ?_
  refine lv_iconst (pc := 687) (v := 2) hx hb d_law_law_687 (by decide) ?_
  refine lv_iadd (pc := 688) hx hb d_law_law_688 ?_
  refine k_cst (v := 2) (by decide) ?_
  refine va_sld (pc := 689) hx hb hX hbl hbA hS (by unfold vp_in; decide) d_law_law_689 ?_
  refine k_cst (v := 2) hv2 ?_
  refine k_goI (gr := [[(h2, .inr (13, mF qm x0Mo y0Mo))], [(qm 3, .inl (kA 0, 4, .inl (fun _ => 0)))], [(qm 2, .inl (kA 0, 66836, .inl all0))], [(qm 56, .inl (kA 0, 161, .inl (fun _ => 0)))]]) (k_rV (pc := 690) (As := [.int (nI j), .int 2]) (rest := []) X (c_Ho_planar_z5 l D kA h j (q 0) (q 1) (q 2) (q 3) (q 4) (q 5) (q 6) (q 9) (q 10) (q 13) g (qn 4) (qn 7) (qn 8) (qn 9) (qn 10) (qn 11) (qn 12) (qn 14) (qn 15) (qn 16) (qg 3) (qg 4) (qg 5) (qg 6) (qg 7) (qg 8) (qg 9) (qg 10) (qg 11) (qg 12) (qg 13) (qg 14) (qg 15) (fun _ => 0) (fun _ => 0) (fun _ => 0) (qe 1) (qe 2) (qe 3) (qe 4) (qe 8) (qe 9) (qe 10) (qe 11) (qe 12) (qe 13) (qe 14) (qe 19) (fun _ => 0) (fun _ => 0) hj H.size) rfl wm_1048 wm_1 wm_1045 wm_1046 wm_1047 2 (by decide +kernel) ⟨Nat.le_of_ble_eq_true rfl, Nat.le_of_ble_eq_true rfl⟩ rfl rfl (va_recv hK hP (ci := 12) (q0 := 0) rfl rfl) (k_pre hN hK hP hD [0, 1, 2, 3, 4, 5, 6, 7, 8, 9, 10] [11, 12, 13, 14] 15 rfl (by decide) rfl) rfl hl.1 rfl (Nat.le_of_ble_eq_true rfl) d_law_law_690 ⟨Nat.le_of_ble_eq_true rfl, Nat.le_of_ble_eq_true rfl⟩) hP hD hS hA [0, 1, 2, 3, 4, 5, 6, 7, 8, 9, 10] [11, 12, 13, 14] 15 rfl (by decide) rfl rfl (fun r1 u2 H locs hu2 hP hD hS => ?_)
  obtain ⟨hP, hD⟩ := k_left hP hD
  subst hu2
  have hP : va_P D classes (cat [[(h2, .inr (13, mF qm x0Mo y0Mo))], [(qm 3, .inl (kA 0, 4, .inl (fun _ => 0)))], [(qm 2, .inl (kA 0, 66836, .inl all0))], [(qm 56, .inl (kA 0, 161, .inl (fun _ => 0)))]]) H := hP
  have hD : va_D A (cat [[(h2, .inr (13, mF qm x0Mo y0Mo))], [(qm 3, .inl (kA 0, 4, .inl (fun _ => 0)))], [(qm 2, .inl (kA 0, 66836, .inl all0))], [(qm 56, .inl (kA 0, 161, .inl (fun _ => 0)))]]) := hD
  refine lv_aload_n (pc := 693) hx hb d_law_law_693 rfl (lv_at hl 1 rfl) ?_
  refine lv_aload_n (pc := 694) hx hb d_law_law_694 rfl (lv_at hl 3 rfl) ?_
  refine lv_iload_n (pc := 695) hx hb d_law_law_695 rfl (lv_at hl 0 rfl) ?_
  refine lv_iconst (pc := 696) (v := 1) hx hb d_law_law_696 (by decide) ?_
  refine lv_iadd (pc := 697) hx hb d_law_law_697 ?_
  refine k_cst (v := 1) (by decide) ?_
  refine va_sld (pc := 698) hx hb hX hbl hbA hS (by unfold vp_in; decide) d_law_law_698 ?_
  refine k_cst (v := nI j) hv1 ?_
  refine lv_aload_n (pc := 699) hx hb d_law_law_699 rfl (lv_at hl 3 rfl) ?_
  refine lv_iload_n (pc := 700) hx hb d_law_law_700 rfl (lv_at hl 0 rfl) ?_
  refine lv_iconst (pc := 701) (v := 2) hx hb d_law_law_701 (by decide) ?_
  refine lv_iadd (pc := 702) hx hb d_law_law_702 ?_
  refine k_cst (v := 2) (by decide) ?_
  refine va_sld (pc := 703) hx hb hX hbl hbA hS (by unfold vp_in; decide) d_law_law_703 ?_
  refine k_cst (v := 2) hv2 ?_
  refine k_goI (gr := []) (k_rV (pc := 704) (As := [.int (nI j), .int 2]) (rest := [.int 0]) X (c_Mo_planar_z5 l D kA h2 j qm (fun _ => 0) hj H.size) rfl wm_3139 wm_9 wm_3136 wm_3137 wm_3138 2 (by decide +kernel) ⟨Nat.le_of_ble_eq_true rfl, Nat.le_of_ble_eq_true rfl⟩ rfl rfl (va_recv hK hP (ci := 13) (q0 := 0) rfl rfl) (k_pre hN hK hP hD [0, 1, 2, 3] [] 4 rfl (by decide) rfl) rfl hl.1 rfl (Nat.le_of_ble_eq_true rfl) d_law_law_704 ⟨Nat.le_of_ble_eq_true rfl, Nat.le_of_ble_eq_true rfl⟩) hP hD hS hA [0, 1, 2, 3] [] 4 rfl (by decide) rfl rfl (fun r3 u4 H locs hu4 hP hD hS => ?_)
  obtain ⟨hP, hD⟩ := k_left hP hD
  subst hu4
  have hP : va_P D classes (cat []) H := hP
  have hD : va_D A (cat []) := hD
  refine lv_icmp_eq (pc := 707) (tgt := 1295) hx hb d_law_law_707 (by decide) (fun _ => ?_) (fun c1 => absurd (by decide) c1)
  rw [hAe] at hS
  exact law_exit l C0 (Nat.le_of_ble_eq_true rfl) (Nat.le_of_ble_eq_true rfl) hS hl
set_option maxRecDepth 100000 in
set_option maxHeartbeats 4000000 in
/-- DrawingHouse.planar(II)I -/
theorem c_Ho_planar_z6 (l : Launch) (D : va_G) (kA : Nat → ClassId) (a0 : Nat) (j : Nat) (a1 : Nat) (a2 : Nat) (a3 : Nat) (a4 : Nat) (a5 : Nat) (a6 : Nat) (a7 : Nat) (a8 : Nat) (a9 : Nat) (a10 : Nat) (g : Nat → Nat → Nat) (a11 : Nat) (a12 : Nat) (a13 : Nat) (a14 : Nat) (a15 : Nat) (a16 : Nat) (a17 : Nat) (a18 : Nat) (a19 : Nat) (a20 : Nat) (a21 : Nat) (a22 : Nat) (a23 : Nat) (a24 : Nat) (a25 : Nat) (a26 : Nat) (a27 : Nat) (a28 : Nat) (a29 : Nat) (a30 : Nat) (a31 : Nat) (a32 : Nat) (a33 : Nat) (f0 : Nat → Int32) (f1 : Nat → Int32) (f2 : Nat → Int32) (a34 : Nat) (a35 : Nat) (a36 : Nat) (a37 : Nat) (a38 : Nat) (a39 : Nat) (a40 : Nat) (a41 : Nat) (a42 : Nat) (a43 : Nat) (a44 : Nat) (a45 : Nat) (f3 : Nat → Int32) (f4 : Nat → Int32) (hj : j < 4) : Ci l y_Ho_planar z_Ho_planar { frames := 4, cells := 0, slots := 0, locals := 95 } D classes (TY kA) [.ref a0, .int (nI j), .int 3] [[(a0, .inr (12, [.ref a1, .ref a2, .ref a3, .ref a4, .ref a5, .ref a6, .ref a7, .int 0, .int ((-1)), .ref a8, .ref a9, .int 0, .int 0, .ref a10, .int 0, .int 0, .null, .null, .null, .null, .null]))], [(a3, .inl (kA 6, 4, .inr (.inr (.inr (.inr (rr (g 2)))))))], [(g 2 j, .inr (5, [.int ((-1)), .int ((-1)), .int ((-1)), .int 0, .ref a11, .int 0, .int 0, .ref a12, .ref a13, .ref a14, .ref a15, .ref a16, .ref a17, .int 0, .ref a18, .ref a19, .ref a20]))], [(a1, .inl (kA 4, 4, .inr (.inr (.inr (.inr (rr (g 0)))))))], [(g 0 j, .inr (3, [.int 0, .int 0, .int 1, .ref a21, .ref a22, .ref a23, .ref a24, .ref a25, .ref a26, .ref a27, .ref a28, .ref a29, .ref a30, .ref a31, .ref a32, .ref a33, .null, .int 0, .int 0]))], [(a14, .inl (kA 0, 25, .inl f0))], [(a15, .inl (kA 0, 625, .inl f1))], [(a17, .inl (kA 0, 25, .inl f2))], [(a6, .inr (1, [.null, .ref a34, .ref a35, .ref a36, .ref a37, .int 0, .int 0, .int 0, .ref a38, .ref a39, .ref a40, .ref a41, .ref a42, .ref a43, .ref a44, .int 0, .int 0, .int 0, .int 0, .ref a45]))], [(a20, .inl (kA 0, 144, .inl f3))], [(a18, .inl (kA 0, 145, .inl f4))]] (fun r (_ : List va_W) => r = (-1)) (fun u => u) 0 0 := by
  intro sz
  refine k_met (cc := b_Ho_planar) (maxL := 4) (ret := (some .int)) (by decide) rfl (Nat.le_of_ble_eq_true rfl) (fun p e s m below meth c ls X hl hB => ?_)
  obtain ⟨hsz, hP, hK, hD0, hN⟩ := hB
  subst hsz
  have hD := hD0.self (sz := s.heap.size)
  generalize hAe : va_A (cat [[(a0, .inr (12, [.ref a1, .ref a2, .ref a3, .ref a4, .ref a5, .ref a6, .ref a7, .int 0, .int ((-1)), .ref a8, .ref a9, .int 0, .int 0, .ref a10, .int 0, .int 0, .null, .null, .null, .null, .null]))], [(a3, .inl (kA 6, 4, .inr (.inr (.inr (.inr (rr (g 2)))))))], [(g 2 j, .inr (5, [.int ((-1)), .int ((-1)), .int ((-1)), .int 0, .ref a11, .int 0, .int 0, .ref a12, .ref a13, .ref a14, .ref a15, .ref a16, .ref a17, .int 0, .ref a18, .ref a19, .ref a20]))], [(a1, .inl (kA 4, 4, .inr (.inr (.inr (.inr (rr (g 0)))))))], [(g 0 j, .inr (3, [.int 0, .int 0, .int 1, .ref a21, .ref a22, .ref a23, .ref a24, .ref a25, .ref a26, .ref a27, .ref a28, .ref a29, .ref a30, .ref a31, .ref a32, .ref a33, .null, .int 0, .int 0]))], [(a14, .inl (kA 0, 25, .inl f0))], [(a15, .inl (kA 0, 625, .inl f1))], [(a17, .inl (kA 0, 25, .inl f2))], [(a6, .inr (1, [.null, .ref a34, .ref a35, .ref a36, .ref a37, .int 0, .int 0, .int 0, .ref a38, .ref a39, .ref a40, .ref a41, .ref a42, .ref a43, .ref a44, .int 0, .int 0, .int 0, .int 0, .ref a45]))], [(a20, .inl (kA 0, 144, .inl f3))], [(a18, .inl (kA 0, 145, .inl f4))]]) s.heap.size = A at hD ⊢
  have hA : ∀ q : Nat, s.heap.size ≤ q → A q := fun q h => by rw [← hAe]; exact Or.inr h
  have hS : va_S A s.heap s.heap [] := va_S.rf
  obtain ⟨hx, hb, hml, hown, hts, hr, hlk, hnm⟩ := id X
  have hl : lv_has ls 4 [(0, .ref a0), (1, .int (nI j)), (2, .int 3)] := hl
  have hP : va_P D classes (cat [[(a0, .inr (12, [.ref a1, .ref a2, .ref a3, .ref a4, .ref a5, .ref a6, .ref a7, .int 0, .int ((-1)), .ref a8, .ref a9, .int 0, .int 0, .ref a10, .int 0, .int 0, .null, .null, .null, .null, .null]))], [(a3, .inl (kA 6, 4, .inr (.inr (.inr (.inr (rr (g 2)))))))], [(g 2 j, .inr (5, [.int ((-1)), .int ((-1)), .int ((-1)), .int 0, .ref a11, .int 0, .int 0, .ref a12, .ref a13, .ref a14, .ref a15, .ref a16, .ref a17, .int 0, .ref a18, .ref a19, .ref a20]))], [(a1, .inl (kA 4, 4, .inr (.inr (.inr (.inr (rr (g 0)))))))], [(g 0 j, .inr (3, [.int 0, .int 0, .int 1, .ref a21, .ref a22, .ref a23, .ref a24, .ref a25, .ref a26, .ref a27, .ref a28, .ref a29, .ref a30, .ref a31, .ref a32, .ref a33, .null, .int 0, .int 0]))], [(a14, .inl (kA 0, 25, .inl f0))], [(a15, .inl (kA 0, 625, .inl f1))], [(a17, .inl (kA 0, 25, .inl f2))], [(a6, .inr (1, [.null, .ref a34, .ref a35, .ref a36, .ref a37, .int 0, .int 0, .int 0, .ref a38, .ref a39, .ref a40, .ref a41, .ref a42, .ref a43, .ref a44, .int 0, .int 0, .int 0, .int 0, .ref a45]))], [(a20, .inl (kA 0, 144, .inl f3))], [(a18, .inl (kA 0, 145, .inl f4))]]) s.heap := hP
  have hK : va_K D classes (TY kA) s := hK
  refine lv_iload_n (pc := 0) hx hb d_Ho_planar_0 rfl (lv_at hl 1 rfl) ?_
  refine k_goI (gr := [[(a0, .inr (12, [.ref a1, .ref a2, .ref a3, .ref a4, .ref a5, .ref a6, .ref a7, .int 0, .int ((-1)), .ref a8, .ref a9, .int 0, .int 0, .ref a10, .int 0, .int 0, .null, .null, .null, .null, .null]))], [(a3, .inl (kA 6, 4, .inr (.inr (.inr (.inr (rr (g 2)))))))], [(g 2 j, .inr (5, [.int ((-1)), .int ((-1)), .int ((-1)), .int 0, .ref a11, .int 0, .int 0, .ref a12, .ref a13, .ref a14, .ref a15, .ref a16, .ref a17, .int 0, .ref a18, .ref a19, .ref a20]))], [(a1, .inl (kA 4, 4, .inr (.inr (.inr (.inr (rr (g 0)))))))], [(g 0 j, .inr (3, [.int 0, .int 0, .int 1, .ref a21, .ref a22, .ref a23, .ref a24, .ref a25, .ref a26, .ref a27, .ref a28, .ref a29, .ref a30, .ref a31, .ref a32, .ref a33, .null, .int 0, .int 0]))], [(a14, .inl (kA 0, 25, .inl f0))], [(a15, .inl (kA 0, 625, .inl f1))], [(a17, .inl (kA 0, 25, .inl f2))], [(a6, .inr (1, [.null, .ref a34, .ref a35, .ref a36, .ref a37, .int 0, .int 0, .int 0, .ref a38, .ref a39, .ref a40, .ref a41, .ref a42, .ref a43, .ref a44, .int 0, .int 0, .int 0, .int 0, .ref a45]))], [(a20, .inl (kA 0, 144, .inl f3))], [(a18, .inl (kA 0, 145, .inl f4))]]) (k_rS (pc := 1) (As := [.int (nI j)]) (rest := []) X (c_Ho_isPlace l D kA (nI j) s.heap.size) rfl wm_633 wm_1 wm_631 wm_632 1 (by decide +kernel) ⟨Nat.le_of_ble_eq_true rfl, Nat.le_of_ble_eq_true rfl⟩ rfl rfl (k_pre hN hK hP hD [] [0, 1, 2, 3, 4, 5, 6, 7, 8, 9, 10] 11 rfl (by decide) rfl) rfl hl.1 rfl (Nat.le_of_ble_eq_true rfl) d_Ho_planar_1 ⟨Nat.le_of_ble_eq_true rfl, Nat.le_of_ble_eq_true rfl⟩) hP hD hS hA [] [0, 1, 2, 3, 4, 5, 6, 7, 8, 9, 10] 11 rfl (by decide) rfl rfl (fun r1 u2 H locs hu2 hP hD hS => ?_)
  subst hu2
  refine k_cst (v := 1) (place_ok hj) ?_
  have hP : va_P D classes (cat [[(a0, .inr (12, [.ref a1, .ref a2, .ref a3, .ref a4, .ref a5, .ref a6, .ref a7, .int 0, .int ((-1)), .ref a8, .ref a9, .int 0, .int 0, .ref a10, .int 0, .int 0, .null, .null, .null, .null, .null]))], [(a3, .inl (kA 6, 4, .inr (.inr (.inr (.inr (rr (g 2)))))))], [(g 2 j, .inr (5, [.int ((-1)), .int ((-1)), .int ((-1)), .int 0, .ref a11, .int 0, .int 0, .ref a12, .ref a13, .ref a14, .ref a15, .ref a16, .ref a17, .int 0, .ref a18, .ref a19, .ref a20]))], [(a1, .inl (kA 4, 4, .inr (.inr (.inr (.inr (rr (g 0)))))))], [(g 0 j, .inr (3, [.int 0, .int 0, .int 1, .ref a21, .ref a22, .ref a23, .ref a24, .ref a25, .ref a26, .ref a27, .ref a28, .ref a29, .ref a30, .ref a31, .ref a32, .ref a33, .null, .int 0, .int 0]))], [(a14, .inl (kA 0, 25, .inl f0))], [(a15, .inl (kA 0, 625, .inl f1))], [(a17, .inl (kA 0, 25, .inl f2))], [(a6, .inr (1, [.null, .ref a34, .ref a35, .ref a36, .ref a37, .int 0, .int 0, .int 0, .ref a38, .ref a39, .ref a40, .ref a41, .ref a42, .ref a43, .ref a44, .int 0, .int 0, .int 0, .int 0, .ref a45]))], [(a20, .inl (kA 0, 144, .inl f3))], [(a18, .inl (kA 0, 145, .inl f4))]]) H := hP
  have hD : va_D A (cat [[(a0, .inr (12, [.ref a1, .ref a2, .ref a3, .ref a4, .ref a5, .ref a6, .ref a7, .int 0, .int ((-1)), .ref a8, .ref a9, .int 0, .int 0, .ref a10, .int 0, .int 0, .null, .null, .null, .null, .null]))], [(a3, .inl (kA 6, 4, .inr (.inr (.inr (.inr (rr (g 2)))))))], [(g 2 j, .inr (5, [.int ((-1)), .int ((-1)), .int ((-1)), .int 0, .ref a11, .int 0, .int 0, .ref a12, .ref a13, .ref a14, .ref a15, .ref a16, .ref a17, .int 0, .ref a18, .ref a19, .ref a20]))], [(a1, .inl (kA 4, 4, .inr (.inr (.inr (.inr (rr (g 0)))))))], [(g 0 j, .inr (3, [.int 0, .int 0, .int 1, .ref a21, .ref a22, .ref a23, .ref a24, .ref a25, .ref a26, .ref a27, .ref a28, .ref a29, .ref a30, .ref a31, .ref a32, .ref a33, .null, .int 0, .int 0]))], [(a14, .inl (kA 0, 25, .inl f0))], [(a15, .inl (kA 0, 625, .inl f1))], [(a17, .inl (kA 0, 25, .inl f2))], [(a6, .inr (1, [.null, .ref a34, .ref a35, .ref a36, .ref a37, .int 0, .int 0, .int 0, .ref a38, .ref a39, .ref a40, .ref a41, .ref a42, .ref a43, .ref a44, .int 0, .int 0, .int 0, .int 0, .ref a45]))], [(a20, .inl (kA 0, 144, .inl f3))], [(a18, .inl (kA 0, 145, .inl f4))]]) := hD
  refine lv_if_ne (pc := 4) (tgt := 9) hx hb d_Ho_planar_4 (by decide) (fun c1 => ?_) (fun c1 => absurd c1 (by decide))
  refine lv_aload_n (pc := 9) hx hb d_Ho_planar_9 rfl (lv_at hl 0 rfl) ?_
  refine lv_iload_n (pc := 10) hx hb d_Ho_planar_10 rfl (lv_at hl 1 rfl) ?_
  refine k_goR (gr := []) (k_rV (pc := 11) (As := [.int (nI j)]) (rest := []) X (c_Ho_embedded_z1 l D kA a0 j a1 a2 a3 a4 a5 a6 a7 a8 a9 a10 g a11 a12 a13 a14 a15 a16 a17 a18 a19 a20 a21 a22 a23 a24 a25 a26 a27 a28 a29 a30 a31 a32 a33 f0 f1 f2 a34 a35 a36 a37 a38 a39 a40 a41 a42 a43 a44 a45 f3 f4 hj H.size) rfl wm_1052 wm_1 wm_1049 wm_1051 wv_3_6 1 (by decide +kernel) ⟨Nat.le_of_ble_eq_true rfl, Nat.le_of_ble_eq_true rfl⟩ rfl rfl (va_recv hK hP (ci := 12) (q0 := 0) rfl rfl) (k_pre hN hK hP hD [0, 1, 2, 3, 4, 5, 6, 7, 8, 9, 10] [] 11 rfl (by decide) rfl) rfl hl.1 rfl (Nat.le_of_ble_eq_true rfl) d_Ho_planar_11 ⟨Nat.le_of_ble_eq_true rfl, Nat.le_of_ble_eq_true rfl⟩) hP hD hS hA [0, 1, 2, 3, 4, 5, 6, 7, 8, 9, 10] [] 11 rfl (by decide) rfl rfl (fun u4 H locs hu4 hP hD hS => ?_)
  have hP : va_P D classes (cat [[(a0, .inr (12, [.ref a1, .ref a2, .ref a3, .ref a4, .ref a5, .ref a6, .ref a7, .int 0, .int ((-1)), .ref a8, .ref a9, .int 0, .int 0, .ref a10, .int 0, .int 0, .null, .null, .null, .null, .null]))], [(a3, .inl (kA 6, 4, .inr (.inr (.inr (.inr (rr (g 2)))))))], [(g 2 j, .inr (5, [.int 1, .int ((-1)), .int ((-1)), .int 0, .ref a11, .int 0, .int 0, .ref a12, .ref a13, .ref a14, .ref a15, .ref a16, .ref a17, .int 0, .ref a18, .ref a19, .ref a20]))], [(a1, .inl (kA 4, 4, .inr (.inr (.inr (.inr (rr (g 0)))))))], [(g 0 j, .inr (3, [.int 0, .int 0, .int 1, .ref a21, .ref a22, .ref a23, .ref a24, .ref a25, .ref a26, .ref a27, .ref a28, .ref a29, .ref a30, .ref a31, .ref a32, .ref a33, .null, .int 0, .int 0]))], [(a14, .inl (kA 0, 25, .inl (fl f0 25 0)))], [(a15, .inl (kA 0, 625, .inl (fl f1 625 (-1))))], [(a17, .inl (kA 0, 25, .inl (fl f2 25 (-1))))], [(a6, .inr (1, [.ref (g 2 j), .ref a34, .ref a35, .ref a36, .ref a37, .int 0, .int 0, .int 0, .ref a38, .ref a39, .ref a40, .ref a41, .ref a42, .ref a43, .ref a44, .int 0, .int 0, .int 0, .int 0, .ref a45]))], [(a20, .inl (kA 0, 144, .inl (fl f3 144 (-1))))], [(a18, .inl (kA 0, 145, .inl (upd (f4) 0 0)))]]) H := hP
  have hD : va_D A (cat [[(a0, .inr (12, [.ref a1, .ref a2, .ref a3, .ref a4, .ref a5, .ref a6, .ref a7, .int 0, .int ((-1)), .ref a8, .ref a9, .int 0, .int 0, .ref a10, .int 0, .int 0, .null, .null, .null, .null, .null]))], [(a3, .inl (kA 6, 4, .inr (.inr (.inr (.inr (rr (g 2)))))))], [(g 2 j, .inr (5, [.int 1, .int ((-1)), .int ((-1)), .int 0, .ref a11, .int 0, .int 0, .ref a12, .ref a13, .ref a14, .ref a15, .ref a16, .ref a17, .int 0, .ref a18, .ref a19, .ref a20]))], [(a1, .inl (kA 4, 4, .inr (.inr (.inr (.inr (rr (g 0)))))))], [(g 0 j, .inr (3, [.int 0, .int 0, .int 1, .ref a21, .ref a22, .ref a23, .ref a24, .ref a25, .ref a26, .ref a27, .ref a28, .ref a29, .ref a30, .ref a31, .ref a32, .ref a33, .null, .int 0, .int 0]))], [(a14, .inl (kA 0, 25, .inl (fl f0 25 0)))], [(a15, .inl (kA 0, 625, .inl (fl f1 625 (-1))))], [(a17, .inl (kA 0, 25, .inl (fl f2 25 (-1))))], [(a6, .inr (1, [.ref (g 2 j), .ref a34, .ref a35, .ref a36, .ref a37, .int 0, .int 0, .int 0, .ref a38, .ref a39, .ref a40, .ref a41, .ref a42, .ref a43, .ref a44, .int 0, .int 0, .int 0, .int 0, .ref a45]))], [(a20, .inl (kA 0, 144, .inl (fl f3 144 (-1))))], [(a18, .inl (kA 0, 145, .inl (upd (f4) 0 0)))]]) := hD
  refine lv_astore_n (pc := 14) (lv' := [(3, .ref (g 2 j)), (0, .ref a0), (1, .int (nI j)), (2, .int 3)]) hx hb d_Ho_planar_14 rfl hl (by decide) rfl (fun ls hl => ?_)
  refine lv_iload_n (pc := 15) hx hb d_Ho_planar_15 rfl (lv_at hl 3 rfl) ?_
  refine lv_tableIn (pc := 16) (tgt := 89) hx hb d_Ho_planar_16 (by decide) (by decide) rfl (by decide) ?_
  refine lv_aload_n (pc := 89) hx hb d_Ho_planar_89 rfl (lv_at hl 0 rfl) ?_
  refine k_get (pc := 90) X hK hP 2 rfl rfl i_Ne 0 (by decide) wm_250 rfl rfl d_Ho_planar_90 ?_
  refine lv_iconst (pc := 93) (v := 1) hx hb d_Ho_planar_93 (by decide) ?_
  refine lv_icmp_ne (pc := 94) (tgt := 101) hx hb d_Ho_planar_94 (by decide) (fun c1 => absurd (by decide) c1) (fun _ => ?_)
  refine lv_iconst (pc := 97) (v := -1) hx hb d_Ho_planar_97 (by decide) ?_
  refine lv_goto (pc := 98) (tgt := 105) hx hb d_Ho_planar_98 (by decide) ?_
  refine W.widen (k := 0) (n := 0) (Nat.le_of_ble_eq_true rfl) (Nat.le_of_ble_eq_true rfl) ?_
  exact W.iret (v := (-1)) hx hb hr (fun t ht hW => ⟨⟨(-1), [[(a0, .inr (12, [.ref a1, .ref a2, .ref a3, .ref a4, .ref a5, .ref a6, .ref a7, .int 0, .int ((-1)), .ref a8, .ref a9, .int 0, .int 0, .ref a10, .int 0, .int 0, .null, .null, .null, .null, .null]))], [(a3, .inl (kA 6, 4, .inr (.inr (.inr (.inr (rr (g 2)))))))], [(g 2 j, .inr (5, [.int 1, .int ((-1)), .int ((-1)), .int 0, .ref a11, .int 0, .int 0, .ref a12, .ref a13, .ref a14, .ref a15, .ref a16, .ref a17, .int 0, .ref a18, .ref a19, .ref a20]))], [(a1, .inl (kA 4, 4, .inr (.inr (.inr (.inr (rr (g 0)))))))], [(g 0 j, .inr (3, [.int 0, .int 0, .int 1, .ref a21, .ref a22, .ref a23, .ref a24, .ref a25, .ref a26, .ref a27, .ref a28, .ref a29, .ref a30, .ref a31, .ref a32, .ref a33, .null, .int 0, .int 0]))], [(a14, .inl (kA 0, 25, .inl (fl f0 25 0)))], [(a15, .inl (kA 0, 625, .inl (fl f1 625 (-1))))], [(a17, .inl (kA 0, 25, .inl (fl f2 25 (-1))))], [(a6, .inr (1, [.ref (g 2 j), .ref a34, .ref a35, .ref a36, .ref a37, .int 0, .int 0, .int 0, .ref a38, .ref a39, .ref a40, .ref a41, .ref a42, .ref a43, .ref a44, .int 0, .int 0, .int 0, .int 0, .ref a45]))], [(a20, .inl (kA 0, 144, .inl (fl f3 144 (-1))))], [(a18, .inl (kA 0, 145, .inl (upd (f4) 0 0)))]], rfl, rfl, by rw [ht]; exact hP, va_K.moved hW.alike hK, hD⟩, hS.F ht⟩) hS.2.2 d_Ho_planar_105
set_option maxRecDepth 100000 in
set_option maxHeartbeats 4000000 in
/-- DrawingHouseModel.in(III)Z -/
theorem c_Mo_in_z24 (l : Launch) (D : va_G) (kA : Nat → ClassId) : Ci l y_Mo_in z_Mo_in { frames := 0, cells := 0, slots := 0, locals := 0 } D classes (TY kA) [.int 3, .int 0, .int 4] [] (fun r (_ : Unit) => r = 1) (fun u => []) 0 0 := by
  intro sz
  refine k_met (cc := b_Mo_in) (maxL := 3) (ret := (some .boolean)) (by decide) rfl (Nat.le_of_ble_eq_true rfl) (fun p e s m below meth c ls X hl hB => ?_)
  obtain ⟨hsz, hP, hK, hD0, hN⟩ := hB
  subst hsz
  have hD := hD0.self (sz := s.heap.size)
  generalize hAe : va_A (cat []) s.heap.size = A at hD ⊢
  have hA : ∀ q : Nat, s.heap.size ≤ q → A q := fun q h => by rw [← hAe]; exact Or.inr h
  have hS : va_S A s.heap s.heap [] := va_S.rf
  obtain ⟨hx, hb, hml, hown, hts, hr, hlk, hnm⟩ := id X
  have hl : lv_has ls 3 [(0, .int 3), (1, .int 0), (2, .int 4)] := hl
  have hP : va_P D classes (cat []) s.heap := hP
  have hK : va_K D classes (TY kA) s := hK
  refine lv_iload_n (pc := 0) hx hb d_Mo_in_0 rfl (lv_at hl 0 rfl) ?_
  refine lv_iload_n (pc := 1) hx hb d_Mo_in_1 rfl (lv_at hl 1 rfl) ?_
  refine lv_icmp_lt (pc := 2) (tgt := 14) hx hb d_Mo_in_2 (by decide) (fun c1 => absurd c1 (by decide)) (fun _ => ?_)
  refine lv_iload_n (pc := 5) hx hb d_Mo_in_5 rfl (lv_at hl 0 rfl) ?_
  refine lv_iload_n (pc := 6) hx hb d_Mo_in_6 rfl (lv_at hl 2 rfl) ?_
  refine lv_icmp_gt (pc := 7) (tgt := 14) hx hb d_Mo_in_7 (by decide) (fun c1 => absurd c1 (by decide)) (fun _ => ?_)
  refine lv_iconst (pc := 10) (v := 1) hx hb d_Mo_in_10 (by decide) ?_
  refine lv_goto (pc := 11) (tgt := 15) hx hb d_Mo_in_11 (by decide) ?_
  refine W.widen (k := 0) (n := 0) (Nat.le_of_ble_eq_true rfl) (Nat.le_of_ble_eq_true rfl) ?_
  exact W.zret (v := 1) hx hb hr rfl (fun t ht hW => ⟨⟨1, (), rfl, rfl, by rw [ht]; exact hP, va_K.moved hW.alike hK, hD⟩, hS.F ht⟩) hS.2.2 d_Mo_in_15
set_option maxRecDepth 100000 in
set_option maxHeartbeats 4000000 in
/-- DrawingHouseModel.planar(II)I -/
theorem c_Mo_planar_z6 (l : Launch) (D : va_G) (kA : Nat → ClassId) (a0 : Nat) (j : Nat) (qm : Nat → Nat) (hj : j < 4) : Ci l y_Mo_planar z_Mo_planar { frames := 3, cells := 0, slots := 0, locals := 66 } D classes (TY kA) [.ref a0, .int (nI j), .int 3] [[(a0, .inr (13, mF qm x0Mo y0Mo))], [(qm 3, .inl (kA 0, 4, .inl (fun _ => 0)))], [(qm 2, .inl (kA 0, 66836, .inl all0))]] (fun r (_ : List va_W) => r = (-1)) (fun u => u) 0 0 := by
  intro sz
  refine k_met (cc := b_Mo_planar) (maxL := 4) (ret := (some .int)) (by decide) rfl (Nat.le_of_ble_eq_true rfl) (fun p e s m below meth c ls X hl hB => ?_)
  obtain ⟨hsz, hP, hK, hD0, hN⟩ := hB
  subst hsz
  have hD := hD0.self (sz := s.heap.size)
  generalize hAe : va_A (cat [[(a0, .inr (13, mF qm x0Mo y0Mo))], [(qm 3, .inl (kA 0, 4, .inl (fun _ => 0)))], [(qm 2, .inl (kA 0, 66836, .inl all0))]]) s.heap.size = A at hD ⊢
  have hA : ∀ q : Nat, s.heap.size ≤ q → A q := fun q h => by rw [← hAe]; exact Or.inr h
  have hS : va_S A s.heap s.heap [] := va_S.rf
  obtain ⟨hx, hb, hml, hown, hts, hr, hlk, hnm⟩ := id X
  have hl : lv_has ls 4 [(0, .ref a0), (1, .int (nI j)), (2, .int 3)] := hl
  have hP : va_P D classes (cat [[(a0, .inr (13, mF qm x0Mo y0Mo))], [(qm 3, .inl (kA 0, 4, .inl (fun _ => 0)))], [(qm 2, .inl (kA 0, 66836, .inl all0))]]) s.heap := hP
  have hK : va_K D classes (TY kA) s := hK
  refine lv_iload_n (pc := 0) hx hb d_Mo_planar_0 rfl (lv_at hl 1 rfl) ?_
  refine k_goI (gr := [[(a0, .inr (13, mF qm x0Mo y0Mo))], [(qm 3, .inl (kA 0, 4, .inl (fun _ => 0)))], [(qm 2, .inl (kA 0, 66836, .inl all0))]]) (k_rS (pc := 1) (As := [.int (nI j)]) (rest := []) X (c_Mo_isPlace l D kA (nI j) s.heap.size) rfl wm_2978 wm_9 wm_2976 wm_2977 1 (by decide +kernel) ⟨Nat.le_of_ble_eq_true rfl, Nat.le_of_ble_eq_true rfl⟩ rfl rfl (k_pre hN hK hP hD [] [0, 1, 2] 3 rfl (by decide) rfl) rfl hl.1 rfl (Nat.le_of_ble_eq_true rfl) d_Mo_planar_1 ⟨Nat.le_of_ble_eq_true rfl, Nat.le_of_ble_eq_true rfl⟩) hP hD hS hA [] [0, 1, 2] 3 rfl (by decide) rfl rfl (fun r1 u2 H locs hu2 hP hD hS => ?_)
  subst hu2
  refine k_cst (v := 1) (placeM_ok hj) ?_
  have hP : va_P D classes (cat [[(a0, .inr (13, mF qm x0Mo y0Mo))], [(qm 3, .inl (kA 0, 4, .inl (fun _ => 0)))], [(qm 2, .inl (kA 0, 66836, .inl all0))]]) H := hP
  have hD : va_D A (cat [[(a0, .inr (13, mF qm x0Mo y0Mo))], [(qm 3, .inl (kA 0, 4, .inl (fun _ => 0)))], [(qm 2, .inl (kA 0, 66836, .inl all0))]]) := hD
  refine lv_if_eq (pc := 4) (tgt := 16) hx hb d_Mo_planar_4 (by decide) (fun c1 => absurd c1 (by decide)) (fun c1 => ?_)
  refine lv_iload_n (pc := 7) hx hb d_Mo_planar_7 rfl (lv_at hl 2 rfl) ?_
  refine lv_iconst (pc := 8) (v := 0) hx hb d_Mo_planar_8 (by decide) ?_
  refine lv_iconst (pc := 9) (v := 4) hx hb d_Mo_planar_9 (by decide) ?_
  refine k_goI (gr := [[(a0, .inr (13, mF qm x0Mo y0Mo))], [(qm 3, .inl (kA 0, 4, .inl (fun _ => 0)))], [(qm 2, .inl (kA 0, 66836, .inl all0))]]) (k_rS (pc := 10) (As := [.int 3, .int 0, .int 4]) (rest := []) X (c_Mo_in_z24 l D kA  H.size) rfl wm_2971 wm_9 wm_2969 wm_2970 3 (by decide +kernel) ⟨Nat.le_of_ble_eq_true rfl, Nat.le_of_ble_eq_true rfl⟩ rfl rfl (k_pre hN hK hP hD [] [0, 1, 2] 3 rfl (by decide) rfl) rfl hl.1 rfl (Nat.le_of_ble_eq_true rfl) d_Mo_planar_10 ⟨Nat.le_of_ble_eq_true rfl, Nat.le_of_ble_eq_true rfl⟩) hP hD hS hA [] [0, 1, 2] 3 rfl (by decide) rfl rfl (fun r3 u4 H locs hu4 hP hD hS => ?_)
  subst hu4
  have hP : va_P D classes (cat [[(a0, .inr (13, mF qm x0Mo y0Mo))], [(qm 3, .inl (kA 0, 4, .inl (fun _ => 0)))], [(qm 2, .inl (kA 0, 66836, .inl all0))]]) H := hP
  have hD : va_D A (cat [[(a0, .inr (13, mF qm x0Mo y0Mo))], [(qm 3, .inl (kA 0, 4, .inl (fun _ => 0)))], [(qm 2, .inl (kA 0, 66836, .inl all0))]]) := hD
  refine lv_if_ne (pc := 13) (tgt := 18) hx hb d_Mo_planar_13 (by decide) (fun c1 => ?_) (fun c1 => absurd c1 (by decide))
  refine lv_aload_n (pc := 18) hx hb d_Mo_planar_18 rfl (lv_at hl 0 rfl) ?_
  refine lv_iload_n (pc := 19) hx hb d_Mo_planar_19 rfl (lv_at hl 1 rfl) ?_
  refine k_goV (gr := [[(qm 2, .inl (kA 0, 66836, .inl all0))]]) (k_rV (pc := 20) (As := [.int (nI j)]) (rest := []) X (c_Mo_take_z1 l D kA a0 j qm hj H.size) rfl wm_3091 wm_9 wm_3088 wm_3090 wv_14_2 1 (by decide +kernel) ⟨Nat.le_of_ble_eq_true rfl, Nat.le_of_ble_eq_true rfl⟩ rfl rfl (va_recv hK hP (ci := 13) (q0 := 0) rfl rfl) (k_pre hN hK hP hD [0, 1] [2] 3 rfl (by decide) rfl) rfl hl.1 rfl (Nat.le_of_ble_eq_true rfl) d_Mo_planar_20 ⟨Nat.le_of_ble_eq_true rfl, Nat.le_of_ble_eq_true rfl⟩) hP hD hS hA [0, 1] [2] 3 rfl (by decide) rfl rfl (fun u5 H locs hu5 hP hD hS => ?_)
  have hP : va_P D classes (cat [[(qm 2, .inl (kA 0, 66836, .inl all0))], [(a0, .inr (13, mF qm (va_up x0Mo 5 (nI (539 * (31 * j + 0)))) y0Mo))], [(qm 3, .inl (kA 0, 4, .inl (fun _ => 0)))]]) H := hP
  have hD : va_D A (cat [[(qm 2, .inl (kA 0, 66836, .inl all0))], [(a0, .inr (13, mF qm (va_up x0Mo 5 (nI (539 * (31 * j + 0)))) y0Mo))], [(qm 3, .inl (kA 0, 4, .inl (fun _ => 0)))]]) := hD
  refine lv_iload_n (pc := 23) hx hb d_Mo_planar_23 rfl (lv_at hl 2 rfl) ?_
  refine lv_iconst (pc := 24) (v := 1) hx hb d_Mo_planar_24 (by decide) ?_
  refine lv_icmp_ne (pc := 25) (tgt := 41) hx hb d_Mo_planar_25 (by decide) (fun _ => ?_) (fun c1 => absurd c1 (by decide))
  refine lv_aload_n (pc := 41) hx hb d_Mo_planar_41 rfl (lv_at hl 0 rfl) ?_
  refine k_goI (gr := [[(qm 3, .inl (kA 0, 4, .inl (fun _ => 0)))]]) (k_rV (pc := 42) (As := []) (rest := []) X (c_Mo_isPlanar_z1 l D kA a0 qm j hj H.size) rfl wm_3251 wm_9 wm_3248 wm_3250 wv_16_5 0 (by decide +kernel) ⟨Nat.le_of_ble_eq_true rfl, Nat.le_of_ble_eq_true rfl⟩ rfl rfl (va_recv hK hP (ci := 13) (q0 := 1) rfl rfl) (k_pre hN hK hP hD [1, 0] [2] 3 rfl (by decide) rfl) rfl hl.1 rfl (Nat.le_of_ble_eq_true rfl) d_Mo_planar_42 ⟨Nat.le_of_ble_eq_true rfl, Nat.le_of_ble_eq_true rfl⟩) hP hD hS hA [1, 0] [2] 3 rfl (by decide) rfl rfl (fun r6 u7 H locs hu7 hP hD hS => ?_)
  subst hu7
  have hP : va_P D classes (cat [[(qm 3, .inl (kA 0, 4, .inl (fun _ => 0)))], [(a0, .inr (13, mF qm (va_up (va_up x0Mo 5 (nI (539 * (31 * j + 0)))) 49 (-1)) y0Mo))], [(qm 2, .inl (kA 0, 66836, .inl all0))]]) H := hP
  have hD : va_D A (cat [[(qm 3, .inl (kA 0, 4, .inl (fun _ => 0)))], [(a0, .inr (13, mF qm (va_up (va_up x0Mo 5 (nI (539 * (31 * j + 0)))) 49 (-1)) y0Mo))], [(qm 2, .inl (kA 0, 66836, .inl all0))]]) := hD
  refine lv_istore_n (pc := 45) (lv' := [(3, .int 1), (0, .ref a0), (1, .int (nI j)), (2, .int 3)]) hx hb d_Mo_planar_45 rfl hl (by decide) rfl (fun ls hl => ?_)
  refine lv_iload_n (pc := 46) hx hb d_Mo_planar_46 rfl (lv_at hl 3 rfl) ?_
  refine lv_if_ne (pc := 47) (tgt := 60) hx hb d_Mo_planar_47 (by decide) (fun c1 => ?_) (fun c1 => absurd c1 (by decide))
  refine lv_iload_n (pc := 60) hx hb d_Mo_planar_60 rfl (lv_at hl 3 rfl) ?_
  refine lv_iconst (pc := 61) (v := 2) hx hb d_Mo_planar_61 (by decide) ?_
  refine lv_icmp_ne (pc := 62) (tgt := 69) hx hb d_Mo_planar_62 (by decide) (fun _ => ?_) (fun c1 => absurd c1 (by decide))
  refine lv_iconst (pc := 69) (v := 0) hx hb d_Mo_planar_69 (by decide) ?_
  refine lv_iload_n (pc := 70) hx hb d_Mo_planar_70 rfl (lv_at hl 0 rfl) ?_
  refine lv_icmp_eq (pc := 71) (tgt := 76) hx hb d_Mo_planar_71 (by decide) (fun c1 => absurd c1 (by decide)) (fun _ => ?_)
  refine lv_iconst (pc := 74) (v := -1) hx hb d_Mo_planar_74 (by decide) ?_
  refine W.widen (k := 0) (n := 0) (Nat.le_of_ble_eq_true rfl) (Nat.le_of_ble_eq_true rfl) ?_
  exact W.iret (v := (-1)) hx hb hr (fun t ht hW => ⟨⟨(-1), [[(qm 3, .inl (kA 0, 4, .inl (fun _ => 0)))], [(a0, .inr (13, mF qm (va_up (va_up x0Mo 5 (nI (539 * (31 * j + 0)))) 49 (-1)) y0Mo))], [(qm 2, .inl (kA 0, 66836, .inl all0))]], rfl, rfl, by rw [ht]; exact hP, va_K.moved hW.alike hK, hD⟩, hS.F ht⟩) hS.2.2 d_Mo_planar_75
set_option maxRecDepth 100000 in
set_option maxHeartbeats 4000000 in
/-- planar, a fresh house -/
theorem lf_planar_6 {p : Program} {e : Env} {s : State} {m : MethodId} {below : List Frame} {meth : Method} {c : Code} (l : Launch) {b : Nat} {xs : Nat → Int32} (C0 : lw_At p s m meth c b 6 xs) {D : va_G} {kA : Nat → ClassId} (h : Nat) (h2 : Nat) (q : Nat → Nat) (qg : Nat → Nat) (qn : Nat → Nat) (qe : Nat → Nat) (qm : Nat → Nat) (g : Nat → Nat → Nat) (j : Nat) (hj : j < 4) (hv1 : xs 1 = nI j) (hv2 : xs 2 = 3) {H : Heap} {locs : List Loc} {ls : Array Slot} (hK : va_K D classes (TY kA) s) (hN : nst s) (hP : va_P D classes (cat [[(h, .inr (12, [.ref (q 0), .ref (q 1), .ref (q 2), .ref (q 3), .ref (q 4), .ref (q 5), .ref (q 6), .int 0, .int ((-1)), .ref (q 9), .ref (q 10), .int 0, .int 0, .ref (q 13), .int 0, .int 0, .null, .null, .null, .null, .null]))], [(q 2, .inl (kA 6, 4, .inr (.inr (.inr (.inr (rr (g 2)))))))], [(g 2 j, .inr (5, [.int ((-1)), .int ((-1)), .int ((-1)), .int 0, .ref (qn 4), .int 0, .int 0, .ref (qn 7), .ref (qn 8), .ref (qn 9), .ref (qn 10), .ref (qn 11), .ref (qn 12), .int 0, .ref (qn 14), .ref (qn 15), .ref (qn 16)]))], [(q 0, .inl (kA 4, 4, .inr (.inr (.inr (.inr (rr (g 0)))))))], [(g 0 j, .inr (3, [.int 0, .int 0, .int 1, .ref (qg 3), .ref (qg 4), .ref (qg 5), .ref (qg 6), .ref (qg 7), .ref (qg 8), .ref (qg 9), .ref (qg 10), .ref (qg 11), .ref (qg 12), .ref (qg 13), .ref (qg 14), .ref (qg 15), .null, .int 0, .int 0]))], [(qn 9, .inl (kA 0, 25, .inl (fun _ => 0)))], [(qn 10, .inl (kA 0, 625, .inl (fun _ => 0)))], [(qn 12, .inl (kA 0, 25, .inl (fun _ => 0)))], [(q 5, .inr (1, [.null, .ref (qe 1), .ref (qe 2), .ref (qe 3), .ref (qe 4), .int 0, .int 0, .int 0, .ref (qe 8), .ref (qe 9), .ref (qe 10), .ref (qe 11), .ref (qe 12), .ref (qe 13), .ref (qe 14), .int 0, .int 0, .int 0, .int 0, .ref (qe 19)]))], [(qn 16, .inl (kA 0, 144, .inl (fun _ => 0)))], [(qn 14, .inl (kA 0, 145, .inl (fun _ => 0)))], [(h2, .inr (13, mF qm x0Mo y0Mo))], [(qm 3, .inl (kA 0, 4, .inl (fun _ => 0)))], [(qm 2, .inl (kA 0, 66836, .inl all0))]]) H) (hD : va_D (fun q : Nat => s.heap.size ≤ q) (cat [[(h, .inr (12, [.ref (q 0), .ref (q 1), .ref (q 2), .ref (q 3), .ref (q 4), .ref (q 5), .ref (q 6), .int 0, .int ((-1)), .ref (q 9), .ref (q 10), .int 0, .int 0, .ref (q 13), .int 0, .int 0, .null, .null, .null, .null, .null]))], [(q 2, .inl (kA 6, 4, .inr (.inr (.inr (.inr (rr (g 2)))))))], [(g 2 j, .inr (5, [.int ((-1)), .int ((-1)), .int ((-1)), .int 0, .ref (qn 4), .int 0, .int 0, .ref (qn 7), .ref (qn 8), .ref (qn 9), .ref (qn 10), .ref (qn 11), .ref (qn 12), .int 0, .ref (qn 14), .ref (qn 15), .ref (qn 16)]))], [(q 0, .inl (kA 4, 4, .inr (.inr (.inr (.inr (rr (g 0)))))))], [(g 0 j, .inr (3, [.int 0, .int 0, .int 1, .ref (qg 3), .ref (qg 4), .ref (qg 5), .ref (qg 6), .ref (qg 7), .ref (qg 8), .ref (qg 9), .ref (qg 10), .ref (qg 11), .ref (qg 12), .ref (qg 13), .ref (qg 14), .ref (qg 15), .null, .int 0, .int 0]))], [(qn 9, .inl (kA 0, 25, .inl (fun _ => 0)))], [(qn 10, .inl (kA 0, 625, .inl (fun _ => 0)))], [(qn 12, .inl (kA 0, 25, .inl (fun _ => 0)))], [(q 5, .inr (1, [.null, .ref (qe 1), .ref (qe 2), .ref (qe 3), .ref (qe 4), .int 0, .int 0, .int 0, .ref (qe 8), .ref (qe 9), .ref (qe 10), .ref (qe 11), .ref (qe 12), .ref (qe 13), .ref (qe 14), .int 0, .int 0, .int 0, .int 0, .ref (qe 19)]))], [(qn 16, .inl (kA 0, 144, .inl (fun _ => 0)))], [(qn 14, .inl (kA 0, 145, .inl (fun _ => 0)))], [(h2, .inr (13, mF qm x0Mo y0Mo))], [(qm 3, .inl (kA 0, 4, .inl (fun _ => 0)))], [(qm 2, .inl (kA 0, 66836, .inl all0))]])) (hS : va_S (fun q : Nat => s.heap.size ≤ q) s.heap H locs) (hl : lv_has ls 4 [(3, .int 0), (2, .ref h2), (1, .ref h), (0, .ref b)]) : W p l e room_1 s m #[Value.ref b] below meth c H locs 368 365796 (lw_Z below #[Value.ref b] s) (F0 m 679 ls []) := by
  obtain ⟨hx, hb, hr, hml, hown, hts0, hX, hbl, hlocks, hgv⟩ := id C0
  have hts : ∀ w ∈ lw_g, w.before #[Value.ref b] s = true := fun w h => hts0 w (lw_gt h)
  have X : cx p s m #[Value.ref b] meth c b_law_law 4 ret "DrawingHouseLaw" meth.name := ⟨hx, hb, hml, hown, hts, hr, hlocks, rfl⟩
  obtain ⟨A, hAe⟩ : ∃ A : Nat → Prop, A = fun q : Nat => s.heap.size ≤ q := ⟨_, rfl⟩
  have hA : ∀ q : Nat, s.heap.size ≤ q → A q := fun q h => by rw [hAe]; exact h
  have hbA : ¬ A b := by rw [hAe]; exact Nat.not_le.mpr hbl
  rw [← hAe] at hD hS
  refine lv_aload_n (pc := 679) hx hb d_law_law_679 rfl (lv_at hl 2 rfl) ?_
  refine lv_aload_n (pc := 680) hx hb d_law_law_680 rfl (lv_at hl 3 rfl) ?_
  refine lv_iload_n (pc := 681) hx hb d_law_law_681 rfl (lv_at hl 0 rfl) ?_
  refine lv_iconst (pc := 682) (v := 1) hx hb d_law_law_682 (by decide) ?_
  refine lv_iadd (pc := 683) hx hb d_law_law_683 ?_
  refine k_cst (v := 1) (by decide) ?_
  refine va_sld (pc := 684) hx hb hX hbl hbA hS (by unfold vp_in; decide) d_law_law_684 ?_
  refine k_cst (v := nI j) hv1 ?_
  refine lv_aload_n (pc := 685) hx hb d_law_law_685 rfl (lv_at hl 3 rfl) ?_
  refine lv_iload_n (pc := 686) hx hb d_law_law_686 rfl (lv_at hl 0 rfl) ?_
  refine lv_iconst (pc := 687) (v := 2) hx hb d_law_law_687 (by decide) ?_
  refine lv_iadd (pc := 688) hx hb d_law_law_688 ?_
  refine k_cst (v := 2) (by decide) ?_
  refine va_sld (pc := 689) hx hb hX hbl hbA hS (by unfold vp_in; decide) d_law_law_689 ?_
  refine k_cst (v := 3) hv2 ?_
  refine k_goI (gr := [[(h2, .inr (13, mF qm x0Mo y0Mo))], [(qm 3, .inl (kA 0, 4, .inl (fun _ => 0)))], [(qm 2, .inl (kA 0, 66836, .inl all0))]]) (k_rV (pc := 690) (As := [.int (nI j), .int 3]) (rest := []) X (c_Ho_planar_z6 l D kA h j (q 0) (q 1) (q 2) (q 3) (q 4) (q 5) (q 6) (q 9) (q 10) (q 13) g (qn 4) (qn 7) (qn 8) (qn 9) (qn 10) (qn 11) (qn 12) (qn 14) (qn 15) (qn 16) (qg 3) (qg 4) (qg 5) (qg 6) (qg 7) (qg 8) (qg 9) (qg 10) (qg 11) (qg 12) (qg 13) (qg 14) (qg 15) (fun _ => 0) (fun _ => 0) (fun _ => 0) (qe 1) (qe 2) (qe 3) (qe 4) (qe 8) (qe 9) (qe 10) (qe 11) (qe 12) (qe 13) (qe 14) (qe 19) (fun _ => 0) (fun _ => 0) hj H.size) rfl wm_1048 wm_1 wm_1045 wm_1046 wm_1047 2 (by decide +kernel) ⟨Nat.le_of_ble_eq_true rfl, Nat.le_of_ble_eq_true rfl⟩ rfl rfl (va_recv hK hP (ci := 12) (q0 := 0) rfl rfl) (k_pre hN hK hP hD [0, 1, 2, 3, 4, 5, 6, 7, 8, 9, 10] [11, 12, 13] 14 rfl (by decide) rfl) rfl hl.1 rfl (Nat.le_of_ble_eq_true rfl) d_law_law_690 ⟨Nat.le_of_ble_eq_true rfl, Nat.le_of_ble_eq_true rfl⟩) hP hD hS hA [0, 1, 2, 3, 4, 5, 6, 7, 8, 9, 10] [11, 12, 13] 14 rfl (by decide) rfl rfl (fun r1 u2 H locs hu2 hP hD hS => ?_)
  obtain ⟨hP, hD⟩ := k_left hP hD
  subst hu2
  have hP : va_P D classes (cat [[(h2, .inr (13, mF qm x0Mo y0Mo))], [(qm 3, .inl (kA 0, 4, .inl (fun _ => 0)))], [(qm 2, .inl (kA 0, 66836, .inl all0))]]) H := hP
  have hD : va_D A (cat [[(h2, .inr (13, mF qm x0Mo y0Mo))], [(qm 3, .inl (kA 0, 4, .inl (fun _ => 0)))], [(qm 2, .inl (kA 0, 66836, .inl all0))]]) := hD
  refine lv_aload_n (pc := 693) hx hb d_law_law_693 rfl (lv_at hl 1 rfl) ?_
  refine lv_aload_n (pc := 694) hx hb d_law_law_694 rfl (lv_at hl 3 rfl) ?_
  refine lv_iload_n (pc := 695) hx hb d_law_law_695 rfl (lv_at hl 0 rfl) ?_
  refine lv_iconst (pc := 696) (v := 1) hx hb d_law_law_696 (by decide) ?_
  refine lv_iadd (pc := 697) hx hb d_law_law_697 ?_
  refine k_cst (v := 1) (by decide) ?_
  refine va_sld (pc := 698) hx hb hX hbl hbA hS (by unfold vp_in; decide) d_law_law_698 ?_
  refine k_cst (v := nI j) hv1 ?_
  refine lv_aload_n (pc := 699) hx hb d_law_law_699 rfl (lv_at hl 3 rfl) ?_
  refine lv_iload_n (pc := 700) hx hb d_law_law_700 rfl (lv_at hl 0 rfl) ?_
  refine lv_iconst (pc := 701) (v := 2) hx hb d_law_law_701 (by decide) ?_
  refine lv_iadd (pc := 702) hx hb d_law_law_702 ?_
  refine k_cst (v := 2) (by decide) ?_
  refine va_sld (pc := 703) hx hb hX hbl hbA hS (by unfold vp_in; decide) d_law_law_703 ?_
  refine k_cst (v := 3) hv2 ?_
  refine k_goI (gr := []) (k_rV (pc := 704) (As := [.int (nI j), .int 3]) (rest := [.int ((-1))]) X (c_Mo_planar_z6 l D kA h2 j qm hj H.size) rfl wm_3139 wm_9 wm_3136 wm_3137 wm_3138 2 (by decide +kernel) ⟨Nat.le_of_ble_eq_true rfl, Nat.le_of_ble_eq_true rfl⟩ rfl rfl (va_recv hK hP (ci := 13) (q0 := 0) rfl rfl) (k_pre hN hK hP hD [0, 1, 2] [] 3 rfl (by decide) rfl) rfl hl.1 rfl (Nat.le_of_ble_eq_true rfl) d_law_law_704 ⟨Nat.le_of_ble_eq_true rfl, Nat.le_of_ble_eq_true rfl⟩) hP hD hS hA [0, 1, 2] [] 3 rfl (by decide) rfl rfl (fun r3 u4 H locs hu4 hP hD hS => ?_)
  obtain ⟨hP, hD⟩ := k_left hP hD
  subst hu4
  have hP : va_P D classes (cat []) H := hP
  have hD : va_D A (cat []) := hD
  refine lv_icmp_eq (pc := 707) (tgt := 1295) hx hb d_law_law_707 (by decide) (fun _ => ?_) (fun c1 => absurd (by decide) c1)
  rw [hAe] at hS
  exact law_exit l C0 (Nat.le_of_ble_eq_true rfl) (Nat.le_of_ble_eq_true rfl) hS hl
set_option maxRecDepth 100000 in
set_option maxHeartbeats 4000000 in
/-- DrawingHouse.planar(II)I -/
theorem c_Ho_planar_z7 (l : Launch) (D : va_G) (kA : Nat → ClassId) (a0 : Nat) (j : Nat) (a1 : Nat) (a2 : Nat) (a3 : Nat) (a4 : Nat) (a5 : Nat) (a6 : Nat) (a7 : Nat) (a8 : Nat) (a9 : Nat) (a10 : Nat) (g : Nat → Nat → Nat) (a11 : Nat) (a12 : Nat) (a13 : Nat) (a14 : Nat) (a15 : Nat) (a16 : Nat) (a17 : Nat) (a18 : Nat) (a19 : Nat) (a20 : Nat) (a21 : Nat) (a22 : Nat) (a23 : Nat) (a24 : Nat) (a25 : Nat) (a26 : Nat) (a27 : Nat) (a28 : Nat) (a29 : Nat) (a30 : Nat) (a31 : Nat) (a32 : Nat) (a33 : Nat) (f0 : Nat → Int32) (f1 : Nat → Int32) (f2 : Nat → Int32) (a34 : Nat) (a35 : Nat) (a36 : Nat) (a37 : Nat) (a38 : Nat) (a39 : Nat) (a40 : Nat) (a41 : Nat) (a42 : Nat) (a43 : Nat) (a44 : Nat) (a45 : Nat) (f3 : Nat → Int32) (f4 : Nat → Int32) (hj : j < 4) : Ci l y_Ho_planar z_Ho_planar { frames := 4, cells := 0, slots := 0, locals := 95 } D classes (TY kA) [.ref a0, .int (nI j), .int 4] [[(a0, .inr (12, [.ref a1, .ref a2, .ref a3, .ref a4, .ref a5, .ref a6, .ref a7, .int 0, .int ((-1)), .ref a8, .ref a9, .int 0, .int 0, .ref a10, .int 0, .int 0, .null, .null, .null, .null, .null]))], [(a3, .inl (kA 6, 4, .inr (.inr (.inr (.inr (rr (g 2)))))))], [(g 2 j, .inr (5, [.int ((-1)), .int ((-1)), .int ((-1)), .int 0, .ref a11, .int 0, .int 0, .ref a12, .ref a13, .ref a14, .ref a15, .ref a16, .ref a17, .int 0, .ref a18, .ref a19, .ref a20]))], [(a1, .inl (kA 4, 4, .inr (.inr (.inr (.inr (rr (g 0)))))))], [(g 0 j, .inr (3, [.int 0, .int 0, .int 1, .ref a21, .ref a22, .ref a23, .ref a24, .ref a25, .ref a26, .ref a27, .ref a28, .ref a29, .ref a30, .ref a31, .ref a32, .ref a33, .null, .int 0, .int 0]))], [(a14, .inl (kA 0, 25, .inl f0))], [(a15, .inl (kA 0, 625, .inl f1))], [(a17, .inl (kA 0, 25, .inl f2))], [(a6, .inr (1, [.null, .ref a34, .ref a35, .ref a36, .ref a37, .int 0, .int 0, .int 0, .ref a38, .ref a39, .ref a40, .ref a41, .ref a42, .ref a43, .ref a44, .int 0, .int 0, .int 0, .int 0, .ref a45]))], [(a20, .inl (kA 0, 144, .inl f3))], [(a18, .inl (kA 0, 145, .inl f4))]] (fun r (_ : List va_W) => r = (-1)) (fun u => u) 0 0 := by
  intro sz
  refine k_met (cc := b_Ho_planar) (maxL := 4) (ret := (some .int)) (by decide) rfl (Nat.le_of_ble_eq_true rfl) (fun p e s m below meth c ls X hl hB => ?_)
  obtain ⟨hsz, hP, hK, hD0, hN⟩ := hB
  subst hsz
  have hD := hD0.self (sz := s.heap.size)
  generalize hAe : va_A (cat [[(a0, .inr (12, [.ref a1, .ref a2, .ref a3, .ref a4, .ref a5, .ref a6, .ref a7, .int 0, .int ((-1)), .ref a8, .ref a9, .int 0, .int 0, .ref a10, .int 0, .int 0, .null, .null, .null, .null, .null]))], [(a3, .inl (kA 6, 4, .inr (.inr (.inr (.inr (rr (g 2)))))))], [(g 2 j, .inr (5, [.int ((-1)), .int ((-1)), .int ((-1)), .int 0, .ref a11, .int 0, .int 0, .ref a12, .ref a13, .ref a14, .ref a15, .ref a16, .ref a17, .int 0, .ref a18, .ref a19, .ref a20]))], [(a1, .inl (kA 4, 4, .inr (.inr (.inr (.inr (rr (g 0)))))))], [(g 0 j, .inr (3, [.int 0, .int 0, .int 1, .ref a21, .ref a22, .ref a23, .ref a24, .ref a25, .ref a26, .ref a27, .ref a28, .ref a29, .ref a30, .ref a31, .ref a32, .ref a33, .null, .int 0, .int 0]))], [(a14, .inl (kA 0, 25, .inl f0))], [(a15, .inl (kA 0, 625, .inl f1))], [(a17, .inl (kA 0, 25, .inl f2))], [(a6, .inr (1, [.null, .ref a34, .ref a35, .ref a36, .ref a37, .int 0, .int 0, .int 0, .ref a38, .ref a39, .ref a40, .ref a41, .ref a42, .ref a43, .ref a44, .int 0, .int 0, .int 0, .int 0, .ref a45]))], [(a20, .inl (kA 0, 144, .inl f3))], [(a18, .inl (kA 0, 145, .inl f4))]]) s.heap.size = A at hD ⊢
  have hA : ∀ q : Nat, s.heap.size ≤ q → A q := fun q h => by rw [← hAe]; exact Or.inr h
  have hS : va_S A s.heap s.heap [] := va_S.rf
  obtain ⟨hx, hb, hml, hown, hts, hr, hlk, hnm⟩ := id X
  have hl : lv_has ls 4 [(0, .ref a0), (1, .int (nI j)), (2, .int 4)] := hl
  have hP : va_P D classes (cat [[(a0, .inr (12, [.ref a1, .ref a2, .ref a3, .ref a4, .ref a5, .ref a6, .ref a7, .int 0, .int ((-1)), .ref a8, .ref a9, .int 0, .int 0, .ref a10, .int 0, .int 0, .null, .null, .null, .null, .null]))], [(a3, .inl (kA 6, 4, .inr (.inr (.inr (.inr (rr (g 2)))))))], [(g 2 j, .inr (5, [.int ((-1)), .int ((-1)), .int ((-1)), .int 0, .ref a11, .int 0, .int 0, .ref a12, .ref a13, .ref a14, .ref a15, .ref a16, .ref a17, .int 0, .ref a18, .ref a19, .ref a20]))], [(a1, .inl (kA 4, 4, .inr (.inr (.inr (.inr (rr (g 0)))))))], [(g 0 j, .inr (3, [.int 0, .int 0, .int 1, .ref a21, .ref a22, .ref a23, .ref a24, .ref a25, .ref a26, .ref a27, .ref a28, .ref a29, .ref a30, .ref a31, .ref a32, .ref a33, .null, .int 0, .int 0]))], [(a14, .inl (kA 0, 25, .inl f0))], [(a15, .inl (kA 0, 625, .inl f1))], [(a17, .inl (kA 0, 25, .inl f2))], [(a6, .inr (1, [.null, .ref a34, .ref a35, .ref a36, .ref a37, .int 0, .int 0, .int 0, .ref a38, .ref a39, .ref a40, .ref a41, .ref a42, .ref a43, .ref a44, .int 0, .int 0, .int 0, .int 0, .ref a45]))], [(a20, .inl (kA 0, 144, .inl f3))], [(a18, .inl (kA 0, 145, .inl f4))]]) s.heap := hP
  have hK : va_K D classes (TY kA) s := hK
  refine lv_iload_n (pc := 0) hx hb d_Ho_planar_0 rfl (lv_at hl 1 rfl) ?_
  refine k_goI (gr := [[(a0, .inr (12, [.ref a1, .ref a2, .ref a3, .ref a4, .ref a5, .ref a6, .ref a7, .int 0, .int ((-1)), .ref a8, .ref a9, .int 0, .int 0, .ref a10, .int 0, .int 0, .null, .null, .null, .null, .null]))], [(a3, .inl (kA 6, 4, .inr (.inr (.inr (.inr (rr (g 2)))))))], [(g 2 j, .inr (5, [.int ((-1)), .int ((-1)), .int ((-1)), .int 0, .ref a11, .int 0, .int 0, .ref a12, .ref a13, .ref a14, .ref a15, .ref a16, .ref a17, .int 0, .ref a18, .ref a19, .ref a20]))], [(a1, .inl (kA 4, 4, .inr (.inr (.inr (.inr (rr (g 0)))))))], [(g 0 j, .inr (3, [.int 0, .int 0, .int 1, .ref a21, .ref a22, .ref a23, .ref a24, .ref a25, .ref a26, .ref a27, .ref a28, .ref a29, .ref a30, .ref a31, .ref a32, .ref a33, .null, .int 0, .int 0]))], [(a14, .inl (kA 0, 25, .inl f0))], [(a15, .inl (kA 0, 625, .inl f1))], [(a17, .inl (kA 0, 25, .inl f2))], [(a6, .inr (1, [.null, .ref a34, .ref a35, .ref a36, .ref a37, .int 0, .int 0, .int 0, .ref a38, .ref a39, .ref a40, .ref a41, .ref a42, .ref a43, .ref a44, .int 0, .int 0, .int 0, .int 0, .ref a45]))], [(a20, .inl (kA 0, 144, .inl f3))], [(a18, .inl (kA 0, 145, .inl f4))]]) (k_rS (pc := 1) (As := [.int (nI j)]) (rest := []) X (c_Ho_isPlace l D kA (nI j) s.heap.size) rfl wm_633 wm_1 wm_631 wm_632 1 (by decide +kernel) ⟨Nat.le_of_ble_eq_true rfl, Nat.le_of_ble_eq_true rfl⟩ rfl rfl (k_pre hN hK hP hD [] [0, 1, 2, 3, 4, 5, 6, 7, 8, 9, 10] 11 rfl (by decide) rfl) rfl hl.1 rfl (Nat.le_of_ble_eq_true rfl) d_Ho_planar_1 ⟨Nat.le_of_ble_eq_true rfl, Nat.le_of_ble_eq_true rfl⟩) hP hD hS hA [] [0, 1, 2, 3, 4, 5, 6, 7, 8, 9, 10] 11 rfl (by decide) rfl rfl (fun r1 u2 H locs hu2 hP hD hS => ?_)
  subst hu2
  refine k_cst (v := 1) (place_ok hj) ?_
  have hP : va_P D classes (cat [[(a0, .inr (12, [.ref a1, .ref a2, .ref a3, .ref a4, .ref a5, .ref a6, .ref a7, .int 0, .int ((-1)), .ref a8, .ref a9, .int 0, .int 0, .ref a10, .int 0, .int 0, .null, .null, .null, .null, .null]))], [(a3, .inl (kA 6, 4, .inr (.inr (.inr (.inr (rr (g 2)))))))], [(g 2 j, .inr (5, [.int ((-1)), .int ((-1)), .int ((-1)), .int 0, .ref a11, .int 0, .int 0, .ref a12, .ref a13, .ref a14, .ref a15, .ref a16, .ref a17, .int 0, .ref a18, .ref a19, .ref a20]))], [(a1, .inl (kA 4, 4, .inr (.inr (.inr (.inr (rr (g 0)))))))], [(g 0 j, .inr (3, [.int 0, .int 0, .int 1, .ref a21, .ref a22, .ref a23, .ref a24, .ref a25, .ref a26, .ref a27, .ref a28, .ref a29, .ref a30, .ref a31, .ref a32, .ref a33, .null, .int 0, .int 0]))], [(a14, .inl (kA 0, 25, .inl f0))], [(a15, .inl (kA 0, 625, .inl f1))], [(a17, .inl (kA 0, 25, .inl f2))], [(a6, .inr (1, [.null, .ref a34, .ref a35, .ref a36, .ref a37, .int 0, .int 0, .int 0, .ref a38, .ref a39, .ref a40, .ref a41, .ref a42, .ref a43, .ref a44, .int 0, .int 0, .int 0, .int 0, .ref a45]))], [(a20, .inl (kA 0, 144, .inl f3))], [(a18, .inl (kA 0, 145, .inl f4))]]) H := hP
  have hD : va_D A (cat [[(a0, .inr (12, [.ref a1, .ref a2, .ref a3, .ref a4, .ref a5, .ref a6, .ref a7, .int 0, .int ((-1)), .ref a8, .ref a9, .int 0, .int 0, .ref a10, .int 0, .int 0, .null, .null, .null, .null, .null]))], [(a3, .inl (kA 6, 4, .inr (.inr (.inr (.inr (rr (g 2)))))))], [(g 2 j, .inr (5, [.int ((-1)), .int ((-1)), .int ((-1)), .int 0, .ref a11, .int 0, .int 0, .ref a12, .ref a13, .ref a14, .ref a15, .ref a16, .ref a17, .int 0, .ref a18, .ref a19, .ref a20]))], [(a1, .inl (kA 4, 4, .inr (.inr (.inr (.inr (rr (g 0)))))))], [(g 0 j, .inr (3, [.int 0, .int 0, .int 1, .ref a21, .ref a22, .ref a23, .ref a24, .ref a25, .ref a26, .ref a27, .ref a28, .ref a29, .ref a30, .ref a31, .ref a32, .ref a33, .null, .int 0, .int 0]))], [(a14, .inl (kA 0, 25, .inl f0))], [(a15, .inl (kA 0, 625, .inl f1))], [(a17, .inl (kA 0, 25, .inl f2))], [(a6, .inr (1, [.null, .ref a34, .ref a35, .ref a36, .ref a37, .int 0, .int 0, .int 0, .ref a38, .ref a39, .ref a40, .ref a41, .ref a42, .ref a43, .ref a44, .int 0, .int 0, .int 0, .int 0, .ref a45]))], [(a20, .inl (kA 0, 144, .inl f3))], [(a18, .inl (kA 0, 145, .inl f4))]]) := hD
  refine lv_if_ne (pc := 4) (tgt := 9) hx hb d_Ho_planar_4 (by decide) (fun c1 => ?_) (fun c1 => absurd c1 (by decide))
  refine lv_aload_n (pc := 9) hx hb d_Ho_planar_9 rfl (lv_at hl 0 rfl) ?_
  refine lv_iload_n (pc := 10) hx hb d_Ho_planar_10 rfl (lv_at hl 1 rfl) ?_
  refine k_goR (gr := []) (k_rV (pc := 11) (As := [.int (nI j)]) (rest := []) X (c_Ho_embedded_z1 l D kA a0 j a1 a2 a3 a4 a5 a6 a7 a8 a9 a10 g a11 a12 a13 a14 a15 a16 a17 a18 a19 a20 a21 a22 a23 a24 a25 a26 a27 a28 a29 a30 a31 a32 a33 f0 f1 f2 a34 a35 a36 a37 a38 a39 a40 a41 a42 a43 a44 a45 f3 f4 hj H.size) rfl wm_1052 wm_1 wm_1049 wm_1051 wv_3_6 1 (by decide +kernel) ⟨Nat.le_of_ble_eq_true rfl, Nat.le_of_ble_eq_true rfl⟩ rfl rfl (va_recv hK hP (ci := 12) (q0 := 0) rfl rfl) (k_pre hN hK hP hD [0, 1, 2, 3, 4, 5, 6, 7, 8, 9, 10] [] 11 rfl (by decide) rfl) rfl hl.1 rfl (Nat.le_of_ble_eq_true rfl) d_Ho_planar_11 ⟨Nat.le_of_ble_eq_true rfl, Nat.le_of_ble_eq_true rfl⟩) hP hD hS hA [0, 1, 2, 3, 4, 5, 6, 7, 8, 9, 10] [] 11 rfl (by decide) rfl rfl (fun u4 H locs hu4 hP hD hS => ?_)
  have hP : va_P D classes (cat [[(a0, .inr (12, [.ref a1, .ref a2, .ref a3, .ref a4, .ref a5, .ref a6, .ref a7, .int 0, .int ((-1)), .ref a8, .ref a9, .int 0, .int 0, .ref a10, .int 0, .int 0, .null, .null, .null, .null, .null]))], [(a3, .inl (kA 6, 4, .inr (.inr (.inr (.inr (rr (g 2)))))))], [(g 2 j, .inr (5, [.int 1, .int ((-1)), .int ((-1)), .int 0, .ref a11, .int 0, .int 0, .ref a12, .ref a13, .ref a14, .ref a15, .ref a16, .ref a17, .int 0, .ref a18, .ref a19, .ref a20]))], [(a1, .inl (kA 4, 4, .inr (.inr (.inr (.inr (rr (g 0)))))))], [(g 0 j, .inr (3, [.int 0, .int 0, .int 1, .ref a21, .ref a22, .ref a23, .ref a24, .ref a25, .ref a26, .ref a27, .ref a28, .ref a29, .ref a30, .ref a31, .ref a32, .ref a33, .null, .int 0, .int 0]))], [(a14, .inl (kA 0, 25, .inl (fl f0 25 0)))], [(a15, .inl (kA 0, 625, .inl (fl f1 625 (-1))))], [(a17, .inl (kA 0, 25, .inl (fl f2 25 (-1))))], [(a6, .inr (1, [.ref (g 2 j), .ref a34, .ref a35, .ref a36, .ref a37, .int 0, .int 0, .int 0, .ref a38, .ref a39, .ref a40, .ref a41, .ref a42, .ref a43, .ref a44, .int 0, .int 0, .int 0, .int 0, .ref a45]))], [(a20, .inl (kA 0, 144, .inl (fl f3 144 (-1))))], [(a18, .inl (kA 0, 145, .inl (upd (f4) 0 0)))]]) H := hP
  have hD : va_D A (cat [[(a0, .inr (12, [.ref a1, .ref a2, .ref a3, .ref a4, .ref a5, .ref a6, .ref a7, .int 0, .int ((-1)), .ref a8, .ref a9, .int 0, .int 0, .ref a10, .int 0, .int 0, .null, .null, .null, .null, .null]))], [(a3, .inl (kA 6, 4, .inr (.inr (.inr (.inr (rr (g 2)))))))], [(g 2 j, .inr (5, [.int 1, .int ((-1)), .int ((-1)), .int 0, .ref a11, .int 0, .int 0, .ref a12, .ref a13, .ref a14, .ref a15, .ref a16, .ref a17, .int 0, .ref a18, .ref a19, .ref a20]))], [(a1, .inl (kA 4, 4, .inr (.inr (.inr (.inr (rr (g 0)))))))], [(g 0 j, .inr (3, [.int 0, .int 0, .int 1, .ref a21, .ref a22, .ref a23, .ref a24, .ref a25, .ref a26, .ref a27, .ref a28, .ref a29, .ref a30, .ref a31, .ref a32, .ref a33, .null, .int 0, .int 0]))], [(a14, .inl (kA 0, 25, .inl (fl f0 25 0)))], [(a15, .inl (kA 0, 625, .inl (fl f1 625 (-1))))], [(a17, .inl (kA 0, 25, .inl (fl f2 25 (-1))))], [(a6, .inr (1, [.ref (g 2 j), .ref a34, .ref a35, .ref a36, .ref a37, .int 0, .int 0, .int 0, .ref a38, .ref a39, .ref a40, .ref a41, .ref a42, .ref a43, .ref a44, .int 0, .int 0, .int 0, .int 0, .ref a45]))], [(a20, .inl (kA 0, 144, .inl (fl f3 144 (-1))))], [(a18, .inl (kA 0, 145, .inl (upd (f4) 0 0)))]]) := hD
  refine lv_astore_n (pc := 14) (lv' := [(3, .ref (g 2 j)), (0, .ref a0), (1, .int (nI j)), (2, .int 4)]) hx hb d_Ho_planar_14 rfl hl (by decide) rfl (fun ls hl => ?_)
  refine lv_iload_n (pc := 15) hx hb d_Ho_planar_15 rfl (lv_at hl 3 rfl) ?_
  refine lv_tableIn (pc := 16) (tgt := 106) hx hb d_Ho_planar_16 (by decide) (by decide) rfl (by decide) ?_
  refine lv_aload_n (pc := 106) hx hb d_Ho_planar_106 rfl (lv_at hl 0 rfl) ?_
  refine k_get (pc := 107) X hK hP 2 rfl rfl i_Ne 0 (by decide) wm_250 rfl rfl d_Ho_planar_107 ?_
  refine lv_iconst (pc := 110) (v := 1) hx hb d_Ho_planar_110 (by decide) ?_
  refine lv_icmp_ne (pc := 111) (tgt := 118) hx hb d_Ho_planar_111 (by decide) (fun c1 => absurd (by decide) c1) (fun _ => ?_)
  refine lv_iconst (pc := 114) (v := -1) hx hb d_Ho_planar_114 (by decide) ?_
  refine lv_goto (pc := 115) (tgt := 122) hx hb d_Ho_planar_115 (by decide) ?_
  refine W.widen (k := 0) (n := 0) (Nat.le_of_ble_eq_true rfl) (Nat.le_of_ble_eq_true rfl) ?_
  exact W.iret (v := (-1)) hx hb hr (fun t ht hW => ⟨⟨(-1), [[(a0, .inr (12, [.ref a1, .ref a2, .ref a3, .ref a4, .ref a5, .ref a6, .ref a7, .int 0, .int ((-1)), .ref a8, .ref a9, .int 0, .int 0, .ref a10, .int 0, .int 0, .null, .null, .null, .null, .null]))], [(a3, .inl (kA 6, 4, .inr (.inr (.inr (.inr (rr (g 2)))))))], [(g 2 j, .inr (5, [.int 1, .int ((-1)), .int ((-1)), .int 0, .ref a11, .int 0, .int 0, .ref a12, .ref a13, .ref a14, .ref a15, .ref a16, .ref a17, .int 0, .ref a18, .ref a19, .ref a20]))], [(a1, .inl (kA 4, 4, .inr (.inr (.inr (.inr (rr (g 0)))))))], [(g 0 j, .inr (3, [.int 0, .int 0, .int 1, .ref a21, .ref a22, .ref a23, .ref a24, .ref a25, .ref a26, .ref a27, .ref a28, .ref a29, .ref a30, .ref a31, .ref a32, .ref a33, .null, .int 0, .int 0]))], [(a14, .inl (kA 0, 25, .inl (fl f0 25 0)))], [(a15, .inl (kA 0, 625, .inl (fl f1 625 (-1))))], [(a17, .inl (kA 0, 25, .inl (fl f2 25 (-1))))], [(a6, .inr (1, [.ref (g 2 j), .ref a34, .ref a35, .ref a36, .ref a37, .int 0, .int 0, .int 0, .ref a38, .ref a39, .ref a40, .ref a41, .ref a42, .ref a43, .ref a44, .int 0, .int 0, .int 0, .int 0, .ref a45]))], [(a20, .inl (kA 0, 144, .inl (fl f3 144 (-1))))], [(a18, .inl (kA 0, 145, .inl (upd (f4) 0 0)))]], rfl, rfl, by rw [ht]; exact hP, va_K.moved hW.alike hK, hD⟩, hS.F ht⟩) hS.2.2 d_Ho_planar_122
set_option maxRecDepth 100000 in
set_option maxHeartbeats 4000000 in
/-- DrawingHouseModel.in(III)Z -/
theorem c_Mo_in_z25 (l : Launch) (D : va_G) (kA : Nat → ClassId) : Ci l y_Mo_in z_Mo_in { frames := 0, cells := 0, slots := 0, locals := 0 } D classes (TY kA) [.int 4, .int 0, .int 4] [] (fun r (_ : Unit) => r = 1) (fun u => []) 0 0 := by
  intro sz
  refine k_met (cc := b_Mo_in) (maxL := 3) (ret := (some .boolean)) (by decide) rfl (Nat.le_of_ble_eq_true rfl) (fun p e s m below meth c ls X hl hB => ?_)
  obtain ⟨hsz, hP, hK, hD0, hN⟩ := hB
  subst hsz
  have hD := hD0.self (sz := s.heap.size)
  generalize hAe : va_A (cat []) s.heap.size = A at hD ⊢
  have hA : ∀ q : Nat, s.heap.size ≤ q → A q := fun q h => by rw [← hAe]; exact Or.inr h
  have hS : va_S A s.heap s.heap [] := va_S.rf
  obtain ⟨hx, hb, hml, hown, hts, hr, hlk, hnm⟩ := id X
  have hl : lv_has ls 3 [(0, .int 4), (1, .int 0), (2, .int 4)] := hl
  have hP : va_P D classes (cat []) s.heap := hP
  have hK : va_K D classes (TY kA) s := hK
  refine lv_iload_n (pc := 0) hx hb d_Mo_in_0 rfl (lv_at hl 0 rfl) ?_
  refine lv_iload_n (pc := 1) hx hb d_Mo_in_1 rfl (lv_at hl 1 rfl) ?_
  refine lv_icmp_lt (pc := 2) (tgt := 14) hx hb d_Mo_in_2 (by decide) (fun c1 => absurd c1 (by decide)) (fun _ => ?_)
  refine lv_iload_n (pc := 5) hx hb d_Mo_in_5 rfl (lv_at hl 0 rfl) ?_
  refine lv_iload_n (pc := 6) hx hb d_Mo_in_6 rfl (lv_at hl 2 rfl) ?_
  refine lv_icmp_gt (pc := 7) (tgt := 14) hx hb d_Mo_in_7 (by decide) (fun c1 => absurd c1 (by decide)) (fun _ => ?_)
  refine lv_iconst (pc := 10) (v := 1) hx hb d_Mo_in_10 (by decide) ?_
  refine lv_goto (pc := 11) (tgt := 15) hx hb d_Mo_in_11 (by decide) ?_
  refine W.widen (k := 0) (n := 0) (Nat.le_of_ble_eq_true rfl) (Nat.le_of_ble_eq_true rfl) ?_
  exact W.zret (v := 1) hx hb hr rfl (fun t ht hW => ⟨⟨1, (), rfl, rfl, by rw [ht]; exact hP, va_K.moved hW.alike hK, hD⟩, hS.F ht⟩) hS.2.2 d_Mo_in_15
set_option maxRecDepth 100000 in
set_option maxHeartbeats 4000000 in
/-- DrawingHouseModel.planar(II)I -/
theorem c_Mo_planar_z7 (l : Launch) (D : va_G) (kA : Nat → ClassId) (a0 : Nat) (j : Nat) (qm : Nat → Nat) (hj : j < 4) : Ci l y_Mo_planar z_Mo_planar { frames := 3, cells := 0, slots := 0, locals := 66 } D classes (TY kA) [.ref a0, .int (nI j), .int 4] [[(a0, .inr (13, mF qm x0Mo y0Mo))], [(qm 3, .inl (kA 0, 4, .inl (fun _ => 0)))], [(qm 2, .inl (kA 0, 66836, .inl all0))]] (fun r (_ : List va_W) => r = (-1)) (fun u => u) 0 0 := by
  intro sz
  refine k_met (cc := b_Mo_planar) (maxL := 4) (ret := (some .int)) (by decide) rfl (Nat.le_of_ble_eq_true rfl) (fun p e s m below meth c ls X hl hB => ?_)
  obtain ⟨hsz, hP, hK, hD0, hN⟩ := hB
  subst hsz
  have hD := hD0.self (sz := s.heap.size)
  generalize hAe : va_A (cat [[(a0, .inr (13, mF qm x0Mo y0Mo))], [(qm 3, .inl (kA 0, 4, .inl (fun _ => 0)))], [(qm 2, .inl (kA 0, 66836, .inl all0))]]) s.heap.size = A at hD ⊢
  have hA : ∀ q : Nat, s.heap.size ≤ q → A q := fun q h => by rw [← hAe]; exact Or.inr h
  have hS : va_S A s.heap s.heap [] := va_S.rf
  obtain ⟨hx, hb, hml, hown, hts, hr, hlk, hnm⟩ := id X
  have hl : lv_has ls 4 [(0, .ref a0), (1, .int (nI j)), (2, .int 4)] := hl
  have hP : va_P D classes (cat [[(a0, .inr (13, mF qm x0Mo y0Mo))], [(qm 3, .inl (kA 0, 4, .inl (fun _ => 0)))], [(qm 2, .inl (kA 0, 66836, .inl all0))]]) s.heap := hP
  have hK : va_K D classes (TY kA) s := hK
  refine lv_iload_n (pc := 0) hx hb d_Mo_planar_0 rfl (lv_at hl 1 rfl) ?_
  refine k_goI (gr := [[(a0, .inr (13, mF qm x0Mo y0Mo))], [(qm 3, .inl (kA 0, 4, .inl (fun _ => 0)))], [(qm 2, .inl (kA 0, 66836, .inl all0))]]) (k_rS (pc := 1) (As := [.int (nI j)]) (rest := []) X (c_Mo_isPlace l D kA (nI j) s.heap.size) rfl wm_2978 wm_9 wm_2976 wm_2977 1 (by decide +kernel) ⟨Nat.le_of_ble_eq_true rfl, Nat.le_of_ble_eq_true rfl⟩ rfl rfl (k_pre hN hK hP hD [] [0, 1, 2] 3 rfl (by decide) rfl) rfl hl.1 rfl (Nat.le_of_ble_eq_true rfl) d_Mo_planar_1 ⟨Nat.le_of_ble_eq_true rfl, Nat.le_of_ble_eq_true rfl⟩) hP hD hS hA [] [0, 1, 2] 3 rfl (by decide) rfl rfl (fun r1 u2 H locs hu2 hP hD hS => ?_)
  subst hu2
  refine k_cst (v := 1) (placeM_ok hj) ?_
  have hP : va_P D classes (cat [[(a0, .inr (13, mF qm x0Mo y0Mo))], [(qm 3, .inl (kA 0, 4, .inl (fun _ => 0)))], [(qm 2, .inl (kA 0, 66836, .inl all0))]]) H := hP
  have hD : va_D A (cat [[(a0, .inr (13, mF qm x0Mo y0Mo))], [(qm 3, .inl (kA 0, 4, .inl (fun _ => 0)))], [(qm 2, .inl (kA 0, 66836, .inl all0))]]) := hD
  refine lv_if_eq (pc := 4) (tgt := 16) hx hb d_Mo_planar_4 (by decide) (fun c1 => absurd c1 (by decide)) (fun c1 => ?_)
  refine lv_iload_n (pc := 7) hx hb d_Mo_planar_7 rfl (lv_at hl 2 rfl) ?_
  refine lv_iconst (pc := 8) (v := 0) hx hb d_Mo_planar_8 (by decide) ?_
  refine lv_iconst (pc := 9) (v := 4) hx hb d_Mo_planar_9 (by decide) ?_
  refine k_goI (gr := [[(a0, .inr (13, mF qm x0Mo y0Mo))], [(qm 3, .inl (kA 0, 4, .inl (fun _ => 0)))], [(qm 2, .inl (kA 0, 66836, .inl all0))]]) (k_rS (pc := 10) (As := [.int 4, .int 0, .int 4]) (rest := []) X (c_Mo_in_z25 l D kA  H.size) rfl wm_2971 wm_9 wm_2969 wm_2970 3 (by decide +kernel) ⟨Nat.le_of_ble_eq_true rfl, Nat.le_of_ble_eq_true rfl⟩ rfl rfl (k_pre hN hK hP hD [] [0, 1, 2] 3 rfl (by decide) rfl) rfl hl.1 rfl (Nat.le_of_ble_eq_true rfl) d_Mo_planar_10 ⟨Nat.le_of_ble_eq_true rfl, Nat.le_of_ble_eq_true rfl⟩) hP hD hS hA [] [0, 1, 2] 3 rfl (by decide) rfl rfl (fun r3 u4 H locs hu4 hP hD hS => ?_)
  subst hu4
  have hP : va_P D classes (cat [[(a0, .inr (13, mF qm x0Mo y0Mo))], [(qm 3, .inl (kA 0, 4, .inl (fun _ => 0)))], [(qm 2, .inl (kA 0, 66836, .inl all0))]]) H := hP
  have hD : va_D A (cat [[(a0, .inr (13, mF qm x0Mo y0Mo))], [(qm 3, .inl (kA 0, 4, .inl (fun _ => 0)))], [(qm 2, .inl (kA 0, 66836, .inl all0))]]) := hD
  refine lv_if_ne (pc := 13) (tgt := 18) hx hb d_Mo_planar_13 (by decide) (fun c1 => ?_) (fun c1 => absurd c1 (by decide))
  refine lv_aload_n (pc := 18) hx hb d_Mo_planar_18 rfl (lv_at hl 0 rfl) ?_
  refine lv_iload_n (pc := 19) hx hb d_Mo_planar_19 rfl (lv_at hl 1 rfl) ?_
  refine k_goV (gr := [[(qm 2, .inl (kA 0, 66836, .inl all0))]]) (k_rV (pc := 20) (As := [.int (nI j)]) (rest := []) X (c_Mo_take_z1 l D kA a0 j qm hj H.size) rfl wm_3091 wm_9 wm_3088 wm_3090 wv_14_2 1 (by decide +kernel) ⟨Nat.le_of_ble_eq_true rfl, Nat.le_of_ble_eq_true rfl⟩ rfl rfl (va_recv hK hP (ci := 13) (q0 := 0) rfl rfl) (k_pre hN hK hP hD [0, 1] [2] 3 rfl (by decide) rfl) rfl hl.1 rfl (Nat.le_of_ble_eq_true rfl) d_Mo_planar_20 ⟨Nat.le_of_ble_eq_true rfl, Nat.le_of_ble_eq_true rfl⟩) hP hD hS hA [0, 1] [2] 3 rfl (by decide) rfl rfl (fun u5 H locs hu5 hP hD hS => ?_)
  have hP : va_P D classes (cat [[(qm 2, .inl (kA 0, 66836, .inl all0))], [(a0, .inr (13, mF qm (va_up x0Mo 5 (nI (539 * (31 * j + 0)))) y0Mo))], [(qm 3, .inl (kA 0, 4, .inl (fun _ => 0)))]]) H := hP
  have hD : va_D A (cat [[(qm 2, .inl (kA 0, 66836, .inl all0))], [(a0, .inr (13, mF qm (va_up x0Mo 5 (nI (539 * (31 * j + 0)))) y0Mo))], [(qm 3, .inl (kA 0, 4, .inl (fun _ => 0)))]]) := hD
  refine lv_iload_n (pc := 23) hx hb d_Mo_planar_23 rfl (lv_at hl 2 rfl) ?_
  refine lv_iconst (pc := 24) (v := 1) hx hb d_Mo_planar_24 (by decide) ?_
  refine lv_icmp_ne (pc := 25) (tgt := 41) hx hb d_Mo_planar_25 (by decide) (fun _ => ?_) (fun c1 => absurd c1 (by decide))
  refine lv_aload_n (pc := 41) hx hb d_Mo_planar_41 rfl (lv_at hl 0 rfl) ?_
  refine k_goI (gr := [[(qm 3, .inl (kA 0, 4, .inl (fun _ => 0)))]]) (k_rV (pc := 42) (As := []) (rest := []) X (c_Mo_isPlanar_z1 l D kA a0 qm j hj H.size) rfl wm_3251 wm_9 wm_3248 wm_3250 wv_16_5 0 (by decide +kernel) ⟨Nat.le_of_ble_eq_true rfl, Nat.le_of_ble_eq_true rfl⟩ rfl rfl (va_recv hK hP (ci := 13) (q0 := 1) rfl rfl) (k_pre hN hK hP hD [1, 0] [2] 3 rfl (by decide) rfl) rfl hl.1 rfl (Nat.le_of_ble_eq_true rfl) d_Mo_planar_42 ⟨Nat.le_of_ble_eq_true rfl, Nat.le_of_ble_eq_true rfl⟩) hP hD hS hA [1, 0] [2] 3 rfl (by decide) rfl rfl (fun r6 u7 H locs hu7 hP hD hS => ?_)
  subst hu7
  have hP : va_P D classes (cat [[(qm 3, .inl (kA 0, 4, .inl (fun _ => 0)))], [(a0, .inr (13, mF qm (va_up (va_up x0Mo 5 (nI (539 * (31 * j + 0)))) 49 (-1)) y0Mo))], [(qm 2, .inl (kA 0, 66836, .inl all0))]]) H := hP
  have hD : va_D A (cat [[(qm 3, .inl (kA 0, 4, .inl (fun _ => 0)))], [(a0, .inr (13, mF qm (va_up (va_up x0Mo 5 (nI (539 * (31 * j + 0)))) 49 (-1)) y0Mo))], [(qm 2, .inl (kA 0, 66836, .inl all0))]]) := hD
  refine lv_istore_n (pc := 45) (lv' := [(3, .int 1), (0, .ref a0), (1, .int (nI j)), (2, .int 4)]) hx hb d_Mo_planar_45 rfl hl (by decide) rfl (fun ls hl => ?_)
  refine lv_iload_n (pc := 46) hx hb d_Mo_planar_46 rfl (lv_at hl 3 rfl) ?_
  refine lv_if_ne (pc := 47) (tgt := 60) hx hb d_Mo_planar_47 (by decide) (fun c1 => ?_) (fun c1 => absurd c1 (by decide))
  refine lv_iload_n (pc := 60) hx hb d_Mo_planar_60 rfl (lv_at hl 3 rfl) ?_
  refine lv_iconst (pc := 61) (v := 2) hx hb d_Mo_planar_61 (by decide) ?_
  refine lv_icmp_ne (pc := 62) (tgt := 69) hx hb d_Mo_planar_62 (by decide) (fun _ => ?_) (fun c1 => absurd c1 (by decide))
  refine lv_iconst (pc := 69) (v := 0) hx hb d_Mo_planar_69 (by decide) ?_
  refine lv_iload_n (pc := 70) hx hb d_Mo_planar_70 rfl (lv_at hl 0 rfl) ?_
  refine lv_icmp_eq (pc := 71) (tgt := 76) hx hb d_Mo_planar_71 (by decide) (fun c1 => absurd c1 (by decide)) (fun _ => ?_)
  refine lv_iconst (pc := 74) (v := -1) hx hb d_Mo_planar_74 (by decide) ?_
  refine W.widen (k := 0) (n := 0) (Nat.le_of_ble_eq_true rfl) (Nat.le_of_ble_eq_true rfl) ?_
  exact W.iret (v := (-1)) hx hb hr (fun t ht hW => ⟨⟨(-1), [[(qm 3, .inl (kA 0, 4, .inl (fun _ => 0)))], [(a0, .inr (13, mF qm (va_up (va_up x0Mo 5 (nI (539 * (31 * j + 0)))) 49 (-1)) y0Mo))], [(qm 2, .inl (kA 0, 66836, .inl all0))]], rfl, rfl, by rw [ht]; exact hP, va_K.moved hW.alike hK, hD⟩, hS.F ht⟩) hS.2.2 d_Mo_planar_75
set_option maxRecDepth 100000 in
set_option maxHeartbeats 4000000 in
/-- planar, a fresh house -/
theorem lf_planar_7 {p : Program} {e : Env} {s : State} {m : MethodId} {below : List Frame} {meth : Method} {c : Code} (l : Launch) {b : Nat} {xs : Nat → Int32} (C0 : lw_At p s m meth c b 6 xs) {D : va_G} {kA : Nat → ClassId} (h : Nat) (h2 : Nat) (q : Nat → Nat) (qg : Nat → Nat) (qn : Nat → Nat) (qe : Nat → Nat) (qm : Nat → Nat) (g : Nat → Nat → Nat) (j : Nat) (hj : j < 4) (hv1 : xs 1 = nI j) (hv2 : xs 2 = 4) {H : Heap} {locs : List Loc} {ls : Array Slot} (hK : va_K D classes (TY kA) s) (hN : nst s) (hP : va_P D classes (cat [[(h, .inr (12, [.ref (q 0), .ref (q 1), .ref (q 2), .ref (q 3), .ref (q 4), .ref (q 5), .ref (q 6), .int 0, .int ((-1)), .ref (q 9), .ref (q 10), .int 0, .int 0, .ref (q 13), .int 0, .int 0, .null, .null, .null, .null, .null]))], [(q 2, .inl (kA 6, 4, .inr (.inr (.inr (.inr (rr (g 2)))))))], [(g 2 j, .inr (5, [.int ((-1)), .int ((-1)), .int ((-1)), .int 0, .ref (qn 4), .int 0, .int 0, .ref (qn 7), .ref (qn 8), .ref (qn 9), .ref (qn 10), .ref (qn 11), .ref (qn 12), .int 0, .ref (qn 14), .ref (qn 15), .ref (qn 16)]))], [(q 0, .inl (kA 4, 4, .inr (.inr (.inr (.inr (rr (g 0)))))))], [(g 0 j, .inr (3, [.int 0, .int 0, .int 1, .ref (qg 3), .ref (qg 4), .ref (qg 5), .ref (qg 6), .ref (qg 7), .ref (qg 8), .ref (qg 9), .ref (qg 10), .ref (qg 11), .ref (qg 12), .ref (qg 13), .ref (qg 14), .ref (qg 15), .null, .int 0, .int 0]))], [(qn 9, .inl (kA 0, 25, .inl (fun _ => 0)))], [(qn 10, .inl (kA 0, 625, .inl (fun _ => 0)))], [(qn 12, .inl (kA 0, 25, .inl (fun _ => 0)))], [(q 5, .inr (1, [.null, .ref (qe 1), .ref (qe 2), .ref (qe 3), .ref (qe 4), .int 0, .int 0, .int 0, .ref (qe 8), .ref (qe 9), .ref (qe 10), .ref (qe 11), .ref (qe 12), .ref (qe 13), .ref (qe 14), .int 0, .int 0, .int 0, .int 0, .ref (qe 19)]))], [(qn 16, .inl (kA 0, 144, .inl (fun _ => 0)))], [(qn 14, .inl (kA 0, 145, .inl (fun _ => 0)))], [(h2, .inr (13, mF qm x0Mo y0Mo))], [(qm 3, .inl (kA 0, 4, .inl (fun _ => 0)))], [(qm 2, .inl (kA 0, 66836, .inl all0))]]) H) (hD : va_D (fun q : Nat => s.heap.size ≤ q) (cat [[(h, .inr (12, [.ref (q 0), .ref (q 1), .ref (q 2), .ref (q 3), .ref (q 4), .ref (q 5), .ref (q 6), .int 0, .int ((-1)), .ref (q 9), .ref (q 10), .int 0, .int 0, .ref (q 13), .int 0, .int 0, .null, .null, .null, .null, .null]))], [(q 2, .inl (kA 6, 4, .inr (.inr (.inr (.inr (rr (g 2)))))))], [(g 2 j, .inr (5, [.int ((-1)), .int ((-1)), .int ((-1)), .int 0, .ref (qn 4), .int 0, .int 0, .ref (qn 7), .ref (qn 8), .ref (qn 9), .ref (qn 10), .ref (qn 11), .ref (qn 12), .int 0, .ref (qn 14), .ref (qn 15), .ref (qn 16)]))], [(q 0, .inl (kA 4, 4, .inr (.inr (.inr (.inr (rr (g 0)))))))], [(g 0 j, .inr (3, [.int 0, .int 0, .int 1, .ref (qg 3), .ref (qg 4), .ref (qg 5), .ref (qg 6), .ref (qg 7), .ref (qg 8), .ref (qg 9), .ref (qg 10), .ref (qg 11), .ref (qg 12), .ref (qg 13), .ref (qg 14), .ref (qg 15), .null, .int 0, .int 0]))], [(qn 9, .inl (kA 0, 25, .inl (fun _ => 0)))], [(qn 10, .inl (kA 0, 625, .inl (fun _ => 0)))], [(qn 12, .inl (kA 0, 25, .inl (fun _ => 0)))], [(q 5, .inr (1, [.null, .ref (qe 1), .ref (qe 2), .ref (qe 3), .ref (qe 4), .int 0, .int 0, .int 0, .ref (qe 8), .ref (qe 9), .ref (qe 10), .ref (qe 11), .ref (qe 12), .ref (qe 13), .ref (qe 14), .int 0, .int 0, .int 0, .int 0, .ref (qe 19)]))], [(qn 16, .inl (kA 0, 144, .inl (fun _ => 0)))], [(qn 14, .inl (kA 0, 145, .inl (fun _ => 0)))], [(h2, .inr (13, mF qm x0Mo y0Mo))], [(qm 3, .inl (kA 0, 4, .inl (fun _ => 0)))], [(qm 2, .inl (kA 0, 66836, .inl all0))]])) (hS : va_S (fun q : Nat => s.heap.size ≤ q) s.heap H locs) (hl : lv_has ls 4 [(3, .int 0), (2, .ref h2), (1, .ref h), (0, .ref b)]) : W p l e room_1 s m #[Value.ref b] below meth c H locs 368 365796 (lw_Z below #[Value.ref b] s) (F0 m 679 ls []) := by
  obtain ⟨hx, hb, hr, hml, hown, hts0, hX, hbl, hlocks, hgv⟩ := id C0
  have hts : ∀ w ∈ lw_g, w.before #[Value.ref b] s = true := fun w h => hts0 w (lw_gt h)
  have X : cx p s m #[Value.ref b] meth c b_law_law 4 ret "DrawingHouseLaw" meth.name := ⟨hx, hb, hml, hown, hts, hr, hlocks, rfl⟩
  obtain ⟨A, hAe⟩ : ∃ A : Nat → Prop, A = fun q : Nat => s.heap.size ≤ q := ⟨_, rfl⟩
  have hA : ∀ q : Nat, s.heap.size ≤ q → A q := fun q h => by rw [hAe]; exact h
  have hbA : ¬ A b := by rw [hAe]; exact Nat.not_le.mpr hbl
  rw [← hAe] at hD hS
  refine lv_aload_n (pc := 679) hx hb d_law_law_679 rfl (lv_at hl 2 rfl) ?_
  refine lv_aload_n (pc := 680) hx hb d_law_law_680 rfl (lv_at hl 3 rfl) ?_
  refine lv_iload_n (pc := 681) hx hb d_law_law_681 rfl (lv_at hl 0 rfl) ?_
  refine lv_iconst (pc := 682) (v := 1) hx hb d_law_law_682 (by decide) ?_
  refine lv_iadd (pc := 683) hx hb d_law_law_683 ?_
  refine k_cst (v := 1) (by decide) ?_
  refine va_sld (pc := 684) hx hb hX hbl hbA hS (by unfold vp_in; decide) d_law_law_684 ?_
  refine k_cst (v := nI j) hv1 ?_
  refine lv_aload_n (pc := 685) hx hb d_law_law_685 rfl (lv_at hl 3 rfl) ?_
  refine lv_iload_n (pc := 686) hx hb d_law_law_686 rfl (lv_at hl 0 rfl) ?_
  refine lv_iconst (pc := 687) (v := 2) hx hb d_law_law_687 (by decide) ?_
  refine lv_iadd (pc := 688) hx hb d_law_law_688 ?_
  refine k_cst (v := 2) (by decide) ?_
  refine va_sld (pc := 689) hx hb hX hbl hbA hS (by unfold vp_in; decide) d_law_law_689 ?_
  refine k_cst (v := 4) hv2 ?_
  refine k_goI (gr := [[(h2, .inr (13, mF qm x0Mo y0Mo))], [(qm 3, .inl (kA 0, 4, .inl (fun _ => 0)))], [(qm 2, .inl (kA 0, 66836, .inl all0))]]) (k_rV (pc := 690) (As := [.int (nI j), .int 4]) (rest := []) X (c_Ho_planar_z7 l D kA h j (q 0) (q 1) (q 2) (q 3) (q 4) (q 5) (q 6) (q 9) (q 10) (q 13) g (qn 4) (qn 7) (qn 8) (qn 9) (qn 10) (qn 11) (qn 12) (qn 14) (qn 15) (qn 16) (qg 3) (qg 4) (qg 5) (qg 6) (qg 7) (qg 8) (qg 9) (qg 10) (qg 11) (qg 12) (qg 13) (qg 14) (qg 15) (fun _ => 0) (fun _ => 0) (fun _ => 0) (qe 1) (qe 2) (qe 3) (qe 4) (qe 8) (qe 9) (qe 10) (qe 11) (qe 12) (qe 13) (qe 14) (qe 19) (fun _ => 0) (fun _ => 0) hj H.size) rfl wm_1048 wm_1 wm_1045 wm_1046 wm_1047 2 (by decide +kernel) ⟨Nat.le_of_ble_eq_true rfl, Nat.le_of_ble_eq_true rfl⟩ rfl rfl (va_recv hK hP (ci := 12) (q0 := 0) rfl rfl) (k_pre hN hK hP hD [0, 1, 2, 3, 4, 5, 6, 7, 8, 9, 10] [11, 12, 13] 14 rfl (by decide) rfl) rfl hl.1 rfl (Nat.le_of_ble_eq_true rfl) d_law_law_690 ⟨Nat.le_of_ble_eq_true rfl, Nat.le_of_ble_eq_true rfl⟩) hP hD hS hA [0, 1, 2, 3, 4, 5, 6, 7, 8, 9, 10] [11, 12, 13] 14 rfl (by decide) rfl rfl (fun r1 u2 H locs hu2 hP hD hS => ?_)
  obtain ⟨hP, hD⟩ := k_left hP hD
  subst hu2
  have hP : va_P D classes (cat [[(h2, .inr (13, mF qm x0Mo y0Mo))], [(qm 3, .inl (kA 0, 4, .inl (fun _ => 0)))], [(qm 2, .inl (kA 0, 66836, .inl all0))]]) H := hP
  have hD : va_D A (cat [[(h2, .inr (13, mF qm x0Mo y0Mo))], [(qm 3, .inl (kA 0, 4, .inl (fun _ => 0)))], [(qm 2, .inl (kA 0, 66836, .inl all0))]]) := hD
  refine lv_aload_n (pc := 693) hx hb d_law_law_693 rfl (lv_at hl 1 rfl) ?_
  refine lv_aload_n (pc := 694) hx hb d_law_law_694 rfl (lv_at hl 3 rfl) ?_
  refine lv_iload_n (pc := 695) hx hb d_law_law_695 rfl (lv_at hl 0 rfl) ?_
  refine lv_iconst (pc := 696) (v := 1) hx hb d_law_law_696 (by decide) ?_
  refine lv_iadd (pc := 697) hx hb d_law_law_697 ?_
  refine k_cst (v := 1) (by decide) ?_
  refine va_sld (pc := 698) hx hb hX hbl hbA hS (by unfold vp_in; decide) d_law_law_698 ?_
  refine k_cst (v := nI j) hv1 ?_
  refine lv_aload_n (pc := 699) hx hb d_law_law_699 rfl (lv_at hl 3 rfl) ?_
  refine lv_iload_n (pc := 700) hx hb d_law_law_700 rfl (lv_at hl 0 rfl) ?_
  refine lv_iconst (pc := 701) (v := 2) hx hb d_law_law_701 (by decide) ?_
  refine lv_iadd (pc := 702) hx hb d_law_law_702 ?_
  refine k_cst (v := 2) (by decide) ?_
  refine va_sld (pc := 703) hx hb hX hbl hbA hS (by unfold vp_in; decide) d_law_law_703 ?_
  refine k_cst (v := 4) hv2 ?_
  refine k_goI (gr := []) (k_rV (pc := 704) (As := [.int (nI j), .int 4]) (rest := [.int ((-1))]) X (c_Mo_planar_z7 l D kA h2 j qm hj H.size) rfl wm_3139 wm_9 wm_3136 wm_3137 wm_3138 2 (by decide +kernel) ⟨Nat.le_of_ble_eq_true rfl, Nat.le_of_ble_eq_true rfl⟩ rfl rfl (va_recv hK hP (ci := 13) (q0 := 0) rfl rfl) (k_pre hN hK hP hD [0, 1, 2] [] 3 rfl (by decide) rfl) rfl hl.1 rfl (Nat.le_of_ble_eq_true rfl) d_law_law_704 ⟨Nat.le_of_ble_eq_true rfl, Nat.le_of_ble_eq_true rfl⟩) hP hD hS hA [0, 1, 2] [] 3 rfl (by decide) rfl rfl (fun r3 u4 H locs hu4 hP hD hS => ?_)
  obtain ⟨hP, hD⟩ := k_left hP hD
  subst hu4
  have hP : va_P D classes (cat []) H := hP
  have hD : va_D A (cat []) := hD
  refine lv_icmp_eq (pc := 707) (tgt := 1295) hx hb d_law_law_707 (by decide) (fun _ => ?_) (fun c1 => absurd (by decide) c1)
  rw [hAe] at hS
  exact law_exit l C0 (Nat.le_of_ble_eq_true rfl) (Nat.le_of_ble_eq_true rfl) hS hl
set_option maxRecDepth 100000 in
set_option maxHeartbeats 8000000 in
/-- planar: the case of the law -/
theorem op_planar {p : Program} {e : Env} {s : State} {m : MethodId} {below : List Frame} {meth : Method} {c : Code} (l : Launch) {b : Nat} {xs : Nat → Int32} (C0 : lw_At p s m meth c b 6 xs) {D : va_G} {kA : Nat → ClassId} (h h2 : Nat) (u1 : Nat → Nat → Nat) (qm : Nat → Nat) (v1 : Int32) (v2 : Int32) (hv1 : xs 1 = v1) (hv2 : xs 2 = v2) {H : Heap} {locs : List Loc} {ls : Array Slot} (hK : va_K D classes (TY kA) s) (hN : nst s) (hpost : u1 50 1 = u1 0 4 ∧ u1 50 3 = u1 0 5 ∧ u1 50 2 = u1 1 4 ∧ u1 50 4 = u1 3 1 ∧ u1 8 0 = u1 50 5 ∧ u1 12 0 = u1 50 9 ∧ u1 16 0 = u1 50 13 ∧ u1 20 0 = u1 50 17) (hP : va_P D classes (cat [cat (sHo kA h u1), cat (sMo kA h2 qm)]) H) (hD : va_D (fun q : Nat => s.heap.size ≤ q) (cat [cat (sHo kA h u1), cat (sMo kA h2 qm)])) (hS : va_S (fun q : Nat => s.heap.size ≤ q) s.heap H locs) (hl : lv_has ls 4 [(3, .int 0), (2, .ref h2), (1, .ref h), (0, .ref b)]) : W p l e room_1 s m #[Value.ref b] below meth c H locs 368 365796 (lw_Z below #[Value.ref b] s) (F0 m 679 ls []) := by
  rcases place_no v1 with hg | ⟨j, hj, ej⟩
  · have hgM : sp_Mo_isPlace v1 = 0 := by rw [← place_iff]; exact hg
    obtain ⟨q, qg, qf, qn, qd, qr, qs, qe, qp, g, hP, hD⟩ := big (j := 0) (by decide) hpost hP hD
    obtain ⟨hP, hD⟩ := k_drop (sg := bH kA h q qg qf qn qd qr qs qe qp g 0 ++ bM kA h2 qm) (gc := [[(h, .inr (12, [.ref (q 0), .ref (q 1), .ref (q 2), .ref (q 3), .ref (q 4), .ref (q 5), .ref (q 6), .int 0, .int ((-1)), .ref (q 9), .ref (q 10), .int 0, .int 0, .ref (q 13), .int 0, .int 0, .null, .null, .null, .null, .null]))], [(h2, .inr (13, mF qm x0Mo y0Mo))]]) hP hD [1, 2, 3, 4, 5, 6, 7, 8, 9, 10, 11, 12, 13, 14, 15, 16, 17, 18, 19, 20, 21, 22, 23, 24, 25, 26, 27, 28, 29, 30, 31, 32, 33, 34, 35, 36, 37, 38, 39, 40, 41, 42, 43, 44, 45, 46, 47, 48, 49, 50, 51, 52, 53, 54, 55, 56, 57, 58, 59, 60, 61, 62, 63, 64, 65, 66, 67, 68, 69, 70, 71, 72, 73, 74, 75, 76, 77, 78, 79, 80, 81, 82, 83, 84, 85, 86, 87, 88, 89, 90, 91, 92, 93, 94, 95, 96, 97, 98, 100, 101, 102, 103, 104, 105, 106, 107, 108, 109, 110, 111, 112, 113, 114, 115, 116, 117, 118, 119, 120, 121, 122, 123, 124, 125, 126, 127, 128, 129, 130, 131, 132, 133, 134, 135, 136, 137, 138, 139, 140, 141, 142, 143, 144, 145, 146, 147, 148, 149, 150, 151, 152, 153, 154, 155, 156, 157, 158, 159, 160, 161, 162, 163, 164, 165, 166, 167, 168, 169, 170, 171, 172, 173, 174, 175, 176, 177, 178, 179, 180, 181, 182, 183, 184, 185, 186, 187, 188, 189, 190, 191, 192, 193, 194, 195, 196, 197, 198, 199, 200, 201, 202, 203, 204, 205, 206, 207, 208, 209, 210, 211, 212, 213, 214, 215, 216, 217] [0, 99] 218 rfl (by decide +kernel) rfl
    exact lf_planar_1 l C0 h h2 q qm v1 v2 hg hgM hv1 hv2 hK hN hP hD hS hl
  · subst ej
    rcases k_tsw v2 5 (by decide) with hs2 | ⟨jw, hjw, ew⟩
    · obtain ⟨q, qg, qf, qn, qd, qr, qs, qe, qp, g, hP, hD⟩ := big (j := j) hj hpost hP hD
      obtain ⟨hP, hD⟩ := k_drop (sg := bH kA h q qg qf qn qd qr qs qe qp g j ++ bM kA h2 qm) (gc := [[(h, .inr (12, [.ref (q 0), .ref (q 1), .ref (q 2), .ref (q 3), .ref (q 4), .ref (q 5), .ref (q 6), .int 0, .int ((-1)), .ref (q 9), .ref (q 10), .int 0, .int 0, .ref (q 13), .int 0, .int 0, .null, .null, .null, .null, .null]))], [(q 2, .inl (kA 6, 4, .inr (.inr (.inr (.inr (rr (g 2)))))))], [(g 2 j, .inr (5, [.int ((-1)), .int ((-1)), .int ((-1)), .int 0, .ref (qn 4), .int 0, .int 0, .ref (qn 7), .ref (qn 8), .ref (qn 9), .ref (qn 10), .ref (qn 11), .ref (qn 12), .int 0, .ref (qn 14), .ref (qn 15), .ref (qn 16)]))], [(q 0, .inl (kA 4, 4, .inr (.inr (.inr (.inr (rr (g 0)))))))], [(g 0 j, .inr (3, [.int 0, .int 0, .int 1, .ref (qg 3), .ref (qg 4), .ref (qg 5), .ref (qg 6), .ref (qg 7), .ref (qg 8), .ref (qg 9), .ref (qg 10), .ref (qg 11), .ref (qg 12), .ref (qg 13), .ref (qg 14), .ref (qg 15), .null, .int 0, .int 0]))], [(qn 9, .inl (kA 0, 25, .inl (fun _ => 0)))], [(qn 10, .inl (kA 0, 625, .inl (fun _ => 0)))], [(qn 12, .inl (kA 0, 25, .inl (fun _ => 0)))], [(q 5, .inr (1, [.null, .ref (qe 1), .ref (qe 2), .ref (qe 3), .ref (qe 4), .int 0, .int 0, .int 0, .ref (qe 8), .ref (qe 9), .ref (qe 10), .ref (qe 11), .ref (qe 12), .ref (qe 13), .ref (qe 14), .int 0, .int 0, .int 0, .int 0, .ref (qe 19)]))], [(qn 16, .inl (kA 0, 144, .inl (fun _ => 0)))], [(qn 14, .inl (kA 0, 145, .inl (fun _ => 0)))], [(h2, .inr (13, mF qm x0Mo y0Mo))], [(qm 3, .inl (kA 0, 4, .inl (fun _ => 0)))], [(qm 2, .inl (kA 0, 66836, .inl all0))]]) hP hD [2, 4, 5, 6, 7, 8, 10, 11, 12, 13, 14, 15, 16, 17, 18, 19, 20, 21, 22, 23, 24, 25, 26, 27, 28, 29, 30, 31, 32, 33, 34, 36, 37, 38, 41, 44, 46, 47, 48, 49, 50, 51, 52, 53, 54, 55, 56, 57, 58, 59, 60, 61, 62, 63, 64, 65, 66, 67, 68, 69, 70, 71, 72, 73, 74, 75, 77, 78, 79, 80, 81, 82, 83, 84, 85, 86, 87, 88, 89, 90, 91, 92, 93, 94, 95, 96, 97, 98, 101, 102, 103, 104, 105, 107, 108, 109, 110, 111, 112, 113, 114, 115, 116, 117, 118, 119, 120, 121, 122, 123, 124, 125, 126, 127, 128, 129, 130, 131, 132, 133, 134, 135, 136, 137, 138, 139, 140, 141, 142, 143, 144, 145, 146, 147, 148, 149, 150, 151, 152, 153, 154, 155, 156, 157, 158, 159, 160, 161, 162, 163, 164, 165, 166, 167, 168, 169, 170, 171, 172, 173, 174, 175, 176, 177, 178, 179, 180, 181, 182, 183, 184, 185, 186, 187, 188, 189, 190, 191, 192, 193, 194, 195, 196, 197, 198, 199, 200, 201, 202, 203, 204, 205, 206, 207, 208, 209, 210, 211, 212, 213, 214, 215, 216, 217] [0, 3, 35, 1, 9, 39, 40, 42, 76, 45, 43, 99, 106, 100] 218 rfl (by decide +kernel) rfl
      exact lf_planar_2 l C0 h h2 q qg qn qe qm g j v2 hj hs2 hv1 hv2 hK hN hP hD hS hl
    · match jw, hjw, ew with
      | 0, _, ew =>
        subst ew
        obtain ⟨q, qg, qf, qn, qd, qr, qs, qe, qp, g, hP, hD⟩ := big (j := j) hj hpost hP hD
        obtain ⟨hP, hD⟩ := k_drop (sg := bH kA h q qg qf qn qd qr qs qe qp g j ++ bM kA h2 qm) (gc := [[(h, .inr (12, [.ref (q 0), .ref (q 1), .ref (q 2), .ref (q 3), .ref (q 4), .ref (q 5), .ref (q 6), .int 0, .int ((-1)), .ref (q 9), .ref (q 10), .int 0, .int 0, .ref (q 13), .int 0, .int 0, .null, .null, .null, .null, .null]))], [(q 2, .inl (kA 6, 4, .inr (.inr (.inr (.inr (rr (g 2)))))))], [(g 2 j, .inr (5, [.int ((-1)), .int ((-1)), .int ((-1)), .int 0, .ref (qn 4), .int 0, .int 0, .ref (qn 7), .ref (qn 8), .ref (qn 9), .ref (qn 10), .ref (qn 11), .ref (qn 12), .int 0, .ref (qn 14), .ref (qn 15), .ref (qn 16)]))], [(q 0, .inl (kA 4, 4, .inr (.inr (.inr (.inr (rr (g 0)))))))], [(g 0 j, .inr (3, [.int 0, .int 0, .int 1, .ref (qg 3), .ref (qg 4), .ref (qg 5), .ref (qg 6), .ref (qg 7), .ref (qg 8), .ref (qg 9), .ref (qg 10), .ref (qg 11), .ref (qg 12), .ref (qg 13), .ref (qg 14), .ref (qg 15), .null, .int 0, .int 0]))], [(qn 9, .inl (kA 0, 25, .inl (fun _ => 0)))], [(qn 10, .inl (kA 0, 625, .inl (fun _ => 0)))], [(qn 12, .inl (kA 0, 25, .inl (fun _ => 0)))], [(q 5, .inr (1, [.null, .ref (qe 1), .ref (qe 2), .ref (qe 3), .ref (qe 4), .int 0, .int 0, .int 0, .ref (qe 8), .ref (qe 9), .ref (qe 10), .ref (qe 11), .ref (qe 12), .ref (qe 13), .ref (qe 14), .int 0, .int 0, .int 0, .int 0, .ref (qe 19)]))], [(qn 16, .inl (kA 0, 144, .inl (fun _ => 0)))], [(qn 14, .inl (kA 0, 145, .inl (fun _ => 0)))], [(h2, .inr (13, mF qm x0Mo y0Mo))], [(qm 3, .inl (kA 0, 4, .inl (fun _ => 0)))], [(qm 2, .inl (kA 0, 66836, .inl all0))]]) hP hD [2, 4, 5, 6, 7, 8, 10, 11, 12, 13, 14, 15, 16, 17, 18, 19, 20, 21, 22, 23, 24, 25, 26, 27, 28, 29, 30, 31, 32, 33, 34, 36, 37, 38, 41, 44, 46, 47, 48, 49, 50, 51, 52, 53, 54, 55, 56, 57, 58, 59, 60, 61, 62, 63, 64, 65, 66, 67, 68, 69, 70, 71, 72, 73, 74, 75, 77, 78, 79, 80, 81, 82, 83, 84, 85, 86, 87, 88, 89, 90, 91, 92, 93, 94, 95, 96, 97, 98, 101, 102, 103, 104, 105, 107, 108, 109, 110, 111, 112, 113, 114, 115, 116, 117, 118, 119, 120, 121, 122, 123, 124, 125, 126, 127, 128, 129, 130, 131, 132, 133, 134, 135, 136, 137, 138, 139, 140, 141, 142, 143, 144, 145, 146, 147, 148, 149, 150, 151, 152, 153, 154, 155, 156, 157, 158, 159, 160, 161, 162, 163, 164, 165, 166, 167, 168, 169, 170, 171, 172, 173, 174, 175, 176, 177, 178, 179, 180, 181, 182, 183, 184, 185, 186, 187, 188, 189, 190, 191, 192, 193, 194, 195, 196, 197, 198, 199, 200, 201, 202, 203, 204, 205, 206, 207, 208, 209, 210, 211, 212, 213, 214, 215, 216, 217] [0, 3, 35, 1, 9, 39, 40, 42, 76, 45, 43, 99, 106, 100] 218 rfl (by decide +kernel) rfl
        exact lf_planar_3 l C0 h h2 q qg qn qe qm g j hj hv1 hv2 hK hN hP hD hS hl
      | 1, _, ew =>
        subst ew
        obtain ⟨q, qg, qf, qn, qd, qr, qs, qe, qp, g, hP, hD⟩ := big (j := j) hj hpost hP hD
        obtain ⟨hP, hD⟩ := k_drop (sg := bH kA h q qg qf qn qd qr qs qe qp g j ++ bM kA h2 qm) (gc := [[(h, .inr (12, [.ref (q 0), .ref (q 1), .ref (q 2), .ref (q 3), .ref (q 4), .ref (q 5), .ref (q 6), .int 0, .int ((-1)), .ref (q 9), .ref (q 10), .int 0, .int 0, .ref (q 13), .int 0, .int 0, .null, .null, .null, .null, .null]))], [(q 2, .inl (kA 6, 4, .inr (.inr (.inr (.inr (rr (g 2)))))))], [(g 2 j, .inr (5, [.int ((-1)), .int ((-1)), .int ((-1)), .int 0, .ref (qn 4), .int 0, .int 0, .ref (qn 7), .ref (qn 8), .ref (qn 9), .ref (qn 10), .ref (qn 11), .ref (qn 12), .int 0, .ref (qn 14), .ref (qn 15), .ref (qn 16)]))], [(q 0, .inl (kA 4, 4, .inr (.inr (.inr (.inr (rr (g 0)))))))], [(g 0 j, .inr (3, [.int 0, .int 0, .int 1, .ref (qg 3), .ref (qg 4), .ref (qg 5), .ref (qg 6), .ref (qg 7), .ref (qg 8), .ref (qg 9), .ref (qg 10), .ref (qg 11), .ref (qg 12), .ref (qg 13), .ref (qg 14), .ref (qg 15), .null, .int 0, .int 0]))], [(qn 9, .inl (kA 0, 25, .inl (fun _ => 0)))], [(qn 10, .inl (kA 0, 625, .inl (fun _ => 0)))], [(qn 12, .inl (kA 0, 25, .inl (fun _ => 0)))], [(q 5, .inr (1, [.null, .ref (qe 1), .ref (qe 2), .ref (qe 3), .ref (qe 4), .int 0, .int 0, .int 0, .ref (qe 8), .ref (qe 9), .ref (qe 10), .ref (qe 11), .ref (qe 12), .ref (qe 13), .ref (qe 14), .int 0, .int 0, .int 0, .int 0, .ref (qe 19)]))], [(qn 16, .inl (kA 0, 144, .inl (fun _ => 0)))], [(qn 14, .inl (kA 0, 145, .inl (fun _ => 0)))], [(qe 1, .inr (5, [.int ((-1)), .int ((-1)), .int ((-1)), .int 0, .ref (qp 4), .int 0, .int 0, .ref (qp 7), .ref (qp 8), .ref (qp 9), .ref (qp 10), .ref (qp 11), .ref (qp 12), .int 0, .ref (qp 14), .ref (qp 15), .ref (qp 16)]))], [(qp 9, .inl (kA 0, 25, .inl (fun _ => 0)))], [(qp 10, .inl (kA 0, 625, .inl (fun _ => 0)))], [(qp 12, .inl (kA 0, 25, .inl (fun _ => 0)))], [(qp 16, .inl (kA 0, 144, .inl (fun _ => 0)))], [(qp 14, .inl (kA 0, 145, .inl (fun _ => 0)))], [(h2, .inr (13, mF qm x0Mo y0Mo))], [(qm 3, .inl (kA 0, 4, .inl (fun _ => 0)))], [(qm 2, .inl (kA 0, 66836, .inl all0))], [(qm 36, .inl (kA 0, 26, .inl (fun _ => 0)))]]) hP hD [2, 4, 5, 6, 7, 8, 10, 11, 12, 13, 14, 15, 16, 17, 18, 19, 20, 21, 22, 23, 24, 25, 26, 27, 28, 29, 30, 31, 32, 33, 34, 36, 37, 38, 41, 44, 46, 47, 48, 49, 50, 51, 52, 53, 54, 55, 56, 57, 58, 59, 60, 61, 62, 63, 64, 65, 66, 67, 68, 69, 70, 71, 72, 73, 74, 75, 77, 78, 79, 80, 81, 82, 83, 84, 85, 86, 87, 89, 90, 91, 94, 97, 101, 102, 103, 104, 105, 107, 108, 109, 110, 111, 112, 113, 114, 115, 116, 117, 118, 119, 120, 122, 123, 124, 125, 126, 127, 128, 129, 130, 131, 132, 133, 134, 135, 136, 137, 138, 139, 140, 141, 142, 143, 144, 145, 146, 147, 148, 149, 150, 151, 152, 153, 154, 155, 156, 157, 158, 159, 160, 161, 162, 163, 164, 165, 166, 167, 168, 169, 170, 171, 172, 173, 174, 175, 176, 177, 178, 179, 180, 181, 182, 183, 184, 185, 186, 187, 188, 189, 190, 191, 192, 193, 194, 195, 196, 197, 198, 199, 200, 201, 202, 203, 204, 205, 206, 207, 208, 209, 210, 211, 212, 213, 214, 215, 216, 217] [0, 3, 35, 1, 9, 39, 40, 42, 76, 45, 43, 88, 92, 93, 95, 98, 96, 99, 106, 100, 121] 218 rfl (by decide +kernel) rfl
        exact lf_planar_4 l C0 h h2 q qg qn qe qp qm g j hj hv1 hv2 hK hN hP hD hS hl
      | 2, _, ew =>
        subst ew
        obtain ⟨q, qg, qf, qn, qd, qr, qs, qe, qp, g, hP, hD⟩ := big (j := j) hj hpost hP hD
        obtain ⟨hP, hD⟩ := k_drop (sg := bH kA h q qg qf qn qd qr qs qe qp g j ++ bM kA h2 qm) (gc := [[(h, .inr (12, [.ref (q 0), .ref (q 1), .ref (q 2), .ref (q 3), .ref (q 4), .ref (q 5), .ref (q 6), .int 0, .int ((-1)), .ref (q 9), .ref (q 10), .int 0, .int 0, .ref (q 13), .int 0, .int 0, .null, .null, .null, .null, .null]))], [(q 2, .inl (kA 6, 4, .inr (.inr (.inr (.inr (rr (g 2)))))))], [(g 2 j, .inr (5, [.int ((-1)), .int ((-1)), .int ((-1)), .int 0, .ref (qn 4), .int 0, .int 0, .ref (qn 7), .ref (qn 8), .ref (qn 9), .ref (qn 10), .ref (qn 11), .ref (qn 12), .int 0, .ref (qn 14), .ref (qn 15), .ref (qn 16)]))], [(q 0, .inl (kA 4, 4, .inr (.inr (.inr (.inr (rr (g 0)))))))], [(g 0 j, .inr (3, [.int 0, .int 0, .int 1, .ref (qg 3), .ref (qg 4), .ref (qg 5), .ref (qg 6), .ref (qg 7), .ref (qg 8), .ref (qg 9), .ref (qg 10), .ref (qg 11), .ref (qg 12), .ref (qg 13), .ref (qg 14), .ref (qg 15), .null, .int 0, .int 0]))], [(qn 9, .inl (kA 0, 25, .inl (fun _ => 0)))], [(qn 10, .inl (kA 0, 625, .inl (fun _ => 0)))], [(qn 12, .inl (kA 0, 25, .inl (fun _ => 0)))], [(q 5, .inr (1, [.null, .ref (qe 1), .ref (qe 2), .ref (qe 3), .ref (qe 4), .int 0, .int 0, .int 0, .ref (qe 8), .ref (qe 9), .ref (qe 10), .ref (qe 11), .ref (qe 12), .ref (qe 13), .ref (qe 14), .int 0, .int 0, .int 0, .int 0, .ref (qe 19)]))], [(qn 16, .inl (kA 0, 144, .inl (fun _ => 0)))], [(qn 14, .inl (kA 0, 145, .inl (fun _ => 0)))], [(h2, .inr (13, mF qm x0Mo y0Mo))], [(qm 3, .inl (kA 0, 4, .inl (fun _ => 0)))], [(qm 2, .inl (kA 0, 66836, .inl all0))], [(qm 56, .inl (kA 0, 161, .inl (fun _ => 0)))]]) hP hD [2, 4, 5, 6, 7, 8, 10, 11, 12, 13, 14, 15, 16, 17, 18, 19, 20, 21, 22, 23, 24, 25, 26, 27, 28, 29, 30, 31, 32, 33, 34, 36, 37, 38, 41, 44, 46, 47, 48, 49, 50, 51, 52, 53, 54, 55, 56, 57, 58, 59, 60, 61, 62, 63, 64, 65, 66, 67, 68, 69, 70, 71, 72, 73, 74, 75, 77, 78, 79, 80, 81, 82, 83, 84, 85, 86, 87, 88, 89, 90, 91, 92, 93, 94, 95, 96, 97, 98, 101, 102, 103, 104, 105, 107, 108, 109, 110, 111, 112, 113, 114, 115, 116, 117, 118, 119, 120, 121, 122, 123, 124, 125, 126, 127, 128, 129, 130, 131, 132, 133, 134, 135, 137, 138, 139, 140, 141, 142, 143, 144, 145, 146, 147, 148, 149, 150, 151, 152, 153, 154, 155, 156, 157, 158, 159, 160, 161, 162, 163, 164, 165, 166, 167, 168, 169, 170, 171, 172, 173, 174, 175, 176, 177, 178, 179, 180, 181, 182, 183, 184, 185, 186, 187, 188, 189, 190, 191, 192, 193, 194, 195, 196, 197, 198, 199, 200, 201, 202, 203, 204, 205, 206, 207, 208, 209, 210, 211, 212, 213, 214, 215, 216, 217] [0, 3, 35, 1, 9, 39, 40, 42, 76, 45, 43, 99, 106, 100, 136] 218 rfl (by decide +kernel) rfl
        exact lf_planar_5 l C0 h h2 q qg qn qe qm g j hj hv1 hv2 hK hN hP hD hS hl
      | 3, _, ew =>
        subst ew
        obtain ⟨q, qg, qf, qn, qd, qr, qs, qe, qp, g, hP, hD⟩ := big (j := j) hj hpost hP hD
        obtain ⟨hP, hD⟩ := k_drop (sg := bH kA h q qg qf qn qd qr qs qe qp g j ++ bM kA h2 qm) (gc := [[(h, .inr (12, [.ref (q 0), .ref (q 1), .ref (q 2), .ref (q 3), .ref (q 4), .ref (q 5), .ref (q 6), .int 0, .int ((-1)), .ref (q 9), .ref (q 10), .int 0, .int 0, .ref (q 13), .int 0, .int 0, .null, .null, .null, .null, .null]))], [(q 2, .inl (kA 6, 4, .inr (.inr (.inr (.inr (rr (g 2)))))))], [(g 2 j, .inr (5, [.int ((-1)), .int ((-1)), .int ((-1)), .int 0, .ref (qn 4), .int 0, .int 0, .ref (qn 7), .ref (qn 8), .ref (qn 9), .ref (qn 10), .ref (qn 11), .ref (qn 12), .int 0, .ref (qn 14), .ref (qn 15), .ref (qn 16)]))], [(q 0, .inl (kA 4, 4, .inr (.inr (.inr (.inr (rr (g 0)))))))], [(g 0 j, .inr (3, [.int 0, .int 0, .int 1, .ref (qg 3), .ref (qg 4), .ref (qg 5), .ref (qg 6), .ref (qg 7), .ref (qg 8), .ref (qg 9), .ref (qg 10), .ref (qg 11), .ref (qg 12), .ref (qg 13), .ref (qg 14), .ref (qg 15), .null, .int 0, .int 0]))], [(qn 9, .inl (kA 0, 25, .inl (fun _ => 0)))], [(qn 10, .inl (kA 0, 625, .inl (fun _ => 0)))], [(qn 12, .inl (kA 0, 25, .inl (fun _ => 0)))], [(q 5, .inr (1, [.null, .ref (qe 1), .ref (qe 2), .ref (qe 3), .ref (qe 4), .int 0, .int 0, .int 0, .ref (qe 8), .ref (qe 9), .ref (qe 10), .ref (qe 11), .ref (qe 12), .ref (qe 13), .ref (qe 14), .int 0, .int 0, .int 0, .int 0, .ref (qe 19)]))], [(qn 16, .inl (kA 0, 144, .inl (fun _ => 0)))], [(qn 14, .inl (kA 0, 145, .inl (fun _ => 0)))], [(h2, .inr (13, mF qm x0Mo y0Mo))], [(qm 3, .inl (kA 0, 4, .inl (fun _ => 0)))], [(qm 2, .inl (kA 0, 66836, .inl all0))]]) hP hD [2, 4, 5, 6, 7, 8, 10, 11, 12, 13, 14, 15, 16, 17, 18, 19, 20, 21, 22, 23, 24, 25, 26, 27, 28, 29, 30, 31, 32, 33, 34, 36, 37, 38, 41, 44, 46, 47, 48, 49, 50, 51, 52, 53, 54, 55, 56, 57, 58, 59, 60, 61, 62, 63, 64, 65, 66, 67, 68, 69, 70, 71, 72, 73, 74, 75, 77, 78, 79, 80, 81, 82, 83, 84, 85, 86, 87, 88, 89, 90, 91, 92, 93, 94, 95, 96, 97, 98, 101, 102, 103, 104, 105, 107, 108, 109, 110, 111, 112, 113, 114, 115, 116, 117, 118, 119, 120, 121, 122, 123, 124, 125, 126, 127, 128, 129, 130, 131, 132, 133, 134, 135, 136, 137, 138, 139, 140, 141, 142, 143, 144, 145, 146, 147, 148, 149, 150, 151, 152, 153, 154, 155, 156, 157, 158, 159, 160, 161, 162, 163, 164, 165, 166, 167, 168, 169, 170, 171, 172, 173, 174, 175, 176, 177, 178, 179, 180, 181, 182, 183, 184, 185, 186, 187, 188, 189, 190, 191, 192, 193, 194, 195, 196, 197, 198, 199, 200, 201, 202, 203, 204, 205, 206, 207, 208, 209, 210, 211, 212, 213, 214, 215, 216, 217] [0, 3, 35, 1, 9, 39, 40, 42, 76, 45, 43, 99, 106, 100] 218 rfl (by decide +kernel) rfl
        exact lf_planar_6 l C0 h h2 q qg qn qe qm g j hj hv1 hv2 hK hN hP hD hS hl
      | 4, _, ew =>
        subst ew
        obtain ⟨q, qg, qf, qn, qd, qr, qs, qe, qp, g, hP, hD⟩ := big (j := j) hj hpost hP hD
        obtain ⟨hP, hD⟩ := k_drop (sg := bH kA h q qg qf qn qd qr qs qe qp g j ++ bM kA h2 qm) (gc := [[(h, .inr (12, [.ref (q 0), .ref (q 1), .ref (q 2), .ref (q 3), .ref (q 4), .ref (q 5), .ref (q 6), .int 0, .int ((-1)), .ref (q 9), .ref (q 10), .int 0, .int 0, .ref (q 13), .int 0, .int 0, .null, .null, .null, .null, .null]))], [(q 2, .inl (kA 6, 4, .inr (.inr (.inr (.inr (rr (g 2)))))))], [(g 2 j, .inr (5, [.int ((-1)), .int ((-1)), .int ((-1)), .int 0, .ref (qn 4), .int 0, .int 0, .ref (qn 7), .ref (qn 8), .ref (qn 9), .ref (qn 10), .ref (qn 11), .ref (qn 12), .int 0, .ref (qn 14), .ref (qn 15), .ref (qn 16)]))], [(q 0, .inl (kA 4, 4, .inr (.inr (.inr (.inr (rr (g 0)))))))], [(g 0 j, .inr (3, [.int 0, .int 0, .int 1, .ref (qg 3), .ref (qg 4), .ref (qg 5), .ref (qg 6), .ref (qg 7), .ref (qg 8), .ref (qg 9), .ref (qg 10), .ref (qg 11), .ref (qg 12), .ref (qg 13), .ref (qg 14), .ref (qg 15), .null, .int 0, .int 0]))], [(qn 9, .inl (kA 0, 25, .inl (fun _ => 0)))], [(qn 10, .inl (kA 0, 625, .inl (fun _ => 0)))], [(qn 12, .inl (kA 0, 25, .inl (fun _ => 0)))], [(q 5, .inr (1, [.null, .ref (qe 1), .ref (qe 2), .ref (qe 3), .ref (qe 4), .int 0, .int 0, .int 0, .ref (qe 8), .ref (qe 9), .ref (qe 10), .ref (qe 11), .ref (qe 12), .ref (qe 13), .ref (qe 14), .int 0, .int 0, .int 0, .int 0, .ref (qe 19)]))], [(qn 16, .inl (kA 0, 144, .inl (fun _ => 0)))], [(qn 14, .inl (kA 0, 145, .inl (fun _ => 0)))], [(h2, .inr (13, mF qm x0Mo y0Mo))], [(qm 3, .inl (kA 0, 4, .inl (fun _ => 0)))], [(qm 2, .inl (kA 0, 66836, .inl all0))]]) hP hD [2, 4, 5, 6, 7, 8, 10, 11, 12, 13, 14, 15, 16, 17, 18, 19, 20, 21, 22, 23, 24, 25, 26, 27, 28, 29, 30, 31, 32, 33, 34, 36, 37, 38, 41, 44, 46, 47, 48, 49, 50, 51, 52, 53, 54, 55, 56, 57, 58, 59, 60, 61, 62, 63, 64, 65, 66, 67, 68, 69, 70, 71, 72, 73, 74, 75, 77, 78, 79, 80, 81, 82, 83, 84, 85, 86, 87, 88, 89, 90, 91, 92, 93, 94, 95, 96, 97, 98, 101, 102, 103, 104, 105, 107, 108, 109, 110, 111, 112, 113, 114, 115, 116, 117, 118, 119, 120, 121, 122, 123, 124, 125, 126, 127, 128, 129, 130, 131, 132, 133, 134, 135, 136, 137, 138, 139, 140, 141, 142, 143, 144, 145, 146, 147, 148, 149, 150, 151, 152, 153, 154, 155, 156, 157, 158, 159, 160, 161, 162, 163, 164, 165, 166, 167, 168, 169, 170, 171, 172, 173, 174, 175, 176, 177, 178, 179, 180, 181, 182, 183, 184, 185, 186, 187, 188, 189, 190, 191, 192, 193, 194, 195, 196, 197, 198, 199, 200, 201, 202, 203, 204, 205, 206, 207, 208, 209, 210, 211, 212, 213, 214, 215, 216, 217] [0, 3, 35, 1, 9, 39, 40, 42, 76, 45, 43, 99, 106, 100] 218 rfl (by decide +kernel) rfl
        exact lf_planar_7 l C0 h h2 q qg qn qe qm g j hj hv1 hv2 hK hN hP hD hS hl
      | jw + 5, hjw, _ => exact absurd hjw (by omega)
