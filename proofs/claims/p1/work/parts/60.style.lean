theorem wm_23 : (Cond.initialized "DrawingHouse$Styler" : Cond) ∈ lw_g := lw_gi (lw_c1 (List.mem_of_getElem? (i := 23) rfl)) rfl
theorem wm_67 : (Cond.fieldLink "DrawingHouse$Styler" (172 : Nat) "DrawingHouse$Graph" "nodes" "I" : Cond) ∈ lw_g := lw_gi (lw_c1 (List.mem_of_getElem? (i := 67) rfl)) rfl
theorem wm_78 : (Cond.fieldLink "DrawingHouse$Styler" (185 : Nat) "DrawingHouse$Graph" "edges" "I" : Cond) ∈ lw_g := lw_gi (lw_c1 (List.mem_of_getElem? (i := 78) rfl)) rfl
theorem wm_195 : (Cond.fieldLink "DrawingHouse" (345 : Nat) "DrawingHouse$Reader" "tape" "[B" : Cond) ∈ lw_g := lw_gi (lw_c1 (List.mem_of_getElem? (i := 195) rfl)) rfl
theorem wm_504 : (Cond.fieldLink "DrawingHouse$Styler" (161 : Nat) "DrawingHouse$Drawing" "shades" "[I" : Cond) ∈ lw_g := lw_gi (lw_c3 (List.mem_of_getElem? (i := 24) rfl)) rfl
theorem wm_2085 : (Cond.methodLink "DrawingHouseLaw" (109 : Nat) ({ cls := "DrawingHouse", name := "style", desc := "(II)I" } : MethodName) : Cond) ∈ lw_g := lw_gi (lw_c9 (List.mem_of_getElem? (i := 165) rfl)) rfl
theorem wm_2086 : (Cond.instanceMethod ({ cls := "DrawingHouse", name := "style", desc := "(II)I" } : MethodName) : Cond) ∈ lw_g := lw_gi (lw_c9 (List.mem_of_getElem? (i := 166) rfl)) rfl
theorem wm_2087 : (Cond.selects "DrawingHouse" ({ cls := "DrawingHouse", name := "style", desc := "(II)I" } : MethodName) ({ cls := "DrawingHouse", name := "style", desc := "(II)I" } : MethodName) : Cond) ∈ lw_g := lw_gi (lw_c9 (List.mem_of_getElem? (i := 167) rfl)) rfl
theorem wm_2088 : (Cond.code ({ cls := "DrawingHouse", name := "style", desc := "(II)I" } : MethodName) prog_1_method_24_code (4 : Nat) (Option.some ClassFile.FieldType.int) : Cond) ∈ lw_g := lw_gi (lw_c9 (List.mem_of_getElem? (i := 168) rfl)) rfl
theorem wm_2089 : (Cond.classLink "DrawingHouse" (342 : Nat) "DrawingHouse$Styler" : Cond) ∈ lw_g := lw_gi (lw_c9 (List.mem_of_getElem? (i := 169) rfl)) rfl
theorem wm_2092 : (Cond.instanceMethod ({ cls := "DrawingHouse$Styler", name := "<init>", desc := "()V" } : MethodName) : Cond) ∈ lw_g := lw_gi (lw_c9 (List.mem_of_getElem? (i := 172) rfl)) rfl
theorem wm_2093 : (Cond.code ({ cls := "DrawingHouse$Styler", name := "<init>", desc := "()V" } : MethodName) prog_13_method_1_code (1 : Nat) (Option.none : Option ClassFile.FieldType) : Cond) ∈ lw_g := lw_gi (lw_c9 (List.mem_of_getElem? (i := 173) rfl)) rfl
theorem wm_2097 : (Cond.fieldLink "DrawingHouse" (358 : Nat) "DrawingHouse$Styler" "rules" "I" : Cond) ∈ lw_g := lw_gi (lw_c9 (List.mem_of_getElem? (i := 177) rfl)) rfl
theorem wm_2099 : (Cond.fieldLink "DrawingHouse" (352 : Nat) "DrawingHouse$Styler" "fault" "I" : Cond) ∈ lw_g := lw_gi (lw_c9 (List.mem_of_getElem? (i := 179) rfl)) rfl
theorem wm_2101 : (Cond.fieldLink "DrawingHouse" (353 : Nat) "DrawingHouse$Styler" "faultPlace" "I" : Cond) ∈ lw_g := lw_gi (lw_c9 (List.mem_of_getElem? (i := 181) rfl)) rfl
theorem wm_2108 : (Cond.fieldLink "DrawingHouse$Styler" (42 : Nat) "DrawingHouse$Styler" "words" "Ljava/lang/String;" : Cond) ∈ lw_g := lw_gi (lw_c9 (List.mem_of_getElem? (i := 188) rfl)) rfl
theorem wm_2109 : (Cond.fieldLink "DrawingHouse$Styler" (46 : Nat) "DrawingHouse$Styler" "code" "[I" : Cond) ∈ lw_g := lw_gi (lw_c9 (List.mem_of_getElem? (i := 189) rfl)) rfl
theorem wm_2110 : (Cond.fieldLink "DrawingHouse$Styler" (50 : Nat) "DrawingHouse$Styler" "codeLength" "I" : Cond) ∈ lw_g := lw_gi (lw_c9 (List.mem_of_getElem? (i := 190) rfl)) rfl
theorem wm_2111 : (Cond.fieldLink "DrawingHouse$Styler" (53 : Nat) "DrawingHouse$Styler" "ruleStart" "[I" : Cond) ∈ lw_g := lw_gi (lw_c9 (List.mem_of_getElem? (i := 191) rfl)) rfl
theorem wm_2112 : (Cond.fieldLink "DrawingHouse$Styler" (56 : Nat) "DrawingHouse$Styler" "ruleKind" "[I" : Cond) ∈ lw_g := lw_gi (lw_c9 (List.mem_of_getElem? (i := 192) rfl)) rfl
theorem wm_2113 : (Cond.fieldLink "DrawingHouse$Styler" (59 : Nat) "DrawingHouse$Styler" "stack" "[J" : Cond) ∈ lw_g := lw_gi (lw_c9 (List.mem_of_getElem? (i := 193) rfl)) rfl
theorem wm_2114 : (Cond.fieldLink "DrawingHouse$Styler" (63 : Nat) "DrawingHouse$Styler" "height" "I" : Cond) ∈ lw_g := lw_gi (lw_c9 (List.mem_of_getElem? (i := 194) rfl)) rfl
theorem wm_2115 : (Cond.fieldLink "DrawingHouse$Styler" (66 : Nat) "DrawingHouse$Styler" "value" "[J" : Cond) ∈ lw_g := lw_gi (lw_c9 (List.mem_of_getElem? (i := 195) rfl)) rfl
theorem wm_2151 : (Cond.methodLink "DrawingHouse" (348 : Nat) ({ cls := "DrawingHouse$Styler", name := "compile", desc := "([BI)Z" } : MethodName) : Cond) ∈ lw_g := lw_gi (lw_c9 (List.mem_of_getElem? (i := 231) rfl)) rfl
theorem wm_2152 : (Cond.instanceMethod ({ cls := "DrawingHouse$Styler", name := "compile", desc := "([BI)Z" } : MethodName) : Cond) ∈ lw_g := lw_gi (lw_c9 (List.mem_of_getElem? (i := 232) rfl)) rfl
theorem wm_2153 : (Cond.selects "DrawingHouse$Styler" ({ cls := "DrawingHouse$Styler", name := "compile", desc := "([BI)Z" } : MethodName) ({ cls := "DrawingHouse$Styler", name := "compile", desc := "([BI)Z" } : MethodName) : Cond) ∈ lw_g := lw_gi (lw_c9 (List.mem_of_getElem? (i := 233) rfl)) rfl
theorem wm_2154 : (Cond.code ({ cls := "DrawingHouse$Styler", name := "compile", desc := "([BI)Z" } : MethodName) prog_13_method_2_code (4 : Nat) (Option.some ClassFile.FieldType.boolean) : Cond) ∈ lw_g := lw_gi (lw_c9 (List.mem_of_getElem? (i := 234) rfl)) rfl
theorem wm_2155 : (Cond.methodLink "DrawingHouse$Styler" (69 : Nat) ({ cls := "DrawingHouse$Styler", name := "advance", desc := "()V" } : MethodName) : Cond) ∈ lw_g := lw_gi (lw_c9 (List.mem_of_getElem? (i := 235) rfl)) rfl
theorem wm_2157 : (Cond.instanceMethod ({ cls := "DrawingHouse$Styler", name := "advance", desc := "()V" } : MethodName) : Cond) ∈ lw_g := lw_gi (lw_c9 (List.mem_of_getElem? (i := 237) rfl)) rfl
theorem wm_2158 : (Cond.code ({ cls := "DrawingHouse$Styler", name := "advance", desc := "()V" } : MethodName) prog_13_method_5_code (2 : Nat) (Option.none : Option ClassFile.FieldType) : Cond) ∈ lw_g := lw_gi (lw_c9 (List.mem_of_getElem? (i := 238) rfl)) rfl
theorem wm_2282 : (Cond.methodLink "DrawingHouse" (354 : Nat) ({ cls := "DrawingHouse$Styler", name := "apply", desc := "(LDrawingHouse$Graph;LDrawingHouse$Facts;LDrawingHouse$Drawing;)V" } : MethodName) : Cond) ∈ lw_g := lw_gi (lw_c10 (List.mem_of_getElem? (i := 122) rfl)) rfl
theorem wm_2283 : (Cond.instanceMethod ({ cls := "DrawingHouse$Styler", name := "apply", desc := "(LDrawingHouse$Graph;LDrawingHouse$Facts;LDrawingHouse$Drawing;)V" } : MethodName) : Cond) ∈ lw_g := lw_gi (lw_c10 (List.mem_of_getElem? (i := 123) rfl)) rfl
theorem wm_2284 : (Cond.selects "DrawingHouse$Styler" ({ cls := "DrawingHouse$Styler", name := "apply", desc := "(LDrawingHouse$Graph;LDrawingHouse$Facts;LDrawingHouse$Drawing;)V" } : MethodName) ({ cls := "DrawingHouse$Styler", name := "apply", desc := "(LDrawingHouse$Graph;LDrawingHouse$Facts;LDrawingHouse$Drawing;)V" } : MethodName) : Cond) ∈ lw_g := lw_gi (lw_c10 (List.mem_of_getElem? (i := 124) rfl)) rfl
theorem wm_2285 : (Cond.code ({ cls := "DrawingHouse$Styler", name := "apply", desc := "(LDrawingHouse$Graph;LDrawingHouse$Facts;LDrawingHouse$Drawing;)V" } : MethodName) prog_13_method_18_code (5 : Nat) (Option.none : Option ClassFile.FieldType) : Cond) ∈ lw_g := lw_gi (lw_c10 (List.mem_of_getElem? (i := 125) rfl)) rfl
theorem wm_2286 : (Cond.methodLink "DrawingHouse$Styler" (166 : Nat) ({ cls := "java/util/Arrays", name := "fill", desc := "([II)V" } : MethodName) : Cond) ∈ lw_g := lw_gi (lw_c10 (List.mem_of_getElem? (i := 126) rfl)) rfl
theorem wm_2571 : (Cond.fieldLink "DrawingHouseModel" (1020 : Nat) "DrawingHouseModel" "g0" "I" : Cond) ∈ lw_g := lw_gi (lw_c11 (List.mem_of_getElem? (i := 171) rfl)) rfl
theorem wm_2589 : (Cond.fieldLink "DrawingHouseModel" (1160 : Nat) "DrawingHouseModel" "tokens" "I" : Cond) ∈ lw_g := lw_gi (lw_c11 (List.mem_of_getElem? (i := 189) rfl)) rfl
theorem wm_2590 : (Cond.fieldLink "DrawingHouseModel" (1169 : Nat) "DrawingHouseModel" "cur" "I" : Cond) ∈ lw_g := lw_gi (lw_c11 (List.mem_of_getElem? (i := 190) rfl)) rfl
theorem wm_2591 : (Cond.fieldLink "DrawingHouseModel" (1175 : Nat) "DrawingHouseModel" "opened" "I" : Cond) ∈ lw_g := lw_gi (lw_c11 (List.mem_of_getElem? (i := 191) rfl)) rfl
theorem wm_2597 : (Cond.fieldLink "DrawingHouseModel" (1181 : Nat) "DrawingHouseModel" "styleOne" "I" : Cond) ∈ lw_g := lw_gi (lw_c11 (List.mem_of_getElem? (i := 197) rfl)) rfl
theorem wm_3372 : (Cond.methodLink "DrawingHouseModel" (813 : Nat) ({ cls := "DrawingHouseModel", name := "turnEdges", desc := "()V" } : MethodName) : Cond) ∈ lw_g := lw_gi (lw_c15 (List.mem_of_getElem? (i := 12) rfl)) rfl
theorem wm_3374 : (Cond.instanceMethod ({ cls := "DrawingHouseModel", name := "turnEdges", desc := "()V" } : MethodName) : Cond) ∈ lw_g := lw_gi (lw_c15 (List.mem_of_getElem? (i := 14) rfl)) rfl
theorem wm_3375 : (Cond.code ({ cls := "DrawingHouseModel", name := "turnEdges", desc := "()V" } : MethodName) prog_15_method_117_code (4 : Nat) (Option.none : Option ClassFile.FieldType) : Cond) ∈ lw_g := lw_gi (lw_c15 (List.mem_of_getElem? (i := 15) rfl)) rfl
theorem wm_3791 : (Cond.methodLink "DrawingHouseLaw" (112 : Nat) ({ cls := "DrawingHouseModel", name := "style", desc := "(II)I" } : MethodName) : Cond) ∈ lw_g := lw_gi (lw_c16 (List.mem_of_getElem? (i := 191) rfl)) rfl
theorem wm_3792 : (Cond.instanceMethod ({ cls := "DrawingHouseModel", name := "style", desc := "(II)I" } : MethodName) : Cond) ∈ lw_g := lw_gi (lw_c16 (List.mem_of_getElem? (i := 192) rfl)) rfl
theorem wm_3793 : (Cond.selects "DrawingHouseModel" ({ cls := "DrawingHouseModel", name := "style", desc := "(II)I" } : MethodName) ({ cls := "DrawingHouseModel", name := "style", desc := "(II)I" } : MethodName) : Cond) ∈ lw_g := lw_gi (lw_c16 (List.mem_of_getElem? (i := 193) rfl)) rfl
theorem wm_3794 : (Cond.code ({ cls := "DrawingHouseModel", name := "style", desc := "(II)I" } : MethodName) prog_15_method_217_code (6 : Nat) (Option.some ClassFile.FieldType.int) : Cond) ∈ lw_g := lw_gi (lw_c16 (List.mem_of_getElem? (i := 194) rfl)) rfl
theorem wm_3795 : (Cond.methodLink "DrawingHouseModel" (1178 : Nat) ({ cls := "DrawingHouseModel", name := "styleTokens", desc := "(I)V" } : MethodName) : Cond) ∈ lw_g := lw_gi (lw_c16 (List.mem_of_getElem? (i := 195) rfl)) rfl
theorem wm_3797 : (Cond.instanceMethod ({ cls := "DrawingHouseModel", name := "styleTokens", desc := "(I)V" } : MethodName) : Cond) ∈ lw_g := lw_gi (lw_c16 (List.mem_of_getElem? (i := 197) rfl)) rfl
theorem wm_3798 : (Cond.code ({ cls := "DrawingHouseModel", name := "styleTokens", desc := "(I)V" } : MethodName) prog_15_method_212_code (9 : Nat) (Option.none : Option ClassFile.FieldType) : Cond) ∈ lw_g := lw_gi (lw_c16 (List.mem_of_getElem? (i := 198) rfl)) rfl
theorem wm_3890 : (Cond.methodLink "DrawingHouseModel" (1187 : Nat) ({ cls := "DrawingHouseModel", name := "prepare", desc := "()V" } : MethodName) : Cond) ∈ lw_g := lw_gi (lw_c17 (List.mem_of_getElem? (i := 50) rfl)) rfl
theorem wm_3892 : (Cond.instanceMethod ({ cls := "DrawingHouseModel", name := "prepare", desc := "()V" } : MethodName) : Cond) ∈ lw_g := lw_gi (lw_c17 (List.mem_of_getElem? (i := 52) rfl)) rfl
theorem wm_3893 : (Cond.code ({ cls := "DrawingHouseModel", name := "prepare", desc := "()V" } : MethodName) prog_15_method_218_code (3 : Nat) (Option.none : Option ClassFile.FieldType) : Cond) ∈ lw_g := lw_gi (lw_c17 (List.mem_of_getElem? (i := 53) rfl)) rfl
theorem wn_2091 : (Cond.methodLinkNest "DrawingHouse" (344 : Nat) ({ cls := "DrawingHouse$Styler", name := "<init>", desc := "()V" } : MethodName) "DrawingHouse" : Cond) ∈ lw_n := lw_ni (lw_c9 (List.mem_of_getElem? (i := 171) rfl)) rfl
theorem wn_2095 : (Cond.stringRef "DrawingHouse$Styler" (40 : Nat) "deg in out size group far core cut x y " : Cond) ∈ lw_n := lw_ni (lw_c9 (List.mem_of_getElem? (i := 175) rfl)) rfl
theorem wv_10_10 : (Cond.selects "DrawingHouse$Styler" ⟨"DrawingHouse$Styler", "advance", "()V"⟩ ⟨"DrawingHouse$Styler", "advance", "()V"⟩ : Cond) ∈ lw_g := lw_gi (List.mem_append_left _ (List.mem_map.mpr ⟨_, lw_v2 (List.mem_of_getElem? (i := 3) rfl), rfl⟩)) rfl
theorem wv_17_12 : (Cond.selects "DrawingHouseModel" ⟨"DrawingHouseModel", "turnEdges", "()V"⟩ ⟨"DrawingHouseModel", "turnEdges", "()V"⟩ : Cond) ∈ lw_g := lw_gi (List.mem_append_left _ (List.mem_map.mpr ⟨_, lw_v3 (List.mem_of_getElem? (i := 13) rfl), rfl⟩)) rfl
theorem wv_23_4 : (Cond.selects "DrawingHouseModel" ⟨"DrawingHouseModel", "styleTokens", "(I)V"⟩ ⟨"DrawingHouseModel", "styleTokens", "(I)V"⟩ : Cond) ∈ lw_g := lw_gi (List.mem_append_left _ (List.mem_map.mpr ⟨_, lw_v3 (List.mem_of_getElem? (i := 15) rfl), rfl⟩)) rfl
theorem wv_24_5 : (Cond.selects "DrawingHouseModel" ⟨"DrawingHouseModel", "prepare", "()V"⟩ ⟨"DrawingHouseModel", "prepare", "()V"⟩ : Cond) ∈ lw_g := lw_gi (List.mem_append_left _ (List.mem_map.mpr ⟨_, lw_v4 (List.mem_of_getElem? (i := 0) rfl), rfl⟩)) rfl
abbrev b_Ho_style : ByteArray := prog_1_method_24_code
def y_Ho_style : MethodName := ⟨"DrawingHouse", "style", "(II)I"⟩
abbrev z_Ho_style : List Cond := Cond.code y_Ho_style b_Ho_style 4 (some .int) :: lw_g
theorem d_Ho_style_0 : decode b_Ho_style 0 = .ok (.iload_n 1, 1) := by decide +kernel
theorem d_Ho_style_1 : decode b_Ho_style 1 = .ok (.invokestatic 115, 3) := by decide +kernel
theorem d_Ho_style_4 : decode b_Ho_style 4 = .ok (.ifCond .eq 18, 3) := by decide +kernel
theorem d_Ho_style_7 : decode b_Ho_style 7 = .ok (.iload_n 2, 1) := by decide +kernel
theorem d_Ho_style_8 : decode b_Ho_style 8 = .ok (.ifCond .lt 14, 3) := by decide +kernel
theorem d_Ho_style_11 : decode b_Ho_style 11 = .ok (.iload_n 2, 1) := by decide +kernel
theorem d_Ho_style_12 : decode b_Ho_style 12 = .ok (.aload_n 0, 1) := by decide +kernel
theorem d_Ho_style_13 : decode b_Ho_style 13 = .ok (.getfield 38, 3) := by decide +kernel
theorem d_Ho_style_16 : decode b_Ho_style 16 = .ok (.getfield 108, 3) := by decide +kernel
theorem d_Ho_style_19 : decode b_Ho_style 19 = .ok (.if_icmp .le 6, 3) := by decide +kernel
theorem d_Ho_style_22 : decode b_Ho_style 22 = .ok (.bipush (-2), 2) := by decide +kernel
theorem d_Ho_style_24 : decode b_Ho_style 24 = .ok (.ireturn, 1) := by decide +kernel
theorem d_Ho_style_25 : decode b_Ho_style 25 = .ok (.aload_n 0, 1) := by decide +kernel
theorem d_Ho_style_26 : decode b_Ho_style 26 = .ok (.getfield 82, 3) := by decide +kernel
theorem d_Ho_style_29 : decode b_Ho_style 29 = .ok (.ifnonnull 14, 3) := by decide +kernel
theorem d_Ho_style_32 : decode b_Ho_style 32 = .ok (.aload_n 0, 1) := by decide +kernel
theorem d_Ho_style_33 : decode b_Ho_style 33 = .ok (.new 342, 3) := by decide +kernel
theorem d_Ho_style_36 : decode b_Ho_style 36 = .ok (.dup, 1) := by decide +kernel
theorem d_Ho_style_37 : decode b_Ho_style 37 = .ok (.invokespecial 344, 3) := by decide +kernel
theorem d_Ho_style_40 : decode b_Ho_style 40 = .ok (.putfield 82, 3) := by decide +kernel
theorem d_Ho_style_43 : decode b_Ho_style 43 = .ok (.aload_n 0, 1) := by decide +kernel
theorem d_Ho_style_44 : decode b_Ho_style 44 = .ok (.getfield 82, 3) := by decide +kernel
theorem d_Ho_style_47 : decode b_Ho_style 47 = .ok (.aload_n 0, 1) := by decide +kernel
theorem d_Ho_style_48 : decode b_Ho_style 48 = .ok (.getfield 38, 3) := by decide +kernel
theorem d_Ho_style_51 : decode b_Ho_style 51 = .ok (.getfield 345, 3) := by decide +kernel
theorem d_Ho_style_54 : decode b_Ho_style 54 = .ok (.iload_n 2, 1) := by decide +kernel
theorem d_Ho_style_55 : decode b_Ho_style 55 = .ok (.invokevirtual 348, 3) := by decide +kernel
theorem d_Ho_style_58 : decode b_Ho_style 58 = .ok (.istore_n 3, 1) := by decide +kernel
theorem d_Ho_style_59 : decode b_Ho_style 59 = .ok (.aload_n 0, 1) := by decide +kernel
theorem d_Ho_style_60 : decode b_Ho_style 60 = .ok (.getfield 38, 3) := by decide +kernel
theorem d_Ho_style_63 : decode b_Ho_style 63 = .ok (.iconst 0, 1) := by decide +kernel
theorem d_Ho_style_64 : decode b_Ho_style 64 = .ok (.putfield 108, 3) := by decide +kernel
theorem d_Ho_style_67 : decode b_Ho_style 67 = .ok (.aload_n 0, 1) := by decide +kernel
theorem d_Ho_style_68 : decode b_Ho_style 68 = .ok (.getfield 38, 3) := by decide +kernel
theorem d_Ho_style_71 : decode b_Ho_style 71 = .ok (.aload_n 0, 1) := by decide +kernel
theorem d_Ho_style_72 : decode b_Ho_style 72 = .ok (.getfield 82, 3) := by decide +kernel
theorem d_Ho_style_75 : decode b_Ho_style 75 = .ok (.getfield 352, 3) := by decide +kernel
theorem d_Ho_style_78 : decode b_Ho_style 78 = .ok (.putfield 135, 3) := by decide +kernel
theorem d_Ho_style_81 : decode b_Ho_style 81 = .ok (.aload_n 0, 1) := by decide +kernel
theorem d_Ho_style_82 : decode b_Ho_style 82 = .ok (.getfield 38, 3) := by decide +kernel
theorem d_Ho_style_85 : decode b_Ho_style 85 = .ok (.aload_n 0, 1) := by decide +kernel
theorem d_Ho_style_86 : decode b_Ho_style 86 = .ok (.getfield 82, 3) := by decide +kernel
theorem d_Ho_style_89 : decode b_Ho_style 89 = .ok (.getfield 353, 3) := by decide +kernel
theorem d_Ho_style_92 : decode b_Ho_style 92 = .ok (.putfield 138, 3) := by decide +kernel
theorem d_Ho_style_95 : decode b_Ho_style 95 = .ok (.iload_n 3, 1) := by decide +kernel
theorem d_Ho_style_96 : decode b_Ho_style 96 = .ok (.ifCond .ne 5, 3) := by decide +kernel
theorem d_Ho_style_101 : decode b_Ho_style 101 = .ok (.aload_n 0, 1) := by decide +kernel
theorem d_Ho_style_102 : decode b_Ho_style 102 = .ok (.getfield 82, 3) := by decide +kernel
theorem d_Ho_style_105 : decode b_Ho_style 105 = .ok (.aload_n 0, 1) := by decide +kernel
theorem d_Ho_style_106 : decode b_Ho_style 106 = .ok (.getfield 13, 3) := by decide +kernel
theorem d_Ho_style_109 : decode b_Ho_style 109 = .ok (.iload_n 1, 1) := by decide +kernel
theorem d_Ho_style_110 : decode b_Ho_style 110 = .ok (.aaload, 1) := by decide +kernel
theorem d_Ho_style_111 : decode b_Ho_style 111 = .ok (.aload_n 0, 1) := by decide +kernel
theorem d_Ho_style_112 : decode b_Ho_style 112 = .ok (.iload_n 1, 1) := by decide +kernel
theorem d_Ho_style_113 : decode b_Ho_style 113 = .ok (.invokevirtual 147, 3) := by decide +kernel
theorem d_Ho_style_116 : decode b_Ho_style 116 = .ok (.aload_n 0, 1) := by decide +kernel
theorem d_Ho_style_117 : decode b_Ho_style 117 = .ok (.getfield 31, 3) := by decide +kernel
theorem d_Ho_style_120 : decode b_Ho_style 120 = .ok (.iload_n 1, 1) := by decide +kernel
theorem d_Ho_style_121 : decode b_Ho_style 121 = .ok (.aaload, 1) := by decide +kernel
theorem d_Ho_style_122 : decode b_Ho_style 122 = .ok (.invokevirtual 354, 3) := by decide +kernel
theorem d_Ho_style_125 : decode b_Ho_style 125 = .ok (.aload_n 0, 1) := by decide +kernel
theorem d_Ho_style_126 : decode b_Ho_style 126 = .ok (.getfield 82, 3) := by decide +kernel
theorem d_Ho_style_129 : decode b_Ho_style 129 = .ok (.getfield 358, 3) := by decide +kernel
theorem d_Ho_style_132 : decode b_Ho_style 132 = .ok (.ireturn, 1) := by decide +kernel
abbrev b_Mo_style : ByteArray := prog_15_method_217_code
def y_Mo_style : MethodName := ⟨"DrawingHouseModel", "style", "(II)I"⟩
abbrev z_Mo_style : List Cond := Cond.code y_Mo_style b_Mo_style 6 (some .int) :: lw_g
theorem d_Mo_style_0 : decode b_Mo_style 0 = .ok (.iload_n 1, 1) := by decide +kernel
theorem d_Mo_style_1 : decode b_Mo_style 1 = .ok (.invokestatic 521, 3) := by decide +kernel
theorem d_Mo_style_4 : decode b_Mo_style 4 = .ok (.ifCond .eq 15, 3) := by decide +kernel
theorem d_Mo_style_7 : decode b_Mo_style 7 = .ok (.iload_n 2, 1) := by decide +kernel
theorem d_Mo_style_8 : decode b_Mo_style 8 = .ok (.ifCond .lt 11, 3) := by decide +kernel
theorem d_Mo_style_11 : decode b_Mo_style 11 = .ok (.iload_n 2, 1) := by decide +kernel
theorem d_Mo_style_12 : decode b_Mo_style 12 = .ok (.aload_n 0, 1) := by decide +kernel
theorem d_Mo_style_13 : decode b_Mo_style 13 = .ok (.getfield 383, 3) := by decide +kernel
theorem d_Mo_style_16 : decode b_Mo_style 16 = .ok (.if_icmp .le 6, 3) := by decide +kernel
theorem d_Mo_style_19 : decode b_Mo_style 19 = .ok (.bipush (-2), 2) := by decide +kernel
theorem d_Mo_style_21 : decode b_Mo_style 21 = .ok (.ireturn, 1) := by decide +kernel
theorem d_Mo_style_22 : decode b_Mo_style 22 = .ok (.aload_n 0, 1) := by decide +kernel
theorem d_Mo_style_23 : decode b_Mo_style 23 = .ok (.iconst 0, 1) := by decide +kernel
theorem d_Mo_style_24 : decode b_Mo_style 24 = .ok (.putfield 383, 3) := by decide +kernel
theorem d_Mo_style_27 : decode b_Mo_style 27 = .ok (.aload_n 0, 1) := by decide +kernel
theorem d_Mo_style_28 : decode b_Mo_style 28 = .ok (.iconst 1, 1) := by decide +kernel
theorem d_Mo_style_29 : decode b_Mo_style 29 = .ok (.putfield 409, 3) := by decide +kernel
theorem d_Mo_style_32 : decode b_Mo_style 32 = .ok (.aload_n 0, 1) := by decide +kernel
theorem d_Mo_style_33 : decode b_Mo_style 33 = .ok (.iconst 0, 1) := by decide +kernel
theorem d_Mo_style_34 : decode b_Mo_style 34 = .ok (.putfield 413, 3) := by decide +kernel
theorem d_Mo_style_37 : decode b_Mo_style 37 = .ok (.aload_n 0, 1) := by decide +kernel
theorem d_Mo_style_38 : decode b_Mo_style 38 = .ok (.iload_n 1, 1) := by decide +kernel
theorem d_Mo_style_39 : decode b_Mo_style 39 = .ok (.invokevirtual 527, 3) := by decide +kernel
theorem d_Mo_style_42 : decode b_Mo_style 42 = .ok (.aload_n 0, 1) := by decide +kernel
theorem d_Mo_style_43 : decode b_Mo_style 43 = .ok (.iload_n 1, 1) := by decide +kernel
theorem d_Mo_style_44 : decode b_Mo_style 44 = .ok (.putfield 1020, 3) := by decide +kernel
theorem d_Mo_style_47 : decode b_Mo_style 47 = .ok (.aload_n 0, 1) := by decide +kernel
theorem d_Mo_style_48 : decode b_Mo_style 48 = .ok (.iload_n 2, 1) := by decide +kernel
theorem d_Mo_style_49 : decode b_Mo_style 49 = .ok (.invokevirtual 1178, 3) := by decide +kernel
theorem d_Mo_style_52 : decode b_Mo_style 52 = .ok (.aload_n 0, 1) := by decide +kernel
theorem d_Mo_style_53 : decode b_Mo_style 53 = .ok (.iconst 0, 1) := by decide +kernel
theorem d_Mo_style_54 : decode b_Mo_style 54 = .ok (.putfield 1175, 3) := by decide +kernel
theorem d_Mo_style_57 : decode b_Mo_style 57 = .ok (.aload_n 0, 1) := by decide +kernel
theorem d_Mo_style_58 : decode b_Mo_style 58 = .ok (.iconst (-1), 1) := by decide +kernel
theorem d_Mo_style_59 : decode b_Mo_style 59 = .ok (.putfield 1181, 3) := by decide +kernel
theorem d_Mo_style_62 : decode b_Mo_style 62 = .ok (.iconst 0, 1) := by decide +kernel
theorem d_Mo_style_63 : decode b_Mo_style 63 = .ok (.istore_n 3, 1) := by decide +kernel
theorem d_Mo_style_64 : decode b_Mo_style 64 = .ok (.aload_n 0, 1) := by decide +kernel
theorem d_Mo_style_65 : decode b_Mo_style 65 = .ok (.iconst 0, 1) := by decide +kernel
theorem d_Mo_style_66 : decode b_Mo_style 66 = .ok (.putfield 1169, 3) := by decide +kernel
theorem d_Mo_style_69 : decode b_Mo_style 69 = .ok (.aload_n 0, 1) := by decide +kernel
theorem d_Mo_style_70 : decode b_Mo_style 70 = .ok (.getfield 413, 3) := by decide +kernel
theorem d_Mo_style_73 : decode b_Mo_style 73 = .ok (.ifCond .ne 25, 3) := by decide +kernel
theorem d_Mo_style_76 : decode b_Mo_style 76 = .ok (.aload_n 0, 1) := by decide +kernel
theorem d_Mo_style_77 : decode b_Mo_style 77 = .ok (.getfield 342, 3) := by decide +kernel
theorem d_Mo_style_80 : decode b_Mo_style 80 = .ok (.aload_n 0, 1) := by decide +kernel
theorem d_Mo_style_81 : decode b_Mo_style 81 = .ok (.getfield 1169, 3) := by decide +kernel
theorem d_Mo_style_84 : decode b_Mo_style 84 = .ok (.iaload, 1) := by decide +kernel
theorem d_Mo_style_85 : decode b_Mo_style 85 = .ok (.ifCond .eq 13, 3) := by decide +kernel
theorem d_Mo_style_98 : decode b_Mo_style 98 = .ok (.aload_n 0, 1) := by decide +kernel
theorem d_Mo_style_99 : decode b_Mo_style 99 = .ok (.getfield 413, 3) := by decide +kernel
theorem d_Mo_style_102 : decode b_Mo_style 102 = .ok (.ifCond .le 5, 3) := by decide +kernel
theorem d_Mo_style_107 : decode b_Mo_style 107 = .ok (.aload_n 0, 1) := by decide +kernel
theorem d_Mo_style_108 : decode b_Mo_style 108 = .ok (.invokevirtual 1187, 3) := by decide +kernel
theorem d_Mo_style_111 : decode b_Mo_style 111 = .ok (.iconst 0, 1) := by decide +kernel
theorem d_Mo_style_112 : decode b_Mo_style 112 = .ok (.istore 4, 2) := by decide +kernel
theorem d_Mo_style_114 : decode b_Mo_style 114 = .ok (.iload 4, 2) := by decide +kernel
theorem d_Mo_style_116 : decode b_Mo_style 116 = .ok (.sipush 216, 3) := by decide +kernel
theorem d_Mo_style_119 : decode b_Mo_style 119 = .ok (.if_icmp .ge 23, 3) := by decide +kernel
theorem d_Mo_style_122 : decode b_Mo_style 122 = .ok (.aload_n 0, 1) := by decide +kernel
theorem d_Mo_style_123 : decode b_Mo_style 123 = .ok (.getfield 156, 3) := by decide +kernel
theorem d_Mo_style_126 : decode b_Mo_style 126 = .ok (.sipush 216, 3) := by decide +kernel
theorem d_Mo_style_129 : decode b_Mo_style 129 = .ok (.iload_n 1, 1) := by decide +kernel
theorem d_Mo_style_130 : decode b_Mo_style 130 = .ok (.imul, 1) := by decide +kernel
theorem d_Mo_style_131 : decode b_Mo_style 131 = .ok (.iload 4, 2) := by decide +kernel
theorem d_Mo_style_133 : decode b_Mo_style 133 = .ok (.iadd, 1) := by decide +kernel
theorem d_Mo_style_134 : decode b_Mo_style 134 = .ok (.iconst 0, 1) := by decide +kernel
theorem d_Mo_style_135 : decode b_Mo_style 135 = .ok (.iastore, 1) := by decide +kernel
theorem d_Mo_style_136 : decode b_Mo_style 136 = .ok (.iinc 4 1, 3) := by decide +kernel
theorem d_Mo_style_139 : decode b_Mo_style 139 = .ok (.goto (-25), 3) := by decide +kernel
theorem d_Mo_style_142 : decode b_Mo_style 142 = .ok (.iconst 0, 1) := by decide +kernel
theorem d_Mo_style_143 : decode b_Mo_style 143 = .ok (.istore 4, 2) := by decide +kernel
theorem d_Mo_style_145 : decode b_Mo_style 145 = .ok (.iload 4, 2) := by decide +kernel
theorem d_Mo_style_147 : decode b_Mo_style 147 = .ok (.iconst 2, 1) := by decide +kernel
theorem d_Mo_style_148 : decode b_Mo_style 148 = .ok (.if_icmp .ge 93, 3) := by decide +kernel
theorem d_Mo_style_151 : decode b_Mo_style 151 = .ok (.iconst 0, 1) := by decide +kernel
theorem d_Mo_style_152 : decode b_Mo_style 152 = .ok (.istore 5, 2) := by decide +kernel
theorem d_Mo_style_154 : decode b_Mo_style 154 = .ok (.iload 5, 2) := by decide +kernel
theorem d_Mo_style_156 : decode b_Mo_style 156 = .ok (.iload 4, 2) := by decide +kernel
theorem d_Mo_style_158 : decode b_Mo_style 158 = .ok (.ifCond .ne 10, 3) := by decide +kernel
theorem d_Mo_style_161 : decode b_Mo_style 161 = .ok (.aload_n 0, 1) := by decide +kernel
theorem d_Mo_style_162 : decode b_Mo_style 162 = .ok (.invokevirtual 475, 3) := by decide +kernel
theorem d_Mo_style_165 : decode b_Mo_style 165 = .ok (.goto 7, 3) := by decide +kernel
theorem d_Mo_style_168 : decode b_Mo_style 168 = .ok (.aload_n 0, 1) := by decide +kernel
theorem d_Mo_style_169 : decode b_Mo_style 169 = .ok (.invokevirtual 401, 3) := by decide +kernel
theorem d_Mo_style_172 : decode b_Mo_style 172 = .ok (.if_icmp .ge 63, 3) := by decide +kernel
theorem d_Mo_style_235 : decode b_Mo_style 235 = .ok (.iinc 4 1, 3) := by decide +kernel
theorem d_Mo_style_238 : decode b_Mo_style 238 = .ok (.goto (-93), 3) := by decide +kernel
theorem d_Mo_style_241 : decode b_Mo_style 241 = .ok (.iload_n 3, 1) := by decide +kernel
theorem d_Mo_style_242 : decode b_Mo_style 242 = .ok (.ireturn, 1) := by decide +kernel
abbrev b_Sy_init : ByteArray := prog_13_method_1_code
def y_Sy_init : MethodName := ⟨"DrawingHouse$Styler", "<init>", "()V"⟩
abbrev z_Sy_init : List Cond := Cond.code y_Sy_init b_Sy_init 1 none :: lw_g
theorem d_Sy_init_0 : decode b_Sy_init 0 = .ok (.aload_n 0, 1) := by decide +kernel
theorem d_Sy_init_1 : decode b_Sy_init 1 = .ok (.invokespecial 3, 3) := by decide +kernel
theorem d_Sy_init_4 : decode b_Sy_init 4 = .ok (.aload_n 0, 1) := by decide +kernel
theorem d_Sy_init_5 : decode b_Sy_init 5 = .ok (.iconst 0, 1) := by decide +kernel
theorem d_Sy_init_6 : decode b_Sy_init 6 = .ok (.putfield 9, 3) := by decide +kernel
theorem d_Sy_init_9 : decode b_Sy_init 9 = .ok (.aload_n 0, 1) := by decide +kernel
theorem d_Sy_init_10 : decode b_Sy_init 10 = .ok (.iconst 0, 1) := by decide +kernel
theorem d_Sy_init_11 : decode b_Sy_init 11 = .ok (.putfield 15, 3) := by decide +kernel
theorem d_Sy_init_14 : decode b_Sy_init 14 = .ok (.aload_n 0, 1) := by decide +kernel
theorem d_Sy_init_15 : decode b_Sy_init 15 = .ok (.iconst (-1), 1) := by decide +kernel
theorem d_Sy_init_16 : decode b_Sy_init 16 = .ok (.putfield 18, 3) := by decide +kernel
theorem d_Sy_init_19 : decode b_Sy_init 19 = .ok (.aload_n 0, 1) := by decide +kernel
theorem d_Sy_init_20 : decode b_Sy_init 20 = .ok (.aconst_null, 1) := by decide +kernel
theorem d_Sy_init_21 : decode b_Sy_init 21 = .ok (.putfield 21, 3) := by decide +kernel
theorem d_Sy_init_24 : decode b_Sy_init 24 = .ok (.aload_n 0, 1) := by decide +kernel
theorem d_Sy_init_25 : decode b_Sy_init 25 = .ok (.iconst 0, 1) := by decide +kernel
theorem d_Sy_init_26 : decode b_Sy_init 26 = .ok (.putfield 25, 3) := by decide +kernel
theorem d_Sy_init_29 : decode b_Sy_init 29 = .ok (.aload_n 0, 1) := by decide +kernel
theorem d_Sy_init_30 : decode b_Sy_init 30 = .ok (.iconst 0, 1) := by decide +kernel
theorem d_Sy_init_31 : decode b_Sy_init 31 = .ok (.putfield 28, 3) := by decide +kernel
theorem d_Sy_init_34 : decode b_Sy_init 34 = .ok (.aload_n 0, 1) := by decide +kernel
theorem d_Sy_init_35 : decode b_Sy_init 35 = .ok (.iconst 0, 1) := by decide +kernel
theorem d_Sy_init_36 : decode b_Sy_init 36 = .ok (.putfield 31, 3) := by decide +kernel
theorem d_Sy_init_39 : decode b_Sy_init 39 = .ok (.aload_n 0, 1) := by decide +kernel
theorem d_Sy_init_40 : decode b_Sy_init 40 = .ok (.iconst 0, 1) := by decide +kernel
theorem d_Sy_init_41 : decode b_Sy_init 41 = .ok (.putfield 34, 3) := by decide +kernel
theorem d_Sy_init_44 : decode b_Sy_init 44 = .ok (.aload_n 0, 1) := by decide +kernel
theorem d_Sy_init_45 : decode b_Sy_init 45 = .ok (.iconst 0, 1) := by decide +kernel
theorem d_Sy_init_46 : decode b_Sy_init 46 = .ok (.putfield 37, 3) := by decide +kernel
theorem d_Sy_init_49 : decode b_Sy_init 49 = .ok (.aload_n 0, 1) := by decide +kernel
theorem d_Sy_init_50 : decode b_Sy_init 50 = .ok (.ldc 40, 2) := by decide +kernel
theorem d_Sy_init_52 : decode b_Sy_init 52 = .ok (.putfield 42, 3) := by decide +kernel
theorem d_Sy_init_55 : decode b_Sy_init 55 = .ok (.aload_n 0, 1) := by decide +kernel
theorem d_Sy_init_56 : decode b_Sy_init 56 = .ok (.sipush 2112, 3) := by decide +kernel
theorem d_Sy_init_59 : decode b_Sy_init 59 = .ok (.newarray .int, 2) := by decide +kernel
theorem d_Sy_init_61 : decode b_Sy_init 61 = .ok (.putfield 46, 3) := by decide +kernel
theorem d_Sy_init_64 : decode b_Sy_init 64 = .ok (.aload_n 0, 1) := by decide +kernel
theorem d_Sy_init_65 : decode b_Sy_init 65 = .ok (.iconst 0, 1) := by decide +kernel
theorem d_Sy_init_66 : decode b_Sy_init 66 = .ok (.putfield 50, 3) := by decide +kernel
theorem d_Sy_init_69 : decode b_Sy_init 69 = .ok (.aload_n 0, 1) := by decide +kernel
theorem d_Sy_init_70 : decode b_Sy_init 70 = .ok (.bipush 113, 2) := by decide +kernel
theorem d_Sy_init_72 : decode b_Sy_init 72 = .ok (.newarray .int, 2) := by decide +kernel
theorem d_Sy_init_74 : decode b_Sy_init 74 = .ok (.putfield 53, 3) := by decide +kernel
theorem d_Sy_init_77 : decode b_Sy_init 77 = .ok (.aload_n 0, 1) := by decide +kernel
theorem d_Sy_init_78 : decode b_Sy_init 78 = .ok (.bipush 112, 2) := by decide +kernel
theorem d_Sy_init_80 : decode b_Sy_init 80 = .ok (.newarray .int, 2) := by decide +kernel
theorem d_Sy_init_82 : decode b_Sy_init 82 = .ok (.putfield 56, 3) := by decide +kernel
theorem d_Sy_init_85 : decode b_Sy_init 85 = .ok (.aload_n 0, 1) := by decide +kernel
theorem d_Sy_init_86 : decode b_Sy_init 86 = .ok (.bipush 80, 2) := by decide +kernel
theorem d_Sy_init_88 : decode b_Sy_init 88 = .ok (.newarray .long, 2) := by decide +kernel
theorem d_Sy_init_90 : decode b_Sy_init 90 = .ok (.putfield 59, 3) := by decide +kernel
theorem d_Sy_init_93 : decode b_Sy_init 93 = .ok (.aload_n 0, 1) := by decide +kernel
theorem d_Sy_init_94 : decode b_Sy_init 94 = .ok (.iconst 0, 1) := by decide +kernel
theorem d_Sy_init_95 : decode b_Sy_init 95 = .ok (.putfield 63, 3) := by decide +kernel
theorem d_Sy_init_98 : decode b_Sy_init 98 = .ok (.aload_n 0, 1) := by decide +kernel
theorem d_Sy_init_99 : decode b_Sy_init 99 = .ok (.bipush 10, 2) := by decide +kernel
theorem d_Sy_init_101 : decode b_Sy_init 101 = .ok (.newarray .long, 2) := by decide +kernel
theorem d_Sy_init_103 : decode b_Sy_init 103 = .ok (.putfield 66, 3) := by decide +kernel
theorem d_Sy_init_106 : decode b_Sy_init 106 = .ok (.return_, 1) := by decide +kernel
abbrev b_Sy_advance : ByteArray := prog_13_method_5_code
def y_Sy_advance : MethodName := ⟨"DrawingHouse$Styler", "advance", "()V"⟩
abbrev z_Sy_advance : List Cond := Cond.code y_Sy_advance b_Sy_advance 2 none :: lw_g
theorem d_Sy_advance_0 : decode b_Sy_advance 0 = .ok (.aload_n 0, 1) := by decide +kernel
theorem d_Sy_advance_1 : decode b_Sy_advance 1 = .ok (.getfield 28, 3) := by decide +kernel
theorem d_Sy_advance_4 : decode b_Sy_advance 4 = .ok (.aload_n 0, 1) := by decide +kernel
theorem d_Sy_advance_5 : decode b_Sy_advance 5 = .ok (.getfield 25, 3) := by decide +kernel
theorem d_Sy_advance_8 : decode b_Sy_advance 8 = .ok (.if_icmp .ge 44, 3) := by decide +kernel
theorem d_Sy_advance_52 : decode b_Sy_advance 52 = .ok (.aload_n 0, 1) := by decide +kernel
theorem d_Sy_advance_53 : decode b_Sy_advance 53 = .ok (.aload_n 0, 1) := by decide +kernel
theorem d_Sy_advance_54 : decode b_Sy_advance 54 = .ok (.getfield 28, 3) := by decide +kernel
theorem d_Sy_advance_57 : decode b_Sy_advance 57 = .ok (.putfield 34, 3) := by decide +kernel
theorem d_Sy_advance_60 : decode b_Sy_advance 60 = .ok (.aload_n 0, 1) := by decide +kernel
theorem d_Sy_advance_61 : decode b_Sy_advance 61 = .ok (.getfield 28, 3) := by decide +kernel
theorem d_Sy_advance_64 : decode b_Sy_advance 64 = .ok (.aload_n 0, 1) := by decide +kernel
theorem d_Sy_advance_65 : decode b_Sy_advance 65 = .ok (.getfield 25, 3) := by decide +kernel
theorem d_Sy_advance_68 : decode b_Sy_advance 68 = .ok (.if_icmp .lt 9, 3) := by decide +kernel
theorem d_Sy_advance_71 : decode b_Sy_advance 71 = .ok (.aload_n 0, 1) := by decide +kernel
theorem d_Sy_advance_72 : decode b_Sy_advance 72 = .ok (.iconst 0, 1) := by decide +kernel
theorem d_Sy_advance_73 : decode b_Sy_advance 73 = .ok (.putfield 31, 3) := by decide +kernel
theorem d_Sy_advance_76 : decode b_Sy_advance 76 = .ok (.return_, 1) := by decide +kernel
abbrev b_Sy_compile : ByteArray := prog_13_method_2_code
def y_Sy_compile : MethodName := ⟨"DrawingHouse$Styler", "compile", "([BI)Z"⟩
abbrev z_Sy_compile : List Cond := Cond.code y_Sy_compile b_Sy_compile 4 (some .boolean) :: lw_g
theorem d_Sy_compile_0 : decode b_Sy_compile 0 = .ok (.aload_n 0, 1) := by decide +kernel
theorem d_Sy_compile_1 : decode b_Sy_compile 1 = .ok (.aload_n 1, 1) := by decide +kernel
theorem d_Sy_compile_2 : decode b_Sy_compile 2 = .ok (.putfield 21, 3) := by decide +kernel
theorem d_Sy_compile_5 : decode b_Sy_compile 5 = .ok (.aload_n 0, 1) := by decide +kernel
theorem d_Sy_compile_6 : decode b_Sy_compile 6 = .ok (.iload_n 2, 1) := by decide +kernel
theorem d_Sy_compile_7 : decode b_Sy_compile 7 = .ok (.putfield 25, 3) := by decide +kernel
theorem d_Sy_compile_10 : decode b_Sy_compile 10 = .ok (.aload_n 0, 1) := by decide +kernel
theorem d_Sy_compile_11 : decode b_Sy_compile 11 = .ok (.iconst 0, 1) := by decide +kernel
theorem d_Sy_compile_12 : decode b_Sy_compile 12 = .ok (.putfield 28, 3) := by decide +kernel
theorem d_Sy_compile_15 : decode b_Sy_compile 15 = .ok (.aload_n 0, 1) := by decide +kernel
theorem d_Sy_compile_16 : decode b_Sy_compile 16 = .ok (.iconst 0, 1) := by decide +kernel
theorem d_Sy_compile_17 : decode b_Sy_compile 17 = .ok (.putfield 9, 3) := by decide +kernel
theorem d_Sy_compile_20 : decode b_Sy_compile 20 = .ok (.aload_n 0, 1) := by decide +kernel
theorem d_Sy_compile_21 : decode b_Sy_compile 21 = .ok (.iconst 0, 1) := by decide +kernel
theorem d_Sy_compile_22 : decode b_Sy_compile 22 = .ok (.putfield 50, 3) := by decide +kernel
theorem d_Sy_compile_25 : decode b_Sy_compile 25 = .ok (.aload_n 0, 1) := by decide +kernel
theorem d_Sy_compile_26 : decode b_Sy_compile 26 = .ok (.iconst 0, 1) := by decide +kernel
theorem d_Sy_compile_27 : decode b_Sy_compile 27 = .ok (.putfield 15, 3) := by decide +kernel
theorem d_Sy_compile_30 : decode b_Sy_compile 30 = .ok (.aload_n 0, 1) := by decide +kernel
theorem d_Sy_compile_31 : decode b_Sy_compile 31 = .ok (.iconst (-1), 1) := by decide +kernel
theorem d_Sy_compile_32 : decode b_Sy_compile 32 = .ok (.putfield 18, 3) := by decide +kernel
theorem d_Sy_compile_35 : decode b_Sy_compile 35 = .ok (.aload_n 0, 1) := by decide +kernel
theorem d_Sy_compile_36 : decode b_Sy_compile 36 = .ok (.invokevirtual 69, 3) := by decide +kernel
theorem d_Sy_compile_39 : decode b_Sy_compile 39 = .ok (.iconst 0, 1) := by decide +kernel
theorem d_Sy_compile_40 : decode b_Sy_compile 40 = .ok (.istore_n 3, 1) := by decide +kernel
theorem d_Sy_compile_41 : decode b_Sy_compile 41 = .ok (.iload_n 3, 1) := by decide +kernel
theorem d_Sy_compile_42 : decode b_Sy_compile 42 = .ok (.bipush 112, 2) := by decide +kernel
theorem d_Sy_compile_44 : decode b_Sy_compile 44 = .ok (.if_icmp .ge 25, 3) := by decide +kernel
theorem d_Sy_compile_47 : decode b_Sy_compile 47 = .ok (.aload_n 0, 1) := by decide +kernel
theorem d_Sy_compile_48 : decode b_Sy_compile 48 = .ok (.getfield 31, 3) := by decide +kernel
theorem d_Sy_compile_51 : decode b_Sy_compile 51 = .ok (.ifCond .eq 18, 3) := by decide +kernel
theorem d_Sy_compile_69 : decode b_Sy_compile 69 = .ok (.aload_n 0, 1) := by decide +kernel
theorem d_Sy_compile_70 : decode b_Sy_compile 70 = .ok (.getfield 53, 3) := by decide +kernel
theorem d_Sy_compile_73 : decode b_Sy_compile 73 = .ok (.aload_n 0, 1) := by decide +kernel
theorem d_Sy_compile_74 : decode b_Sy_compile 74 = .ok (.getfield 9, 3) := by decide +kernel
theorem d_Sy_compile_77 : decode b_Sy_compile 77 = .ok (.aload_n 0, 1) := by decide +kernel
theorem d_Sy_compile_78 : decode b_Sy_compile 78 = .ok (.getfield 50, 3) := by decide +kernel
theorem d_Sy_compile_81 : decode b_Sy_compile 81 = .ok (.iastore, 1) := by decide +kernel
theorem d_Sy_compile_82 : decode b_Sy_compile 82 = .ok (.iconst 1, 1) := by decide +kernel
theorem d_Sy_compile_83 : decode b_Sy_compile 83 = .ok (.ireturn, 1) := by decide +kernel
abbrev b_Sy_apply : ByteArray := prog_13_method_18_code
def y_Sy_apply : MethodName := ⟨"DrawingHouse$Styler", "apply", "(LDrawingHouse$Graph;LDrawingHouse$Facts;LDrawingHouse$Drawing;)V"⟩
abbrev z_Sy_apply : List Cond := Cond.code y_Sy_apply b_Sy_apply 5 none :: lw_g
theorem d_Sy_apply_0 : decode b_Sy_apply 0 = .ok (.aload_n 3, 1) := by decide +kernel
theorem d_Sy_apply_1 : decode b_Sy_apply 1 = .ok (.getfield 161, 3) := by decide +kernel
theorem d_Sy_apply_4 : decode b_Sy_apply 4 = .ok (.iconst 0, 1) := by decide +kernel
theorem d_Sy_apply_5 : decode b_Sy_apply 5 = .ok (.invokestatic 166, 3) := by decide +kernel
theorem d_Sy_apply_8 : decode b_Sy_apply 8 = .ok (.iconst 0, 1) := by decide +kernel
theorem d_Sy_apply_9 : decode b_Sy_apply 9 = .ok (.istore 4, 2) := by decide +kernel
theorem d_Sy_apply_11 : decode b_Sy_apply 11 = .ok (.iload 4, 2) := by decide +kernel
theorem d_Sy_apply_13 : decode b_Sy_apply 13 = .ok (.aload_n 1, 1) := by decide +kernel
theorem d_Sy_apply_14 : decode b_Sy_apply 14 = .ok (.getfield 172, 3) := by decide +kernel
theorem d_Sy_apply_17 : decode b_Sy_apply 17 = .ok (.if_icmp .ge 31, 3) := by decide +kernel
theorem d_Sy_apply_48 : decode b_Sy_apply 48 = .ok (.iconst 0, 1) := by decide +kernel
theorem d_Sy_apply_49 : decode b_Sy_apply 49 = .ok (.istore 4, 2) := by decide +kernel
theorem d_Sy_apply_51 : decode b_Sy_apply 51 = .ok (.iload 4, 2) := by decide +kernel
theorem d_Sy_apply_53 : decode b_Sy_apply 53 = .ok (.aload_n 1, 1) := by decide +kernel
theorem d_Sy_apply_54 : decode b_Sy_apply 54 = .ok (.getfield 185, 3) := by decide +kernel
theorem d_Sy_apply_57 : decode b_Sy_apply 57 = .ok (.if_icmp .ge 34, 3) := by decide +kernel
theorem d_Sy_apply_91 : decode b_Sy_apply 91 = .ok (.return_, 1) := by decide +kernel
abbrev b_Mo_styleTokens : ByteArray := prog_15_method_212_code
def y_Mo_styleTokens : MethodName := ⟨"DrawingHouseModel", "styleTokens", "(I)V"⟩
abbrev z_Mo_styleTokens : List Cond := Cond.code y_Mo_styleTokens b_Mo_styleTokens 9 none :: lw_g
theorem d_Mo_styleTokens_0 : decode b_Mo_styleTokens 0 = .ok (.aload_n 0, 1) := by decide +kernel
theorem d_Mo_styleTokens_1 : decode b_Mo_styleTokens 1 = .ok (.iconst 0, 1) := by decide +kernel
theorem d_Mo_styleTokens_2 : decode b_Mo_styleTokens 2 = .ok (.putfield 1160, 3) := by decide +kernel
theorem d_Mo_styleTokens_5 : decode b_Mo_styleTokens 5 = .ok (.aload_n 0, 1) := by decide +kernel
theorem d_Mo_styleTokens_6 : decode b_Mo_styleTokens 6 = .ok (.iload_n 1, 1) := by decide +kernel
theorem d_Mo_styleTokens_7 : decode b_Mo_styleTokens 7 = .ok (.putfield 419, 3) := by decide +kernel
theorem d_Mo_styleTokens_10 : decode b_Mo_styleTokens 10 = .ok (.aload_n 0, 1) := by decide +kernel
theorem d_Mo_styleTokens_11 : decode b_Mo_styleTokens 11 = .ok (.iconst 0, 1) := by decide +kernel
theorem d_Mo_styleTokens_12 : decode b_Mo_styleTokens 12 = .ok (.putfield 422, 3) := by decide +kernel
theorem d_Mo_styleTokens_15 : decode b_Mo_styleTokens 15 = .ok (.iconst 1, 1) := by decide +kernel
theorem d_Mo_styleTokens_16 : decode b_Mo_styleTokens 16 = .ok (.istore_n 2, 1) := by decide +kernel
theorem d_Mo_styleTokens_17 : decode b_Mo_styleTokens 17 = .ok (.iload_n 2, 1) := by decide +kernel
theorem d_Mo_styleTokens_18 : decode b_Mo_styleTokens 18 = .ok (.ifCond .eq 421, 3) := by decide +kernel
theorem d_Mo_styleTokens_21 : decode b_Mo_styleTokens 21 = .ok (.aload_n 0, 1) := by decide +kernel
theorem d_Mo_styleTokens_22 : decode b_Mo_styleTokens 22 = .ok (.aload_n 0, 1) := by decide +kernel
theorem d_Mo_styleTokens_23 : decode b_Mo_styleTokens 23 = .ok (.getfield 422, 3) := by decide +kernel
theorem d_Mo_styleTokens_26 : decode b_Mo_styleTokens 26 = .ok (.invokevirtual 425, 3) := by decide +kernel
theorem d_Mo_styleTokens_29 : decode b_Mo_styleTokens 29 = .ok (.bipush 32, 2) := by decide +kernel
theorem d_Mo_styleTokens_31 : decode b_Mo_styleTokens 31 = .ok (.if_icmp .eq 16, 3) := by decide +kernel
theorem d_Mo_styleTokens_34 : decode b_Mo_styleTokens 34 = .ok (.aload_n 0, 1) := by decide +kernel
theorem d_Mo_styleTokens_35 : decode b_Mo_styleTokens 35 = .ok (.aload_n 0, 1) := by decide +kernel
theorem d_Mo_styleTokens_36 : decode b_Mo_styleTokens 36 = .ok (.getfield 422, 3) := by decide +kernel
theorem d_Mo_styleTokens_39 : decode b_Mo_styleTokens 39 = .ok (.invokevirtual 425, 3) := by decide +kernel
theorem d_Mo_styleTokens_42 : decode b_Mo_styleTokens 42 = .ok (.bipush 10, 2) := by decide +kernel
theorem d_Mo_styleTokens_44 : decode b_Mo_styleTokens 44 = .ok (.if_icmp .ne 16, 3) := by decide +kernel
theorem d_Mo_styleTokens_60 : decode b_Mo_styleTokens 60 = .ok (.aload_n 0, 1) := by decide +kernel
theorem d_Mo_styleTokens_61 : decode b_Mo_styleTokens 61 = .ok (.aload_n 0, 1) := by decide +kernel
theorem d_Mo_styleTokens_62 : decode b_Mo_styleTokens 62 = .ok (.getfield 422, 3) := by decide +kernel
theorem d_Mo_styleTokens_65 : decode b_Mo_styleTokens 65 = .ok (.invokevirtual 425, 3) := by decide +kernel
theorem d_Mo_styleTokens_68 : decode b_Mo_styleTokens 68 = .ok (.istore_n 3, 1) := by decide +kernel
theorem d_Mo_styleTokens_69 : decode b_Mo_styleTokens 69 = .ok (.aload_n 0, 1) := by decide +kernel
theorem d_Mo_styleTokens_70 : decode b_Mo_styleTokens 70 = .ok (.getfield 422, 3) := by decide +kernel
theorem d_Mo_styleTokens_73 : decode b_Mo_styleTokens 73 = .ok (.istore 4, 2) := by decide +kernel
theorem d_Mo_styleTokens_75 : decode b_Mo_styleTokens 75 = .ok (.iconst 4, 1) := by decide +kernel
theorem d_Mo_styleTokens_76 : decode b_Mo_styleTokens 76 = .ok (.istore 5, 2) := by decide +kernel
theorem d_Mo_styleTokens_78 : decode b_Mo_styleTokens 78 = .ok (.iload_n 3, 1) := by decide +kernel
theorem d_Mo_styleTokens_79 : decode b_Mo_styleTokens 79 = .ok (.i2l, 1) := by decide +kernel
theorem d_Mo_styleTokens_80 : decode b_Mo_styleTokens 80 = .ok (.lstore 6, 2) := by decide +kernel
theorem d_Mo_styleTokens_82 : decode b_Mo_styleTokens 82 = .ok (.iload_n 3, 1) := by decide +kernel
theorem d_Mo_styleTokens_83 : decode b_Mo_styleTokens 83 = .ok (.ifCond .ge 9, 3) := by decide +kernel
theorem d_Mo_styleTokens_86 : decode b_Mo_styleTokens 86 = .ok (.iconst 0, 1) := by decide +kernel
theorem d_Mo_styleTokens_87 : decode b_Mo_styleTokens 87 = .ok (.istore 5, 2) := by decide +kernel
theorem d_Mo_styleTokens_89 : decode b_Mo_styleTokens 89 = .ok (.goto 274, 3) := by decide +kernel
theorem d_Mo_styleTokens_363 : decode b_Mo_styleTokens 363 = .ok (.aload_n 0, 1) := by decide +kernel
theorem d_Mo_styleTokens_364 : decode b_Mo_styleTokens 364 = .ok (.getfield 342, 3) := by decide +kernel
theorem d_Mo_styleTokens_367 : decode b_Mo_styleTokens 367 = .ok (.aload_n 0, 1) := by decide +kernel
theorem d_Mo_styleTokens_368 : decode b_Mo_styleTokens 368 = .ok (.getfield 1160, 3) := by decide +kernel
theorem d_Mo_styleTokens_371 : decode b_Mo_styleTokens 371 = .ok (.iload 5, 2) := by decide +kernel
theorem d_Mo_styleTokens_373 : decode b_Mo_styleTokens 373 = .ok (.iastore, 1) := by decide +kernel
theorem d_Mo_styleTokens_374 : decode b_Mo_styleTokens 374 = .ok (.aload_n 0, 1) := by decide +kernel
theorem d_Mo_styleTokens_375 : decode b_Mo_styleTokens 375 = .ok (.getfield 345, 3) := by decide +kernel
theorem d_Mo_styleTokens_378 : decode b_Mo_styleTokens 378 = .ok (.aload_n 0, 1) := by decide +kernel
theorem d_Mo_styleTokens_379 : decode b_Mo_styleTokens 379 = .ok (.getfield 1160, 3) := by decide +kernel
theorem d_Mo_styleTokens_382 : decode b_Mo_styleTokens 382 = .ok (.lload 6, 2) := by decide +kernel
theorem d_Mo_styleTokens_384 : decode b_Mo_styleTokens 384 = .ok (.lastore, 1) := by decide +kernel
theorem d_Mo_styleTokens_385 : decode b_Mo_styleTokens 385 = .ok (.aload_n 0, 1) := by decide +kernel
theorem d_Mo_styleTokens_386 : decode b_Mo_styleTokens 386 = .ok (.getfield 348, 3) := by decide +kernel
theorem d_Mo_styleTokens_389 : decode b_Mo_styleTokens 389 = .ok (.aload_n 0, 1) := by decide +kernel
theorem d_Mo_styleTokens_390 : decode b_Mo_styleTokens 390 = .ok (.getfield 1160, 3) := by decide +kernel
theorem d_Mo_styleTokens_393 : decode b_Mo_styleTokens 393 = .ok (.iload 4, 2) := by decide +kernel
theorem d_Mo_styleTokens_395 : decode b_Mo_styleTokens 395 = .ok (.iastore, 1) := by decide +kernel
theorem d_Mo_styleTokens_396 : decode b_Mo_styleTokens 396 = .ok (.aload_n 0, 1) := by decide +kernel
theorem d_Mo_styleTokens_397 : decode b_Mo_styleTokens 397 = .ok (.getfield 351, 3) := by decide +kernel
theorem d_Mo_styleTokens_400 : decode b_Mo_styleTokens 400 = .ok (.aload_n 0, 1) := by decide +kernel
theorem d_Mo_styleTokens_401 : decode b_Mo_styleTokens 401 = .ok (.getfield 1160, 3) := by decide +kernel
theorem d_Mo_styleTokens_404 : decode b_Mo_styleTokens 404 = .ok (.aload_n 0, 1) := by decide +kernel
theorem d_Mo_styleTokens_405 : decode b_Mo_styleTokens 405 = .ok (.getfield 422, 3) := by decide +kernel
theorem d_Mo_styleTokens_408 : decode b_Mo_styleTokens 408 = .ok (.iastore, 1) := by decide +kernel
theorem d_Mo_styleTokens_409 : decode b_Mo_styleTokens 409 = .ok (.aload_n 0, 1) := by decide +kernel
theorem d_Mo_styleTokens_410 : decode b_Mo_styleTokens 410 = .ok (.dup, 1) := by decide +kernel
theorem d_Mo_styleTokens_411 : decode b_Mo_styleTokens 411 = .ok (.getfield 1160, 3) := by decide +kernel
theorem d_Mo_styleTokens_414 : decode b_Mo_styleTokens 414 = .ok (.iconst 1, 1) := by decide +kernel
theorem d_Mo_styleTokens_415 : decode b_Mo_styleTokens 415 = .ok (.iadd, 1) := by decide +kernel
theorem d_Mo_styleTokens_416 : decode b_Mo_styleTokens 416 = .ok (.putfield 1160, 3) := by decide +kernel
theorem d_Mo_styleTokens_419 : decode b_Mo_styleTokens 419 = .ok (.iload 5, 2) := by decide +kernel
theorem d_Mo_styleTokens_421 : decode b_Mo_styleTokens 421 = .ok (.ifCond .eq 13, 3) := by decide +kernel
theorem d_Mo_styleTokens_434 : decode b_Mo_styleTokens 434 = .ok (.iconst 0, 1) := by decide +kernel
theorem d_Mo_styleTokens_435 : decode b_Mo_styleTokens 435 = .ok (.istore_n 2, 1) := by decide +kernel
theorem d_Mo_styleTokens_436 : decode b_Mo_styleTokens 436 = .ok (.goto (-419), 3) := by decide +kernel
theorem d_Mo_styleTokens_439 : decode b_Mo_styleTokens 439 = .ok (.return_, 1) := by decide +kernel
abbrev b_Mo_turnEdges : ByteArray := prog_15_method_117_code
def y_Mo_turnEdges : MethodName := ⟨"DrawingHouseModel", "turnEdges", "()V"⟩
abbrev z_Mo_turnEdges : List Cond := Cond.code y_Mo_turnEdges b_Mo_turnEdges 4 none :: lw_g
theorem d_Mo_turnEdges_0 : decode b_Mo_turnEdges 0 = .ok (.aload_n 0, 1) := by decide +kernel
theorem d_Mo_turnEdges_1 : decode b_Mo_turnEdges 1 = .ok (.iconst 1, 1) := by decide +kernel
theorem d_Mo_turnEdges_2 : decode b_Mo_turnEdges 2 = .ok (.invokevirtual 719, 3) := by decide +kernel
theorem d_Mo_turnEdges_5 : decode b_Mo_turnEdges 5 = .ok (.istore_n 1, 1) := by decide +kernel
theorem d_Mo_turnEdges_6 : decode b_Mo_turnEdges 6 = .ok (.iconst 0, 1) := by decide +kernel
theorem d_Mo_turnEdges_7 : decode b_Mo_turnEdges 7 = .ok (.istore_n 2, 1) := by decide +kernel
theorem d_Mo_turnEdges_8 : decode b_Mo_turnEdges 8 = .ok (.iload_n 2, 1) := by decide +kernel
theorem d_Mo_turnEdges_9 : decode b_Mo_turnEdges 9 = .ok (.aload_n 0, 1) := by decide +kernel
theorem d_Mo_turnEdges_10 : decode b_Mo_turnEdges 10 = .ok (.invokevirtual 401, 3) := by decide +kernel
theorem d_Mo_turnEdges_13 : decode b_Mo_turnEdges 13 = .ok (.if_icmp .ge 16, 3) := by decide +kernel
theorem d_Mo_turnEdges_29 : decode b_Mo_turnEdges 29 = .ok (.iconst 0, 1) := by decide +kernel
theorem d_Mo_turnEdges_30 : decode b_Mo_turnEdges 30 = .ok (.istore_n 2, 1) := by decide +kernel
theorem d_Mo_turnEdges_31 : decode b_Mo_turnEdges 31 = .ok (.iload_n 2, 1) := by decide +kernel
theorem d_Mo_turnEdges_32 : decode b_Mo_turnEdges 32 = .ok (.iload_n 1, 1) := by decide +kernel
theorem d_Mo_turnEdges_33 : decode b_Mo_turnEdges 33 = .ok (.if_icmp .ge 170, 3) := by decide +kernel
theorem d_Mo_turnEdges_203 : decode b_Mo_turnEdges 203 = .ok (.return_, 1) := by decide +kernel
abbrev b_Mo_prepare : ByteArray := prog_15_method_218_code
def y_Mo_prepare : MethodName := ⟨"DrawingHouseModel", "prepare", "()V"⟩
abbrev z_Mo_prepare : List Cond := Cond.code y_Mo_prepare b_Mo_prepare 3 none :: lw_g
theorem d_Mo_prepare_0 : decode b_Mo_prepare 0 = .ok (.aload_n 0, 1) := by decide +kernel
theorem d_Mo_prepare_1 : decode b_Mo_prepare 1 = .ok (.invokevirtual 813, 3) := by decide +kernel
theorem d_Mo_prepare_4 : decode b_Mo_prepare 4 = .ok (.iconst 0, 1) := by decide +kernel
theorem d_Mo_prepare_5 : decode b_Mo_prepare 5 = .ok (.istore_n 1, 1) := by decide +kernel
theorem d_Mo_prepare_6 : decode b_Mo_prepare 6 = .ok (.iload_n 1, 1) := by decide +kernel
theorem d_Mo_prepare_7 : decode b_Mo_prepare 7 = .ok (.aload_n 0, 1) := by decide +kernel
theorem d_Mo_prepare_8 : decode b_Mo_prepare 8 = .ok (.invokevirtual 401, 3) := by decide +kernel
theorem d_Mo_prepare_11 : decode b_Mo_prepare 11 = .ok (.if_icmp .ge 21, 3) := by decide +kernel
theorem d_Mo_prepare_32 : decode b_Mo_prepare 32 = .ok (.aload_n 0, 1) := by decide +kernel
theorem d_Mo_prepare_33 : decode b_Mo_prepare 33 = .ok (.invokevirtual 689, 3) := by decide +kernel
theorem d_Mo_prepare_36 : decode b_Mo_prepare 36 = .ok (.aload_n 0, 1) := by decide +kernel
theorem d_Mo_prepare_37 : decode b_Mo_prepare 37 = .ok (.invokevirtual 668, 3) := by decide +kernel
theorem d_Mo_prepare_40 : decode b_Mo_prepare 40 = .ok (.istore_n 1, 1) := by decide +kernel
theorem d_Mo_prepare_41 : decode b_Mo_prepare 41 = .ok (.iconst 0, 1) := by decide +kernel
theorem d_Mo_prepare_42 : decode b_Mo_prepare 42 = .ok (.istore_n 2, 1) := by decide +kernel
theorem d_Mo_prepare_43 : decode b_Mo_prepare 43 = .ok (.iload_n 2, 1) := by decide +kernel
theorem d_Mo_prepare_44 : decode b_Mo_prepare 44 = .ok (.aload_n 0, 1) := by decide +kernel
theorem d_Mo_prepare_45 : decode b_Mo_prepare 45 = .ok (.invokevirtual 475, 3) := by decide +kernel
theorem d_Mo_prepare_48 : decode b_Mo_prepare 48 = .ok (.if_icmp .ge 31, 3) := by decide +kernel
theorem d_Mo_prepare_79 : decode b_Mo_prepare 79 = .ok (.aload_n 0, 1) := by decide +kernel
theorem d_Mo_prepare_80 : decode b_Mo_prepare 80 = .ok (.invokevirtual 475, 3) := by decide +kernel
theorem d_Mo_prepare_83 : decode b_Mo_prepare 83 = .ok (.ifCond .le 8, 3) := by decide +kernel
theorem d_Mo_prepare_91 : decode b_Mo_prepare 91 = .ok (.return_, 1) := by decide +kernel
theorem d_law_law_1077 : decode b_law_law 1077 = .ok (.aload_n 1, 1) := by decide +kernel
theorem d_law_law_1078 : decode b_law_law 1078 = .ok (.aload_n 0, 1) := by decide +kernel
theorem d_law_law_1079 : decode b_law_law 1079 = .ok (.iload_n 3, 1) := by decide +kernel
theorem d_law_law_1080 : decode b_law_law 1080 = .ok (.iconst 1, 1) := by decide +kernel
theorem d_law_law_1081 : decode b_law_law 1081 = .ok (.iadd, 1) := by decide +kernel
theorem d_law_law_1082 : decode b_law_law 1082 = .ok (.iaload, 1) := by decide +kernel
theorem d_law_law_1083 : decode b_law_law 1083 = .ok (.aload_n 0, 1) := by decide +kernel
theorem d_law_law_1084 : decode b_law_law 1084 = .ok (.iload_n 3, 1) := by decide +kernel
theorem d_law_law_1085 : decode b_law_law 1085 = .ok (.iconst 2, 1) := by decide +kernel
theorem d_law_law_1086 : decode b_law_law 1086 = .ok (.iadd, 1) := by decide +kernel
theorem d_law_law_1087 : decode b_law_law 1087 = .ok (.iaload, 1) := by decide +kernel
theorem d_law_law_1088 : decode b_law_law 1088 = .ok (.invokevirtual 109, 3) := by decide +kernel
theorem d_law_law_1091 : decode b_law_law 1091 = .ok (.aload_n 2, 1) := by decide +kernel
theorem d_law_law_1092 : decode b_law_law 1092 = .ok (.aload_n 0, 1) := by decide +kernel
theorem d_law_law_1093 : decode b_law_law 1093 = .ok (.iload_n 3, 1) := by decide +kernel
theorem d_law_law_1094 : decode b_law_law 1094 = .ok (.iconst 1, 1) := by decide +kernel
theorem d_law_law_1095 : decode b_law_law 1095 = .ok (.iadd, 1) := by decide +kernel
theorem d_law_law_1096 : decode b_law_law 1096 = .ok (.iaload, 1) := by decide +kernel
theorem d_law_law_1097 : decode b_law_law 1097 = .ok (.aload_n 0, 1) := by decide +kernel
theorem d_law_law_1098 : decode b_law_law 1098 = .ok (.iload_n 3, 1) := by decide +kernel
theorem d_law_law_1099 : decode b_law_law 1099 = .ok (.iconst 2, 1) := by decide +kernel
theorem d_law_law_1100 : decode b_law_law 1100 = .ok (.iadd, 1) := by decide +kernel
theorem d_law_law_1101 : decode b_law_law 1101 = .ok (.iaload, 1) := by decide +kernel
theorem d_law_law_1102 : decode b_law_law 1102 = .ok (.invokevirtual 112, 3) := by decide +kernel
theorem d_law_law_1105 : decode b_law_law 1105 = .ok (.if_icmp .eq 190, 3) := by decide +kernel
abbrev f0Sy : List Value := [.int 0, .int 0, .int 0, .null, .int 0, .int 0, .int 0, .int 0, .int 0, .null, .null, .int 0, .null, .null, .null, .int 0, .null]
set_option maxRecDepth 20000 in
theorem f0Sy_ok : ∀ j, j < 17 → defaultValue (t_Sy j) = vp_V f0Sy j := by decide +kernel
set_option maxRecDepth 100000 in
set_option maxHeartbeats 4000000 in
/-- DrawingHouse.style(II)I -/
theorem c_Ho_style_z1 (l : Launch) (D : va_G) (kA : Nat → ClassId) (a0 : Nat) (v1 : Int32) (v2 : Int32) (hg : sp_Ho_isPlace v1 = 0) (hgM : sp_Mo_isPlace v1 = 0) : Ci l y_Ho_style z_Ho_style { frames := 1, cells := 0, slots := 0, locals := 20 } D classes (TY kA) [.ref a0, .int v1, .int v2] [] (fun r (_ : List va_W) => r = (-2)) (fun u => u) 0 0 := by
  intro sz
  refine k_met (cc := b_Ho_style) (maxL := 4) (ret := (some .int)) (by decide) rfl (Nat.le_of_ble_eq_true rfl) (fun p e s m below meth c ls X hl hB => ?_)
  obtain ⟨hsz, hP, hK, hD0, hN⟩ := hB
  subst hsz
  have hD := hD0.self (sz := s.heap.size)
  generalize hAe : va_A (cat []) s.heap.size = A at hD ⊢
  have hA : ∀ q : Nat, s.heap.size ≤ q → A q := fun q h => by rw [← hAe]; exact Or.inr h
  have hS : va_S A s.heap s.heap [] := va_S.rf
  obtain ⟨hx, hb, hml, hown, hts, hr, hlk, hnm⟩ := id X
  have hl : lv_has ls 4 [(0, .ref a0), (1, .int v1), (2, .int v2)] := hl
  have hP : va_P D classes (cat []) s.heap := hP
  have hK : va_K D classes (TY kA) s := hK
  refine lv_iload_n (pc := 0) hx hb d_Ho_style_0 rfl (lv_at hl 1 rfl) ?_
  refine k_goI (gr := []) (k_rS (pc := 1) (As := [.int v1]) (rest := []) X (c_Ho_isPlace l D kA v1 s.heap.size) rfl wm_633 wm_1 wm_631 wm_632 1 (by decide +kernel) ⟨Nat.le_of_ble_eq_true rfl, Nat.le_of_ble_eq_true rfl⟩ rfl rfl (k_pre hN hK hP hD [] [] 0 rfl (by decide) rfl) rfl hl.1 rfl (Nat.le_of_ble_eq_true rfl) d_Ho_style_1 ⟨Nat.le_of_ble_eq_true rfl, Nat.le_of_ble_eq_true rfl⟩) hP hD hS hA [] [] 0 rfl (by decide) rfl rfl (fun r1 u2 H locs hu2 hP hD hS => ?_)
  subst hu2
  have hP : va_P D classes (cat []) H := hP
  have hD : va_D A (cat []) := hD
  refine lv_if_eq (pc := 4) (tgt := 22) hx hb d_Ho_style_4 (by decide) (fun c1 => ?_) (fun c1 => absurd (hg) c1)
  refine lv_bipush (pc := 22) (v := -2) hx hb d_Ho_style_22 (by decide) ?_
  refine W.widen (k := 0) (n := 0) (Nat.le_of_ble_eq_true rfl) (Nat.le_of_ble_eq_true rfl) ?_
  exact W.iret (v := (-2)) hx hb hr (fun t ht hW => ⟨⟨(-2), [], rfl, rfl, by rw [ht]; exact hP, va_K.moved hW.alike hK, hD⟩, hS.F ht⟩) hS.2.2 d_Ho_style_24
set_option maxRecDepth 100000 in
set_option maxHeartbeats 4000000 in
/-- DrawingHouseModel.style(II)I -/
theorem c_Mo_style_z1 (l : Launch) (D : va_G) (kA : Nat → ClassId) (a0 : Nat) (v1 : Int32) (v2 : Int32) (hg : sp_Ho_isPlace v1 = 0) (hgM : sp_Mo_isPlace v1 = 0) : Ci l y_Mo_style z_Mo_style { frames := 2, cells := 0, slots := 0, locals := 42 } D classes (TY kA) [.ref a0, .int v1, .int v2] [] (fun r (_ : List va_W) => r = (-2)) (fun u => u) 0 0 := by
  intro sz
  refine k_met (cc := b_Mo_style) (maxL := 6) (ret := (some .int)) (by decide) rfl (Nat.le_of_ble_eq_true rfl) (fun p e s m below meth c ls X hl hB => ?_)
  obtain ⟨hsz, hP, hK, hD0, hN⟩ := hB
  subst hsz
  have hD := hD0.self (sz := s.heap.size)
  generalize hAe : va_A (cat []) s.heap.size = A at hD ⊢
  have hA : ∀ q : Nat, s.heap.size ≤ q → A q := fun q h => by rw [← hAe]; exact Or.inr h
  have hS : va_S A s.heap s.heap [] := va_S.rf
  obtain ⟨hx, hb, hml, hown, hts, hr, hlk, hnm⟩ := id X
  have hl : lv_has ls 6 [(0, .ref a0), (1, .int v1), (2, .int v2)] := hl
  have hP : va_P D classes (cat []) s.heap := hP
  have hK : va_K D classes (TY kA) s := hK
  refine lv_iload_n (pc := 0) hx hb d_Mo_style_0 rfl (lv_at hl 1 rfl) ?_
  refine k_goI (gr := []) (k_rS (pc := 1) (As := [.int v1]) (rest := []) X (c_Mo_isPlace l D kA v1 s.heap.size) rfl wm_2978 wm_9 wm_2976 wm_2977 1 (by decide +kernel) ⟨Nat.le_of_ble_eq_true rfl, Nat.le_of_ble_eq_true rfl⟩ rfl rfl (k_pre hN hK hP hD [] [] 0 rfl (by decide) rfl) rfl hl.1 rfl (Nat.le_of_ble_eq_true rfl) d_Mo_style_1 ⟨Nat.le_of_ble_eq_true rfl, Nat.le_of_ble_eq_true rfl⟩) hP hD hS hA [] [] 0 rfl (by decide) rfl rfl (fun r1 u2 H locs hu2 hP hD hS => ?_)
  subst hu2
  have hP : va_P D classes (cat []) H := hP
  have hD : va_D A (cat []) := hD
  refine lv_if_eq (pc := 4) (tgt := 19) hx hb d_Mo_style_4 (by decide) (fun c1 => ?_) (fun c1 => absurd (hgM) c1)
  refine lv_bipush (pc := 19) (v := -2) hx hb d_Mo_style_19 (by decide) ?_
  refine W.widen (k := 0) (n := 0) (Nat.le_of_ble_eq_true rfl) (Nat.le_of_ble_eq_true rfl) ?_
  exact W.iret (v := (-2)) hx hb hr (fun t ht hW => ⟨⟨(-2), [], rfl, rfl, by rw [ht]; exact hP, va_K.moved hW.alike hK, hD⟩, hS.F ht⟩) hS.2.2 d_Mo_style_21
set_option maxRecDepth 100000 in
set_option maxHeartbeats 4000000 in
/-- style, a fresh house -/
theorem lf_style_1 {p : Program} {e : Env} {s : State} {m : MethodId} {below : List Frame} {meth : Method} {c : Code} (l : Launch) {b : Nat} {xs : Nat → Int32} (C0 : lw_At p s m meth c b 6 xs) {D : va_G} {kA : Nat → ClassId} (h : Nat) (h2 : Nat) (q : Nat → Nat) (qm : Nat → Nat) (v1 : Int32) (v2 : Int32) (hg : sp_Ho_isPlace v1 = 0) (hgM : sp_Mo_isPlace v1 = 0) (hv1 : xs 1 = v1) (hv2 : xs 2 = v2) {H : Heap} {locs : List Loc} {ls : Array Slot} (hK : va_K D classes (TY kA) s) (hN : nst s) (hP : va_P D classes (cat [[(h, .inr (12, [.ref (q 0), .ref (q 1), .ref (q 2), .ref (q 3), .ref (q 4), .ref (q 5), .ref (q 6), .int 0, .int ((-1)), .ref (q 9), .ref (q 10), .int 0, .int 0, .ref (q 13), .int 0, .int 0, .null, .null, .null, .null, .null]))], [(h2, .inr (13, mF qm x0Mo y0Mo))]]) H) (hD : va_D (fun q : Nat => s.heap.size ≤ q) (cat [[(h, .inr (12, [.ref (q 0), .ref (q 1), .ref (q 2), .ref (q 3), .ref (q 4), .ref (q 5), .ref (q 6), .int 0, .int ((-1)), .ref (q 9), .ref (q 10), .int 0, .int 0, .ref (q 13), .int 0, .int 0, .null, .null, .null, .null, .null]))], [(h2, .inr (13, mF qm x0Mo y0Mo))]])) (hS : va_S (fun q : Nat => s.heap.size ≤ q) s.heap H locs) (hl : lv_has ls 4 [(3, .int 0), (2, .ref h2), (1, .ref h), (0, .ref b)]) : W p l e room_1 s m #[Value.ref b] below meth c H locs 368 365796 (lw_Z below #[Value.ref b] s) (F0 m 1077 ls []) := by
  obtain ⟨hx, hb, hr, hml, hown, hts0, hX, hbl, hlocks, hgv⟩ := id C0
  have hts : ∀ w ∈ lw_g, w.before #[Value.ref b] s = true := fun w h => hts0 w (lw_gt h)
  have X : cx p s m #[Value.ref b] meth c b_law_law 4 ret "DrawingHouseLaw" meth.name := ⟨hx, hb, hml, hown, hts, hr, hlocks, rfl⟩
  obtain ⟨A, hAe⟩ : ∃ A : Nat → Prop, A = fun q : Nat => s.heap.size ≤ q := ⟨_, rfl⟩
  have hA : ∀ q : Nat, s.heap.size ≤ q → A q := fun q h => by rw [hAe]; exact h
  have hbA : ¬ A b := by rw [hAe]; exact Nat.not_le.mpr hbl
  rw [← hAe] at hD hS
  refine lv_aload_n (pc := 1077) hx hb d_law_law_1077 rfl (lv_at hl 2 rfl) ?_
  refine lv_aload_n (pc := 1078) hx hb d_law_law_1078 rfl (lv_at hl 3 rfl) ?_
  refine lv_iload_n (pc := 1079) hx hb d_law_law_1079 rfl (lv_at hl 0 rfl) ?_
  refine lv_iconst (pc := 1080) (v := 1) hx hb d_law_law_1080 (by decide) ?_
  refine lv_iadd (pc := 1081) hx hb d_law_law_1081 ?_
  refine k_cst (v := 1) (by decide) ?_
  refine va_sld (pc := 1082) hx hb hX hbl hbA hS (by unfold vp_in; decide) d_law_law_1082 ?_
  refine k_cst (v := v1) hv1 ?_
  refine lv_aload_n (pc := 1083) hx hb d_law_law_1083 rfl (lv_at hl 3 rfl) ?_
  refine lv_iload_n (pc := 1084) hx hb d_law_law_1084 rfl (lv_at hl 0 rfl) ?_
  refine lv_iconst (pc := 1085) (v := 2) hx hb d_law_law_1085 (by decide) ?_
  refine lv_iadd (pc := 1086) hx hb d_law_law_1086 ?_
  refine k_cst (v := 2) (by decide) ?_
  refine va_sld (pc := 1087) hx hb hX hbl hbA hS (by unfold vp_in; decide) d_law_law_1087 ?_
  refine k_cst (v := v2) hv2 ?_
  refine k_goI (gr := [[(h, .inr (12, [.ref (q 0), .ref (q 1), .ref (q 2), .ref (q 3), .ref (q 4), .ref (q 5), .ref (q 6), .int 0, .int ((-1)), .ref (q 9), .ref (q 10), .int 0, .int 0, .ref (q 13), .int 0, .int 0, .null, .null, .null, .null, .null]))], [(h2, .inr (13, mF qm x0Mo y0Mo))]]) (k_rV (pc := 1088) (As := [.int v1, .int v2]) (rest := []) X (c_Ho_style_z1 l D kA h v1 v2 hg hgM H.size) rfl wm_2088 wm_1 wm_2085 wm_2086 wm_2087 2 (by decide +kernel) ⟨Nat.le_of_ble_eq_true rfl, Nat.le_of_ble_eq_true rfl⟩ rfl rfl (va_recv hK hP (ci := 12) (q0 := 0) rfl rfl) (k_pre hN hK hP hD [] [0, 1] 2 rfl (by decide) rfl) rfl hl.1 rfl (Nat.le_of_ble_eq_true rfl) d_law_law_1088 ⟨Nat.le_of_ble_eq_true rfl, Nat.le_of_ble_eq_true rfl⟩) hP hD hS hA [] [0, 1] 2 rfl (by decide) rfl rfl (fun r1 u2 H locs hu2 hP hD hS => ?_)
  obtain ⟨hP, hD⟩ := k_left hP hD
  subst hu2
  have hP : va_P D classes (cat [[(h, .inr (12, [.ref (q 0), .ref (q 1), .ref (q 2), .ref (q 3), .ref (q 4), .ref (q 5), .ref (q 6), .int 0, .int ((-1)), .ref (q 9), .ref (q 10), .int 0, .int 0, .ref (q 13), .int 0, .int 0, .null, .null, .null, .null, .null]))], [(h2, .inr (13, mF qm x0Mo y0Mo))]]) H := hP
  have hD : va_D A (cat [[(h, .inr (12, [.ref (q 0), .ref (q 1), .ref (q 2), .ref (q 3), .ref (q 4), .ref (q 5), .ref (q 6), .int 0, .int ((-1)), .ref (q 9), .ref (q 10), .int 0, .int 0, .ref (q 13), .int 0, .int 0, .null, .null, .null, .null, .null]))], [(h2, .inr (13, mF qm x0Mo y0Mo))]]) := hD
  refine lv_aload_n (pc := 1091) hx hb d_law_law_1091 rfl (lv_at hl 1 rfl) ?_
  refine lv_aload_n (pc := 1092) hx hb d_law_law_1092 rfl (lv_at hl 3 rfl) ?_
  refine lv_iload_n (pc := 1093) hx hb d_law_law_1093 rfl (lv_at hl 0 rfl) ?_
  refine lv_iconst (pc := 1094) (v := 1) hx hb d_law_law_1094 (by decide) ?_
  refine lv_iadd (pc := 1095) hx hb d_law_law_1095 ?_
  refine k_cst (v := 1) (by decide) ?_
  refine va_sld (pc := 1096) hx hb hX hbl hbA hS (by unfold vp_in; decide) d_law_law_1096 ?_
  refine k_cst (v := v1) hv1 ?_
  refine lv_aload_n (pc := 1097) hx hb d_law_law_1097 rfl (lv_at hl 3 rfl) ?_
  refine lv_iload_n (pc := 1098) hx hb d_law_law_1098 rfl (lv_at hl 0 rfl) ?_
  refine lv_iconst (pc := 1099) (v := 2) hx hb d_law_law_1099 (by decide) ?_
  refine lv_iadd (pc := 1100) hx hb d_law_law_1100 ?_
  refine k_cst (v := 2) (by decide) ?_
  refine va_sld (pc := 1101) hx hb hX hbl hbA hS (by unfold vp_in; decide) d_law_law_1101 ?_
  refine k_cst (v := v2) hv2 ?_
  refine k_goI (gr := [[(h, .inr (12, [.ref (q 0), .ref (q 1), .ref (q 2), .ref (q 3), .ref (q 4), .ref (q 5), .ref (q 6), .int 0, .int ((-1)), .ref (q 9), .ref (q 10), .int 0, .int 0, .ref (q 13), .int 0, .int 0, .null, .null, .null, .null, .null]))], [(h2, .inr (13, mF qm x0Mo y0Mo))]]) (k_rV (pc := 1102) (As := [.int v1, .int v2]) (rest := [.int ((-2))]) X (c_Mo_style_z1 l D kA h2 v1 v2 hg hgM H.size) rfl wm_3794 wm_9 wm_3791 wm_3792 wm_3793 2 (by decide +kernel) ⟨Nat.le_of_ble_eq_true rfl, Nat.le_of_ble_eq_true rfl⟩ rfl rfl (va_recv hK hP (ci := 13) (q0 := 1) rfl rfl) (k_pre hN hK hP hD [] [0, 1] 2 rfl (by decide) rfl) rfl hl.1 rfl (Nat.le_of_ble_eq_true rfl) d_law_law_1102 ⟨Nat.le_of_ble_eq_true rfl, Nat.le_of_ble_eq_true rfl⟩) hP hD hS hA [] [0, 1] 2 rfl (by decide) rfl rfl (fun r3 u4 H locs hu4 hP hD hS => ?_)
  obtain ⟨hP, hD⟩ := k_left hP hD
  subst hu4
  have hP : va_P D classes (cat [[(h, .inr (12, [.ref (q 0), .ref (q 1), .ref (q 2), .ref (q 3), .ref (q 4), .ref (q 5), .ref (q 6), .int 0, .int ((-1)), .ref (q 9), .ref (q 10), .int 0, .int 0, .ref (q 13), .int 0, .int 0, .null, .null, .null, .null, .null]))], [(h2, .inr (13, mF qm x0Mo y0Mo))]]) H := hP
  have hD : va_D A (cat [[(h, .inr (12, [.ref (q 0), .ref (q 1), .ref (q 2), .ref (q 3), .ref (q 4), .ref (q 5), .ref (q 6), .int 0, .int ((-1)), .ref (q 9), .ref (q 10), .int 0, .int 0, .ref (q 13), .int 0, .int 0, .null, .null, .null, .null, .null]))], [(h2, .inr (13, mF qm x0Mo y0Mo))]]) := hD
  refine lv_icmp_eq (pc := 1105) (tgt := 1295) hx hb d_law_law_1105 (by decide) (fun _ => ?_) (fun c1 => absurd (by decide) c1)
  rw [hAe] at hS
  exact law_exit l C0 (Nat.le_of_ble_eq_true rfl) (Nat.le_of_ble_eq_true rfl) hS hl
set_option maxRecDepth 100000 in
set_option maxHeartbeats 4000000 in
/-- DrawingHouse.style(II)I -/
theorem c_Ho_style_z2 (l : Launch) (D : va_G) (kA : Nat → ClassId) (a0 : Nat) (j : Nat) (v2 : Int32) (hj : j < 4) (hn2 : v2 < 0) : Ci l y_Ho_style z_Ho_style { frames := 1, cells := 0, slots := 0, locals := 20 } D classes (TY kA) [.ref a0, .int (nI j), .int v2] [] (fun r (_ : List va_W) => r = (-2)) (fun u => u) 0 0 := by
  intro sz
  refine k_met (cc := b_Ho_style) (maxL := 4) (ret := (some .int)) (by decide) rfl (Nat.le_of_ble_eq_true rfl) (fun p e s m below meth c ls X hl hB => ?_)
  obtain ⟨hsz, hP, hK, hD0, hN⟩ := hB
  subst hsz
  have hD := hD0.self (sz := s.heap.size)
  generalize hAe : va_A (cat []) s.heap.size = A at hD ⊢
  have hA : ∀ q : Nat, s.heap.size ≤ q → A q := fun q h => by rw [← hAe]; exact Or.inr h
  have hS : va_S A s.heap s.heap [] := va_S.rf
  obtain ⟨hx, hb, hml, hown, hts, hr, hlk, hnm⟩ := id X
  have hl : lv_has ls 4 [(0, .ref a0), (1, .int (nI j)), (2, .int v2)] := hl
  have hP : va_P D classes (cat []) s.heap := hP
  have hK : va_K D classes (TY kA) s := hK
  refine lv_iload_n (pc := 0) hx hb d_Ho_style_0 rfl (lv_at hl 1 rfl) ?_
  refine k_goI (gr := []) (k_rS (pc := 1) (As := [.int (nI j)]) (rest := []) X (c_Ho_isPlace l D kA (nI j) s.heap.size) rfl wm_633 wm_1 wm_631 wm_632 1 (by decide +kernel) ⟨Nat.le_of_ble_eq_true rfl, Nat.le_of_ble_eq_true rfl⟩ rfl rfl (k_pre hN hK hP hD [] [] 0 rfl (by decide) rfl) rfl hl.1 rfl (Nat.le_of_ble_eq_true rfl) d_Ho_style_1 ⟨Nat.le_of_ble_eq_true rfl, Nat.le_of_ble_eq_true rfl⟩) hP hD hS hA [] [] 0 rfl (by decide) rfl rfl (fun r1 u2 H locs hu2 hP hD hS => ?_)
  subst hu2
  refine k_cst (v := 1) (place_ok hj) ?_
  have hP : va_P D classes (cat []) H := hP
  have hD : va_D A (cat []) := hD
  refine lv_if_eq (pc := 4) (tgt := 22) hx hb d_Ho_style_4 (by decide) (fun c1 => absurd c1 (by decide)) (fun c1 => ?_)
  refine lv_iload_n (pc := 7) hx hb d_Ho_style_7 rfl (lv_at hl 2 rfl) ?_
  refine lv_if_lt (pc := 8) (tgt := 22) hx hb d_Ho_style_8 (by decide) (fun c1 => ?_) (fun c1 => absurd (hn2) c1)
  refine lv_bipush (pc := 22) (v := -2) hx hb d_Ho_style_22 (by decide) ?_
  refine W.widen (k := 0) (n := 0) (Nat.le_of_ble_eq_true rfl) (Nat.le_of_ble_eq_true rfl) ?_
  exact W.iret (v := (-2)) hx hb hr (fun t ht hW => ⟨⟨(-2), [], rfl, rfl, by rw [ht]; exact hP, va_K.moved hW.alike hK, hD⟩, hS.F ht⟩) hS.2.2 d_Ho_style_24
set_option maxRecDepth 100000 in
set_option maxHeartbeats 4000000 in
/-- DrawingHouseModel.style(II)I -/
theorem c_Mo_style_z2 (l : Launch) (D : va_G) (kA : Nat → ClassId) (a0 : Nat) (j : Nat) (v2 : Int32) (hj : j < 4) (hn2 : v2 < 0) : Ci l y_Mo_style z_Mo_style { frames := 2, cells := 0, slots := 0, locals := 42 } D classes (TY kA) [.ref a0, .int (nI j), .int v2] [] (fun r (_ : List va_W) => r = (-2)) (fun u => u) 0 0 := by
  intro sz
  refine k_met (cc := b_Mo_style) (maxL := 6) (ret := (some .int)) (by decide) rfl (Nat.le_of_ble_eq_true rfl) (fun p e s m below meth c ls X hl hB => ?_)
  obtain ⟨hsz, hP, hK, hD0, hN⟩ := hB
  subst hsz
  have hD := hD0.self (sz := s.heap.size)
  generalize hAe : va_A (cat []) s.heap.size = A at hD ⊢
  have hA : ∀ q : Nat, s.heap.size ≤ q → A q := fun q h => by rw [← hAe]; exact Or.inr h
  have hS : va_S A s.heap s.heap [] := va_S.rf
  obtain ⟨hx, hb, hml, hown, hts, hr, hlk, hnm⟩ := id X
  have hl : lv_has ls 6 [(0, .ref a0), (1, .int (nI j)), (2, .int v2)] := hl
  have hP : va_P D classes (cat []) s.heap := hP
  have hK : va_K D classes (TY kA) s := hK
  refine lv_iload_n (pc := 0) hx hb d_Mo_style_0 rfl (lv_at hl 1 rfl) ?_
  refine k_goI (gr := []) (k_rS (pc := 1) (As := [.int (nI j)]) (rest := []) X (c_Mo_isPlace l D kA (nI j) s.heap.size) rfl wm_2978 wm_9 wm_2976 wm_2977 1 (by decide +kernel) ⟨Nat.le_of_ble_eq_true rfl, Nat.le_of_ble_eq_true rfl⟩ rfl rfl (k_pre hN hK hP hD [] [] 0 rfl (by decide) rfl) rfl hl.1 rfl (Nat.le_of_ble_eq_true rfl) d_Mo_style_1 ⟨Nat.le_of_ble_eq_true rfl, Nat.le_of_ble_eq_true rfl⟩) hP hD hS hA [] [] 0 rfl (by decide) rfl rfl (fun r1 u2 H locs hu2 hP hD hS => ?_)
  subst hu2
  refine k_cst (v := 1) (placeM_ok hj) ?_
  have hP : va_P D classes (cat []) H := hP
  have hD : va_D A (cat []) := hD
  refine lv_if_eq (pc := 4) (tgt := 19) hx hb d_Mo_style_4 (by decide) (fun c1 => absurd c1 (by decide)) (fun c1 => ?_)
  refine lv_iload_n (pc := 7) hx hb d_Mo_style_7 rfl (lv_at hl 2 rfl) ?_
  refine lv_if_lt (pc := 8) (tgt := 19) hx hb d_Mo_style_8 (by decide) (fun c1 => ?_) (fun c1 => absurd (hn2) c1)
  refine lv_bipush (pc := 19) (v := -2) hx hb d_Mo_style_19 (by decide) ?_
  refine W.widen (k := 0) (n := 0) (Nat.le_of_ble_eq_true rfl) (Nat.le_of_ble_eq_true rfl) ?_
  exact W.iret (v := (-2)) hx hb hr (fun t ht hW => ⟨⟨(-2), [], rfl, rfl, by rw [ht]; exact hP, va_K.moved hW.alike hK, hD⟩, hS.F ht⟩) hS.2.2 d_Mo_style_21
set_option maxRecDepth 100000 in
set_option maxHeartbeats 4000000 in
/-- style, a fresh house -/
theorem lf_style_2 {p : Program} {e : Env} {s : State} {m : MethodId} {below : List Frame} {meth : Method} {c : Code} (l : Launch) {b : Nat} {xs : Nat → Int32} (C0 : lw_At p s m meth c b 6 xs) {D : va_G} {kA : Nat → ClassId} (h : Nat) (h2 : Nat) (q : Nat → Nat) (qm : Nat → Nat) (j : Nat) (v2 : Int32) (hj : j < 4) (hn2 : v2 < 0) (hv1 : xs 1 = nI j) (hv2 : xs 2 = v2) {H : Heap} {locs : List Loc} {ls : Array Slot} (hK : va_K D classes (TY kA) s) (hN : nst s) (hP : va_P D classes (cat [[(h, .inr (12, [.ref (q 0), .ref (q 1), .ref (q 2), .ref (q 3), .ref (q 4), .ref (q 5), .ref (q 6), .int 0, .int ((-1)), .ref (q 9), .ref (q 10), .int 0, .int 0, .ref (q 13), .int 0, .int 0, .null, .null, .null, .null, .null]))], [(h2, .inr (13, mF qm x0Mo y0Mo))]]) H) (hD : va_D (fun q : Nat => s.heap.size ≤ q) (cat [[(h, .inr (12, [.ref (q 0), .ref (q 1), .ref (q 2), .ref (q 3), .ref (q 4), .ref (q 5), .ref (q 6), .int 0, .int ((-1)), .ref (q 9), .ref (q 10), .int 0, .int 0, .ref (q 13), .int 0, .int 0, .null, .null, .null, .null, .null]))], [(h2, .inr (13, mF qm x0Mo y0Mo))]])) (hS : va_S (fun q : Nat => s.heap.size ≤ q) s.heap H locs) (hl : lv_has ls 4 [(3, .int 0), (2, .ref h2), (1, .ref h), (0, .ref b)]) : W p l e room_1 s m #[Value.ref b] below meth c H locs 368 365796 (lw_Z below #[Value.ref b] s) (F0 m 1077 ls []) := by
  obtain ⟨hx, hb, hr, hml, hown, hts0, hX, hbl, hlocks, hgv⟩ := id C0
  have hts : ∀ w ∈ lw_g, w.before #[Value.ref b] s = true := fun w h => hts0 w (lw_gt h)
  have X : cx p s m #[Value.ref b] meth c b_law_law 4 ret "DrawingHouseLaw" meth.name := ⟨hx, hb, hml, hown, hts, hr, hlocks, rfl⟩
  obtain ⟨A, hAe⟩ : ∃ A : Nat → Prop, A = fun q : Nat => s.heap.size ≤ q := ⟨_, rfl⟩
  have hA : ∀ q : Nat, s.heap.size ≤ q → A q := fun q h => by rw [hAe]; exact h
  have hbA : ¬ A b := by rw [hAe]; exact Nat.not_le.mpr hbl
  rw [← hAe] at hD hS
  refine lv_aload_n (pc := 1077) hx hb d_law_law_1077 rfl (lv_at hl 2 rfl) ?_
  refine lv_aload_n (pc := 1078) hx hb d_law_law_1078 rfl (lv_at hl 3 rfl) ?_
  refine lv_iload_n (pc := 1079) hx hb d_law_law_1079 rfl (lv_at hl 0 rfl) ?_
  refine lv_iconst (pc := 1080) (v := 1) hx hb d_law_law_1080 (by decide) ?_
  refine lv_iadd (pc := 1081) hx hb d_law_law_1081 ?_
  refine k_cst (v := 1) (by decide) ?_
  refine va_sld (pc := 1082) hx hb hX hbl hbA hS (by unfold vp_in; decide) d_law_law_1082 ?_
  refine k_cst (v := nI j) hv1 ?_
  refine lv_aload_n (pc := 1083) hx hb d_law_law_1083 rfl (lv_at hl 3 rfl) ?_
  refine lv_iload_n (pc := 1084) hx hb d_law_law_1084 rfl (lv_at hl 0 rfl) ?_
  refine lv_iconst (pc := 1085) (v := 2) hx hb d_law_law_1085 (by decide) ?_
  refine lv_iadd (pc := 1086) hx hb d_law_law_1086 ?_
  refine k_cst (v := 2) (by decide) ?_
  refine va_sld (pc := 1087) hx hb hX hbl hbA hS (by unfold vp_in; decide) d_law_law_1087 ?_
  refine k_cst (v := v2) hv2 ?_
  refine k_goI (gr := [[(h, .inr (12, [.ref (q 0), .ref (q 1), .ref (q 2), .ref (q 3), .ref (q 4), .ref (q 5), .ref (q 6), .int 0, .int ((-1)), .ref (q 9), .ref (q 10), .int 0, .int 0, .ref (q 13), .int 0, .int 0, .null, .null, .null, .null, .null]))], [(h2, .inr (13, mF qm x0Mo y0Mo))]]) (k_rV (pc := 1088) (As := [.int (nI j), .int v2]) (rest := []) X (c_Ho_style_z2 l D kA h j v2 hj hn2 H.size) rfl wm_2088 wm_1 wm_2085 wm_2086 wm_2087 2 (by decide +kernel) ⟨Nat.le_of_ble_eq_true rfl, Nat.le_of_ble_eq_true rfl⟩ rfl rfl (va_recv hK hP (ci := 12) (q0 := 0) rfl rfl) (k_pre hN hK hP hD [] [0, 1] 2 rfl (by decide) rfl) rfl hl.1 rfl (Nat.le_of_ble_eq_true rfl) d_law_law_1088 ⟨Nat.le_of_ble_eq_true rfl, Nat.le_of_ble_eq_true rfl⟩) hP hD hS hA [] [0, 1] 2 rfl (by decide) rfl rfl (fun r1 u2 H locs hu2 hP hD hS => ?_)
  obtain ⟨hP, hD⟩ := k_left hP hD
  subst hu2
  have hP : va_P D classes (cat [[(h, .inr (12, [.ref (q 0), .ref (q 1), .ref (q 2), .ref (q 3), .ref (q 4), .ref (q 5), .ref (q 6), .int 0, .int ((-1)), .ref (q 9), .ref (q 10), .int 0, .int 0, .ref (q 13), .int 0, .int 0, .null, .null, .null, .null, .null]))], [(h2, .inr (13, mF qm x0Mo y0Mo))]]) H := hP
  have hD : va_D A (cat [[(h, .inr (12, [.ref (q 0), .ref (q 1), .ref (q 2), .ref (q 3), .ref (q 4), .ref (q 5), .ref (q 6), .int 0, .int ((-1)), .ref (q 9), .ref (q 10), .int 0, .int 0, .ref (q 13), .int 0, .int 0, .null, .null, .null, .null, .null]))], [(h2, .inr (13, mF qm x0Mo y0Mo))]]) := hD
  refine lv_aload_n (pc := 1091) hx hb d_law_law_1091 rfl (lv_at hl 1 rfl) ?_
  refine lv_aload_n (pc := 1092) hx hb d_law_law_1092 rfl (lv_at hl 3 rfl) ?_
  refine lv_iload_n (pc := 1093) hx hb d_law_law_1093 rfl (lv_at hl 0 rfl) ?_
  refine lv_iconst (pc := 1094) (v := 1) hx hb d_law_law_1094 (by decide) ?_
  refine lv_iadd (pc := 1095) hx hb d_law_law_1095 ?_
  refine k_cst (v := 1) (by decide) ?_
  refine va_sld (pc := 1096) hx hb hX hbl hbA hS (by unfold vp_in; decide) d_law_law_1096 ?_
  refine k_cst (v := nI j) hv1 ?_
  refine lv_aload_n (pc := 1097) hx hb d_law_law_1097 rfl (lv_at hl 3 rfl) ?_
  refine lv_iload_n (pc := 1098) hx hb d_law_law_1098 rfl (lv_at hl 0 rfl) ?_
  refine lv_iconst (pc := 1099) (v := 2) hx hb d_law_law_1099 (by decide) ?_
  refine lv_iadd (pc := 1100) hx hb d_law_law_1100 ?_
  refine k_cst (v := 2) (by decide) ?_
  refine va_sld (pc := 1101) hx hb hX hbl hbA hS (by unfold vp_in; decide) d_law_law_1101 ?_
  refine k_cst (v := v2) hv2 ?_
  refine k_goI (gr := [[(h, .inr (12, [.ref (q 0), .ref (q 1), .ref (q 2), .ref (q 3), .ref (q 4), .ref (q 5), .ref (q 6), .int 0, .int ((-1)), .ref (q 9), .ref (q 10), .int 0, .int 0, .ref (q 13), .int 0, .int 0, .null, .null, .null, .null, .null]))], [(h2, .inr (13, mF qm x0Mo y0Mo))]]) (k_rV (pc := 1102) (As := [.int (nI j), .int v2]) (rest := [.int ((-2))]) X (c_Mo_style_z2 l D kA h2 j v2 hj hn2 H.size) rfl wm_3794 wm_9 wm_3791 wm_3792 wm_3793 2 (by decide +kernel) ⟨Nat.le_of_ble_eq_true rfl, Nat.le_of_ble_eq_true rfl⟩ rfl rfl (va_recv hK hP (ci := 13) (q0 := 1) rfl rfl) (k_pre hN hK hP hD [] [0, 1] 2 rfl (by decide) rfl) rfl hl.1 rfl (Nat.le_of_ble_eq_true rfl) d_law_law_1102 ⟨Nat.le_of_ble_eq_true rfl, Nat.le_of_ble_eq_true rfl⟩) hP hD hS hA [] [0, 1] 2 rfl (by decide) rfl rfl (fun r3 u4 H locs hu4 hP hD hS => ?_)
  obtain ⟨hP, hD⟩ := k_left hP hD
  subst hu4
  have hP : va_P D classes (cat [[(h, .inr (12, [.ref (q 0), .ref (q 1), .ref (q 2), .ref (q 3), .ref (q 4), .ref (q 5), .ref (q 6), .int 0, .int ((-1)), .ref (q 9), .ref (q 10), .int 0, .int 0, .ref (q 13), .int 0, .int 0, .null, .null, .null, .null, .null]))], [(h2, .inr (13, mF qm x0Mo y0Mo))]]) H := hP
  have hD : va_D A (cat [[(h, .inr (12, [.ref (q 0), .ref (q 1), .ref (q 2), .ref (q 3), .ref (q 4), .ref (q 5), .ref (q 6), .int 0, .int ((-1)), .ref (q 9), .ref (q 10), .int 0, .int 0, .ref (q 13), .int 0, .int 0, .null, .null, .null, .null, .null]))], [(h2, .inr (13, mF qm x0Mo y0Mo))]]) := hD
  refine lv_icmp_eq (pc := 1105) (tgt := 1295) hx hb d_law_law_1105 (by decide) (fun _ => ?_) (fun c1 => absurd (by decide) c1)
  rw [hAe] at hS
  exact law_exit l C0 (Nat.le_of_ble_eq_true rfl) (Nat.le_of_ble_eq_true rfl) hS hl
set_option maxRecDepth 100000 in
set_option maxHeartbeats 4000000 in
/-- DrawingHouse.style(II)I -/
theorem c_Ho_style_z3 (l : Launch) (D : va_G) (kA : Nat → ClassId) (a0 : Nat) (j : Nat) (v2 : Int32) (a1 : Nat) (a2 : Nat) (a3 : Nat) (a4 : Nat) (a5 : Nat) (a6 : Nat) (a7 : Nat) (a8 : Nat) (a9 : Nat) (a10 : Nat) (a11 : Nat) (a12 : Nat) (a13 : Nat) (hj : j < 4) (hp2 : ¬ v2 < 0) (hb2 : 1 ≤ v2) (hc2 : 0 < v2) : Ci l y_Ho_style z_Ho_style { frames := 1, cells := 0, slots := 0, locals := 20 } D classes (TY kA) [.ref a0, .int (nI j), .int v2] [[(a0, .inr (12, [.ref a1, .ref a2, .ref a3, .ref a4, .ref a5, .ref a6, .ref a7, .int 0, .int ((-1)), .ref a8, .ref a9, .int 0, .int 0, .ref a10, .int 0, .int 0, .null, .null, .null, .null, .null]))], [(a5, .inr (8, [.ref a11, .int 0, .int ((-1)), .int ((-1)), .ref a12, .int 0, .int 0, .int 0, .int 0, .int 0, .ref a13, .int 0]))]] (fun r (_ : List va_W) => r = (-2)) (fun u => u) 0 0 := by
  intro sz
  refine k_met (cc := b_Ho_style) (maxL := 4) (ret := (some .int)) (by decide) rfl (Nat.le_of_ble_eq_true rfl) (fun p e s m below meth c ls X hl hB => ?_)
  obtain ⟨hsz, hP, hK, hD0, hN⟩ := hB
  subst hsz
  have hD := hD0.self (sz := s.heap.size)
  generalize hAe : va_A (cat [[(a0, .inr (12, [.ref a1, .ref a2, .ref a3, .ref a4, .ref a5, .ref a6, .ref a7, .int 0, .int ((-1)), .ref a8, .ref a9, .int 0, .int 0, .ref a10, .int 0, .int 0, .null, .null, .null, .null, .null]))], [(a5, .inr (8, [.ref a11, .int 0, .int ((-1)), .int ((-1)), .ref a12, .int 0, .int 0, .int 0, .int 0, .int 0, .ref a13, .int 0]))]]) s.heap.size = A at hD ⊢
  have hA : ∀ q : Nat, s.heap.size ≤ q → A q := fun q h => by rw [← hAe]; exact Or.inr h
  have hS : va_S A s.heap s.heap [] := va_S.rf
  obtain ⟨hx, hb, hml, hown, hts, hr, hlk, hnm⟩ := id X
  have hl : lv_has ls 4 [(0, .ref a0), (1, .int (nI j)), (2, .int v2)] := hl
  have hP : va_P D classes (cat [[(a0, .inr (12, [.ref a1, .ref a2, .ref a3, .ref a4, .ref a5, .ref a6, .ref a7, .int 0, .int ((-1)), .ref a8, .ref a9, .int 0, .int 0, .ref a10, .int 0, .int 0, .null, .null, .null, .null, .null]))], [(a5, .inr (8, [.ref a11, .int 0, .int ((-1)), .int ((-1)), .ref a12, .int 0, .int 0, .int 0, .int 0, .int 0, .ref a13, .int 0]))]]) s.heap := hP
  have hK : va_K D classes (TY kA) s := hK
  refine lv_iload_n (pc := 0) hx hb d_Ho_style_0 rfl (lv_at hl 1 rfl) ?_
  refine k_goI (gr := [[(a0, .inr (12, [.ref a1, .ref a2, .ref a3, .ref a4, .ref a5, .ref a6, .ref a7, .int 0, .int ((-1)), .ref a8, .ref a9, .int 0, .int 0, .ref a10, .int 0, .int 0, .null, .null, .null, .null, .null]))], [(a5, .inr (8, [.ref a11, .int 0, .int ((-1)), .int ((-1)), .ref a12, .int 0, .int 0, .int 0, .int 0, .int 0, .ref a13, .int 0]))]]) (k_rS (pc := 1) (As := [.int (nI j)]) (rest := []) X (c_Ho_isPlace l D kA (nI j) s.heap.size) rfl wm_633 wm_1 wm_631 wm_632 1 (by decide +kernel) ⟨Nat.le_of_ble_eq_true rfl, Nat.le_of_ble_eq_true rfl⟩ rfl rfl (k_pre hN hK hP hD [] [0, 1] 2 rfl (by decide) rfl) rfl hl.1 rfl (Nat.le_of_ble_eq_true rfl) d_Ho_style_1 ⟨Nat.le_of_ble_eq_true rfl, Nat.le_of_ble_eq_true rfl⟩) hP hD hS hA [] [0, 1] 2 rfl (by decide) rfl rfl (fun r1 u2 H locs hu2 hP hD hS => ?_)
  subst hu2
  refine k_cst (v := 1) (place_ok hj) ?_
  have hP : va_P D classes (cat [[(a0, .inr (12, [.ref a1, .ref a2, .ref a3, .ref a4, .ref a5, .ref a6, .ref a7, .int 0, .int ((-1)), .ref a8, .ref a9, .int 0, .int 0, .ref a10, .int 0, .int 0, .null, .null, .null, .null, .null]))], [(a5, .inr (8, [.ref a11, .int 0, .int ((-1)), .int ((-1)), .ref a12, .int 0, .int 0, .int 0, .int 0, .int 0, .ref a13, .int 0]))]]) H := hP
  have hD : va_D A (cat [[(a0, .inr (12, [.ref a1, .ref a2, .ref a3, .ref a4, .ref a5, .ref a6, .ref a7, .int 0, .int ((-1)), .ref a8, .ref a9, .int 0, .int 0, .ref a10, .int 0, .int 0, .null, .null, .null, .null, .null]))], [(a5, .inr (8, [.ref a11, .int 0, .int ((-1)), .int ((-1)), .ref a12, .int 0, .int 0, .int 0, .int 0, .int 0, .ref a13, .int 0]))]]) := hD
  refine lv_if_eq (pc := 4) (tgt := 22) hx hb d_Ho_style_4 (by decide) (fun c1 => absurd c1 (by decide)) (fun c1 => ?_)
  refine lv_iload_n (pc := 7) hx hb d_Ho_style_7 rfl (lv_at hl 2 rfl) ?_
  refine lv_if_lt (pc := 8) (tgt := 22) hx hb d_Ho_style_8 (by decide) (fun c1 => absurd c1 (hp2)) (fun c1 => ?_)
  refine lv_iload_n (pc := 11) hx hb d_Ho_style_11 rfl (lv_at hl 2 rfl) ?_
  refine lv_aload_n (pc := 12) hx hb d_Ho_style_12 rfl (lv_at hl 0 rfl) ?_
  refine k_get (pc := 13) X hK hP 0 rfl rfl i_Ho 4 (by decide) wm_559 rfl rfl d_Ho_style_13 ?_
  refine k_get (pc := 16) X hK hP 1 rfl rfl i_Re 1 (by decide) wm_197 rfl rfl d_Ho_style_16 ?_
  refine lv_icmp_le (pc := 19) (tgt := 25) hx hb d_Ho_style_19 (by decide) (fun c1 => absurd c1 (Int32.not_le.mpr hc2)) (fun c1 => ?_)
  refine lv_bipush (pc := 22) (v := -2) hx hb d_Ho_style_22 (by decide) ?_
  refine W.widen (k := 0) (n := 0) (Nat.le_of_ble_eq_true rfl) (Nat.le_of_ble_eq_true rfl) ?_
  exact W.iret (v := (-2)) hx hb hr (fun t ht hW => ⟨⟨(-2), [[(a0, .inr (12, [.ref a1, .ref a2, .ref a3, .ref a4, .ref a5, .ref a6, .ref a7, .int 0, .int ((-1)), .ref a8, .ref a9, .int 0, .int 0, .ref a10, .int 0, .int 0, .null, .null, .null, .null, .null]))], [(a5, .inr (8, [.ref a11, .int 0, .int ((-1)), .int ((-1)), .ref a12, .int 0, .int 0, .int 0, .int 0, .int 0, .ref a13, .int 0]))]], rfl, rfl, by rw [ht]; exact hP, va_K.moved hW.alike hK, hD⟩, hS.F ht⟩) hS.2.2 d_Ho_style_24
set_option maxRecDepth 100000 in
set_option maxHeartbeats 4000000 in
/-- DrawingHouseModel.style(II)I -/
theorem c_Mo_style_z3 (l : Launch) (D : va_G) (kA : Nat → ClassId) (a0 : Nat) (j : Nat) (v2 : Int32) (qm : Nat → Nat) (hj : j < 4) (hp2 : ¬ v2 < 0) (hb2 : 1 ≤ v2) (hc2 : 0 < v2) : Ci l y_Mo_style z_Mo_style { frames := 2, cells := 0, slots := 0, locals := 42 } D classes (TY kA) [.ref a0, .int (nI j), .int v2] [[(a0, .inr (13, mF qm x0Mo y0Mo))]] (fun r (_ : List va_W) => r = (-2)) (fun u => u) 0 0 := by
  intro sz
  refine k_met (cc := b_Mo_style) (maxL := 6) (ret := (some .int)) (by decide) rfl (Nat.le_of_ble_eq_true rfl) (fun p e s m below meth c ls X hl hB => ?_)
  obtain ⟨hsz, hP, hK, hD0, hN⟩ := hB
  subst hsz
  have hD := hD0.self (sz := s.heap.size)
  generalize hAe : va_A (cat [[(a0, .inr (13, mF qm x0Mo y0Mo))]]) s.heap.size = A at hD ⊢
  have hA : ∀ q : Nat, s.heap.size ≤ q → A q := fun q h => by rw [← hAe]; exact Or.inr h
  have hS : va_S A s.heap s.heap [] := va_S.rf
  obtain ⟨hx, hb, hml, hown, hts, hr, hlk, hnm⟩ := id X
  have hl : lv_has ls 6 [(0, .ref a0), (1, .int (nI j)), (2, .int v2)] := hl
  have hP : va_P D classes (cat [[(a0, .inr (13, mF qm x0Mo y0Mo))]]) s.heap := hP
  have hK : va_K D classes (TY kA) s := hK
  refine lv_iload_n (pc := 0) hx hb d_Mo_style_0 rfl (lv_at hl 1 rfl) ?_
  refine k_goI (gr := [[(a0, .inr (13, mF qm x0Mo y0Mo))]]) (k_rS (pc := 1) (As := [.int (nI j)]) (rest := []) X (c_Mo_isPlace l D kA (nI j) s.heap.size) rfl wm_2978 wm_9 wm_2976 wm_2977 1 (by decide +kernel) ⟨Nat.le_of_ble_eq_true rfl, Nat.le_of_ble_eq_true rfl⟩ rfl rfl (k_pre hN hK hP hD [] [0] 1 rfl (by decide) rfl) rfl hl.1 rfl (Nat.le_of_ble_eq_true rfl) d_Mo_style_1 ⟨Nat.le_of_ble_eq_true rfl, Nat.le_of_ble_eq_true rfl⟩) hP hD hS hA [] [0] 1 rfl (by decide) rfl rfl (fun r1 u2 H locs hu2 hP hD hS => ?_)
  subst hu2
  refine k_cst (v := 1) (placeM_ok hj) ?_
  have hP : va_P D classes (cat [[(a0, .inr (13, mF qm x0Mo y0Mo))]]) H := hP
  have hD : va_D A (cat [[(a0, .inr (13, mF qm x0Mo y0Mo))]]) := hD
  refine lv_if_eq (pc := 4) (tgt := 19) hx hb d_Mo_style_4 (by decide) (fun c1 => absurd c1 (by decide)) (fun c1 => ?_)
  refine lv_iload_n (pc := 7) hx hb d_Mo_style_7 rfl (lv_at hl 2 rfl) ?_
  refine lv_if_lt (pc := 8) (tgt := 19) hx hb d_Mo_style_8 (by decide) (fun c1 => absurd c1 (hp2)) (fun c1 => ?_)
  refine lv_iload_n (pc := 11) hx hb d_Mo_style_11 rfl (lv_at hl 2 rfl) ?_
  refine lv_aload_n (pc := 12) hx hb d_Mo_style_12 rfl (lv_at hl 0 rfl) ?_
  refine k_get (pc := 13) (v := .int 0) X hK hP 0 rfl rfl i_Mo 0 (by decide) wm_2433 rfl rfl d_Mo_style_13 ?_
  refine lv_icmp_le (pc := 16) (tgt := 22) hx hb d_Mo_style_16 (by decide) (fun c1 => absurd c1 (Int32.not_le.mpr hc2)) (fun c1 => ?_)
  refine lv_bipush (pc := 19) (v := -2) hx hb d_Mo_style_19 (by decide) ?_
  refine W.widen (k := 0) (n := 0) (Nat.le_of_ble_eq_true rfl) (Nat.le_of_ble_eq_true rfl) ?_
  exact W.iret (v := (-2)) hx hb hr (fun t ht hW => ⟨⟨(-2), [[(a0, .inr (13, mF qm x0Mo y0Mo))]], rfl, rfl, by rw [ht]; exact hP, va_K.moved hW.alike hK, hD⟩, hS.F ht⟩) hS.2.2 d_Mo_style_21
set_option maxRecDepth 100000 in
set_option maxHeartbeats 4000000 in
/-- style, a fresh house -/
theorem lf_style_3 {p : Program} {e : Env} {s : State} {m : MethodId} {below : List Frame} {meth : Method} {c : Code} (l : Launch) {b : Nat} {xs : Nat → Int32} (C0 : lw_At p s m meth c b 6 xs) {D : va_G} {kA : Nat → ClassId} (h : Nat) (h2 : Nat) (q : Nat → Nat) (qr : Nat → Nat) (qm : Nat → Nat) (j : Nat) (v2 : Int32) (hj : j < 4) (hp2 : ¬ v2 < 0) (hb2 : 1 ≤ v2) (hc2 : 0 < v2) (hv1 : xs 1 = nI j) (hv2 : xs 2 = v2) {H : Heap} {locs : List Loc} {ls : Array Slot} (hK : va_K D classes (TY kA) s) (hN : nst s) (hP : va_P D classes (cat [[(h, .inr (12, [.ref (q 0), .ref (q 1), .ref (q 2), .ref (q 3), .ref (q 4), .ref (q 5), .ref (q 6), .int 0, .int ((-1)), .ref (q 9), .ref (q 10), .int 0, .int 0, .ref (q 13), .int 0, .int 0, .null, .null, .null, .null, .null]))], [(q 4, .inr (8, [.ref (qr 0), .int 0, .int ((-1)), .int ((-1)), .ref (qr 4), .int 0, .int 0, .int 0, .int 0, .int 0, .ref (qr 10), .int 0]))], [(h2, .inr (13, mF qm x0Mo y0Mo))]]) H) (hD : va_D (fun q : Nat => s.heap.size ≤ q) (cat [[(h, .inr (12, [.ref (q 0), .ref (q 1), .ref (q 2), .ref (q 3), .ref (q 4), .ref (q 5), .ref (q 6), .int 0, .int ((-1)), .ref (q 9), .ref (q 10), .int 0, .int 0, .ref (q 13), .int 0, .int 0, .null, .null, .null, .null, .null]))], [(q 4, .inr (8, [.ref (qr 0), .int 0, .int ((-1)), .int ((-1)), .ref (qr 4), .int 0, .int 0, .int 0, .int 0, .int 0, .ref (qr 10), .int 0]))], [(h2, .inr (13, mF qm x0Mo y0Mo))]])) (hS : va_S (fun q : Nat => s.heap.size ≤ q) s.heap H locs) (hl : lv_has ls 4 [(3, .int 0), (2, .ref h2), (1, .ref h), (0, .ref b)]) : W p l e room_1 s m #[Value.ref b] below meth c H locs 368 365796 (lw_Z below #[Value.ref b] s) (F0 m 1077 ls []) := by
  obtain ⟨hx, hb, hr, hml, hown, hts0, hX, hbl, hlocks, hgv⟩ := id C0
  have hts : ∀ w ∈ lw_g, w.before #[Value.ref b] s = true := fun w h => hts0 w (lw_gt h)
  have X : cx p s m #[Value.ref b] meth c b_law_law 4 ret "DrawingHouseLaw" meth.name := ⟨hx, hb, hml, hown, hts, hr, hlocks, rfl⟩
  obtain ⟨A, hAe⟩ : ∃ A : Nat → Prop, A = fun q : Nat => s.heap.size ≤ q := ⟨_, rfl⟩
  have hA : ∀ q : Nat, s.heap.size ≤ q → A q := fun q h => by rw [hAe]; exact h
  have hbA : ¬ A b := by rw [hAe]; exact Nat.not_le.mpr hbl
  rw [← hAe] at hD hS
  refine lv_aload_n (pc := 1077) hx hb d_law_law_1077 rfl (lv_at hl 2 rfl) ?_
  refine lv_aload_n (pc := 1078) hx hb d_law_law_1078 rfl (lv_at hl 3 rfl) ?_
  refine lv_iload_n (pc := 1079) hx hb d_law_law_1079 rfl (lv_at hl 0 rfl) ?_
  refine lv_iconst (pc := 1080) (v := 1) hx hb d_law_law_1080 (by decide) ?_
  refine lv_iadd (pc := 1081) hx hb d_law_law_1081 ?_
  refine k_cst (v := 1) (by decide) ?_
  refine va_sld (pc := 1082) hx hb hX hbl hbA hS (by unfold vp_in; decide) d_law_law_1082 ?_
  refine k_cst (v := nI j) hv1 ?_
  refine lv_aload_n (pc := 1083) hx hb d_law_law_1083 rfl (lv_at hl 3 rfl) ?_
  refine lv_iload_n (pc := 1084) hx hb d_law_law_1084 rfl (lv_at hl 0 rfl) ?_
  refine lv_iconst (pc := 1085) (v := 2) hx hb d_law_law_1085 (by decide) ?_
  refine lv_iadd (pc := 1086) hx hb d_law_law_1086 ?_
  refine k_cst (v := 2) (by decide) ?_
  refine va_sld (pc := 1087) hx hb hX hbl hbA hS (by unfold vp_in; decide) d_law_law_1087 ?_
  refine k_cst (v := v2) hv2 ?_
  refine k_goI (gr := [[(h2, .inr (13, mF qm x0Mo y0Mo))]]) (k_rV (pc := 1088) (As := [.int (nI j), .int v2]) (rest := []) X (c_Ho_style_z3 l D kA h j v2 (q 0) (q 1) (q 2) (q 3) (q 4) (q 5) (q 6) (q 9) (q 10) (q 13) (qr 0) (qr 4) (qr 10) hj hp2 hb2 hc2 H.size) rfl wm_2088 wm_1 wm_2085 wm_2086 wm_2087 2 (by decide +kernel) ⟨Nat.le_of_ble_eq_true rfl, Nat.le_of_ble_eq_true rfl⟩ rfl rfl (va_recv hK hP (ci := 12) (q0 := 0) rfl rfl) (k_pre hN hK hP hD [0, 1] [2] 3 rfl (by decide) rfl) rfl hl.1 rfl (Nat.le_of_ble_eq_true rfl) d_law_law_1088 ⟨Nat.le_of_ble_eq_true rfl, Nat.le_of_ble_eq_true rfl⟩) hP hD hS hA [0, 1] [2] 3 rfl (by decide) rfl rfl (fun r1 u2 H locs hu2 hP hD hS => ?_)
  obtain ⟨hP, hD⟩ := k_left hP hD
  subst hu2
  have hP : va_P D classes (cat [[(h2, .inr (13, mF qm x0Mo y0Mo))]]) H := hP
  have hD : va_D A (cat [[(h2, .inr (13, mF qm x0Mo y0Mo))]]) := hD
  refine lv_aload_n (pc := 1091) hx hb d_law_law_1091 rfl (lv_at hl 1 rfl) ?_
  refine lv_aload_n (pc := 1092) hx hb d_law_law_1092 rfl (lv_at hl 3 rfl) ?_
  refine lv_iload_n (pc := 1093) hx hb d_law_law_1093 rfl (lv_at hl 0 rfl) ?_
  refine lv_iconst (pc := 1094) (v := 1) hx hb d_law_law_1094 (by decide) ?_
  refine lv_iadd (pc := 1095) hx hb d_law_law_1095 ?_
  refine k_cst (v := 1) (by decide) ?_
  refine va_sld (pc := 1096) hx hb hX hbl hbA hS (by unfold vp_in; decide) d_law_law_1096 ?_
  refine k_cst (v := nI j) hv1 ?_
  refine lv_aload_n (pc := 1097) hx hb d_law_law_1097 rfl (lv_at hl 3 rfl) ?_
  refine lv_iload_n (pc := 1098) hx hb d_law_law_1098 rfl (lv_at hl 0 rfl) ?_
  refine lv_iconst (pc := 1099) (v := 2) hx hb d_law_law_1099 (by decide) ?_
  refine lv_iadd (pc := 1100) hx hb d_law_law_1100 ?_
  refine k_cst (v := 2) (by decide) ?_
  refine va_sld (pc := 1101) hx hb hX hbl hbA hS (by unfold vp_in; decide) d_law_law_1101 ?_
  refine k_cst (v := v2) hv2 ?_
  refine k_goI (gr := []) (k_rV (pc := 1102) (As := [.int (nI j), .int v2]) (rest := [.int ((-2))]) X (c_Mo_style_z3 l D kA h2 j v2 qm hj hp2 hb2 hc2 H.size) rfl wm_3794 wm_9 wm_3791 wm_3792 wm_3793 2 (by decide +kernel) ⟨Nat.le_of_ble_eq_true rfl, Nat.le_of_ble_eq_true rfl⟩ rfl rfl (va_recv hK hP (ci := 13) (q0 := 0) rfl rfl) (k_pre hN hK hP hD [0] [] 1 rfl (by decide) rfl) rfl hl.1 rfl (Nat.le_of_ble_eq_true rfl) d_law_law_1102 ⟨Nat.le_of_ble_eq_true rfl, Nat.le_of_ble_eq_true rfl⟩) hP hD hS hA [0] [] 1 rfl (by decide) rfl rfl (fun r3 u4 H locs hu4 hP hD hS => ?_)
  obtain ⟨hP, hD⟩ := k_left hP hD
  subst hu4
  have hP : va_P D classes (cat []) H := hP
  have hD : va_D A (cat []) := hD
  refine lv_icmp_eq (pc := 1105) (tgt := 1295) hx hb d_law_law_1105 (by decide) (fun _ => ?_) (fun c1 => absurd (by decide) c1)
  rw [hAe] at hS
  exact law_exit l C0 (Nat.le_of_ble_eq_true rfl) (Nat.le_of_ble_eq_true rfl) hS hl
set_option maxRecDepth 100000 in
set_option maxHeartbeats 4000000 in
/-- DrawingHouse$Styler.<init>()V -/
theorem c_Sy_init_z1 (l : Launch) (D : va_G) (kA : Nat → ClassId) (a0 : Nat) : Cv l y_Sy_init z_Sy_init { frames := 1, cells := 5, slots := 2427, locals := 12 } D classes (TY kA) [.ref a0] [[(a0, .inr (11, [.int 0, .int 0, .int 0, .null, .int 0, .int 0, .int 0, .int 0, .int 0, .null, .null, .int 0, .null, .null, .null, .int 0, .null]))]] (fun _ : Nat → Nat => True) (fun u => [[(a0, .inr (11, [.int 0, .int 0, .int ((-1)), .null, .int 0, .int 0, .int 0, .int 0, .int 0, .ref (u 0), .ref (u 1), .int 0, .ref (u 2), .ref (u 3), .ref (u 4), .int 0, .ref (u 5)]))], [((u 1), .inl (kA 0, 2112, .inl (fun _ => 0)))], [((u 2), .inl (kA 0, 113, .inl (fun _ => 0)))], [((u 3), .inl (kA 0, 112, .inl (fun _ => 0)))], [((u 4), .inl (kA 3, 80, .inr (.inl (fun _ => 0))))], [((u 5), .inl (kA 3, 10, .inr (.inl (fun _ => 0))))]]) 5 2427 := by
  intro sz
  refine k_met (cc := b_Sy_init) (maxL := 1) (ret := none) (by decide) rfl (Nat.le_of_ble_eq_true rfl) (fun p e s m below meth c ls X hl hB => ?_)
  obtain ⟨hsz, hP, hK, hD0, hN⟩ := hB
  subst hsz
  have hD := hD0.self (sz := s.heap.size)
  generalize hAe : va_A (cat [[(a0, .inr (11, [.int 0, .int 0, .int 0, .null, .int 0, .int 0, .int 0, .int 0, .int 0, .null, .null, .int 0, .null, .null, .null, .int 0, .null]))]]) s.heap.size = A at hD ⊢
  have hA : ∀ q : Nat, s.heap.size ≤ q → A q := fun q h => by rw [← hAe]; exact Or.inr h
  have hS : va_S A s.heap s.heap [] := va_S.rf
  obtain ⟨hx, hb, hml, hown, hts, hr, hlk, hnm⟩ := id X
  have hl : lv_has ls 1 [(0, .ref a0)] := hl
  have hP : va_P D classes (cat [[(a0, .inr (11, [.int 0, .int 0, .int 0, .null, .int 0, .int 0, .int 0, .int 0, .int 0, .null, .null, .int 0, .null, .null, .null, .int 0, .null]))]]) s.heap := hP
  have hK : va_K D classes (TY kA) s := hK
  refine lv_aload_n (pc := 0) hx hb d_Sy_init_0 rfl (lv_at hl 0 rfl) ?_
  refine W.objInit hx hb hown (hts _ wm_2094) (hts _ wm_31) (hts _ wm_32) rfl (by rw [hml]; exact hl.1) rfl d_Sy_init_1 (Nat.le_of_ble_eq_true rfl) (Nat.le_of_ble_eq_true rfl) ?_
  refine W.eq (g2 := F0 m 4 ls []) rfl ?_
  refine lv_aload_n (pc := 4) hx hb d_Sy_init_4 rfl (lv_at hl 0 rfl) ?_
  refine lv_iconst (pc := 5) (v := 0) hx hb d_Sy_init_5 (by decide) ?_
  refine k_put (pc := 6) X hK hP hD hS 0 rfl rfl i_Sy t_Sy t_Sy_ok n_Sy 0 (by decide) wm_2096 rfl (Or.inl rfl) rfl rfl (Nat.le_of_ble_eq_true rfl) d_Sy_init_6 (fun H locs hP hD hS => ?_)
  have hP : va_P D classes (cat [[(a0, .inr (11, [.int 0, .int 0, .int 0, .null, .int 0, .int 0, .int 0, .int 0, .int 0, .null, .null, .int 0, .null, .null, .null, .int 0, .null]))]]) H := hP
  have hD : va_D A (cat [[(a0, .inr (11, [.int 0, .int 0, .int 0, .null, .int 0, .int 0, .int 0, .int 0, .int 0, .null, .null, .int 0, .null, .null, .null, .int 0, .null]))]]) := hD
  refine lv_aload_n (pc := 9) hx hb d_Sy_init_9 rfl (lv_at hl 0 rfl) ?_
  refine lv_iconst (pc := 10) (v := 0) hx hb d_Sy_init_10 (by decide) ?_
  refine k_put (pc := 11) X hK hP hD hS 0 rfl rfl i_Sy t_Sy t_Sy_ok n_Sy 1 (by decide) wm_2098 rfl (Or.inl rfl) rfl rfl (Nat.le_of_ble_eq_true rfl) d_Sy_init_11 (fun H locs hP hD hS => ?_)
  have hP : va_P D classes (cat [[(a0, .inr (11, [.int 0, .int 0, .int 0, .null, .int 0, .int 0, .int 0, .int 0, .int 0, .null, .null, .int 0, .null, .null, .null, .int 0, .null]))]]) H := hP
  have hD : va_D A (cat [[(a0, .inr (11, [.int 0, .int 0, .int 0, .null, .int 0, .int 0, .int 0, .int 0, .int 0, .null, .null, .int 0, .null, .null, .null, .int 0, .null]))]]) := hD
  refine lv_aload_n (pc := 14) hx hb d_Sy_init_14 rfl (lv_at hl 0 rfl) ?_
  refine lv_iconst (pc := 15) (v := -1) hx hb d_Sy_init_15 (by decide) ?_
  refine k_put (pc := 16) X hK hP hD hS 0 rfl rfl i_Sy t_Sy t_Sy_ok n_Sy 2 (by decide) wm_2100 rfl (Or.inl rfl) rfl rfl (Nat.le_of_ble_eq_true rfl) d_Sy_init_16 (fun H locs hP hD hS => ?_)
  have hP : va_P D classes (cat [[(a0, .inr (11, [.int 0, .int 0, .int ((-1)), .null, .int 0, .int 0, .int 0, .int 0, .int 0, .null, .null, .int 0, .null, .null, .null, .int 0, .null]))]]) H := hP
  have hD : va_D A (cat [[(a0, .inr (11, [.int 0, .int 0, .int ((-1)), .null, .int 0, .int 0, .int 0, .int 0, .int 0, .null, .null, .int 0, .null, .null, .null, .int 0, .null]))]]) := hD
  refine lv_aload_n (pc := 19) hx hb d_Sy_init_19 rfl (lv_at hl 0 rfl) ?_
  refine lv_null (pc := 20) hx hb d_Sy_init_20 ?_
  refine k_put (pc := 21) X hK hP hD hS 0 rfl rfl i_Sy t_Sy t_Sy_ok n_Sy 3 (by decide) wm_2102 rfl (Or.inl rfl) rfl rfl (Nat.le_of_ble_eq_true rfl) d_Sy_init_21 (fun H locs hP hD hS => ?_)
  have hP : va_P D classes (cat [[(a0, .inr (11, [.int 0, .int 0, .int ((-1)), .null, .int 0, .int 0, .int 0, .int 0, .int 0, .null, .null, .int 0, .null, .null, .null, .int 0, .null]))]]) H := hP
  have hD : va_D A (cat [[(a0, .inr (11, [.int 0, .int 0, .int ((-1)), .null, .int 0, .int 0, .int 0, .int 0, .int 0, .null, .null, .int 0, .null, .null, .null, .int 0, .null]))]]) := hD
  refine lv_aload_n (pc := 24) hx hb d_Sy_init_24 rfl (lv_at hl 0 rfl) ?_
  refine lv_iconst (pc := 25) (v := 0) hx hb d_Sy_init_25 (by decide) ?_
  refine k_put (pc := 26) X hK hP hD hS 0 rfl rfl i_Sy t_Sy t_Sy_ok n_Sy 4 (by decide) wm_2103 rfl (Or.inl rfl) rfl rfl (Nat.le_of_ble_eq_true rfl) d_Sy_init_26 (fun H locs hP hD hS => ?_)
  have hP : va_P D classes (cat [[(a0, .inr (11, [.int 0, .int 0, .int ((-1)), .null, .int 0, .int 0, .int 0, .int 0, .int 0, .null, .null, .int 0, .null, .null, .null, .int 0, .null]))]]) H := hP
  have hD : va_D A (cat [[(a0, .inr (11, [.int 0, .int 0, .int ((-1)), .null, .int 0, .int 0, .int 0, .int 0, .int 0, .null, .null, .int 0, .null, .null, .null, .int 0, .null]))]]) := hD
  refine lv_aload_n (pc := 29) hx hb d_Sy_init_29 rfl (lv_at hl 0 rfl) ?_
  refine lv_iconst (pc := 30) (v := 0) hx hb d_Sy_init_30 (by decide) ?_
  refine k_put (pc := 31) X hK hP hD hS 0 rfl rfl i_Sy t_Sy t_Sy_ok n_Sy 5 (by decide) wm_2104 rfl (Or.inl rfl) rfl rfl (Nat.le_of_ble_eq_true rfl) d_Sy_init_31 (fun H locs hP hD hS => ?_)
  have hP : va_P D classes (cat [[(a0, .inr (11, [.int 0, .int 0, .int ((-1)), .null, .int 0, .int 0, .int 0, .int 0, .int 0, .null, .null, .int 0, .null, .null, .null, .int 0, .null]))]]) H := hP
  have hD : va_D A (cat [[(a0, .inr (11, [.int 0, .int 0, .int ((-1)), .null, .int 0, .int 0, .int 0, .int 0, .int 0, .null, .null, .int 0, .null, .null, .null, .int 0, .null]))]]) := hD
  refine lv_aload_n (pc := 34) hx hb d_Sy_init_34 rfl (lv_at hl 0 rfl) ?_
  refine lv_iconst (pc := 35) (v := 0) hx hb d_Sy_init_35 (by decide) ?_
  refine k_put (pc := 36) X hK hP hD hS 0 rfl rfl i_Sy t_Sy t_Sy_ok n_Sy 6 (by decide) wm_2105 rfl (Or.inl rfl) rfl rfl (Nat.le_of_ble_eq_true rfl) d_Sy_init_36 (fun H locs hP hD hS => ?_)
  have hP : va_P D classes (cat [[(a0, .inr (11, [.int 0, .int 0, .int ((-1)), .null, .int 0, .int 0, .int 0, .int 0, .int 0, .null, .null, .int 0, .null, .null, .null, .int 0, .null]))]]) H := hP
  have hD : va_D A (cat [[(a0, .inr (11, [.int 0, .int 0, .int ((-1)), .null, .int 0, .int 0, .int 0, .int 0, .int 0, .null, .null, .int 0, .null, .null, .null, .int 0, .null]))]]) := hD
  refine lv_aload_n (pc := 39) hx hb d_Sy_init_39 rfl (lv_at hl 0 rfl) ?_
  refine lv_iconst (pc := 40) (v := 0) hx hb d_Sy_init_40 (by decide) ?_
  refine k_put (pc := 41) X hK hP hD hS 0 rfl rfl i_Sy t_Sy t_Sy_ok n_Sy 7 (by decide) wm_2106 rfl (Or.inl rfl) rfl rfl (Nat.le_of_ble_eq_true rfl) d_Sy_init_41 (fun H locs hP hD hS => ?_)
  have hP : va_P D classes (cat [[(a0, .inr (11, [.int 0, .int 0, .int ((-1)), .null, .int 0, .int 0, .int 0, .int 0, .int 0, .null, .null, .int 0, .null, .null, .null, .int 0, .null]))]]) H := hP
  have hD : va_D A (cat [[(a0, .inr (11, [.int 0, .int 0, .int ((-1)), .null, .int 0, .int 0, .int 0, .int 0, .int 0, .null, .null, .int 0, .null, .null, .null, .int 0, .null]))]]) := hD
  refine lv_aload_n (pc := 44) hx hb d_Sy_init_44 rfl (lv_at hl 0 rfl) ?_
  refine lv_iconst (pc := 45) (v := 0) hx hb d_Sy_init_45 (by decide) ?_
  refine k_put (pc := 46) X hK hP hD hS 0 rfl rfl i_Sy t_Sy t_Sy_ok n_Sy 8 (by decide) wm_2107 rfl (Or.inl rfl) rfl rfl (Nat.le_of_ble_eq_true rfl) d_Sy_init_46 (fun H locs hP hD hS => ?_)
  have hP : va_P D classes (cat [[(a0, .inr (11, [.int 0, .int 0, .int ((-1)), .null, .int 0, .int 0, .int 0, .int 0, .int 0, .null, .null, .int 0, .null, .null, .null, .int 0, .null]))]]) H := hP
  have hD : va_D A (cat [[(a0, .inr (11, [.int 0, .int 0, .int ((-1)), .null, .int 0, .int 0, .int 0, .int 0, .int 0, .null, .null, .int 0, .null, .null, .null, .int 0, .null]))]]) := hD
  refine lv_aload_n (pc := 49) hx hb d_Sy_init_49 rfl (lv_at hl 0 rfl) ?_
  obtain ⟨z1, hz1⟩ := str_R (hN _ wn_2095)
  refine va_ldcS (pc := 50) hx hb hown hz1 d_Sy_init_50 ?_
  refine k_put (pc := 52) X hK hP hD hS 0 rfl rfl i_Sy t_Sy t_Sy_ok n_Sy 9 (by decide) wm_2108 rfl (Or.inl rfl) rfl rfl (Nat.le_of_ble_eq_true rfl) d_Sy_init_52 (fun H locs hP hD hS => ?_)
  have hP : va_P D classes (cat [[(a0, .inr (11, [.int 0, .int 0, .int ((-1)), .null, .int 0, .int 0, .int 0, .int 0, .int 0, .ref z1, .null, .int 0, .null, .null, .null, .int 0, .null]))]]) H := hP
  have hD : va_D A (cat [[(a0, .inr (11, [.int 0, .int 0, .int ((-1)), .null, .int 0, .int 0, .int 0, .int 0, .int 0, .ref z1, .null, .int 0, .null, .null, .null, .int 0, .null]))]]) := hD
  refine lv_aload_n (pc := 55) hx hb d_Sy_init_55 rfl (lv_at hl 0 rfl) ?_
  refine lv_sipush (pc := 56) (v := 2112) hx hb d_Sy_init_56 (by decide) ?_
  refine k_newa (pc := 59) (atype := .int) X (ty := .int) (a0 := (2112, .inl (fun _ => 0))) rfl rfl wm_193 hK hP hD hS hA 0 rfl (fun _ => rfl) (by decide) rfl (by decide) (Nat.le_of_ble_eq_true rfl) (Nat.le_of_ble_eq_true rfl) d_Sy_init_59 (fun q2 H hP hD hS => ?_)
  have hP : va_P D classes (cat [[(a0, .inr (11, [.int 0, .int 0, .int ((-1)), .null, .int 0, .int 0, .int 0, .int 0, .int 0, .ref z1, .null, .int 0, .null, .null, .null, .int 0, .null]))], [(q2, .inl (kA 0, 2112, .inl (fun _ => 0)))]]) H := hP
  have hD : va_D A (cat [[(a0, .inr (11, [.int 0, .int 0, .int ((-1)), .null, .int 0, .int 0, .int 0, .int 0, .int 0, .ref z1, .null, .int 0, .null, .null, .null, .int 0, .null]))], [(q2, .inl (kA 0, 2112, .inl (fun _ => 0)))]]) := hD
  refine W.widen (k := 1) (n := 2112) (by omega) (by omega) ?_
  refine k_put (pc := 61) X hK hP hD hS 0 rfl rfl i_Sy t_Sy t_Sy_ok n_Sy 10 (by decide) wm_2109 rfl (Or.inr ⟨rfl, rfl⟩) rfl rfl (Nat.le_of_ble_eq_true rfl) d_Sy_init_61 (fun H locs hP hD hS => ?_)
  have hP : va_P D classes (cat [[(a0, .inr (11, [.int 0, .int 0, .int ((-1)), .null, .int 0, .int 0, .int 0, .int 0, .int 0, .ref z1, .ref q2, .int 0, .null, .null, .null, .int 0, .null]))], [(q2, .inl (kA 0, 2112, .inl (fun _ => 0)))]]) H := hP
  have hD : va_D A (cat [[(a0, .inr (11, [.int 0, .int 0, .int ((-1)), .null, .int 0, .int 0, .int 0, .int 0, .int 0, .ref z1, .ref q2, .int 0, .null, .null, .null, .int 0, .null]))], [(q2, .inl (kA 0, 2112, .inl (fun _ => 0)))]]) := hD
  refine lv_aload_n (pc := 64) hx hb d_Sy_init_64 rfl (lv_at hl 0 rfl) ?_
  refine lv_iconst (pc := 65) (v := 0) hx hb d_Sy_init_65 (by decide) ?_
  refine k_put (pc := 66) X hK hP hD hS 0 rfl rfl i_Sy t_Sy t_Sy_ok n_Sy 11 (by decide) wm_2110 rfl (Or.inl rfl) rfl rfl (Nat.le_of_ble_eq_true rfl) d_Sy_init_66 (fun H locs hP hD hS => ?_)
  have hP : va_P D classes (cat [[(a0, .inr (11, [.int 0, .int 0, .int ((-1)), .null, .int 0, .int 0, .int 0, .int 0, .int 0, .ref z1, .ref q2, .int 0, .null, .null, .null, .int 0, .null]))], [(q2, .inl (kA 0, 2112, .inl (fun _ => 0)))]]) H := hP
  have hD : va_D A (cat [[(a0, .inr (11, [.int 0, .int 0, .int ((-1)), .null, .int 0, .int 0, .int 0, .int 0, .int 0, .ref z1, .ref q2, .int 0, .null, .null, .null, .int 0, .null]))], [(q2, .inl (kA 0, 2112, .inl (fun _ => 0)))]]) := hD
  refine lv_aload_n (pc := 69) hx hb d_Sy_init_69 rfl (lv_at hl 0 rfl) ?_
  refine lv_bipush (pc := 70) (v := 113) hx hb d_Sy_init_70 (by decide) ?_
  refine k_newa (pc := 72) (atype := .int) X (ty := .int) (a0 := (113, .inl (fun _ => 0))) rfl rfl wm_193 hK hP hD hS hA 0 rfl (fun _ => rfl) (by decide) rfl (by decide) (Nat.le_of_ble_eq_true rfl) (Nat.le_of_ble_eq_true rfl) d_Sy_init_72 (fun q3 H hP hD hS => ?_)
  have hP : va_P D classes (cat [[(a0, .inr (11, [.int 0, .int 0, .int ((-1)), .null, .int 0, .int 0, .int 0, .int 0, .int 0, .ref z1, .ref q2, .int 0, .null, .null, .null, .int 0, .null]))], [(q2, .inl (kA 0, 2112, .inl (fun _ => 0)))], [(q3, .inl (kA 0, 113, .inl (fun _ => 0)))]]) H := hP
  have hD : va_D A (cat [[(a0, .inr (11, [.int 0, .int 0, .int ((-1)), .null, .int 0, .int 0, .int 0, .int 0, .int 0, .ref z1, .ref q2, .int 0, .null, .null, .null, .int 0, .null]))], [(q2, .inl (kA 0, 2112, .inl (fun _ => 0)))], [(q3, .inl (kA 0, 113, .inl (fun _ => 0)))]]) := hD
  refine W.widen (k := 2) (n := 2225) (by omega) (by omega) ?_
  refine k_put (pc := 74) X hK hP hD hS 0 rfl rfl i_Sy t_Sy t_Sy_ok n_Sy 12 (by decide) wm_2111 rfl (Or.inr ⟨rfl, rfl⟩) rfl rfl (Nat.le_of_ble_eq_true rfl) d_Sy_init_74 (fun H locs hP hD hS => ?_)
  have hP : va_P D classes (cat [[(a0, .inr (11, [.int 0, .int 0, .int ((-1)), .null, .int 0, .int 0, .int 0, .int 0, .int 0, .ref z1, .ref q2, .int 0, .ref q3, .null, .null, .int 0, .null]))], [(q2, .inl (kA 0, 2112, .inl (fun _ => 0)))], [(q3, .inl (kA 0, 113, .inl (fun _ => 0)))]]) H := hP
  have hD : va_D A (cat [[(a0, .inr (11, [.int 0, .int 0, .int ((-1)), .null, .int 0, .int 0, .int 0, .int 0, .int 0, .ref z1, .ref q2, .int 0, .ref q3, .null, .null, .int 0, .null]))], [(q2, .inl (kA 0, 2112, .inl (fun _ => 0)))], [(q3, .inl (kA 0, 113, .inl (fun _ => 0)))]]) := hD
  refine lv_aload_n (pc := 77) hx hb d_Sy_init_77 rfl (lv_at hl 0 rfl) ?_
  refine lv_bipush (pc := 78) (v := 112) hx hb d_Sy_init_78 (by decide) ?_
  refine k_newa (pc := 80) (atype := .int) X (ty := .int) (a0 := (112, .inl (fun _ => 0))) rfl rfl wm_193 hK hP hD hS hA 0 rfl (fun _ => rfl) (by decide) rfl (by decide) (Nat.le_of_ble_eq_true rfl) (Nat.le_of_ble_eq_true rfl) d_Sy_init_80 (fun q4 H hP hD hS => ?_)
  have hP : va_P D classes (cat [[(a0, .inr (11, [.int 0, .int 0, .int ((-1)), .null, .int 0, .int 0, .int 0, .int 0, .int 0, .ref z1, .ref q2, .int 0, .ref q3, .null, .null, .int 0, .null]))], [(q2, .inl (kA 0, 2112, .inl (fun _ => 0)))], [(q3, .inl (kA 0, 113, .inl (fun _ => 0)))], [(q4, .inl (kA 0, 112, .inl (fun _ => 0)))]]) H := hP
  have hD : va_D A (cat [[(a0, .inr (11, [.int 0, .int 0, .int ((-1)), .null, .int 0, .int 0, .int 0, .int 0, .int 0, .ref z1, .ref q2, .int 0, .ref q3, .null, .null, .int 0, .null]))], [(q2, .inl (kA 0, 2112, .inl (fun _ => 0)))], [(q3, .inl (kA 0, 113, .inl (fun _ => 0)))], [(q4, .inl (kA 0, 112, .inl (fun _ => 0)))]]) := hD
  refine W.widen (k := 3) (n := 2337) (by omega) (by omega) ?_
  refine k_put (pc := 82) X hK hP hD hS 0 rfl rfl i_Sy t_Sy t_Sy_ok n_Sy 13 (by decide) wm_2112 rfl (Or.inr ⟨rfl, rfl⟩) rfl rfl (Nat.le_of_ble_eq_true rfl) d_Sy_init_82 (fun H locs hP hD hS => ?_)
  have hP : va_P D classes (cat [[(a0, .inr (11, [.int 0, .int 0, .int ((-1)), .null, .int 0, .int 0, .int 0, .int 0, .int 0, .ref z1, .ref q2, .int 0, .ref q3, .ref q4, .null, .int 0, .null]))], [(q2, .inl (kA 0, 2112, .inl (fun _ => 0)))], [(q3, .inl (kA 0, 113, .inl (fun _ => 0)))], [(q4, .inl (kA 0, 112, .inl (fun _ => 0)))]]) H := hP
  have hD : va_D A (cat [[(a0, .inr (11, [.int 0, .int 0, .int ((-1)), .null, .int 0, .int 0, .int 0, .int 0, .int 0, .ref z1, .ref q2, .int 0, .ref q3, .ref q4, .null, .int 0, .null]))], [(q2, .inl (kA 0, 2112, .inl (fun _ => 0)))], [(q3, .inl (kA 0, 113, .inl (fun _ => 0)))], [(q4, .inl (kA 0, 112, .inl (fun _ => 0)))]]) := hD
  refine lv_aload_n (pc := 85) hx hb d_Sy_init_85 rfl (lv_at hl 0 rfl) ?_
  refine lv_bipush (pc := 86) (v := 80) hx hb d_Sy_init_86 (by decide) ?_
  refine k_newa (pc := 88) (atype := .long) X (ty := .long) (a0 := (80, .inr (.inl (fun _ => 0)))) rfl rfl wm_1683 hK hP hD hS hA 3 rfl (fun _ => rfl) (by decide) rfl (by decide) (Nat.le_of_ble_eq_true rfl) (Nat.le_of_ble_eq_true rfl) d_Sy_init_88 (fun q5 H hP hD hS => ?_)
  have hP : va_P D classes (cat [[(a0, .inr (11, [.int 0, .int 0, .int ((-1)), .null, .int 0, .int 0, .int 0, .int 0, .int 0, .ref z1, .ref q2, .int 0, .ref q3, .ref q4, .null, .int 0, .null]))], [(q2, .inl (kA 0, 2112, .inl (fun _ => 0)))], [(q3, .inl (kA 0, 113, .inl (fun _ => 0)))], [(q4, .inl (kA 0, 112, .inl (fun _ => 0)))], [(q5, .inl (kA 3, 80, .inr (.inl (fun _ => 0))))]]) H := hP
  have hD : va_D A (cat [[(a0, .inr (11, [.int 0, .int 0, .int ((-1)), .null, .int 0, .int 0, .int 0, .int 0, .int 0, .ref z1, .ref q2, .int 0, .ref q3, .ref q4, .null, .int 0, .null]))], [(q2, .inl (kA 0, 2112, .inl (fun _ => 0)))], [(q3, .inl (kA 0, 113, .inl (fun _ => 0)))], [(q4, .inl (kA 0, 112, .inl (fun _ => 0)))], [(q5, .inl (kA 3, 80, .inr (.inl (fun _ => 0))))]]) := hD
  refine W.widen (k := 4) (n := 2417) (by omega) (by omega) ?_
  refine k_put (pc := 90) X hK hP hD hS 0 rfl rfl i_Sy t_Sy t_Sy_ok n_Sy 14 (by decide) wm_2113 rfl (Or.inr ⟨rfl, rfl⟩) rfl rfl (Nat.le_of_ble_eq_true rfl) d_Sy_init_90 (fun H locs hP hD hS => ?_)
  have hP : va_P D classes (cat [[(a0, .inr (11, [.int 0, .int 0, .int ((-1)), .null, .int 0, .int 0, .int 0, .int 0, .int 0, .ref z1, .ref q2, .int 0, .ref q3, .ref q4, .ref q5, .int 0, .null]))], [(q2, .inl (kA 0, 2112, .inl (fun _ => 0)))], [(q3, .inl (kA 0, 113, .inl (fun _ => 0)))], [(q4, .inl (kA 0, 112, .inl (fun _ => 0)))], [(q5, .inl (kA 3, 80, .inr (.inl (fun _ => 0))))]]) H := hP
  have hD : va_D A (cat [[(a0, .inr (11, [.int 0, .int 0, .int ((-1)), .null, .int 0, .int 0, .int 0, .int 0, .int 0, .ref z1, .ref q2, .int 0, .ref q3, .ref q4, .ref q5, .int 0, .null]))], [(q2, .inl (kA 0, 2112, .inl (fun _ => 0)))], [(q3, .inl (kA 0, 113, .inl (fun _ => 0)))], [(q4, .inl (kA 0, 112, .inl (fun _ => 0)))], [(q5, .inl (kA 3, 80, .inr (.inl (fun _ => 0))))]]) := hD
  refine lv_aload_n (pc := 93) hx hb d_Sy_init_93 rfl (lv_at hl 0 rfl) ?_
  refine lv_iconst (pc := 94) (v := 0) hx hb d_Sy_init_94 (by decide) ?_
  refine k_put (pc := 95) X hK hP hD hS 0 rfl rfl i_Sy t_Sy t_Sy_ok n_Sy 15 (by decide) wm_2114 rfl (Or.inl rfl) rfl rfl (Nat.le_of_ble_eq_true rfl) d_Sy_init_95 (fun H locs hP hD hS => ?_)
  have hP : va_P D classes (cat [[(a0, .inr (11, [.int 0, .int 0, .int ((-1)), .null, .int 0, .int 0, .int 0, .int 0, .int 0, .ref z1, .ref q2, .int 0, .ref q3, .ref q4, .ref q5, .int 0, .null]))], [(q2, .inl (kA 0, 2112, .inl (fun _ => 0)))], [(q3, .inl (kA 0, 113, .inl (fun _ => 0)))], [(q4, .inl (kA 0, 112, .inl (fun _ => 0)))], [(q5, .inl (kA 3, 80, .inr (.inl (fun _ => 0))))]]) H := hP
  have hD : va_D A (cat [[(a0, .inr (11, [.int 0, .int 0, .int ((-1)), .null, .int 0, .int 0, .int 0, .int 0, .int 0, .ref z1, .ref q2, .int 0, .ref q3, .ref q4, .ref q5, .int 0, .null]))], [(q2, .inl (kA 0, 2112, .inl (fun _ => 0)))], [(q3, .inl (kA 0, 113, .inl (fun _ => 0)))], [(q4, .inl (kA 0, 112, .inl (fun _ => 0)))], [(q5, .inl (kA 3, 80, .inr (.inl (fun _ => 0))))]]) := hD
  refine lv_aload_n (pc := 98) hx hb d_Sy_init_98 rfl (lv_at hl 0 rfl) ?_
  refine lv_bipush (pc := 99) (v := 10) hx hb d_Sy_init_99 (by decide) ?_
  refine k_newa (pc := 101) (atype := .long) X (ty := .long) (a0 := (10, .inr (.inl (fun _ => 0)))) rfl rfl wm_1683 hK hP hD hS hA 3 rfl (fun _ => rfl) (by decide) rfl (by decide) (Nat.le_of_ble_eq_true rfl) (Nat.le_of_ble_eq_true rfl) d_Sy_init_101 (fun q6 H hP hD hS => ?_)
  have hP : va_P D classes (cat [[(a0, .inr (11, [.int 0, .int 0, .int ((-1)), .null, .int 0, .int 0, .int 0, .int 0, .int 0, .ref z1, .ref q2, .int 0, .ref q3, .ref q4, .ref q5, .int 0, .null]))], [(q2, .inl (kA 0, 2112, .inl (fun _ => 0)))], [(q3, .inl (kA 0, 113, .inl (fun _ => 0)))], [(q4, .inl (kA 0, 112, .inl (fun _ => 0)))], [(q5, .inl (kA 3, 80, .inr (.inl (fun _ => 0))))], [(q6, .inl (kA 3, 10, .inr (.inl (fun _ => 0))))]]) H := hP
  have hD : va_D A (cat [[(a0, .inr (11, [.int 0, .int 0, .int ((-1)), .null, .int 0, .int 0, .int 0, .int 0, .int 0, .ref z1, .ref q2, .int 0, .ref q3, .ref q4, .ref q5, .int 0, .null]))], [(q2, .inl (kA 0, 2112, .inl (fun _ => 0)))], [(q3, .inl (kA 0, 113, .inl (fun _ => 0)))], [(q4, .inl (kA 0, 112, .inl (fun _ => 0)))], [(q5, .inl (kA 3, 80, .inr (.inl (fun _ => 0))))], [(q6, .inl (kA 3, 10, .inr (.inl (fun _ => 0))))]]) := hD
  refine W.widen (k := 5) (n := 2427) (by omega) (by omega) ?_
  refine k_put (pc := 103) X hK hP hD hS 0 rfl rfl i_Sy t_Sy t_Sy_ok n_Sy 16 (by decide) wm_2115 rfl (Or.inr ⟨rfl, rfl⟩) rfl rfl (Nat.le_of_ble_eq_true rfl) d_Sy_init_103 (fun H locs hP hD hS => ?_)
  have hP : va_P D classes (cat [[(a0, .inr (11, [.int 0, .int 0, .int ((-1)), .null, .int 0, .int 0, .int 0, .int 0, .int 0, .ref z1, .ref q2, .int 0, .ref q3, .ref q4, .ref q5, .int 0, .ref q6]))], [(q2, .inl (kA 0, 2112, .inl (fun _ => 0)))], [(q3, .inl (kA 0, 113, .inl (fun _ => 0)))], [(q4, .inl (kA 0, 112, .inl (fun _ => 0)))], [(q5, .inl (kA 3, 80, .inr (.inl (fun _ => 0))))], [(q6, .inl (kA 3, 10, .inr (.inl (fun _ => 0))))]]) H := hP
  have hD : va_D A (cat [[(a0, .inr (11, [.int 0, .int 0, .int ((-1)), .null, .int 0, .int 0, .int 0, .int 0, .int 0, .ref z1, .ref q2, .int 0, .ref q3, .ref q4, .ref q5, .int 0, .ref q6]))], [(q2, .inl (kA 0, 2112, .inl (fun _ => 0)))], [(q3, .inl (kA 0, 113, .inl (fun _ => 0)))], [(q4, .inl (kA 0, 112, .inl (fun _ => 0)))], [(q5, .inl (kA 3, 80, .inr (.inl (fun _ => 0))))], [(q6, .inl (kA 3, 10, .inr (.inl (fun _ => 0))))]]) := hD
  refine W.widen (k := 5) (n := 2427) (Nat.le_of_ble_eq_true rfl) (Nat.le_of_ble_eq_true rfl) ?_
  exact W.vret hx hb hr (fun t ht hW => ⟨⟨(fun k => match k with | 0 => z1 | 1 => q2 | 2 => q3 | 3 => q4 | 4 => q5 | 5 => q6 | _ => 0), rfl, trivial, by rw [ht]; exact hP, va_K.moved hW.alike hK, hD⟩, hS.F ht⟩) hS.2.2 d_Sy_init_106
set_option maxRecDepth 100000 in
set_option maxHeartbeats 4000000 in
/-- DrawingHouse$Styler.advance()V -/
theorem c_Sy_advance_z1 (l : Launch) (D : va_G) (kA : Nat → ClassId) (a0 : Nat) (a1 : Nat) (a2 : Nat) (a3 : Nat) (a4 : Nat) (a5 : Nat) (a6 : Nat) (a7 : Nat) : Cv l y_Sy_advance z_Sy_advance { frames := 0, cells := 0, slots := 0, locals := 0 } D classes (TY kA) [.ref a0] [[(a0, .inr (11, [.int 0, .int 0, .int ((-1)), .ref a1, .int 0, .int 0, .int 0, .int 0, .int 0, .ref a2, .ref a3, .int 0, .ref a4, .ref a5, .ref a6, .int 0, .ref a7]))]] (fun _ : Unit => True) (fun u => [[(a0, .inr (11, [.int 0, .int 0, .int ((-1)), .ref a1, .int 0, .int 0, .int 0, .int 0, .int 0, .ref a2, .ref a3, .int 0, .ref a4, .ref a5, .ref a6, .int 0, .ref a7]))]]) 0 0 := by
  intro sz
  refine k_met (cc := b_Sy_advance) (maxL := 2) (ret := none) (by decide) rfl (Nat.le_of_ble_eq_true rfl) (fun p e s m below meth c ls X hl hB => ?_)
  obtain ⟨hsz, hP, hK, hD0, hN⟩ := hB
  subst hsz
  have hD := hD0.self (sz := s.heap.size)
  generalize hAe : va_A (cat [[(a0, .inr (11, [.int 0, .int 0, .int ((-1)), .ref a1, .int 0, .int 0, .int 0, .int 0, .int 0, .ref a2, .ref a3, .int 0, .ref a4, .ref a5, .ref a6, .int 0, .ref a7]))]]) s.heap.size = A at hD ⊢
  have hA : ∀ q : Nat, s.heap.size ≤ q → A q := fun q h => by rw [← hAe]; exact Or.inr h
  have hS : va_S A s.heap s.heap [] := va_S.rf
  obtain ⟨hx, hb, hml, hown, hts, hr, hlk, hnm⟩ := id X
  have hl : lv_has ls 2 [(0, .ref a0)] := hl
  have hP : va_P D classes (cat [[(a0, .inr (11, [.int 0, .int 0, .int ((-1)), .ref a1, .int 0, .int 0, .int 0, .int 0, .int 0, .ref a2, .ref a3, .int 0, .ref a4, .ref a5, .ref a6, .int 0, .ref a7]))]]) s.heap := hP
  have hK : va_K D classes (TY kA) s := hK
  refine lv_aload_n (pc := 0) hx hb d_Sy_advance_0 rfl (lv_at hl 0 rfl) ?_
  refine k_get (pc := 1) X hK hP 0 rfl rfl i_Sy 5 (by decide) wm_2104 rfl rfl d_Sy_advance_1 ?_
  refine lv_aload_n (pc := 4) hx hb d_Sy_advance_4 rfl (lv_at hl 0 rfl) ?_
  refine k_get (pc := 5) X hK hP 0 rfl rfl i_Sy 4 (by decide) wm_2103 rfl rfl d_Sy_advance_5 ?_
  refine lv_icmp_ge (pc := 8) (tgt := 52) hx hb d_Sy_advance_8 (by decide) (fun _ => ?_) (fun c1 => absurd (by decide) c1)
  refine lv_aload_n (pc := 52) hx hb d_Sy_advance_52 rfl (lv_at hl 0 rfl) ?_
  refine lv_aload_n (pc := 53) hx hb d_Sy_advance_53 rfl (lv_at hl 0 rfl) ?_
  refine k_get (pc := 54) X hK hP 0 rfl rfl i_Sy 5 (by decide) wm_2104 rfl rfl d_Sy_advance_54 ?_
  refine k_put (pc := 57) X hK hP hD hS 0 rfl rfl i_Sy t_Sy t_Sy_ok n_Sy 7 (by decide) wm_2106 rfl (Or.inl rfl) rfl rfl (Nat.le_of_ble_eq_true rfl) d_Sy_advance_57 (fun H locs hP hD hS => ?_)
  have hP : va_P D classes (cat [[(a0, .inr (11, [.int 0, .int 0, .int ((-1)), .ref a1, .int 0, .int 0, .int 0, .int 0, .int 0, .ref a2, .ref a3, .int 0, .ref a4, .ref a5, .ref a6, .int 0, .ref a7]))]]) H := hP
  have hD : va_D A (cat [[(a0, .inr (11, [.int 0, .int 0, .int ((-1)), .ref a1, .int 0, .int 0, .int 0, .int 0, .int 0, .ref a2, .ref a3, .int 0, .ref a4, .ref a5, .ref a6, .int 0, .ref a7]))]]) := hD
  refine lv_aload_n (pc := 60) hx hb d_Sy_advance_60 rfl (lv_at hl 0 rfl) ?_
  refine k_get (pc := 61) X hK hP 0 rfl rfl i_Sy 5 (by decide) wm_2104 rfl rfl d_Sy_advance_61 ?_
  refine lv_aload_n (pc := 64) hx hb d_Sy_advance_64 rfl (lv_at hl 0 rfl) ?_
  refine k_get (pc := 65) X hK hP 0 rfl rfl i_Sy 4 (by decide) wm_2103 rfl rfl d_Sy_advance_65 ?_
  refine lv_icmp_lt (pc := 68) (tgt := 77) hx hb d_Sy_advance_68 (by decide) (fun c1 => absurd c1 (by decide)) (fun _ => ?_)
  refine lv_aload_n (pc := 71) hx hb d_Sy_advance_71 rfl (lv_at hl 0 rfl) ?_
  refine lv_iconst (pc := 72) (v := 0) hx hb d_Sy_advance_72 (by decide) ?_
  refine k_put (pc := 73) X hK hP hD hS 0 rfl rfl i_Sy t_Sy t_Sy_ok n_Sy 6 (by decide) wm_2105 rfl (Or.inl rfl) rfl rfl (Nat.le_of_ble_eq_true rfl) d_Sy_advance_73 (fun H locs hP hD hS => ?_)
  have hP : va_P D classes (cat [[(a0, .inr (11, [.int 0, .int 0, .int ((-1)), .ref a1, .int 0, .int 0, .int 0, .int 0, .int 0, .ref a2, .ref a3, .int 0, .ref a4, .ref a5, .ref a6, .int 0, .ref a7]))]]) H := hP
  have hD : va_D A (cat [[(a0, .inr (11, [.int 0, .int 0, .int ((-1)), .ref a1, .int 0, .int 0, .int 0, .int 0, .int 0, .ref a2, .ref a3, .int 0, .ref a4, .ref a5, .ref a6, .int 0, .ref a7]))]]) := hD
  refine W.widen (k := 0) (n := 0) (Nat.le_of_ble_eq_true rfl) (Nat.le_of_ble_eq_true rfl) ?_
  exact W.vret hx hb hr (fun t ht hW => ⟨⟨(), rfl, trivial, by rw [ht]; exact hP, va_K.moved hW.alike hK, hD⟩, hS.F ht⟩) hS.2.2 d_Sy_advance_76
set_option maxRecDepth 100000 in
set_option maxHeartbeats 4000000 in
/-- DrawingHouse$Styler.compile([BI)Z -/
theorem c_Sy_compile_z1 (l : Launch) (D : va_G) (kA : Nat → ClassId) (a0 : Nat) (a1 : Nat) (a2 : Nat) (a3 : Nat) (a4 : Nat) (a5 : Nat) (a6 : Nat) (a7 : Nat) (f0 : Nat → Int32) : Ci l y_Sy_compile z_Sy_compile { frames := 1, cells := 0, slots := 0, locals := 21 } D classes (TY kA) [.ref a0, .ref a1, .int 0] [[(a0, .inr (11, [.int 0, .int 0, .int ((-1)), .null, .int 0, .int 0, .int 0, .int 0, .int 0, .ref a2, .ref a3, .int 0, .ref a4, .ref a5, .ref a6, .int 0, .ref a7]))], [(a4, .inl (kA 0, 113, .inl f0))]] (fun r (_ : Unit) => r = 1) (fun u => [[(a0, .inr (11, [.int 0, .int 0, .int ((-1)), .ref a1, .int 0, .int 0, .int 0, .int 0, .int 0, .ref a2, .ref a3, .int 0, .ref a4, .ref a5, .ref a6, .int 0, .ref a7]))], [(a4, .inl (kA 0, 113, .inl (upd (f0) 0 0)))]]) 0 0 := by
  intro sz
  refine k_met (cc := b_Sy_compile) (maxL := 4) (ret := (some .boolean)) (by decide) rfl (Nat.le_of_ble_eq_true rfl) (fun p e s m below meth c ls X hl hB => ?_)
  obtain ⟨hsz, hP, hK, hD0, hN⟩ := hB
  subst hsz
  have hD := hD0.self (sz := s.heap.size)
  generalize hAe : va_A (cat [[(a0, .inr (11, [.int 0, .int 0, .int ((-1)), .null, .int 0, .int 0, .int 0, .int 0, .int 0, .ref a2, .ref a3, .int 0, .ref a4, .ref a5, .ref a6, .int 0, .ref a7]))], [(a4, .inl (kA 0, 113, .inl f0))]]) s.heap.size = A at hD ⊢
  have hA : ∀ q : Nat, s.heap.size ≤ q → A q := fun q h => by rw [← hAe]; exact Or.inr h
  have hS : va_S A s.heap s.heap [] := va_S.rf
  obtain ⟨hx, hb, hml, hown, hts, hr, hlk, hnm⟩ := id X
  have hl : lv_has ls 4 [(0, .ref a0), (1, .ref a1), (2, .int 0)] := hl
  have hP : va_P D classes (cat [[(a0, .inr (11, [.int 0, .int 0, .int ((-1)), .null, .int 0, .int 0, .int 0, .int 0, .int 0, .ref a2, .ref a3, .int 0, .ref a4, .ref a5, .ref a6, .int 0, .ref a7]))], [(a4, .inl (kA 0, 113, .inl f0))]]) s.heap := hP
  have hK : va_K D classes (TY kA) s := hK
  refine lv_aload_n (pc := 0) hx hb d_Sy_compile_0 rfl (lv_at hl 0 rfl) ?_
  refine lv_aload_n (pc := 1) hx hb d_Sy_compile_1 rfl (lv_at hl 1 rfl) ?_
  refine k_put (pc := 2) X hK hP hD hS 0 rfl rfl i_Sy t_Sy t_Sy_ok n_Sy 3 (by decide) wm_2102 rfl (Or.inl rfl) rfl rfl (Nat.le_of_ble_eq_true rfl) d_Sy_compile_2 (fun H locs hP hD hS => ?_)
  have hP : va_P D classes (cat [[(a0, .inr (11, [.int 0, .int 0, .int ((-1)), .ref a1, .int 0, .int 0, .int 0, .int 0, .int 0, .ref a2, .ref a3, .int 0, .ref a4, .ref a5, .ref a6, .int 0, .ref a7]))], [(a4, .inl (kA 0, 113, .inl f0))]]) H := hP
  have hD : va_D A (cat [[(a0, .inr (11, [.int 0, .int 0, .int ((-1)), .ref a1, .int 0, .int 0, .int 0, .int 0, .int 0, .ref a2, .ref a3, .int 0, .ref a4, .ref a5, .ref a6, .int 0, .ref a7]))], [(a4, .inl (kA 0, 113, .inl f0))]]) := hD
  refine lv_aload_n (pc := 5) hx hb d_Sy_compile_5 rfl (lv_at hl 0 rfl) ?_
  refine lv_iload_n (pc := 6) hx hb d_Sy_compile_6 rfl (lv_at hl 2 rfl) ?_
  refine k_put (pc := 7) X hK hP hD hS 0 rfl rfl i_Sy t_Sy t_Sy_ok n_Sy 4 (by decide) wm_2103 rfl (Or.inl rfl) rfl rfl (Nat.le_of_ble_eq_true rfl) d_Sy_compile_7 (fun H locs hP hD hS => ?_)
  have hP : va_P D classes (cat [[(a0, .inr (11, [.int 0, .int 0, .int ((-1)), .ref a1, .int 0, .int 0, .int 0, .int 0, .int 0, .ref a2, .ref a3, .int 0, .ref a4, .ref a5, .ref a6, .int 0, .ref a7]))], [(a4, .inl (kA 0, 113, .inl f0))]]) H := hP
  have hD : va_D A (cat [[(a0, .inr (11, [.int 0, .int 0, .int ((-1)), .ref a1, .int 0, .int 0, .int 0, .int 0, .int 0, .ref a2, .ref a3, .int 0, .ref a4, .ref a5, .ref a6, .int 0, .ref a7]))], [(a4, .inl (kA 0, 113, .inl f0))]]) := hD
  refine lv_aload_n (pc := 10) hx hb d_Sy_compile_10 rfl (lv_at hl 0 rfl) ?_
  refine lv_iconst (pc := 11) (v := 0) hx hb d_Sy_compile_11 (by decide) ?_
  refine k_put (pc := 12) X hK hP hD hS 0 rfl rfl i_Sy t_Sy t_Sy_ok n_Sy 5 (by decide) wm_2104 rfl (Or.inl rfl) rfl rfl (Nat.le_of_ble_eq_true rfl) d_Sy_compile_12 (fun H locs hP hD hS => ?_)
  have hP : va_P D classes (cat [[(a0, .inr (11, [.int 0, .int 0, .int ((-1)), .ref a1, .int 0, .int 0, .int 0, .int 0, .int 0, .ref a2, .ref a3, .int 0, .ref a4, .ref a5, .ref a6, .int 0, .ref a7]))], [(a4, .inl (kA 0, 113, .inl f0))]]) H := hP
  have hD : va_D A (cat [[(a0, .inr (11, [.int 0, .int 0, .int ((-1)), .ref a1, .int 0, .int 0, .int 0, .int 0, .int 0, .ref a2, .ref a3, .int 0, .ref a4, .ref a5, .ref a6, .int 0, .ref a7]))], [(a4, .inl (kA 0, 113, .inl f0))]]) := hD
  refine lv_aload_n (pc := 15) hx hb d_Sy_compile_15 rfl (lv_at hl 0 rfl) ?_
  refine lv_iconst (pc := 16) (v := 0) hx hb d_Sy_compile_16 (by decide) ?_
  refine k_put (pc := 17) X hK hP hD hS 0 rfl rfl i_Sy t_Sy t_Sy_ok n_Sy 0 (by decide) wm_2096 rfl (Or.inl rfl) rfl rfl (Nat.le_of_ble_eq_true rfl) d_Sy_compile_17 (fun H locs hP hD hS => ?_)
  have hP : va_P D classes (cat [[(a0, .inr (11, [.int 0, .int 0, .int ((-1)), .ref a1, .int 0, .int 0, .int 0, .int 0, .int 0, .ref a2, .ref a3, .int 0, .ref a4, .ref a5, .ref a6, .int 0, .ref a7]))], [(a4, .inl (kA 0, 113, .inl f0))]]) H := hP
  have hD : va_D A (cat [[(a0, .inr (11, [.int 0, .int 0, .int ((-1)), .ref a1, .int 0, .int 0, .int 0, .int 0, .int 0, .ref a2, .ref a3, .int 0, .ref a4, .ref a5, .ref a6, .int 0, .ref a7]))], [(a4, .inl (kA 0, 113, .inl f0))]]) := hD
  refine lv_aload_n (pc := 20) hx hb d_Sy_compile_20 rfl (lv_at hl 0 rfl) ?_
  refine lv_iconst (pc := 21) (v := 0) hx hb d_Sy_compile_21 (by decide) ?_
  refine k_put (pc := 22) X hK hP hD hS 0 rfl rfl i_Sy t_Sy t_Sy_ok n_Sy 11 (by decide) wm_2110 rfl (Or.inl rfl) rfl rfl (Nat.le_of_ble_eq_true rfl) d_Sy_compile_22 (fun H locs hP hD hS => ?_)
  have hP : va_P D classes (cat [[(a0, .inr (11, [.int 0, .int 0, .int ((-1)), .ref a1, .int 0, .int 0, .int 0, .int 0, .int 0, .ref a2, .ref a3, .int 0, .ref a4, .ref a5, .ref a6, .int 0, .ref a7]))], [(a4, .inl (kA 0, 113, .inl f0))]]) H := hP
  have hD : va_D A (cat [[(a0, .inr (11, [.int 0, .int 0, .int ((-1)), .ref a1, .int 0, .int 0, .int 0, .int 0, .int 0, .ref a2, .ref a3, .int 0, .ref a4, .ref a5, .ref a6, .int 0, .ref a7]))], [(a4, .inl (kA 0, 113, .inl f0))]]) := hD
  refine lv_aload_n (pc := 25) hx hb d_Sy_compile_25 rfl (lv_at hl 0 rfl) ?_
  refine lv_iconst (pc := 26) (v := 0) hx hb d_Sy_compile_26 (by decide) ?_
  refine k_put (pc := 27) X hK hP hD hS 0 rfl rfl i_Sy t_Sy t_Sy_ok n_Sy 1 (by decide) wm_2098 rfl (Or.inl rfl) rfl rfl (Nat.le_of_ble_eq_true rfl) d_Sy_compile_27 (fun H locs hP hD hS => ?_)
  have hP : va_P D classes (cat [[(a0, .inr (11, [.int 0, .int 0, .int ((-1)), .ref a1, .int 0, .int 0, .int 0, .int 0, .int 0, .ref a2, .ref a3, .int 0, .ref a4, .ref a5, .ref a6, .int 0, .ref a7]))], [(a4, .inl (kA 0, 113, .inl f0))]]) H := hP
  have hD : va_D A (cat [[(a0, .inr (11, [.int 0, .int 0, .int ((-1)), .ref a1, .int 0, .int 0, .int 0, .int 0, .int 0, .ref a2, .ref a3, .int 0, .ref a4, .ref a5, .ref a6, .int 0, .ref a7]))], [(a4, .inl (kA 0, 113, .inl f0))]]) := hD
  refine lv_aload_n (pc := 30) hx hb d_Sy_compile_30 rfl (lv_at hl 0 rfl) ?_
  refine lv_iconst (pc := 31) (v := -1) hx hb d_Sy_compile_31 (by decide) ?_
  refine k_put (pc := 32) X hK hP hD hS 0 rfl rfl i_Sy t_Sy t_Sy_ok n_Sy 2 (by decide) wm_2100 rfl (Or.inl rfl) rfl rfl (Nat.le_of_ble_eq_true rfl) d_Sy_compile_32 (fun H locs hP hD hS => ?_)
  have hP : va_P D classes (cat [[(a0, .inr (11, [.int 0, .int 0, .int ((-1)), .ref a1, .int 0, .int 0, .int 0, .int 0, .int 0, .ref a2, .ref a3, .int 0, .ref a4, .ref a5, .ref a6, .int 0, .ref a7]))], [(a4, .inl (kA 0, 113, .inl f0))]]) H := hP
  have hD : va_D A (cat [[(a0, .inr (11, [.int 0, .int 0, .int ((-1)), .ref a1, .int 0, .int 0, .int 0, .int 0, .int 0, .ref a2, .ref a3, .int 0, .ref a4, .ref a5, .ref a6, .int 0, .ref a7]))], [(a4, .inl (kA 0, 113, .inl f0))]]) := hD
  refine lv_aload_n (pc := 35) hx hb d_Sy_compile_35 rfl (lv_at hl 0 rfl) ?_
  refine k_goV (gr := [[(a4, .inl (kA 0, 113, .inl f0))]]) (k_rV (pc := 36) (As := []) (rest := []) X (c_Sy_advance_z1 l D kA a0 a1 a2 a3 a4 a5 a6 a7 H.size) rfl wm_2158 wm_23 wm_2155 wm_2157 wv_10_10 0 (by decide +kernel) ⟨Nat.le_of_ble_eq_true rfl, Nat.le_of_ble_eq_true rfl⟩ rfl rfl (va_recv hK hP (ci := 11) (q0 := 0) rfl rfl) (k_pre hN hK hP hD [0] [1] 2 rfl (by decide) rfl) rfl hl.1 rfl (Nat.le_of_ble_eq_true rfl) d_Sy_compile_36 ⟨Nat.le_of_ble_eq_true rfl, Nat.le_of_ble_eq_true rfl⟩) hP hD hS hA [0] [1] 2 rfl (by decide) rfl rfl (fun u1 H locs hu1 hP hD hS => ?_)
  have hP : va_P D classes (cat [[(a4, .inl (kA 0, 113, .inl f0))], [(a0, .inr (11, [.int 0, .int 0, .int ((-1)), .ref a1, .int 0, .int 0, .int 0, .int 0, .int 0, .ref a2, .ref a3, .int 0, .ref a4, .ref a5, .ref a6, .int 0, .ref a7]))]]) H := hP
  have hD : va_D A (cat [[(a4, .inl (kA 0, 113, .inl f0))], [(a0, .inr (11, [.int 0, .int 0, .int ((-1)), .ref a1, .int 0, .int 0, .int 0, .int 0, .int 0, .ref a2, .ref a3, .int 0, .ref a4, .ref a5, .ref a6, .int 0, .ref a7]))]]) := hD
  refine lv_iconst (pc := 39) (v := 0) hx hb d_Sy_compile_39 (by decide) ?_
  refine lv_istore_n (pc := 40) (lv' := [(3, .int 0), (0, .ref a0), (1, .ref a1), (2, .int 0)]) hx hb d_Sy_compile_40 rfl hl (by decide) rfl (fun ls hl => ?_)
  refine lv_iload_n (pc := 41) hx hb d_Sy_compile_41 rfl (lv_at hl 0 rfl) ?_
  refine lv_bipush (pc := 42) (v := 112) hx hb d_Sy_compile_42 (by decide) ?_
  refine lv_icmp_ge (pc := 44) (tgt := 69) hx hb d_Sy_compile_44 (by decide) (fun c1 => absurd c1 (by decide)) (fun _ => ?_)
  refine lv_aload_n (pc := 47) hx hb d_Sy_compile_47 rfl (lv_at hl 1 rfl) ?_
  refine k_get (pc := 48) X hK hP 1 rfl rfl i_Sy 6 (by decide) wm_2105 rfl rfl d_Sy_compile_48 ?_
  refine lv_if_eq (pc := 51) (tgt := 69) hx hb d_Sy_compile_51 (by decide) (fun c1 => ?_) (fun c1 => absurd (by decide) c1)
  refine lv_aload_n (pc := 69) hx hb d_Sy_compile_69 rfl (lv_at hl 1 rfl) ?_
  refine k_get (pc := 70) X hK hP 1 rfl rfl i_Sy 12 (by decide) wm_2111 rfl rfl d_Sy_compile_70 ?_
  refine lv_aload_n (pc := 73) hx hb d_Sy_compile_73 rfl (lv_at hl 1 rfl) ?_
  refine k_get (pc := 74) X hK hP 1 rfl rfl i_Sy 0 (by decide) wm_2096 rfl rfl d_Sy_compile_74 ?_
  refine lv_aload_n (pc := 77) hx hb d_Sy_compile_77 rfl (lv_at hl 1 rfl) ?_
  refine k_get (pc := 78) X hK hP 1 rfl rfl i_Sy 11 (by decide) wm_2110 rfl rfl d_Sy_compile_78 ?_
  refine va_iast (pc := 81) hx hb hK hP hD hS 0 0 rfl rfl (by unfold vp_in; decide) d_Sy_compile_81 (fun H locs hP hD hS => ?_)
  have hP : va_P D classes (cat [[(a4, .inl (kA 0, 113, .inl (upd (f0) 0 0)))], [(a0, .inr (11, [.int 0, .int 0, .int ((-1)), .ref a1, .int 0, .int 0, .int 0, .int 0, .int 0, .ref a2, .ref a3, .int 0, .ref a4, .ref a5, .ref a6, .int 0, .ref a7]))]]) H := hP
  have hD : va_D A (cat [[(a4, .inl (kA 0, 113, .inl (upd (f0) 0 0)))], [(a0, .inr (11, [.int 0, .int 0, .int ((-1)), .ref a1, .int 0, .int 0, .int 0, .int 0, .int 0, .ref a2, .ref a3, .int 0, .ref a4, .ref a5, .ref a6, .int 0, .ref a7]))]]) := hD
  refine lv_iconst (pc := 82) (v := 1) hx hb d_Sy_compile_82 (by decide) ?_
  obtain ⟨hP, hD⟩ := k_ord (gc := [[(a0, .inr (11, [.int 0, .int 0, .int ((-1)), .ref a1, .int 0, .int 0, .int 0, .int 0, .int 0, .ref a2, .ref a3, .int 0, .ref a4, .ref a5, .ref a6, .int 0, .ref a7]))], [(a4, .inl (kA 0, 113, .inl (upd (f0) 0 0)))]]) hP hD [1, 0] 2 rfl (by decide) rfl
  refine W.widen (k := 0) (n := 0) (Nat.le_of_ble_eq_true rfl) (Nat.le_of_ble_eq_true rfl) ?_
  exact W.zret (v := 1) hx hb hr rfl (fun t ht hW => ⟨⟨1, (), rfl, rfl, by rw [ht]; exact hP, va_K.moved hW.alike hK, hD⟩, hS.F ht⟩) hS.2.2 d_Sy_compile_83
set_option maxRecDepth 100000 in
set_option maxHeartbeats 4000000 in
/-- DrawingHouse.learned(I)LDrawingHouse$Facts; -/
theorem c_Ho_learned_z2 (l : Launch) (D : va_G) (kA : Nat → ClassId) (a0 : Nat) (j : Nat) (a1 : Nat) (a2 : Nat) (a3 : Nat) (a4 : Nat) (a5 : Nat) (a6 : Nat) (a7 : Nat) (a8 : Nat) (a9 : Nat) (a10 : Nat) (a11 : Nat) (g : Nat → Nat → Nat) (a12 : Nat) (a13 : Nat) (a14 : Nat) (a15 : Nat) (a16 : Nat) (a17 : Nat) (a18 : Nat) (a19 : Nat) (a20 : Nat) (a21 : Nat) (a22 : Nat) (a23 : Nat) (a24 : Nat) (a25 : Nat) (a26 : Nat) (a27 : Nat) (a28 : Nat) (a29 : Nat) (a30 : Nat) (a31 : Nat) (a32 : Nat) (a33 : Nat) (a34 : Nat) (a35 : Nat) (f0 : Nat → Int32) (f1 : Nat → Int32) (f2 : Nat → Int32) (f3 : Nat → Int32) (hj : j < 4) : Cr l y_Ho_learned z_Ho_learned { frames := 4, cells := 0, slots := 0, locals := 94 } D classes (TY kA) (g 1 j) [.ref a0, .int (nI j)] [[(a0, .inr (12, [.ref a1, .ref a2, .ref a3, .ref a4, .ref a5, .ref a6, .ref a7, .int 0, .int ((-1)), .ref a8, .ref a9, .int 0, .int 0, .ref a10, .int 0, .int 0, .ref a11, .null, .null, .null, .null]))], [(a2, .inl (kA 5, 4, .inr (.inr (.inr (.inr (rr (g 1)))))))], [(g 1 j, .inr (2, [.int 0, .int 0, .int 0, .int 0, .ref a12, .ref a13, .ref a14, .ref a15, .ref a16, .ref a17, .ref a18, .ref a19, .ref a20, .ref a21, .ref a22]))], [(a1, .inl (kA 4, 4, .inr (.inr (.inr (.inr (rr (g 0)))))))], [(g 0 j, .inr (3, [.int 0, .int 0, .int 1, .ref a23, .ref a24, .ref a25, .ref a26, .ref a27, .ref a28, .ref a29, .ref a30, .ref a31, .ref a32, .ref a33, .ref a34, .ref a35, .null, .int 0, .int 0]))], [(a13, .inl (kA 0, 48, .inl f0))], [(a18, .inl (kA 0, 24, .inl f1))], [(a14, .inl (kA 0, 24, .inl f2))], [(a19, .inl (kA 0, 24, .inl f3))]] (fun _ : (Nat → Nat) × (Nat → Nat → Int32) => True) (fun u => [[(a0, .inr (12, [.ref a1, .ref a2, .ref a3, .ref a4, .ref a5, .ref a6, .ref a7, .int 0, .int ((-1)), .ref a8, .ref a9, .int 0, .int 0, .ref a10, .int 0, .int 0, .ref a11, .null, .null, .null, .null]))], [(a2, .inl (kA 5, 4, .inr (.inr (.inr (.inr (rr (g 1)))))))], [(g 1 j, .inr (2, [.int 1, .int 0, .int 0, .int 0, .ref a12, .ref a13, .ref a14, .ref a15, .ref a16, .ref a17, .ref a18, .ref a19, .ref a20, .ref a21, .ref a22]))], [(a1, .inl (kA 4, 4, .inr (.inr (.inr (.inr (rr (g 0)))))))], [(g 0 j, .inr (3, [.int 0, .int 0, .int 1, .ref a23, .ref a24, .ref a25, .ref a26, .ref a27, .ref a28, .ref a29, .ref a30, .ref a31, .ref a32, .ref a33, .ref a34, .ref a35, .null, .int 0, .int 0]))], [(a13, .inl (kA 0, 48, .inl (u.2 0)))], [(a18, .inl (kA 0, 24, .inl (fl (fl f1 24 0) 24 0)))], [(a14, .inl (kA 0, 24, .inl (fl f2 24 (-1))))], [(a19, .inl (kA 0, 24, .inl (fl f3 24 (-1))))]]) 0 0 := by
  intro sz
  refine k_met (cc := b_Ho_learned) (maxL := 2) (ret := (some (.object "DrawingHouse$Facts"))) (by decide) rfl (Nat.le_of_ble_eq_true rfl) (fun p e s m below meth c ls X hl hB => ?_)
  obtain ⟨hsz, hP, hK, hD0, hN⟩ := hB
  subst hsz
  have hD := hD0.self (sz := s.heap.size)
  generalize hAe : va_A (cat [[(a0, .inr (12, [.ref a1, .ref a2, .ref a3, .ref a4, .ref a5, .ref a6, .ref a7, .int 0, .int ((-1)), .ref a8, .ref a9, .int 0, .int 0, .ref a10, .int 0, .int 0, .ref a11, .null, .null, .null, .null]))], [(a2, .inl (kA 5, 4, .inr (.inr (.inr (.inr (rr (g 1)))))))], [(g 1 j, .inr (2, [.int 0, .int 0, .int 0, .int 0, .ref a12, .ref a13, .ref a14, .ref a15, .ref a16, .ref a17, .ref a18, .ref a19, .ref a20, .ref a21, .ref a22]))], [(a1, .inl (kA 4, 4, .inr (.inr (.inr (.inr (rr (g 0)))))))], [(g 0 j, .inr (3, [.int 0, .int 0, .int 1, .ref a23, .ref a24, .ref a25, .ref a26, .ref a27, .ref a28, .ref a29, .ref a30, .ref a31, .ref a32, .ref a33, .ref a34, .ref a35, .null, .int 0, .int 0]))], [(a13, .inl (kA 0, 48, .inl f0))], [(a18, .inl (kA 0, 24, .inl f1))], [(a14, .inl (kA 0, 24, .inl f2))], [(a19, .inl (kA 0, 24, .inl f3))]]) s.heap.size = A at hD ⊢
  have hA : ∀ q : Nat, s.heap.size ≤ q → A q := fun q h => by rw [← hAe]; exact Or.inr h
  have hS : va_S A s.heap s.heap [] := va_S.rf
  obtain ⟨hx, hb, hml, hown, hts, hr, hlk, hnm⟩ := id X
  have hl : lv_has ls 2 [(0, .ref a0), (1, .int (nI j))] := hl
  have hP : va_P D classes (cat [[(a0, .inr (12, [.ref a1, .ref a2, .ref a3, .ref a4, .ref a5, .ref a6, .ref a7, .int 0, .int ((-1)), .ref a8, .ref a9, .int 0, .int 0, .ref a10, .int 0, .int 0, .ref a11, .null, .null, .null, .null]))], [(a2, .inl (kA 5, 4, .inr (.inr (.inr (.inr (rr (g 1)))))))], [(g 1 j, .inr (2, [.int 0, .int 0, .int 0, .int 0, .ref a12, .ref a13, .ref a14, .ref a15, .ref a16, .ref a17, .ref a18, .ref a19, .ref a20, .ref a21, .ref a22]))], [(a1, .inl (kA 4, 4, .inr (.inr (.inr (.inr (rr (g 0)))))))], [(g 0 j, .inr (3, [.int 0, .int 0, .int 1, .ref a23, .ref a24, .ref a25, .ref a26, .ref a27, .ref a28, .ref a29, .ref a30, .ref a31, .ref a32, .ref a33, .ref a34, .ref a35, .null, .int 0, .int 0]))], [(a13, .inl (kA 0, 48, .inl f0))], [(a18, .inl (kA 0, 24, .inl f1))], [(a14, .inl (kA 0, 24, .inl f2))], [(a19, .inl (kA 0, 24, .inl f3))]]) s.heap := hP
  have hK : va_K D classes (TY kA) s := hK
  refine lv_aload_n (pc := 0) hx hb d_Ho_learned_0 rfl (lv_at hl 0 rfl) ?_
  refine k_get (pc := 1) X hK hP 0 rfl rfl i_Ho 1 (by decide) wm_556 rfl rfl d_Ho_learned_1 ?_
  refine lv_iload_n (pc := 4) hx hb d_Ho_learned_4 rfl (lv_at hl 1 rfl) ?_
  refine k_ald (pc := 5) hx hb hK hP 1 5 rfl rfl (j) rfl (by omega) (by decide) (rr_at (by omega)) d_Ho_learned_5 ?_
  refine k_get (pc := 6) X hK hP 2 rfl rfl i_Fa 0 (by decide) wm_395 rfl rfl d_Ho_learned_6 ?_
  refine lv_if_ne (pc := 9) (tgt := 27) hx hb d_Ho_learned_9 (by decide) (fun c1 => absurd (by decide) c1) (fun c1 => ?_)
  refine lv_aload_n (pc := 12) hx hb d_Ho_learned_12 rfl (lv_at hl 0 rfl) ?_
  refine k_get (pc := 13) X hK hP 0 rfl rfl i_Ho 1 (by decide) wm_556 rfl rfl d_Ho_learned_13 ?_
  refine lv_iload_n (pc := 16) hx hb d_Ho_learned_16 rfl (lv_at hl 1 rfl) ?_
  refine k_ald (pc := 17) hx hb hK hP 1 5 rfl rfl (j) rfl (by omega) (by decide) (rr_at (by omega)) d_Ho_learned_17 ?_
  refine lv_aload_n (pc := 18) hx hb d_Ho_learned_18 rfl (lv_at hl 0 rfl) ?_
  refine k_get (pc := 19) X hK hP 0 rfl rfl i_Ho 0 (by decide) wm_555 rfl rfl d_Ho_learned_19 ?_
  refine lv_iload_n (pc := 22) hx hb d_Ho_learned_22 rfl (lv_at hl 1 rfl) ?_
  refine k_ald (pc := 23) hx hb hK hP 3 4 rfl rfl (j) rfl (by omega) (by decide) (rr_at (by omega)) d_Ho_learned_23 ?_
  refine k_goV (gr := [[(a0, .inr (12, [.ref a1, .ref a2, .ref a3, .ref a4, .ref a5, .ref a6, .ref a7, .int 0, .int ((-1)), .ref a8, .ref a9, .int 0, .int 0, .ref a10, .int 0, .int 0, .ref a11, .null, .null, .null, .null]))], [(a2, .inl (kA 5, 4, .inr (.inr (.inr (.inr (rr (g 1)))))))], [(a1, .inl (kA 4, 4, .inr (.inr (.inr (.inr (rr (g 0)))))))]]) (k_rV (pc := 24) (As := [.ref (g 0 j)]) (rest := []) X (c_Fa_learn_z1 l D kA g j a12 a13 a14 a15 a16 a17 a18 a19 a20 a21 a22 a23 a24 a25 a26 a27 a28 a29 a30 a31 a32 a33 a34 a35 f0 f1 f2 f3 hj s.heap.size) rfl wm_814 wm_7 wm_811 wm_812 wm_813 1 (by decide +kernel) ⟨Nat.le_of_ble_eq_true rfl, Nat.le_of_ble_eq_true rfl⟩ rfl rfl (va_recv hK hP (ci := 2) (q0 := 2) rfl rfl) (k_pre hN hK hP hD [2, 4, 5, 6, 7, 8] [0, 1, 3] 9 rfl (by decide) rfl) rfl hl.1 rfl (Nat.le_of_ble_eq_true rfl) d_Ho_learned_24 ⟨Nat.le_of_ble_eq_true rfl, Nat.le_of_ble_eq_true rfl⟩) hP hD hS hA [2, 4, 5, 6, 7, 8] [0, 1, 3] 9 rfl (by decide) rfl rfl (fun u1 H locs hu1 hP hD hS => ?_)
  have hP : va_P D classes (cat [[(a0, .inr (12, [.ref a1, .ref a2, .ref a3, .ref a4, .ref a5, .ref a6, .ref a7, .int 0, .int ((-1)), .ref a8, .ref a9, .int 0, .int 0, .ref a10, .int 0, .int 0, .ref a11, .null, .null, .null, .null]))], [(a2, .inl (kA 5, 4, .inr (.inr (.inr (.inr (rr (g 1)))))))], [(a1, .inl (kA 4, 4, .inr (.inr (.inr (.inr (rr (g 0)))))))], [(g 1 j, .inr (2, [.int 1, .int 0, .int 0, .int 0, .ref a12, .ref a13, .ref a14, .ref a15, .ref a16, .ref a17, .ref a18, .ref a19, .ref a20, .ref a21, .ref a22]))], [(g 0 j, .inr (3, [.int 0, .int 0, .int 1, .ref a23, .ref a24, .ref a25, .ref a26, .ref a27, .ref a28, .ref a29, .ref a30, .ref a31, .ref a32, .ref a33, .ref a34, .ref a35, .null, .int 0, .int 0]))], [(a13, .inl (kA 0, 48, .inl (u1.2 0)))], [(a18, .inl (kA 0, 24, .inl (fl (fl f1 24 0) 24 0)))], [(a14, .inl (kA 0, 24, .inl (fl f2 24 (-1))))], [(a19, .inl (kA 0, 24, .inl (fl f3 24 (-1))))]]) H := hP
  have hD : va_D A (cat [[(a0, .inr (12, [.ref a1, .ref a2, .ref a3, .ref a4, .ref a5, .ref a6, .ref a7, .int 0, .int ((-1)), .ref a8, .ref a9, .int 0, .int 0, .ref a10, .int 0, .int 0, .ref a11, .null, .null, .null, .null]))], [(a2, .inl (kA 5, 4, .inr (.inr (.inr (.inr (rr (g 1)))))))], [(a1, .inl (kA 4, 4, .inr (.inr (.inr (.inr (rr (g 0)))))))], [(g 1 j, .inr (2, [.int 1, .int 0, .int 0, .int 0, .ref a12, .ref a13, .ref a14, .ref a15, .ref a16, .ref a17, .ref a18, .ref a19, .ref a20, .ref a21, .ref a22]))], [(g 0 j, .inr (3, [.int 0, .int 0, .int 1, .ref a23, .ref a24, .ref a25, .ref a26, .ref a27, .ref a28, .ref a29, .ref a30, .ref a31, .ref a32, .ref a33, .ref a34, .ref a35, .null, .int 0, .int 0]))], [(a13, .inl (kA 0, 48, .inl (u1.2 0)))], [(a18, .inl (kA 0, 24, .inl (fl (fl f1 24 0) 24 0)))], [(a14, .inl (kA 0, 24, .inl (fl f2 24 (-1))))], [(a19, .inl (kA 0, 24, .inl (fl f3 24 (-1))))]]) := hD
  obtain ⟨f950, hf950⟩ : ∃ z : Nat → Int32, u1.2 0 = z := ⟨_, rfl⟩
  rw [hf950] at hP hD
  refine lv_aload_n (pc := 27) hx hb d_Ho_learned_27 rfl (lv_at hl 0 rfl) ?_
  refine k_get (pc := 28) X hK hP 0 rfl rfl i_Ho 1 (by decide) wm_556 rfl rfl d_Ho_learned_28 ?_
  refine lv_iload_n (pc := 31) hx hb d_Ho_learned_31 rfl (lv_at hl 1 rfl) ?_
  refine k_ald (pc := 32) hx hb hK hP 1 5 rfl rfl (j) rfl (by omega) (by decide) (rr_at (by omega)) d_Ho_learned_32 ?_
  obtain ⟨hP, hD⟩ := k_ord (gc := [[(a0, .inr (12, [.ref a1, .ref a2, .ref a3, .ref a4, .ref a5, .ref a6, .ref a7, .int 0, .int ((-1)), .ref a8, .ref a9, .int 0, .int 0, .ref a10, .int 0, .int 0, .ref a11, .null, .null, .null, .null]))], [(a2, .inl (kA 5, 4, .inr (.inr (.inr (.inr (rr (g 1)))))))], [(g 1 j, .inr (2, [.int 1, .int 0, .int 0, .int 0, .ref a12, .ref a13, .ref a14, .ref a15, .ref a16, .ref a17, .ref a18, .ref a19, .ref a20, .ref a21, .ref a22]))], [(a1, .inl (kA 4, 4, .inr (.inr (.inr (.inr (rr (g 0)))))))], [(g 0 j, .inr (3, [.int 0, .int 0, .int 1, .ref a23, .ref a24, .ref a25, .ref a26, .ref a27, .ref a28, .ref a29, .ref a30, .ref a31, .ref a32, .ref a33, .ref a34, .ref a35, .null, .int 0, .int 0]))], [(a13, .inl (kA 0, 48, .inl f950))], [(a18, .inl (kA 0, 24, .inl (fl (fl f1 24 0) 24 0)))], [(a14, .inl (kA 0, 24, .inl (fl f2 24 (-1))))], [(a19, .inl (kA 0, 24, .inl (fl f3 24 (-1))))]]) hP hD [0, 1, 3, 2, 4, 5, 6, 7, 8] 9 rfl (by decide) rfl
  refine W.widen (k := 0) (n := 0) (Nat.le_of_ble_eq_true rfl) (Nat.le_of_ble_eq_true rfl) ?_
  exact W.aret hx hb hr (Or.inl ⟨_, rfl⟩) (Or.inr ⟨_, rfl⟩) (fun t ht hW => ⟨⟨((fun _ => 0), (fun k => match k with | 0 => f950 | _ => fun _ => 0)), (g 1 j), rfl, trivial, rfl, by rw [ht]; exact hP, va_K.moved hW.alike hK, hD⟩, hS.F ht⟩) hS.2.2 d_Ho_learned_33
set_option maxRecDepth 100000 in
set_option maxHeartbeats 4000000 in
/-- DrawingHouse$Styler.apply(LDrawingHouse$Graph;LDrawingHouse$Facts;LDrawingHouse$Drawing;)V -/
theorem c_Sy_apply_z1 (l : Launch) (D : va_G) (kA : Nat → ClassId) (a0 : Nat) (g : Nat → Nat → Nat) (j : Nat) (a1 : Nat) (a2 : Nat) (a3 : Nat) (a4 : Nat) (a5 : Nat) (a6 : Nat) (a7 : Nat) (a8 : Nat) (a9 : Nat) (a10 : Nat) (a11 : Nat) (a12 : Nat) (a13 : Nat) (f0 : Nat → Int32) (a14 : Nat) (a15 : Nat) (a16 : Nat) (a17 : Nat) (a18 : Nat) (a19 : Nat) (a20 : Nat) (a21 : Nat) (a22 : Nat) (a23 : Nat) (a24 : Nat) (a25 : Nat) (a26 : Nat) (hj : j < 4) : Cv l y_Sy_apply z_Sy_apply { frames := 1, cells := 0, slots := 0, locals := 23 } D classes (TY kA) [.ref a0, .ref (g 0 j), .ref (g 1 j), .ref (g 3 j)] [[(g 3 j, .inr (0, [.ref a1, .int ((-1)), .ref a2, .ref a3, .ref a4, .ref a5, .ref a6, .int 0, .int 0, .int 0, .ref a7, .ref a8, .ref a9, .ref a10, .ref a11, .ref a12, .ref a13, .int 0, .int 0, .int 0, .int 0]))], [(a11, .inl (kA 0, 216, .inl f0))], [(g 0 j, .inr (3, [.int 0, .int 0, .int 1, .ref a14, .ref a15, .ref a16, .ref a17, .ref a18, .ref a19, .ref a20, .ref a21, .ref a22, .ref a23, .ref a24, .ref a25, .ref a26, .null, .int 0, .int 0]))]] (fun _ : Unit => True) (fun u => [[(g 3 j, .inr (0, [.ref a1, .int ((-1)), .ref a2, .ref a3, .ref a4, .ref a5, .ref a6, .int 0, .int 0, .int 0, .ref a7, .ref a8, .ref a9, .ref a10, .ref a11, .ref a12, .ref a13, .int 0, .int 0, .int 0, .int 0]))], [(a11, .inl (kA 0, 216, .inl (fl f0 216 0)))], [(g 0 j, .inr (3, [.int 0, .int 0, .int 1, .ref a14, .ref a15, .ref a16, .ref a17, .ref a18, .ref a19, .ref a20, .ref a21, .ref a22, .ref a23, .ref a24, .ref a25, .ref a26, .null, .int 0, .int 0]))]]) 0 0 := by
  intro sz
  refine k_met (cc := b_Sy_apply) (maxL := 5) (ret := none) (by decide) rfl (Nat.le_of_ble_eq_true rfl) (fun p e s m below meth c ls X hl hB => ?_)
  obtain ⟨hsz, hP, hK, hD0, hN⟩ := hB
  subst hsz
  have hD := hD0.self (sz := s.heap.size)
  generalize hAe : va_A (cat [[(g 3 j, .inr (0, [.ref a1, .int ((-1)), .ref a2, .ref a3, .ref a4, .ref a5, .ref a6, .int 0, .int 0, .int 0, .ref a7, .ref a8, .ref a9, .ref a10, .ref a11, .ref a12, .ref a13, .int 0, .int 0, .int 0, .int 0]))], [(a11, .inl (kA 0, 216, .inl f0))], [(g 0 j, .inr (3, [.int 0, .int 0, .int 1, .ref a14, .ref a15, .ref a16, .ref a17, .ref a18, .ref a19, .ref a20, .ref a21, .ref a22, .ref a23, .ref a24, .ref a25, .ref a26, .null, .int 0, .int 0]))]]) s.heap.size = A at hD ⊢
  have hA : ∀ q : Nat, s.heap.size ≤ q → A q := fun q h => by rw [← hAe]; exact Or.inr h
  have hS : va_S A s.heap s.heap [] := va_S.rf
  obtain ⟨hx, hb, hml, hown, hts, hr, hlk, hnm⟩ := id X
  have hl : lv_has ls 5 [(0, .ref a0), (1, .ref (g 0 j)), (2, .ref (g 1 j)), (3, .ref (g 3 j))] := hl
  have hP : va_P D classes (cat [[(g 3 j, .inr (0, [.ref a1, .int ((-1)), .ref a2, .ref a3, .ref a4, .ref a5, .ref a6, .int 0, .int 0, .int 0, .ref a7, .ref a8, .ref a9, .ref a10, .ref a11, .ref a12, .ref a13, .int 0, .int 0, .int 0, .int 0]))], [(a11, .inl (kA 0, 216, .inl f0))], [(g 0 j, .inr (3, [.int 0, .int 0, .int 1, .ref a14, .ref a15, .ref a16, .ref a17, .ref a18, .ref a19, .ref a20, .ref a21, .ref a22, .ref a23, .ref a24, .ref a25, .ref a26, .null, .int 0, .int 0]))]]) s.heap := hP
  have hK : va_K D classes (TY kA) s := hK
  refine lv_aload_n (pc := 0) hx hb d_Sy_apply_0 rfl (lv_at hl 3 rfl) ?_
  refine k_get (pc := 1) X hK hP 0 rfl rfl i_Dr 14 (by decide) wm_504 rfl rfl d_Sy_apply_1 ?_
  refine lv_iconst (pc := 4) (v := 0) hx hb d_Sy_apply_4 (by decide) ?_
  refine k_goV (gr := [[(g 3 j, .inr (0, [.ref a1, .int ((-1)), .ref a2, .ref a3, .ref a4, .ref a5, .ref a6, .int 0, .int 0, .int 0, .ref a7, .ref a8, .ref a9, .ref a10, .ref a11, .ref a12, .ref a13, .int 0, .int 0, .int 0, .int 0]))], [(g 0 j, .inr (3, [.int 0, .int 0, .int 1, .ref a14, .ref a15, .ref a16, .ref a17, .ref a18, .ref a19, .ref a20, .ref a21, .ref a22, .ref a23, .ref a24, .ref a25, .ref a26, .null, .int 0, .int 0]))]]) (k_rS (pc := 5) (As := [.ref a11, .int 0]) (rest := []) X (c_fillI l D (TY kA) 0 (kA 0) rfl a11 216 (by decide) f0 0 s.heap.size) rfl wm_55 wm_4 wm_2286 wm_54 2 (by decide +kernel) ⟨Nat.le_of_ble_eq_true rfl, Nat.le_of_ble_eq_true rfl⟩ rfl rfl (k_pre hN hK hP hD [1] [0, 2] 3 rfl (by decide) rfl) rfl hl.1 rfl (Nat.le_of_ble_eq_true rfl) d_Sy_apply_5 ⟨Nat.le_of_ble_eq_true rfl, Nat.le_of_ble_eq_true rfl⟩) hP hD hS hA [1] [0, 2] 3 rfl (by decide) rfl rfl (fun u1 H locs hu1 hP hD hS => ?_)
  have hP : va_P D classes (cat [[(g 3 j, .inr (0, [.ref a1, .int ((-1)), .ref a2, .ref a3, .ref a4, .ref a5, .ref a6, .int 0, .int 0, .int 0, .ref a7, .ref a8, .ref a9, .ref a10, .ref a11, .ref a12, .ref a13, .int 0, .int 0, .int 0, .int 0]))], [(g 0 j, .inr (3, [.int 0, .int 0, .int 1, .ref a14, .ref a15, .ref a16, .ref a17, .ref a18, .ref a19, .ref a20, .ref a21, .ref a22, .ref a23, .ref a24, .ref a25, .ref a26, .null, .int 0, .int 0]))], [(a11, .inl (kA 0, 216, .inl (fl f0 216 0)))]]) H := hP
  have hD : va_D A (cat [[(g 3 j, .inr (0, [.ref a1, .int ((-1)), .ref a2, .ref a3, .ref a4, .ref a5, .ref a6, .int 0, .int 0, .int 0, .ref a7, .ref a8, .ref a9, .ref a10, .ref a11, .ref a12, .ref a13, .int 0, .int 0, .int 0, .int 0]))], [(g 0 j, .inr (3, [.int 0, .int 0, .int 1, .ref a14, .ref a15, .ref a16, .ref a17, .ref a18, .ref a19, .ref a20, .ref a21, .ref a22, .ref a23, .ref a24, .ref a25, .ref a26, .null, .int 0, .int 0]))], [(a11, .inl (kA 0, 216, .inl (fl f0 216 0)))]]) := hD
  refine lv_iconst (pc := 8) (v := 0) hx hb d_Sy_apply_8 (by decide) ?_
  refine lv_istore (pc := 9) (lv' := [(4, .int 0), (0, .ref a0), (1, .ref (g 0 j)), (2, .ref (g 1 j)), (3, .ref (g 3 j))]) hx hb d_Sy_apply_9 hl (by decide) rfl (fun ls hl => ?_)
  refine lv_iload (pc := 11) hx hb d_Sy_apply_11 (lv_at hl 0 rfl) ?_
  refine lv_aload_n (pc := 13) hx hb d_Sy_apply_13 rfl (lv_at hl 2 rfl) ?_
  refine k_get (pc := 14) X hK hP 1 rfl rfl i_Gr 0 (by decide) wm_67 rfl rfl d_Sy_apply_14 ?_
  refine lv_icmp_ge (pc := 17) (tgt := 48) hx hb d_Sy_apply_17 (by decide) (fun _ => ?_) (fun c1 => absurd (by decide) c1)
  refine lv_iconst (pc := 48) (v := 0) hx hb d_Sy_apply_48 (by decide) ?_
  refine lv_istore (pc := 49) (lv' := [(4, .int 0), (0, .ref a0), (1, .ref (g 0 j)), (2, .ref (g 1 j)), (3, .ref (g 3 j))]) hx hb d_Sy_apply_49 hl (by decide) rfl (fun ls hl => ?_)
  refine lv_iload (pc := 51) hx hb d_Sy_apply_51 (lv_at hl 0 rfl) ?_
  refine lv_aload_n (pc := 53) hx hb d_Sy_apply_53 rfl (lv_at hl 2 rfl) ?_
  refine k_get (pc := 54) X hK hP 1 rfl rfl i_Gr 1 (by decide) wm_78 rfl rfl d_Sy_apply_54 ?_
  refine lv_icmp_ge (pc := 57) (tgt := 91) hx hb d_Sy_apply_57 (by decide) (fun _ => ?_) (fun c1 => absurd (by decide) c1)
  obtain ⟨hP, hD⟩ := k_ord (gc := [[(g 3 j, .inr (0, [.ref a1, .int ((-1)), .ref a2, .ref a3, .ref a4, .ref a5, .ref a6, .int 0, .int 0, .int 0, .ref a7, .ref a8, .ref a9, .ref a10, .ref a11, .ref a12, .ref a13, .int 0, .int 0, .int 0, .int 0]))], [(a11, .inl (kA 0, 216, .inl (fl f0 216 0)))], [(g 0 j, .inr (3, [.int 0, .int 0, .int 1, .ref a14, .ref a15, .ref a16, .ref a17, .ref a18, .ref a19, .ref a20, .ref a21, .ref a22, .ref a23, .ref a24, .ref a25, .ref a26, .null, .int 0, .int 0]))]]) hP hD [0, 2, 1] 3 rfl (by decide) rfl
  refine W.widen (k := 0) (n := 0) (Nat.le_of_ble_eq_true rfl) (Nat.le_of_ble_eq_true rfl) ?_
  exact W.vret hx hb hr (fun t ht hW => ⟨⟨(), rfl, trivial, by rw [ht]; exact hP, va_K.moved hW.alike hK, hD⟩, hS.F ht⟩) hS.2.2 d_Sy_apply_91
set_option maxRecDepth 100000 in
set_option maxHeartbeats 4000000 in
/-- DrawingHouse.style(II)I -/
theorem c_Ho_style_z4 (l : Launch) (D : va_G) (kA : Nat → ClassId) (a0 : Nat) (j : Nat) (a1 : Nat) (a2 : Nat) (a3 : Nat) (a4 : Nat) (a5 : Nat) (a6 : Nat) (a7 : Nat) (a8 : Nat) (a9 : Nat) (a10 : Nat) (a11 : Nat) (a12 : Nat) (a13 : Nat) (g : Nat → Nat → Nat) (a14 : Nat) (a15 : Nat) (a16 : Nat) (a17 : Nat) (a18 : Nat) (a19 : Nat) (a20 : Nat) (a21 : Nat) (a22 : Nat) (a23 : Nat) (a24 : Nat) (a25 : Nat) (a26 : Nat) (a27 : Nat) (a28 : Nat) (a29 : Nat) (a30 : Nat) (a31 : Nat) (a32 : Nat) (a33 : Nat) (a34 : Nat) (a35 : Nat) (a36 : Nat) (a37 : Nat) (f0 : Nat → Int32) (f1 : Nat → Int32) (f2 : Nat → Int32) (f3 : Nat → Int32) (a38 : Nat) (a39 : Nat) (a40 : Nat) (a41 : Nat) (a42 : Nat) (a43 : Nat) (a44 : Nat) (a45 : Nat) (a46 : Nat) (a47 : Nat) (a48 : Nat) (a49 : Nat) (a50 : Nat) (f4 : Nat → Int32) (hj : j < 4) : Ci l y_Ho_style z_Ho_style { frames := 5, cells := 6, slots := 2444, locals := 115 } D classes (TY kA) [.ref a0, .int (nI j), .int 0] [[(a0, .inr (12, [.ref a1, .ref a2, .ref a3, .ref a4, .ref a5, .ref a6, .ref a7, .int 0, .int ((-1)), .ref a8, .ref a9, .int 0, .int 0, .ref a10, .int 0, .int 0, .null, .null, .null, .null, .null]))], [(a5, .inr (8, [.ref a11, .int 0, .int ((-1)), .int ((-1)), .ref a12, .int 0, .int 0, .int 0, .int 0, .int 0, .ref a13, .int 0]))], [(a1, .inl (kA 4, 4, .inr (.inr (.inr (.inr (rr (g 0)))))))], [(a2, .inl (kA 5, 4, .inr (.inr (.inr (.inr (rr (g 1)))))))], [(g 1 j, .inr (2, [.int 0, .int 0, .int 0, .int 0, .ref a14, .ref a15, .ref a16, .ref a17, .ref a18, .ref a19, .ref a20, .ref a21, .ref a22, .ref a23, .ref a24]))], [(g 0 j, .inr (3, [.int 0, .int 0, .int 1, .ref a25, .ref a26, .ref a27, .ref a28, .ref a29, .ref a30, .ref a31, .ref a32, .ref a33, .ref a34, .ref a35, .ref a36, .ref a37, .null, .int 0, .int 0]))], [(a15, .inl (kA 0, 48, .inl f0))], [(a20, .inl (kA 0, 24, .inl f1))], [(a16, .inl (kA 0, 24, .inl f2))], [(a21, .inl (kA 0, 24, .inl f3))], [(a4, .inl (kA 7, 4, .inr (.inr (.inr (.inr (rr (g 3)))))))], [(g 3 j, .inr (0, [.ref a38, .int ((-1)), .ref a39, .ref a40, .ref a41, .ref a42, .ref a43, .int 0, .int 0, .int 0, .ref a44, .ref a45, .ref a46, .ref a47, .ref a48, .ref a49, .ref a50, .int 0, .int 0, .int 0, .int 0]))], [(a48, .inl (kA 0, 216, .inl f4))]] (fun r (_ : List va_W) => r = 0) (fun u => u) 6 2444 := by
  intro sz
  refine k_met (cc := b_Ho_style) (maxL := 4) (ret := (some .int)) (by decide) rfl (Nat.le_of_ble_eq_true rfl) (fun p e s m below meth c ls X hl hB => ?_)
  obtain ⟨hsz, hP, hK, hD0, hN⟩ := hB
  subst hsz
  have hD := hD0.self (sz := s.heap.size)
  generalize hAe : va_A (cat [[(a0, .inr (12, [.ref a1, .ref a2, .ref a3, .ref a4, .ref a5, .ref a6, .ref a7, .int 0, .int ((-1)), .ref a8, .ref a9, .int 0, .int 0, .ref a10, .int 0, .int 0, .null, .null, .null, .null, .null]))], [(a5, .inr (8, [.ref a11, .int 0, .int ((-1)), .int ((-1)), .ref a12, .int 0, .int 0, .int 0, .int 0, .int 0, .ref a13, .int 0]))], [(a1, .inl (kA 4, 4, .inr (.inr (.inr (.inr (rr (g 0)))))))], [(a2, .inl (kA 5, 4, .inr (.inr (.inr (.inr (rr (g 1)))))))], [(g 1 j, .inr (2, [.int 0, .int 0, .int 0, .int 0, .ref a14, .ref a15, .ref a16, .ref a17, .ref a18, .ref a19, .ref a20, .ref a21, .ref a22, .ref a23, .ref a24]))], [(g 0 j, .inr (3, [.int 0, .int 0, .int 1, .ref a25, .ref a26, .ref a27, .ref a28, .ref a29, .ref a30, .ref a31, .ref a32, .ref a33, .ref a34, .ref a35, .ref a36, .ref a37, .null, .int 0, .int 0]))], [(a15, .inl (kA 0, 48, .inl f0))], [(a20, .inl (kA 0, 24, .inl f1))], [(a16, .inl (kA 0, 24, .inl f2))], [(a21, .inl (kA 0, 24, .inl f3))], [(a4, .inl (kA 7, 4, .inr (.inr (.inr (.inr (rr (g 3)))))))], [(g 3 j, .inr (0, [.ref a38, .int ((-1)), .ref a39, .ref a40, .ref a41, .ref a42, .ref a43, .int 0, .int 0, .int 0, .ref a44, .ref a45, .ref a46, .ref a47, .ref a48, .ref a49, .ref a50, .int 0, .int 0, .int 0, .int 0]))], [(a48, .inl (kA 0, 216, .inl f4))]]) s.heap.size = A at hD ⊢
  have hA : ∀ q : Nat, s.heap.size ≤ q → A q := fun q h => by rw [← hAe]; exact Or.inr h
  have hS : va_S A s.heap s.heap [] := va_S.rf
  obtain ⟨hx, hb, hml, hown, hts, hr, hlk, hnm⟩ := id X
  have hl : lv_has ls 4 [(0, .ref a0), (1, .int (nI j)), (2, .int 0)] := hl
  have hP : va_P D classes (cat [[(a0, .inr (12, [.ref a1, .ref a2, .ref a3, .ref a4, .ref a5, .ref a6, .ref a7, .int 0, .int ((-1)), .ref a8, .ref a9, .int 0, .int 0, .ref a10, .int 0, .int 0, .null, .null, .null, .null, .null]))], [(a5, .inr (8, [.ref a11, .int 0, .int ((-1)), .int ((-1)), .ref a12, .int 0, .int 0, .int 0, .int 0, .int 0, .ref a13, .int 0]))], [(a1, .inl (kA 4, 4, .inr (.inr (.inr (.inr (rr (g 0)))))))], [(a2, .inl (kA 5, 4, .inr (.inr (.inr (.inr (rr (g 1)))))))], [(g 1 j, .inr (2, [.int 0, .int 0, .int 0, .int 0, .ref a14, .ref a15, .ref a16, .ref a17, .ref a18, .ref a19, .ref a20, .ref a21, .ref a22, .ref a23, .ref a24]))], [(g 0 j, .inr (3, [.int 0, .int 0, .int 1, .ref a25, .ref a26, .ref a27, .ref a28, .ref a29, .ref a30, .ref a31, .ref a32, .ref a33, .ref a34, .ref a35, .ref a36, .ref a37, .null, .int 0, .int 0]))], [(a15, .inl (kA 0, 48, .inl f0))], [(a20, .inl (kA 0, 24, .inl f1))], [(a16, .inl (kA 0, 24, .inl f2))], [(a21, .inl (kA 0, 24, .inl f3))], [(a4, .inl (kA 7, 4, .inr (.inr (.inr (.inr (rr (g 3)))))))], [(g 3 j, .inr (0, [.ref a38, .int ((-1)), .ref a39, .ref a40, .ref a41, .ref a42, .ref a43, .int 0, .int 0, .int 0, .ref a44, .ref a45, .ref a46, .ref a47, .ref a48, .ref a49, .ref a50, .int 0, .int 0, .int 0, .int 0]))], [(a48, .inl (kA 0, 216, .inl f4))]]) s.heap := hP
  have hK : va_K D classes (TY kA) s := hK
  refine lv_iload_n (pc := 0) hx hb d_Ho_style_0 rfl (lv_at hl 1 rfl) ?_
  refine k_goI (gr := [[(a0, .inr (12, [.ref a1, .ref a2, .ref a3, .ref a4, .ref a5, .ref a6, .ref a7, .int 0, .int ((-1)), .ref a8, .ref a9, .int 0, .int 0, .ref a10, .int 0, .int 0, .null, .null, .null, .null, .null]))], [(a5, .inr (8, [.ref a11, .int 0, .int ((-1)), .int ((-1)), .ref a12, .int 0, .int 0, .int 0, .int 0, .int 0, .ref a13, .int 0]))], [(a1, .inl (kA 4, 4, .inr (.inr (.inr (.inr (rr (g 0)))))))], [(a2, .inl (kA 5, 4, .inr (.inr (.inr (.inr (rr (g 1)))))))], [(g 1 j, .inr (2, [.int 0, .int 0, .int 0, .int 0, .ref a14, .ref a15, .ref a16, .ref a17, .ref a18, .ref a19, .ref a20, .ref a21, .ref a22, .ref a23, .ref a24]))], [(g 0 j, .inr (3, [.int 0, .int 0, .int 1, .ref a25, .ref a26, .ref a27, .ref a28, .ref a29, .ref a30, .ref a31, .ref a32, .ref a33, .ref a34, .ref a35, .ref a36, .ref a37, .null, .int 0, .int 0]))], [(a15, .inl (kA 0, 48, .inl f0))], [(a20, .inl (kA 0, 24, .inl f1))], [(a16, .inl (kA 0, 24, .inl f2))], [(a21, .inl (kA 0, 24, .inl f3))], [(a4, .inl (kA 7, 4, .inr (.inr (.inr (.inr (rr (g 3)))))))], [(g 3 j, .inr (0, [.ref a38, .int ((-1)), .ref a39, .ref a40, .ref a41, .ref a42, .ref a43, .int 0, .int 0, .int 0, .ref a44, .ref a45, .ref a46, .ref a47, .ref a48, .ref a49, .ref a50, .int 0, .int 0, .int 0, .int 0]))], [(a48, .inl (kA 0, 216, .inl f4))]]) (k_rS (pc := 1) (As := [.int (nI j)]) (rest := []) X (c_Ho_isPlace l D kA (nI j) s.heap.size) rfl wm_633 wm_1 wm_631 wm_632 1 (by decide +kernel) ⟨Nat.le_of_ble_eq_true rfl, Nat.le_of_ble_eq_true rfl⟩ rfl rfl (k_pre hN hK hP hD [] [0, 1, 2, 3, 4, 5, 6, 7, 8, 9, 10, 11, 12] 13 rfl (by decide) rfl) rfl hl.1 rfl (Nat.le_of_ble_eq_true rfl) d_Ho_style_1 ⟨Nat.le_of_ble_eq_true rfl, Nat.le_of_ble_eq_true rfl⟩) hP hD hS hA [] [0, 1, 2, 3, 4, 5, 6, 7, 8, 9, 10, 11, 12] 13 rfl (by decide) rfl rfl (fun r1 u2 H locs hu2 hP hD hS => ?_)
  subst hu2
  refine k_cst (v := 1) (place_ok hj) ?_
  have hP : va_P D classes (cat [[(a0, .inr (12, [.ref a1, .ref a2, .ref a3, .ref a4, .ref a5, .ref a6, .ref a7, .int 0, .int ((-1)), .ref a8, .ref a9, .int 0, .int 0, .ref a10, .int 0, .int 0, .null, .null, .null, .null, .null]))], [(a5, .inr (8, [.ref a11, .int 0, .int ((-1)), .int ((-1)), .ref a12, .int 0, .int 0, .int 0, .int 0, .int 0, .ref a13, .int 0]))], [(a1, .inl (kA 4, 4, .inr (.inr (.inr (.inr (rr (g 0)))))))], [(a2, .inl (kA 5, 4, .inr (.inr (.inr (.inr (rr (g 1)))))))], [(g 1 j, .inr (2, [.int 0, .int 0, .int 0, .int 0, .ref a14, .ref a15, .ref a16, .ref a17, .ref a18, .ref a19, .ref a20, .ref a21, .ref a22, .ref a23, .ref a24]))], [(g 0 j, .inr (3, [.int 0, .int 0, .int 1, .ref a25, .ref a26, .ref a27, .ref a28, .ref a29, .ref a30, .ref a31, .ref a32, .ref a33, .ref a34, .ref a35, .ref a36, .ref a37, .null, .int 0, .int 0]))], [(a15, .inl (kA 0, 48, .inl f0))], [(a20, .inl (kA 0, 24, .inl f1))], [(a16, .inl (kA 0, 24, .inl f2))], [(a21, .inl (kA 0, 24, .inl f3))], [(a4, .inl (kA 7, 4, .inr (.inr (.inr (.inr (rr (g 3)))))))], [(g 3 j, .inr (0, [.ref a38, .int ((-1)), .ref a39, .ref a40, .ref a41, .ref a42, .ref a43, .int 0, .int 0, .int 0, .ref a44, .ref a45, .ref a46, .ref a47, .ref a48, .ref a49, .ref a50, .int 0, .int 0, .int 0, .int 0]))], [(a48, .inl (kA 0, 216, .inl f4))]]) H := hP
  have hD : va_D A (cat [[(a0, .inr (12, [.ref a1, .ref a2, .ref a3, .ref a4, .ref a5, .ref a6, .ref a7, .int 0, .int ((-1)), .ref a8, .ref a9, .int 0, .int 0, .ref a10, .int 0, .int 0, .null, .null, .null, .null, .null]))], [(a5, .inr (8, [.ref a11, .int 0, .int ((-1)), .int ((-1)), .ref a12, .int 0, .int 0, .int 0, .int 0, .int 0, .ref a13, .int 0]))], [(a1, .inl (kA 4, 4, .inr (.inr (.inr (.inr (rr (g 0)))))))], [(a2, .inl (kA 5, 4, .inr (.inr (.inr (.inr (rr (g 1)))))))], [(g 1 j, .inr (2, [.int 0, .int 0, .int 0, .int 0, .ref a14, .ref a15, .ref a16, .ref a17, .ref a18, .ref a19, .ref a20, .ref a21, .ref a22, .ref a23, .ref a24]))], [(g 0 j, .inr (3, [.int 0, .int 0, .int 1, .ref a25, .ref a26, .ref a27, .ref a28, .ref a29, .ref a30, .ref a31, .ref a32, .ref a33, .ref a34, .ref a35, .ref a36, .ref a37, .null, .int 0, .int 0]))], [(a15, .inl (kA 0, 48, .inl f0))], [(a20, .inl (kA 0, 24, .inl f1))], [(a16, .inl (kA 0, 24, .inl f2))], [(a21, .inl (kA 0, 24, .inl f3))], [(a4, .inl (kA 7, 4, .inr (.inr (.inr (.inr (rr (g 3)))))))], [(g 3 j, .inr (0, [.ref a38, .int ((-1)), .ref a39, .ref a40, .ref a41, .ref a42, .ref a43, .int 0, .int 0, .int 0, .ref a44, .ref a45, .ref a46, .ref a47, .ref a48, .ref a49, .ref a50, .int 0, .int 0, .int 0, .int 0]))], [(a48, .inl (kA 0, 216, .inl f4))]]) := hD
  refine lv_if_eq (pc := 4) (tgt := 22) hx hb d_Ho_style_4 (by decide) (fun c1 => absurd c1 (by decide)) (fun c1 => ?_)
  refine lv_iload_n (pc := 7) hx hb d_Ho_style_7 rfl (lv_at hl 2 rfl) ?_
  refine lv_if_lt (pc := 8) (tgt := 22) hx hb d_Ho_style_8 (by decide) (fun c1 => absurd c1 (by decide)) (fun c1 => ?_)
  refine lv_iload_n (pc := 11) hx hb d_Ho_style_11 rfl (lv_at hl 2 rfl) ?_
  refine lv_aload_n (pc := 12) hx hb d_Ho_style_12 rfl (lv_at hl 0 rfl) ?_
  refine k_get (pc := 13) X hK hP 0 rfl rfl i_Ho 4 (by decide) wm_559 rfl rfl d_Ho_style_13 ?_
  refine k_get (pc := 16) X hK hP 1 rfl rfl i_Re 1 (by decide) wm_197 rfl rfl d_Ho_style_16 ?_
  refine lv_icmp_le (pc := 19) (tgt := 25) hx hb d_Ho_style_19 (by decide) (fun _ => ?_) (fun c1 => absurd (by decide) c1)
  refine lv_aload_n (pc := 25) hx hb d_Ho_style_25 rfl (lv_at hl 0 rfl) ?_
  refine k_get (pc := 26) X hK hP 0 rfl rfl i_Ho 16 (by decide) wm_571 rfl rfl d_Ho_style_26 ?_
  refine lv_ifnonnullN (pc := 29) hx hb d_Ho_style_29 ?_
  refine lv_aload_n (pc := 32) hx hb d_Ho_style_32 rfl (lv_at hl 0 rfl) ?_
  refine k_new (pc := 33) (fs := f0Sy) X i_Sy t_Sy t_Sy_ok wm_2089 wm_2090 wm_23 hK hP hD hS hA (ci := 11) rfl f0Sy_ok (Nat.le_of_ble_eq_true rfl) (Nat.le_of_ble_eq_true rfl) d_Ho_style_33 (fun q3 H hP hD hS => ?_)
  have hP : va_P D classes (cat [[(a0, .inr (12, [.ref a1, .ref a2, .ref a3, .ref a4, .ref a5, .ref a6, .ref a7, .int 0, .int ((-1)), .ref a8, .ref a9, .int 0, .int 0, .ref a10, .int 0, .int 0, .null, .null, .null, .null, .null]))], [(a5, .inr (8, [.ref a11, .int 0, .int ((-1)), .int ((-1)), .ref a12, .int 0, .int 0, .int 0, .int 0, .int 0, .ref a13, .int 0]))], [(a1, .inl (kA 4, 4, .inr (.inr (.inr (.inr (rr (g 0)))))))], [(a2, .inl (kA 5, 4, .inr (.inr (.inr (.inr (rr (g 1)))))))], [(g 1 j, .inr (2, [.int 0, .int 0, .int 0, .int 0, .ref a14, .ref a15, .ref a16, .ref a17, .ref a18, .ref a19, .ref a20, .ref a21, .ref a22, .ref a23, .ref a24]))], [(g 0 j, .inr (3, [.int 0, .int 0, .int 1, .ref a25, .ref a26, .ref a27, .ref a28, .ref a29, .ref a30, .ref a31, .ref a32, .ref a33, .ref a34, .ref a35, .ref a36, .ref a37, .null, .int 0, .int 0]))], [(a15, .inl (kA 0, 48, .inl f0))], [(a20, .inl (kA 0, 24, .inl f1))], [(a16, .inl (kA 0, 24, .inl f2))], [(a21, .inl (kA 0, 24, .inl f3))], [(a4, .inl (kA 7, 4, .inr (.inr (.inr (.inr (rr (g 3)))))))], [(g 3 j, .inr (0, [.ref a38, .int ((-1)), .ref a39, .ref a40, .ref a41, .ref a42, .ref a43, .int 0, .int 0, .int 0, .ref a44, .ref a45, .ref a46, .ref a47, .ref a48, .ref a49, .ref a50, .int 0, .int 0, .int 0, .int 0]))], [(a48, .inl (kA 0, 216, .inl f4))], [(q3, .inr (11, [.int 0, .int 0, .int 0, .null, .int 0, .int 0, .int 0, .int 0, .int 0, .null, .null, .int 0, .null, .null, .null, .int 0, .null]))]]) H := hP
  have hD : va_D A (cat [[(a0, .inr (12, [.ref a1, .ref a2, .ref a3, .ref a4, .ref a5, .ref a6, .ref a7, .int 0, .int ((-1)), .ref a8, .ref a9, .int 0, .int 0, .ref a10, .int 0, .int 0, .null, .null, .null, .null, .null]))], [(a5, .inr (8, [.ref a11, .int 0, .int ((-1)), .int ((-1)), .ref a12, .int 0, .int 0, .int 0, .int 0, .int 0, .ref a13, .int 0]))], [(a1, .inl (kA 4, 4, .inr (.inr (.inr (.inr (rr (g 0)))))))], [(a2, .inl (kA 5, 4, .inr (.inr (.inr (.inr (rr (g 1)))))))], [(g 1 j, .inr (2, [.int 0, .int 0, .int 0, .int 0, .ref a14, .ref a15, .ref a16, .ref a17, .ref a18, .ref a19, .ref a20, .ref a21, .ref a22, .ref a23, .ref a24]))], [(g 0 j, .inr (3, [.int 0, .int 0, .int 1, .ref a25, .ref a26, .ref a27, .ref a28, .ref a29, .ref a30, .ref a31, .ref a32, .ref a33, .ref a34, .ref a35, .ref a36, .ref a37, .null, .int 0, .int 0]))], [(a15, .inl (kA 0, 48, .inl f0))], [(a20, .inl (kA 0, 24, .inl f1))], [(a16, .inl (kA 0, 24, .inl f2))], [(a21, .inl (kA 0, 24, .inl f3))], [(a4, .inl (kA 7, 4, .inr (.inr (.inr (.inr (rr (g 3)))))))], [(g 3 j, .inr (0, [.ref a38, .int ((-1)), .ref a39, .ref a40, .ref a41, .ref a42, .ref a43, .int 0, .int 0, .int 0, .ref a44, .ref a45, .ref a46, .ref a47, .ref a48, .ref a49, .ref a50, .int 0, .int 0, .int 0, .int 0]))], [(a48, .inl (kA 0, 216, .inl f4))], [(q3, .inr (11, [.int 0, .int 0, .int 0, .null, .int 0, .int 0, .int 0, .int 0, .int 0, .null, .null, .int 0, .null, .null, .null, .int 0, .null]))]]) := hD
  refine W.widen (k := 1) (n := 17) (by omega) (by omega) ?_
  refine lv_dup (pc := 36) hx hb d_Ho_style_36 rfl ?_
  refine k_goV (gr := [[(a0, .inr (12, [.ref a1, .ref a2, .ref a3, .ref a4, .ref a5, .ref a6, .ref a7, .int 0, .int ((-1)), .ref a8, .ref a9, .int 0, .int 0, .ref a10, .int 0, .int 0, .null, .null, .null, .null, .null]))], [(a5, .inr (8, [.ref a11, .int 0, .int ((-1)), .int ((-1)), .ref a12, .int 0, .int 0, .int 0, .int 0, .int 0, .ref a13, .int 0]))], [(a1, .inl (kA 4, 4, .inr (.inr (.inr (.inr (rr (g 0)))))))], [(a2, .inl (kA 5, 4, .inr (.inr (.inr (.inr (rr (g 1)))))))], [(g 1 j, .inr (2, [.int 0, .int 0, .int 0, .int 0, .ref a14, .ref a15, .ref a16, .ref a17, .ref a18, .ref a19, .ref a20, .ref a21, .ref a22, .ref a23, .ref a24]))], [(g 0 j, .inr (3, [.int 0, .int 0, .int 1, .ref a25, .ref a26, .ref a27, .ref a28, .ref a29, .ref a30, .ref a31, .ref a32, .ref a33, .ref a34, .ref a35, .ref a36, .ref a37, .null, .int 0, .int 0]))], [(a15, .inl (kA 0, 48, .inl f0))], [(a20, .inl (kA 0, 24, .inl f1))], [(a16, .inl (kA 0, 24, .inl f2))], [(a21, .inl (kA 0, 24, .inl f3))], [(a4, .inl (kA 7, 4, .inr (.inr (.inr (.inr (rr (g 3)))))))], [(g 3 j, .inr (0, [.ref a38, .int ((-1)), .ref a39, .ref a40, .ref a41, .ref a42, .ref a43, .int 0, .int 0, .int 0, .ref a44, .ref a45, .ref a46, .ref a47, .ref a48, .ref a49, .ref a50, .int 0, .int 0, .int 0, .int 0]))], [(a48, .inl (kA 0, 216, .inl f4))]]) (k_rIN (pc := 37) (As := []) (rest := [.ref q3, .ref a0]) hN X (c_Sy_init_z1 l D kA q3 H.size) rfl wm_2093 wm_23 wn_2091 wm_2092 rfl 0 (by decide +kernel) ⟨Nat.le_of_ble_eq_true rfl, Nat.le_of_ble_eq_true rfl⟩ rfl rfl (k_pre hN hK hP hD [13] [0, 1, 2, 3, 4, 5, 6, 7, 8, 9, 10, 11, 12] 14 rfl (by decide) rfl) rfl hl.1 rfl (Nat.le_of_ble_eq_true rfl) d_Ho_style_37 ⟨Nat.le_of_ble_eq_true rfl, Nat.le_of_ble_eq_true rfl⟩) hP hD hS hA [13] [0, 1, 2, 3, 4, 5, 6, 7, 8, 9, 10, 11, 12] 14 rfl (by decide) rfl rfl (fun u4 H locs hu4 hP hD hS => ?_)
  have hP : va_P D classes (cat [[(a0, .inr (12, [.ref a1, .ref a2, .ref a3, .ref a4, .ref a5, .ref a6, .ref a7, .int 0, .int ((-1)), .ref a8, .ref a9, .int 0, .int 0, .ref a10, .int 0, .int 0, .null, .null, .null, .null, .null]))], [(a5, .inr (8, [.ref a11, .int 0, .int ((-1)), .int ((-1)), .ref a12, .int 0, .int 0, .int 0, .int 0, .int 0, .ref a13, .int 0]))], [(a1, .inl (kA 4, 4, .inr (.inr (.inr (.inr (rr (g 0)))))))], [(a2, .inl (kA 5, 4, .inr (.inr (.inr (.inr (rr (g 1)))))))], [(g 1 j, .inr (2, [.int 0, .int 0, .int 0, .int 0, .ref a14, .ref a15, .ref a16, .ref a17, .ref a18, .ref a19, .ref a20, .ref a21, .ref a22, .ref a23, .ref a24]))], [(g 0 j, .inr (3, [.int 0, .int 0, .int 1, .ref a25, .ref a26, .ref a27, .ref a28, .ref a29, .ref a30, .ref a31, .ref a32, .ref a33, .ref a34, .ref a35, .ref a36, .ref a37, .null, .int 0, .int 0]))], [(a15, .inl (kA 0, 48, .inl f0))], [(a20, .inl (kA 0, 24, .inl f1))], [(a16, .inl (kA 0, 24, .inl f2))], [(a21, .inl (kA 0, 24, .inl f3))], [(a4, .inl (kA 7, 4, .inr (.inr (.inr (.inr (rr (g 3)))))))], [(g 3 j, .inr (0, [.ref a38, .int ((-1)), .ref a39, .ref a40, .ref a41, .ref a42, .ref a43, .int 0, .int 0, .int 0, .ref a44, .ref a45, .ref a46, .ref a47, .ref a48, .ref a49, .ref a50, .int 0, .int 0, .int 0, .int 0]))], [(a48, .inl (kA 0, 216, .inl f4))], [(q3, .inr (11, [.int 0, .int 0, .int ((-1)), .null, .int 0, .int 0, .int 0, .int 0, .int 0, .ref (u4 0), .ref (u4 1), .int 0, .ref (u4 2), .ref (u4 3), .ref (u4 4), .int 0, .ref (u4 5)]))], [(u4 1, .inl (kA 0, 2112, .inl (fun _ => 0)))], [(u4 2, .inl (kA 0, 113, .inl (fun _ => 0)))], [(u4 3, .inl (kA 0, 112, .inl (fun _ => 0)))], [(u4 4, .inl (kA 3, 80, .inr (.inl (fun _ => 0))))], [(u4 5, .inl (kA 3, 10, .inr (.inl (fun _ => 0))))]]) H := hP
  have hD : va_D A (cat [[(a0, .inr (12, [.ref a1, .ref a2, .ref a3, .ref a4, .ref a5, .ref a6, .ref a7, .int 0, .int ((-1)), .ref a8, .ref a9, .int 0, .int 0, .ref a10, .int 0, .int 0, .null, .null, .null, .null, .null]))], [(a5, .inr (8, [.ref a11, .int 0, .int ((-1)), .int ((-1)), .ref a12, .int 0, .int 0, .int 0, .int 0, .int 0, .ref a13, .int 0]))], [(a1, .inl (kA 4, 4, .inr (.inr (.inr (.inr (rr (g 0)))))))], [(a2, .inl (kA 5, 4, .inr (.inr (.inr (.inr (rr (g 1)))))))], [(g 1 j, .inr (2, [.int 0, .int 0, .int 0, .int 0, .ref a14, .ref a15, .ref a16, .ref a17, .ref a18, .ref a19, .ref a20, .ref a21, .ref a22, .ref a23, .ref a24]))], [(g 0 j, .inr (3, [.int 0, .int 0, .int 1, .ref a25, .ref a26, .ref a27, .ref a28, .ref a29, .ref a30, .ref a31, .ref a32, .ref a33, .ref a34, .ref a35, .ref a36, .ref a37, .null, .int 0, .int 0]))], [(a15, .inl (kA 0, 48, .inl f0))], [(a20, .inl (kA 0, 24, .inl f1))], [(a16, .inl (kA 0, 24, .inl f2))], [(a21, .inl (kA 0, 24, .inl f3))], [(a4, .inl (kA 7, 4, .inr (.inr (.inr (.inr (rr (g 3)))))))], [(g 3 j, .inr (0, [.ref a38, .int ((-1)), .ref a39, .ref a40, .ref a41, .ref a42, .ref a43, .int 0, .int 0, .int 0, .ref a44, .ref a45, .ref a46, .ref a47, .ref a48, .ref a49, .ref a50, .int 0, .int 0, .int 0, .int 0]))], [(a48, .inl (kA 0, 216, .inl f4))], [(q3, .inr (11, [.int 0, .int 0, .int ((-1)), .null, .int 0, .int 0, .int 0, .int 0, .int 0, .ref (u4 0), .ref (u4 1), .int 0, .ref (u4 2), .ref (u4 3), .ref (u4 4), .int 0, .ref (u4 5)]))], [(u4 1, .inl (kA 0, 2112, .inl (fun _ => 0)))], [(u4 2, .inl (kA 0, 113, .inl (fun _ => 0)))], [(u4 3, .inl (kA 0, 112, .inl (fun _ => 0)))], [(u4 4, .inl (kA 3, 80, .inr (.inl (fun _ => 0))))], [(u4 5, .inl (kA 3, 10, .inr (.inl (fun _ => 0))))]]) := hD
  refine W.widen (k := 6) (n := 2444) (by omega) (by omega) ?_
  refine k_put (pc := 40) X hK hP hD hS 0 rfl rfl i_Ho t_Ho t_Ho_ok n_Ho 16 (by decide) wm_571 rfl (Or.inl rfl) rfl rfl (Nat.le_of_ble_eq_true rfl) d_Ho_style_40 (fun H locs hP hD hS => ?_)
  have hP : va_P D classes (cat [[(a0, .inr (12, [.ref a1, .ref a2, .ref a3, .ref a4, .ref a5, .ref a6, .ref a7, .int 0, .int ((-1)), .ref a8, .ref a9, .int 0, .int 0, .ref a10, .int 0, .int 0, .ref q3, .null, .null, .null, .null]))], [(a5, .inr (8, [.ref a11, .int 0, .int ((-1)), .int ((-1)), .ref a12, .int 0, .int 0, .int 0, .int 0, .int 0, .ref a13, .int 0]))], [(a1, .inl (kA 4, 4, .inr (.inr (.inr (.inr (rr (g 0)))))))], [(a2, .inl (kA 5, 4, .inr (.inr (.inr (.inr (rr (g 1)))))))], [(g 1 j, .inr (2, [.int 0, .int 0, .int 0, .int 0, .ref a14, .ref a15, .ref a16, .ref a17, .ref a18, .ref a19, .ref a20, .ref a21, .ref a22, .ref a23, .ref a24]))], [(g 0 j, .inr (3, [.int 0, .int 0, .int 1, .ref a25, .ref a26, .ref a27, .ref a28, .ref a29, .ref a30, .ref a31, .ref a32, .ref a33, .ref a34, .ref a35, .ref a36, .ref a37, .null, .int 0, .int 0]))], [(a15, .inl (kA 0, 48, .inl f0))], [(a20, .inl (kA 0, 24, .inl f1))], [(a16, .inl (kA 0, 24, .inl f2))], [(a21, .inl (kA 0, 24, .inl f3))], [(a4, .inl (kA 7, 4, .inr (.inr (.inr (.inr (rr (g 3)))))))], [(g 3 j, .inr (0, [.ref a38, .int ((-1)), .ref a39, .ref a40, .ref a41, .ref a42, .ref a43, .int 0, .int 0, .int 0, .ref a44, .ref a45, .ref a46, .ref a47, .ref a48, .ref a49, .ref a50, .int 0, .int 0, .int 0, .int 0]))], [(a48, .inl (kA 0, 216, .inl f4))], [(q3, .inr (11, [.int 0, .int 0, .int ((-1)), .null, .int 0, .int 0, .int 0, .int 0, .int 0, .ref (u4 0), .ref (u4 1), .int 0, .ref (u4 2), .ref (u4 3), .ref (u4 4), .int 0, .ref (u4 5)]))], [(u4 1, .inl (kA 0, 2112, .inl (fun _ => 0)))], [(u4 2, .inl (kA 0, 113, .inl (fun _ => 0)))], [(u4 3, .inl (kA 0, 112, .inl (fun _ => 0)))], [(u4 4, .inl (kA 3, 80, .inr (.inl (fun _ => 0))))], [(u4 5, .inl (kA 3, 10, .inr (.inl (fun _ => 0))))]]) H := hP
  have hD : va_D A (cat [[(a0, .inr (12, [.ref a1, .ref a2, .ref a3, .ref a4, .ref a5, .ref a6, .ref a7, .int 0, .int ((-1)), .ref a8, .ref a9, .int 0, .int 0, .ref a10, .int 0, .int 0, .ref q3, .null, .null, .null, .null]))], [(a5, .inr (8, [.ref a11, .int 0, .int ((-1)), .int ((-1)), .ref a12, .int 0, .int 0, .int 0, .int 0, .int 0, .ref a13, .int 0]))], [(a1, .inl (kA 4, 4, .inr (.inr (.inr (.inr (rr (g 0)))))))], [(a2, .inl (kA 5, 4, .inr (.inr (.inr (.inr (rr (g 1)))))))], [(g 1 j, .inr (2, [.int 0, .int 0, .int 0, .int 0, .ref a14, .ref a15, .ref a16, .ref a17, .ref a18, .ref a19, .ref a20, .ref a21, .ref a22, .ref a23, .ref a24]))], [(g 0 j, .inr (3, [.int 0, .int 0, .int 1, .ref a25, .ref a26, .ref a27, .ref a28, .ref a29, .ref a30, .ref a31, .ref a32, .ref a33, .ref a34, .ref a35, .ref a36, .ref a37, .null, .int 0, .int 0]))], [(a15, .inl (kA 0, 48, .inl f0))], [(a20, .inl (kA 0, 24, .inl f1))], [(a16, .inl (kA 0, 24, .inl f2))], [(a21, .inl (kA 0, 24, .inl f3))], [(a4, .inl (kA 7, 4, .inr (.inr (.inr (.inr (rr (g 3)))))))], [(g 3 j, .inr (0, [.ref a38, .int ((-1)), .ref a39, .ref a40, .ref a41, .ref a42, .ref a43, .int 0, .int 0, .int 0, .ref a44, .ref a45, .ref a46, .ref a47, .ref a48, .ref a49, .ref a50, .int 0, .int 0, .int 0, .int 0]))], [(a48, .inl (kA 0, 216, .inl f4))], [(q3, .inr (11, [.int 0, .int 0, .int ((-1)), .null, .int 0, .int 0, .int 0, .int 0, .int 0, .ref (u4 0), .ref (u4 1), .int 0, .ref (u4 2), .ref (u4 3), .ref (u4 4), .int 0, .ref (u4 5)]))], [(u4 1, .inl (kA 0, 2112, .inl (fun _ => 0)))], [(u4 2, .inl (kA 0, 113, .inl (fun _ => 0)))], [(u4 3, .inl (kA 0, 112, .inl (fun _ => 0)))], [(u4 4, .inl (kA 3, 80, .inr (.inl (fun _ => 0))))], [(u4 5, .inl (kA 3, 10, .inr (.inl (fun _ => 0))))]]) := hD
  refine lv_aload_n (pc := 43) hx hb d_Ho_style_43 rfl (lv_at hl 0 rfl) ?_
  refine k_get (pc := 44) X hK hP 0 rfl rfl i_Ho 16 (by decide) wm_571 rfl rfl d_Ho_style_44 ?_
  refine lv_aload_n (pc := 47) hx hb d_Ho_style_47 rfl (lv_at hl 0 rfl) ?_
  refine k_get (pc := 48) X hK hP 0 rfl rfl i_Ho 4 (by decide) wm_559 rfl rfl d_Ho_style_48 ?_
  refine k_get (pc := 51) X hK hP 1 rfl rfl i_Re 0 (by decide) wm_195 rfl rfl d_Ho_style_51 ?_
  refine lv_iload_n (pc := 54) hx hb d_Ho_style_54 rfl (lv_at hl 2 rfl) ?_
  refine k_goI (gr := [[(a0, .inr (12, [.ref a1, .ref a2, .ref a3, .ref a4, .ref a5, .ref a6, .ref a7, .int 0, .int ((-1)), .ref a8, .ref a9, .int 0, .int 0, .ref a10, .int 0, .int 0, .ref q3, .null, .null, .null, .null]))], [(a5, .inr (8, [.ref a11, .int 0, .int ((-1)), .int ((-1)), .ref a12, .int 0, .int 0, .int 0, .int 0, .int 0, .ref a13, .int 0]))], [(a1, .inl (kA 4, 4, .inr (.inr (.inr (.inr (rr (g 0)))))))], [(a2, .inl (kA 5, 4, .inr (.inr (.inr (.inr (rr (g 1)))))))], [(g 1 j, .inr (2, [.int 0, .int 0, .int 0, .int 0, .ref a14, .ref a15, .ref a16, .ref a17, .ref a18, .ref a19, .ref a20, .ref a21, .ref a22, .ref a23, .ref a24]))], [(g 0 j, .inr (3, [.int 0, .int 0, .int 1, .ref a25, .ref a26, .ref a27, .ref a28, .ref a29, .ref a30, .ref a31, .ref a32, .ref a33, .ref a34, .ref a35, .ref a36, .ref a37, .null, .int 0, .int 0]))], [(a15, .inl (kA 0, 48, .inl f0))], [(a20, .inl (kA 0, 24, .inl f1))], [(a16, .inl (kA 0, 24, .inl f2))], [(a21, .inl (kA 0, 24, .inl f3))], [(a4, .inl (kA 7, 4, .inr (.inr (.inr (.inr (rr (g 3)))))))], [(g 3 j, .inr (0, [.ref a38, .int ((-1)), .ref a39, .ref a40, .ref a41, .ref a42, .ref a43, .int 0, .int 0, .int 0, .ref a44, .ref a45, .ref a46, .ref a47, .ref a48, .ref a49, .ref a50, .int 0, .int 0, .int 0, .int 0]))], [(a48, .inl (kA 0, 216, .inl f4))], [(u4 1, .inl (kA 0, 2112, .inl (fun _ => 0)))], [(u4 3, .inl (kA 0, 112, .inl (fun _ => 0)))], [(u4 4, .inl (kA 3, 80, .inr (.inl (fun _ => 0))))], [(u4 5, .inl (kA 3, 10, .inr (.inl (fun _ => 0))))]]) (k_rV (pc := 55) (As := [.ref a11, .int 0]) (rest := []) X (c_Sy_compile_z1 l D kA q3 a11 (u4 0) (u4 1) (u4 2) (u4 3) (u4 4) (u4 5) (fun _ => 0) H.size) rfl wm_2154 wm_23 wm_2151 wm_2152 wm_2153 2 (by decide +kernel) ⟨Nat.le_of_ble_eq_true rfl, Nat.le_of_ble_eq_true rfl⟩ rfl rfl (va_recv hK hP (ci := 11) (q0 := 13) rfl rfl) (k_pre hN hK hP hD [13, 15] [0, 1, 2, 3, 4, 5, 6, 7, 8, 9, 10, 11, 12, 14, 16, 17, 18] 19 rfl (by decide) rfl) rfl hl.1 rfl (Nat.le_of_ble_eq_true rfl) d_Ho_style_55 ⟨Nat.le_of_ble_eq_true rfl, Nat.le_of_ble_eq_true rfl⟩) hP hD hS hA [13, 15] [0, 1, 2, 3, 4, 5, 6, 7, 8, 9, 10, 11, 12, 14, 16, 17, 18] 19 rfl (by decide) rfl rfl (fun r5 u6 H locs hu6 hP hD hS => ?_)
  subst hu6
  have hP : va_P D classes (cat [[(a0, .inr (12, [.ref a1, .ref a2, .ref a3, .ref a4, .ref a5, .ref a6, .ref a7, .int 0, .int ((-1)), .ref a8, .ref a9, .int 0, .int 0, .ref a10, .int 0, .int 0, .ref q3, .null, .null, .null, .null]))], [(a5, .inr (8, [.ref a11, .int 0, .int ((-1)), .int ((-1)), .ref a12, .int 0, .int 0, .int 0, .int 0, .int 0, .ref a13, .int 0]))], [(a1, .inl (kA 4, 4, .inr (.inr (.inr (.inr (rr (g 0)))))))], [(a2, .inl (kA 5, 4, .inr (.inr (.inr (.inr (rr (g 1)))))))], [(g 1 j, .inr (2, [.int 0, .int 0, .int 0, .int 0, .ref a14, .ref a15, .ref a16, .ref a17, .ref a18, .ref a19, .ref a20, .ref a21, .ref a22, .ref a23, .ref a24]))], [(g 0 j, .inr (3, [.int 0, .int 0, .int 1, .ref a25, .ref a26, .ref a27, .ref a28, .ref a29, .ref a30, .ref a31, .ref a32, .ref a33, .ref a34, .ref a35, .ref a36, .ref a37, .null, .int 0, .int 0]))], [(a15, .inl (kA 0, 48, .inl f0))], [(a20, .inl (kA 0, 24, .inl f1))], [(a16, .inl (kA 0, 24, .inl f2))], [(a21, .inl (kA 0, 24, .inl f3))], [(a4, .inl (kA 7, 4, .inr (.inr (.inr (.inr (rr (g 3)))))))], [(g 3 j, .inr (0, [.ref a38, .int ((-1)), .ref a39, .ref a40, .ref a41, .ref a42, .ref a43, .int 0, .int 0, .int 0, .ref a44, .ref a45, .ref a46, .ref a47, .ref a48, .ref a49, .ref a50, .int 0, .int 0, .int 0, .int 0]))], [(a48, .inl (kA 0, 216, .inl f4))], [(u4 1, .inl (kA 0, 2112, .inl (fun _ => 0)))], [(u4 3, .inl (kA 0, 112, .inl (fun _ => 0)))], [(u4 4, .inl (kA 3, 80, .inr (.inl (fun _ => 0))))], [(u4 5, .inl (kA 3, 10, .inr (.inl (fun _ => 0))))], [(q3, .inr (11, [.int 0, .int 0, .int ((-1)), .ref a11, .int 0, .int 0, .int 0, .int 0, .int 0, .ref (u4 0), .ref (u4 1), .int 0, .ref (u4 2), .ref (u4 3), .ref (u4 4), .int 0, .ref (u4 5)]))], [(u4 2, .inl (kA 0, 113, .inl (upd ((fun _ => 0)) 0 0)))]]) H := hP
  have hD : va_D A (cat [[(a0, .inr (12, [.ref a1, .ref a2, .ref a3, .ref a4, .ref a5, .ref a6, .ref a7, .int 0, .int ((-1)), .ref a8, .ref a9, .int 0, .int 0, .ref a10, .int 0, .int 0, .ref q3, .null, .null, .null, .null]))], [(a5, .inr (8, [.ref a11, .int 0, .int ((-1)), .int ((-1)), .ref a12, .int 0, .int 0, .int 0, .int 0, .int 0, .ref a13, .int 0]))], [(a1, .inl (kA 4, 4, .inr (.inr (.inr (.inr (rr (g 0)))))))], [(a2, .inl (kA 5, 4, .inr (.inr (.inr (.inr (rr (g 1)))))))], [(g 1 j, .inr (2, [.int 0, .int 0, .int 0, .int 0, .ref a14, .ref a15, .ref a16, .ref a17, .ref a18, .ref a19, .ref a20, .ref a21, .ref a22, .ref a23, .ref a24]))], [(g 0 j, .inr (3, [.int 0, .int 0, .int 1, .ref a25, .ref a26, .ref a27, .ref a28, .ref a29, .ref a30, .ref a31, .ref a32, .ref a33, .ref a34, .ref a35, .ref a36, .ref a37, .null, .int 0, .int 0]))], [(a15, .inl (kA 0, 48, .inl f0))], [(a20, .inl (kA 0, 24, .inl f1))], [(a16, .inl (kA 0, 24, .inl f2))], [(a21, .inl (kA 0, 24, .inl f3))], [(a4, .inl (kA 7, 4, .inr (.inr (.inr (.inr (rr (g 3)))))))], [(g 3 j, .inr (0, [.ref a38, .int ((-1)), .ref a39, .ref a40, .ref a41, .ref a42, .ref a43, .int 0, .int 0, .int 0, .ref a44, .ref a45, .ref a46, .ref a47, .ref a48, .ref a49, .ref a50, .int 0, .int 0, .int 0, .int 0]))], [(a48, .inl (kA 0, 216, .inl f4))], [(u4 1, .inl (kA 0, 2112, .inl (fun _ => 0)))], [(u4 3, .inl (kA 0, 112, .inl (fun _ => 0)))], [(u4 4, .inl (kA 3, 80, .inr (.inl (fun _ => 0))))], [(u4 5, .inl (kA 3, 10, .inr (.inl (fun _ => 0))))], [(q3, .inr (11, [.int 0, .int 0, .int ((-1)), .ref a11, .int 0, .int 0, .int 0, .int 0, .int 0, .ref (u4 0), .ref (u4 1), .int 0, .ref (u4 2), .ref (u4 3), .ref (u4 4), .int 0, .ref (u4 5)]))], [(u4 2, .inl (kA 0, 113, .inl (upd ((fun _ => 0)) 0 0)))]]) := hD
  refine lv_istore_n (pc := 58) (lv' := [(3, .int 1), (0, .ref a0), (1, .int (nI j)), (2, .int 0)]) hx hb d_Ho_style_58 rfl hl (by decide) rfl (fun ls hl => ?_)
  refine lv_aload_n (pc := 59) hx hb d_Ho_style_59 rfl (lv_at hl 1 rfl) ?_
  refine k_get (pc := 60) X hK hP 0 rfl rfl i_Ho 4 (by decide) wm_559 rfl rfl d_Ho_style_60 ?_
  refine lv_iconst (pc := 63) (v := 0) hx hb d_Ho_style_63 (by decide) ?_
  refine k_put (pc := 64) X hK hP hD hS 1 rfl rfl i_Re t_Re t_Re_ok n_Re 1 (by decide) wm_197 rfl (Or.inl rfl) rfl rfl (Nat.le_of_ble_eq_true rfl) d_Ho_style_64 (fun H locs hP hD hS => ?_)
  have hP : va_P D classes (cat [[(a0, .inr (12, [.ref a1, .ref a2, .ref a3, .ref a4, .ref a5, .ref a6, .ref a7, .int 0, .int ((-1)), .ref a8, .ref a9, .int 0, .int 0, .ref a10, .int 0, .int 0, .ref q3, .null, .null, .null, .null]))], [(a5, .inr (8, [.ref a11, .int 0, .int ((-1)), .int ((-1)), .ref a12, .int 0, .int 0, .int 0, .int 0, .int 0, .ref a13, .int 0]))], [(a1, .inl (kA 4, 4, .inr (.inr (.inr (.inr (rr (g 0)))))))], [(a2, .inl (kA 5, 4, .inr (.inr (.inr (.inr (rr (g 1)))))))], [(g 1 j, .inr (2, [.int 0, .int 0, .int 0, .int 0, .ref a14, .ref a15, .ref a16, .ref a17, .ref a18, .ref a19, .ref a20, .ref a21, .ref a22, .ref a23, .ref a24]))], [(g 0 j, .inr (3, [.int 0, .int 0, .int 1, .ref a25, .ref a26, .ref a27, .ref a28, .ref a29, .ref a30, .ref a31, .ref a32, .ref a33, .ref a34, .ref a35, .ref a36, .ref a37, .null, .int 0, .int 0]))], [(a15, .inl (kA 0, 48, .inl f0))], [(a20, .inl (kA 0, 24, .inl f1))], [(a16, .inl (kA 0, 24, .inl f2))], [(a21, .inl (kA 0, 24, .inl f3))], [(a4, .inl (kA 7, 4, .inr (.inr (.inr (.inr (rr (g 3)))))))], [(g 3 j, .inr (0, [.ref a38, .int ((-1)), .ref a39, .ref a40, .ref a41, .ref a42, .ref a43, .int 0, .int 0, .int 0, .ref a44, .ref a45, .ref a46, .ref a47, .ref a48, .ref a49, .ref a50, .int 0, .int 0, .int 0, .int 0]))], [(a48, .inl (kA 0, 216, .inl f4))], [(u4 1, .inl (kA 0, 2112, .inl (fun _ => 0)))], [(u4 3, .inl (kA 0, 112, .inl (fun _ => 0)))], [(u4 4, .inl (kA 3, 80, .inr (.inl (fun _ => 0))))], [(u4 5, .inl (kA 3, 10, .inr (.inl (fun _ => 0))))], [(q3, .inr (11, [.int 0, .int 0, .int ((-1)), .ref a11, .int 0, .int 0, .int 0, .int 0, .int 0, .ref (u4 0), .ref (u4 1), .int 0, .ref (u4 2), .ref (u4 3), .ref (u4 4), .int 0, .ref (u4 5)]))], [(u4 2, .inl (kA 0, 113, .inl (upd ((fun _ => 0)) 0 0)))]]) H := hP
  have hD : va_D A (cat [[(a0, .inr (12, [.ref a1, .ref a2, .ref a3, .ref a4, .ref a5, .ref a6, .ref a7, .int 0, .int ((-1)), .ref a8, .ref a9, .int 0, .int 0, .ref a10, .int 0, .int 0, .ref q3, .null, .null, .null, .null]))], [(a5, .inr (8, [.ref a11, .int 0, .int ((-1)), .int ((-1)), .ref a12, .int 0, .int 0, .int 0, .int 0, .int 0, .ref a13, .int 0]))], [(a1, .inl (kA 4, 4, .inr (.inr (.inr (.inr (rr (g 0)))))))], [(a2, .inl (kA 5, 4, .inr (.inr (.inr (.inr (rr (g 1)))))))], [(g 1 j, .inr (2, [.int 0, .int 0, .int 0, .int 0, .ref a14, .ref a15, .ref a16, .ref a17, .ref a18, .ref a19, .ref a20, .ref a21, .ref a22, .ref a23, .ref a24]))], [(g 0 j, .inr (3, [.int 0, .int 0, .int 1, .ref a25, .ref a26, .ref a27, .ref a28, .ref a29, .ref a30, .ref a31, .ref a32, .ref a33, .ref a34, .ref a35, .ref a36, .ref a37, .null, .int 0, .int 0]))], [(a15, .inl (kA 0, 48, .inl f0))], [(a20, .inl (kA 0, 24, .inl f1))], [(a16, .inl (kA 0, 24, .inl f2))], [(a21, .inl (kA 0, 24, .inl f3))], [(a4, .inl (kA 7, 4, .inr (.inr (.inr (.inr (rr (g 3)))))))], [(g 3 j, .inr (0, [.ref a38, .int ((-1)), .ref a39, .ref a40, .ref a41, .ref a42, .ref a43, .int 0, .int 0, .int 0, .ref a44, .ref a45, .ref a46, .ref a47, .ref a48, .ref a49, .ref a50, .int 0, .int 0, .int 0, .int 0]))], [(a48, .inl (kA 0, 216, .inl f4))], [(u4 1, .inl (kA 0, 2112, .inl (fun _ => 0)))], [(u4 3, .inl (kA 0, 112, .inl (fun _ => 0)))], [(u4 4, .inl (kA 3, 80, .inr (.inl (fun _ => 0))))], [(u4 5, .inl (kA 3, 10, .inr (.inl (fun _ => 0))))], [(q3, .inr (11, [.int 0, .int 0, .int ((-1)), .ref a11, .int 0, .int 0, .int 0, .int 0, .int 0, .ref (u4 0), .ref (u4 1), .int 0, .ref (u4 2), .ref (u4 3), .ref (u4 4), .int 0, .ref (u4 5)]))], [(u4 2, .inl (kA 0, 113, .inl (upd ((fun _ => 0)) 0 0)))]]) := hD
  refine lv_aload_n (pc := 67) hx hb d_Ho_style_67 rfl (lv_at hl 1 rfl) ?_
  refine k_get (pc := 68) X hK hP 0 rfl rfl i_Ho 4 (by decide) wm_559 rfl rfl d_Ho_style_68 ?_
  refine lv_aload_n (pc := 71) hx hb d_Ho_style_71 rfl (lv_at hl 1 rfl) ?_
  refine k_get (pc := 72) X hK hP 0 rfl rfl i_Ho 16 (by decide) wm_571 rfl rfl d_Ho_style_72 ?_
  refine k_get (pc := 75) X hK hP 17 rfl rfl i_Sy 1 (by decide) wm_2099 rfl rfl d_Ho_style_75 ?_
  refine k_put (pc := 78) X hK hP hD hS 1 rfl rfl i_Re t_Re t_Re_ok n_Re 2 (by decide) wm_199 rfl (Or.inl rfl) rfl rfl (Nat.le_of_ble_eq_true rfl) d_Ho_style_78 (fun H locs hP hD hS => ?_)
  have hP : va_P D classes (cat [[(a0, .inr (12, [.ref a1, .ref a2, .ref a3, .ref a4, .ref a5, .ref a6, .ref a7, .int 0, .int ((-1)), .ref a8, .ref a9, .int 0, .int 0, .ref a10, .int 0, .int 0, .ref q3, .null, .null, .null, .null]))], [(a5, .inr (8, [.ref a11, .int 0, .int 0, .int ((-1)), .ref a12, .int 0, .int 0, .int 0, .int 0, .int 0, .ref a13, .int 0]))], [(a1, .inl (kA 4, 4, .inr (.inr (.inr (.inr (rr (g 0)))))))], [(a2, .inl (kA 5, 4, .inr (.inr (.inr (.inr (rr (g 1)))))))], [(g 1 j, .inr (2, [.int 0, .int 0, .int 0, .int 0, .ref a14, .ref a15, .ref a16, .ref a17, .ref a18, .ref a19, .ref a20, .ref a21, .ref a22, .ref a23, .ref a24]))], [(g 0 j, .inr (3, [.int 0, .int 0, .int 1, .ref a25, .ref a26, .ref a27, .ref a28, .ref a29, .ref a30, .ref a31, .ref a32, .ref a33, .ref a34, .ref a35, .ref a36, .ref a37, .null, .int 0, .int 0]))], [(a15, .inl (kA 0, 48, .inl f0))], [(a20, .inl (kA 0, 24, .inl f1))], [(a16, .inl (kA 0, 24, .inl f2))], [(a21, .inl (kA 0, 24, .inl f3))], [(a4, .inl (kA 7, 4, .inr (.inr (.inr (.inr (rr (g 3)))))))], [(g 3 j, .inr (0, [.ref a38, .int ((-1)), .ref a39, .ref a40, .ref a41, .ref a42, .ref a43, .int 0, .int 0, .int 0, .ref a44, .ref a45, .ref a46, .ref a47, .ref a48, .ref a49, .ref a50, .int 0, .int 0, .int 0, .int 0]))], [(a48, .inl (kA 0, 216, .inl f4))], [(u4 1, .inl (kA 0, 2112, .inl (fun _ => 0)))], [(u4 3, .inl (kA 0, 112, .inl (fun _ => 0)))], [(u4 4, .inl (kA 3, 80, .inr (.inl (fun _ => 0))))], [(u4 5, .inl (kA 3, 10, .inr (.inl (fun _ => 0))))], [(q3, .inr (11, [.int 0, .int 0, .int ((-1)), .ref a11, .int 0, .int 0, .int 0, .int 0, .int 0, .ref (u4 0), .ref (u4 1), .int 0, .ref (u4 2), .ref (u4 3), .ref (u4 4), .int 0, .ref (u4 5)]))], [(u4 2, .inl (kA 0, 113, .inl (upd ((fun _ => 0)) 0 0)))]]) H := hP
  have hD : va_D A (cat [[(a0, .inr (12, [.ref a1, .ref a2, .ref a3, .ref a4, .ref a5, .ref a6, .ref a7, .int 0, .int ((-1)), .ref a8, .ref a9, .int 0, .int 0, .ref a10, .int 0, .int 0, .ref q3, .null, .null, .null, .null]))], [(a5, .inr (8, [.ref a11, .int 0, .int 0, .int ((-1)), .ref a12, .int 0, .int 0, .int 0, .int 0, .int 0, .ref a13, .int 0]))], [(a1, .inl (kA 4, 4, .inr (.inr (.inr (.inr (rr (g 0)))))))], [(a2, .inl (kA 5, 4, .inr (.inr (.inr (.inr (rr (g 1)))))))], [(g 1 j, .inr (2, [.int 0, .int 0, .int 0, .int 0, .ref a14, .ref a15, .ref a16, .ref a17, .ref a18, .ref a19, .ref a20, .ref a21, .ref a22, .ref a23, .ref a24]))], [(g 0 j, .inr (3, [.int 0, .int 0, .int 1, .ref a25, .ref a26, .ref a27, .ref a28, .ref a29, .ref a30, .ref a31, .ref a32, .ref a33, .ref a34, .ref a35, .ref a36, .ref a37, .null, .int 0, .int 0]))], [(a15, .inl (kA 0, 48, .inl f0))], [(a20, .inl (kA 0, 24, .inl f1))], [(a16, .inl (kA 0, 24, .inl f2))], [(a21, .inl (kA 0, 24, .inl f3))], [(a4, .inl (kA 7, 4, .inr (.inr (.inr (.inr (rr (g 3)))))))], [(g 3 j, .inr (0, [.ref a38, .int ((-1)), .ref a39, .ref a40, .ref a41, .ref a42, .ref a43, .int 0, .int 0, .int 0, .ref a44, .ref a45, .ref a46, .ref a47, .ref a48, .ref a49, .ref a50, .int 0, .int 0, .int 0, .int 0]))], [(a48, .inl (kA 0, 216, .inl f4))], [(u4 1, .inl (kA 0, 2112, .inl (fun _ => 0)))], [(u4 3, .inl (kA 0, 112, .inl (fun _ => 0)))], [(u4 4, .inl (kA 3, 80, .inr (.inl (fun _ => 0))))], [(u4 5, .inl (kA 3, 10, .inr (.inl (fun _ => 0))))], [(q3, .inr (11, [.int 0, .int 0, .int ((-1)), .ref a11, .int 0, .int 0, .int 0, .int 0, .int 0, .ref (u4 0), .ref (u4 1), .int 0, .ref (u4 2), .ref (u4 3), .ref (u4 4), .int 0, .ref (u4 5)]))], [(u4 2, .inl (kA 0, 113, .inl (upd ((fun _ => 0)) 0 0)))]]) := hD
  refine lv_aload_n (pc := 81) hx hb d_Ho_style_81 rfl (lv_at hl 1 rfl) ?_
  refine k_get (pc := 82) X hK hP 0 rfl rfl i_Ho 4 (by decide) wm_559 rfl rfl d_Ho_style_82 ?_
  refine lv_aload_n (pc := 85) hx hb d_Ho_style_85 rfl (lv_at hl 1 rfl) ?_
  refine k_get (pc := 86) X hK hP 0 rfl rfl i_Ho 16 (by decide) wm_571 rfl rfl d_Ho_style_86 ?_
  refine k_get (pc := 89) X hK hP 17 rfl rfl i_Sy 2 (by decide) wm_2101 rfl rfl d_Ho_style_89 ?_
  refine k_put (pc := 92) X hK hP hD hS 1 rfl rfl i_Re t_Re t_Re_ok n_Re 3 (by decide) wm_201 rfl (Or.inl rfl) rfl rfl (Nat.le_of_ble_eq_true rfl) d_Ho_style_92 (fun H locs hP hD hS => ?_)
  have hP : va_P D classes (cat [[(a0, .inr (12, [.ref a1, .ref a2, .ref a3, .ref a4, .ref a5, .ref a6, .ref a7, .int 0, .int ((-1)), .ref a8, .ref a9, .int 0, .int 0, .ref a10, .int 0, .int 0, .ref q3, .null, .null, .null, .null]))], [(a5, .inr (8, [.ref a11, .int 0, .int 0, .int ((-1)), .ref a12, .int 0, .int 0, .int 0, .int 0, .int 0, .ref a13, .int 0]))], [(a1, .inl (kA 4, 4, .inr (.inr (.inr (.inr (rr (g 0)))))))], [(a2, .inl (kA 5, 4, .inr (.inr (.inr (.inr (rr (g 1)))))))], [(g 1 j, .inr (2, [.int 0, .int 0, .int 0, .int 0, .ref a14, .ref a15, .ref a16, .ref a17, .ref a18, .ref a19, .ref a20, .ref a21, .ref a22, .ref a23, .ref a24]))], [(g 0 j, .inr (3, [.int 0, .int 0, .int 1, .ref a25, .ref a26, .ref a27, .ref a28, .ref a29, .ref a30, .ref a31, .ref a32, .ref a33, .ref a34, .ref a35, .ref a36, .ref a37, .null, .int 0, .int 0]))], [(a15, .inl (kA 0, 48, .inl f0))], [(a20, .inl (kA 0, 24, .inl f1))], [(a16, .inl (kA 0, 24, .inl f2))], [(a21, .inl (kA 0, 24, .inl f3))], [(a4, .inl (kA 7, 4, .inr (.inr (.inr (.inr (rr (g 3)))))))], [(g 3 j, .inr (0, [.ref a38, .int ((-1)), .ref a39, .ref a40, .ref a41, .ref a42, .ref a43, .int 0, .int 0, .int 0, .ref a44, .ref a45, .ref a46, .ref a47, .ref a48, .ref a49, .ref a50, .int 0, .int 0, .int 0, .int 0]))], [(a48, .inl (kA 0, 216, .inl f4))], [(u4 1, .inl (kA 0, 2112, .inl (fun _ => 0)))], [(u4 3, .inl (kA 0, 112, .inl (fun _ => 0)))], [(u4 4, .inl (kA 3, 80, .inr (.inl (fun _ => 0))))], [(u4 5, .inl (kA 3, 10, .inr (.inl (fun _ => 0))))], [(q3, .inr (11, [.int 0, .int 0, .int ((-1)), .ref a11, .int 0, .int 0, .int 0, .int 0, .int 0, .ref (u4 0), .ref (u4 1), .int 0, .ref (u4 2), .ref (u4 3), .ref (u4 4), .int 0, .ref (u4 5)]))], [(u4 2, .inl (kA 0, 113, .inl (upd ((fun _ => 0)) 0 0)))]]) H := hP
  have hD : va_D A (cat [[(a0, .inr (12, [.ref a1, .ref a2, .ref a3, .ref a4, .ref a5, .ref a6, .ref a7, .int 0, .int ((-1)), .ref a8, .ref a9, .int 0, .int 0, .ref a10, .int 0, .int 0, .ref q3, .null, .null, .null, .null]))], [(a5, .inr (8, [.ref a11, .int 0, .int 0, .int ((-1)), .ref a12, .int 0, .int 0, .int 0, .int 0, .int 0, .ref a13, .int 0]))], [(a1, .inl (kA 4, 4, .inr (.inr (.inr (.inr (rr (g 0)))))))], [(a2, .inl (kA 5, 4, .inr (.inr (.inr (.inr (rr (g 1)))))))], [(g 1 j, .inr (2, [.int 0, .int 0, .int 0, .int 0, .ref a14, .ref a15, .ref a16, .ref a17, .ref a18, .ref a19, .ref a20, .ref a21, .ref a22, .ref a23, .ref a24]))], [(g 0 j, .inr (3, [.int 0, .int 0, .int 1, .ref a25, .ref a26, .ref a27, .ref a28, .ref a29, .ref a30, .ref a31, .ref a32, .ref a33, .ref a34, .ref a35, .ref a36, .ref a37, .null, .int 0, .int 0]))], [(a15, .inl (kA 0, 48, .inl f0))], [(a20, .inl (kA 0, 24, .inl f1))], [(a16, .inl (kA 0, 24, .inl f2))], [(a21, .inl (kA 0, 24, .inl f3))], [(a4, .inl (kA 7, 4, .inr (.inr (.inr (.inr (rr (g 3)))))))], [(g 3 j, .inr (0, [.ref a38, .int ((-1)), .ref a39, .ref a40, .ref a41, .ref a42, .ref a43, .int 0, .int 0, .int 0, .ref a44, .ref a45, .ref a46, .ref a47, .ref a48, .ref a49, .ref a50, .int 0, .int 0, .int 0, .int 0]))], [(a48, .inl (kA 0, 216, .inl f4))], [(u4 1, .inl (kA 0, 2112, .inl (fun _ => 0)))], [(u4 3, .inl (kA 0, 112, .inl (fun _ => 0)))], [(u4 4, .inl (kA 3, 80, .inr (.inl (fun _ => 0))))], [(u4 5, .inl (kA 3, 10, .inr (.inl (fun _ => 0))))], [(q3, .inr (11, [.int 0, .int 0, .int ((-1)), .ref a11, .int 0, .int 0, .int 0, .int 0, .int 0, .ref (u4 0), .ref (u4 1), .int 0, .ref (u4 2), .ref (u4 3), .ref (u4 4), .int 0, .ref (u4 5)]))], [(u4 2, .inl (kA 0, 113, .inl (upd ((fun _ => 0)) 0 0)))]]) := hD
  refine lv_iload_n (pc := 95) hx hb d_Ho_style_95 rfl (lv_at hl 0 rfl) ?_
  refine lv_if_ne (pc := 96) (tgt := 101) hx hb d_Ho_style_96 (by decide) (fun c1 => ?_) (fun c1 => absurd c1 (by decide))
  refine lv_aload_n (pc := 101) hx hb d_Ho_style_101 rfl (lv_at hl 1 rfl) ?_
  refine k_get (pc := 102) X hK hP 0 rfl rfl i_Ho 16 (by decide) wm_571 rfl rfl d_Ho_style_102 ?_
  refine lv_aload_n (pc := 105) hx hb d_Ho_style_105 rfl (lv_at hl 1 rfl) ?_
  refine k_get (pc := 106) X hK hP 0 rfl rfl i_Ho 0 (by decide) wm_555 rfl rfl d_Ho_style_106 ?_
  refine lv_iload_n (pc := 109) hx hb d_Ho_style_109 rfl (lv_at hl 2 rfl) ?_
  refine k_ald (pc := 110) hx hb hK hP 2 4 rfl rfl (j) rfl (by omega) (by decide) (rr_at (by omega)) d_Ho_style_110 ?_
  refine lv_aload_n (pc := 111) hx hb d_Ho_style_111 rfl (lv_at hl 1 rfl) ?_
  refine lv_iload_n (pc := 112) hx hb d_Ho_style_112 rfl (lv_at hl 2 rfl) ?_
  refine k_goR (gr := [[(a5, .inr (8, [.ref a11, .int 0, .int 0, .int ((-1)), .ref a12, .int 0, .int 0, .int 0, .int 0, .int 0, .ref a13, .int 0]))], [(a4, .inl (kA 7, 4, .inr (.inr (.inr (.inr (rr (g 3)))))))], [(g 3 j, .inr (0, [.ref a38, .int ((-1)), .ref a39, .ref a40, .ref a41, .ref a42, .ref a43, .int 0, .int 0, .int 0, .ref a44, .ref a45, .ref a46, .ref a47, .ref a48, .ref a49, .ref a50, .int 0, .int 0, .int 0, .int 0]))], [(a48, .inl (kA 0, 216, .inl f4))], [(u4 1, .inl (kA 0, 2112, .inl (fun _ => 0)))], [(u4 3, .inl (kA 0, 112, .inl (fun _ => 0)))], [(u4 4, .inl (kA 3, 80, .inr (.inl (fun _ => 0))))], [(u4 5, .inl (kA 3, 10, .inr (.inl (fun _ => 0))))], [(q3, .inr (11, [.int 0, .int 0, .int ((-1)), .ref a11, .int 0, .int 0, .int 0, .int 0, .int 0, .ref (u4 0), .ref (u4 1), .int 0, .ref (u4 2), .ref (u4 3), .ref (u4 4), .int 0, .ref (u4 5)]))], [(u4 2, .inl (kA 0, 113, .inl (upd ((fun _ => 0)) 0 0)))]]) (k_rV (pc := 113) (As := [.int (nI j)]) (rest := [.ref (g 0 j), .ref q3]) X (c_Ho_learned_z2 l D kA a0 j a1 a2 a3 a4 a5 a6 a7 a8 a9 a10 q3 g a14 a15 a16 a17 a18 a19 a20 a21 a22 a23 a24 a25 a26 a27 a28 a29 a30 a31 a32 a33 a34 a35 a36 a37 f0 f1 f2 f3 hj H.size) rfl wm_810 wm_1 wm_807 wm_809 wv_1_14 1 (by decide +kernel) ⟨Nat.le_of_ble_eq_true rfl, Nat.le_of_ble_eq_true rfl⟩ rfl rfl (va_recv hK hP (ci := 12) (q0 := 0) rfl rfl) (k_pre hN hK hP hD [0, 3, 4, 2, 5, 6, 7, 8, 9] [1, 10, 11, 12, 13, 14, 15, 16, 17, 18] 19 rfl (by decide) rfl) rfl hl.1 rfl (Nat.le_of_ble_eq_true rfl) d_Ho_style_113 ⟨Nat.le_of_ble_eq_true rfl, Nat.le_of_ble_eq_true rfl⟩) hP hD hS hA [0, 3, 4, 2, 5, 6, 7, 8, 9] [1, 10, 11, 12, 13, 14, 15, 16, 17, 18] 19 rfl (by decide) rfl rfl (fun u8 H locs hu8 hP hD hS => ?_)
  have hP : va_P D classes (cat [[(a5, .inr (8, [.ref a11, .int 0, .int 0, .int ((-1)), .ref a12, .int 0, .int 0, .int 0, .int 0, .int 0, .ref a13, .int 0]))], [(a4, .inl (kA 7, 4, .inr (.inr (.inr (.inr (rr (g 3)))))))], [(g 3 j, .inr (0, [.ref a38, .int ((-1)), .ref a39, .ref a40, .ref a41, .ref a42, .ref a43, .int 0, .int 0, .int 0, .ref a44, .ref a45, .ref a46, .ref a47, .ref a48, .ref a49, .ref a50, .int 0, .int 0, .int 0, .int 0]))], [(a48, .inl (kA 0, 216, .inl f4))], [(u4 1, .inl (kA 0, 2112, .inl (fun _ => 0)))], [(u4 3, .inl (kA 0, 112, .inl (fun _ => 0)))], [(u4 4, .inl (kA 3, 80, .inr (.inl (fun _ => 0))))], [(u4 5, .inl (kA 3, 10, .inr (.inl (fun _ => 0))))], [(q3, .inr (11, [.int 0, .int 0, .int ((-1)), .ref a11, .int 0, .int 0, .int 0, .int 0, .int 0, .ref (u4 0), .ref (u4 1), .int 0, .ref (u4 2), .ref (u4 3), .ref (u4 4), .int 0, .ref (u4 5)]))], [(u4 2, .inl (kA 0, 113, .inl (upd ((fun _ => 0)) 0 0)))], [(a0, .inr (12, [.ref a1, .ref a2, .ref a3, .ref a4, .ref a5, .ref a6, .ref a7, .int 0, .int ((-1)), .ref a8, .ref a9, .int 0, .int 0, .ref a10, .int 0, .int 0, .ref q3, .null, .null, .null, .null]))], [(a2, .inl (kA 5, 4, .inr (.inr (.inr (.inr (rr (g 1)))))))], [(g 1 j, .inr (2, [.int 1, .int 0, .int 0, .int 0, .ref a14, .ref a15, .ref a16, .ref a17, .ref a18, .ref a19, .ref a20, .ref a21, .ref a22, .ref a23, .ref a24]))], [(a1, .inl (kA 4, 4, .inr (.inr (.inr (.inr (rr (g 0)))))))], [(g 0 j, .inr (3, [.int 0, .int 0, .int 1, .ref a25, .ref a26, .ref a27, .ref a28, .ref a29, .ref a30, .ref a31, .ref a32, .ref a33, .ref a34, .ref a35, .ref a36, .ref a37, .null, .int 0, .int 0]))], [(a15, .inl (kA 0, 48, .inl (u8.2 0)))], [(a20, .inl (kA 0, 24, .inl (fl (fl f1 24 0) 24 0)))], [(a16, .inl (kA 0, 24, .inl (fl f2 24 (-1))))], [(a21, .inl (kA 0, 24, .inl (fl f3 24 (-1))))]]) H := hP
  have hD : va_D A (cat [[(a5, .inr (8, [.ref a11, .int 0, .int 0, .int ((-1)), .ref a12, .int 0, .int 0, .int 0, .int 0, .int 0, .ref a13, .int 0]))], [(a4, .inl (kA 7, 4, .inr (.inr (.inr (.inr (rr (g 3)))))))], [(g 3 j, .inr (0, [.ref a38, .int ((-1)), .ref a39, .ref a40, .ref a41, .ref a42, .ref a43, .int 0, .int 0, .int 0, .ref a44, .ref a45, .ref a46, .ref a47, .ref a48, .ref a49, .ref a50, .int 0, .int 0, .int 0, .int 0]))], [(a48, .inl (kA 0, 216, .inl f4))], [(u4 1, .inl (kA 0, 2112, .inl (fun _ => 0)))], [(u4 3, .inl (kA 0, 112, .inl (fun _ => 0)))], [(u4 4, .inl (kA 3, 80, .inr (.inl (fun _ => 0))))], [(u4 5, .inl (kA 3, 10, .inr (.inl (fun _ => 0))))], [(q3, .inr (11, [.int 0, .int 0, .int ((-1)), .ref a11, .int 0, .int 0, .int 0, .int 0, .int 0, .ref (u4 0), .ref (u4 1), .int 0, .ref (u4 2), .ref (u4 3), .ref (u4 4), .int 0, .ref (u4 5)]))], [(u4 2, .inl (kA 0, 113, .inl (upd ((fun _ => 0)) 0 0)))], [(a0, .inr (12, [.ref a1, .ref a2, .ref a3, .ref a4, .ref a5, .ref a6, .ref a7, .int 0, .int ((-1)), .ref a8, .ref a9, .int 0, .int 0, .ref a10, .int 0, .int 0, .ref q3, .null, .null, .null, .null]))], [(a2, .inl (kA 5, 4, .inr (.inr (.inr (.inr (rr (g 1)))))))], [(g 1 j, .inr (2, [.int 1, .int 0, .int 0, .int 0, .ref a14, .ref a15, .ref a16, .ref a17, .ref a18, .ref a19, .ref a20, .ref a21, .ref a22, .ref a23, .ref a24]))], [(a1, .inl (kA 4, 4, .inr (.inr (.inr (.inr (rr (g 0)))))))], [(g 0 j, .inr (3, [.int 0, .int 0, .int 1, .ref a25, .ref a26, .ref a27, .ref a28, .ref a29, .ref a30, .ref a31, .ref a32, .ref a33, .ref a34, .ref a35, .ref a36, .ref a37, .null, .int 0, .int 0]))], [(a15, .inl (kA 0, 48, .inl (u8.2 0)))], [(a20, .inl (kA 0, 24, .inl (fl (fl f1 24 0) 24 0)))], [(a16, .inl (kA 0, 24, .inl (fl f2 24 (-1))))], [(a21, .inl (kA 0, 24, .inl (fl f3 24 (-1))))]]) := hD
  obtain ⟨f950, hf950⟩ : ∃ z : Nat → Int32, u8.2 0 = z := ⟨_, rfl⟩
  rw [hf950] at hP hD
  refine lv_aload_n (pc := 116) hx hb d_Ho_style_116 rfl (lv_at hl 1 rfl) ?_
  refine k_get (pc := 117) X hK hP 10 rfl rfl i_Ho 3 (by decide) wm_558 rfl rfl d_Ho_style_117 ?_
  refine lv_iload_n (pc := 120) hx hb d_Ho_style_120 rfl (lv_at hl 2 rfl) ?_
  refine k_ald (pc := 121) hx hb hK hP 1 7 rfl rfl (j) rfl (by omega) (by decide) (rr_at (by omega)) d_Ho_style_121 ?_
  refine k_goV (gr := [[(a5, .inr (8, [.ref a11, .int 0, .int 0, .int ((-1)), .ref a12, .int 0, .int 0, .int 0, .int 0, .int 0, .ref a13, .int 0]))], [(a4, .inl (kA 7, 4, .inr (.inr (.inr (.inr (rr (g 3)))))))], [(u4 1, .inl (kA 0, 2112, .inl (fun _ => 0)))], [(u4 3, .inl (kA 0, 112, .inl (fun _ => 0)))], [(u4 4, .inl (kA 3, 80, .inr (.inl (fun _ => 0))))], [(u4 5, .inl (kA 3, 10, .inr (.inl (fun _ => 0))))], [(q3, .inr (11, [.int 0, .int 0, .int ((-1)), .ref a11, .int 0, .int 0, .int 0, .int 0, .int 0, .ref (u4 0), .ref (u4 1), .int 0, .ref (u4 2), .ref (u4 3), .ref (u4 4), .int 0, .ref (u4 5)]))], [(u4 2, .inl (kA 0, 113, .inl (upd ((fun _ => 0)) 0 0)))], [(a0, .inr (12, [.ref a1, .ref a2, .ref a3, .ref a4, .ref a5, .ref a6, .ref a7, .int 0, .int ((-1)), .ref a8, .ref a9, .int 0, .int 0, .ref a10, .int 0, .int 0, .ref q3, .null, .null, .null, .null]))], [(a2, .inl (kA 5, 4, .inr (.inr (.inr (.inr (rr (g 1)))))))], [(g 1 j, .inr (2, [.int 1, .int 0, .int 0, .int 0, .ref a14, .ref a15, .ref a16, .ref a17, .ref a18, .ref a19, .ref a20, .ref a21, .ref a22, .ref a23, .ref a24]))], [(a1, .inl (kA 4, 4, .inr (.inr (.inr (.inr (rr (g 0)))))))], [(a15, .inl (kA 0, 48, .inl f950))], [(a20, .inl (kA 0, 24, .inl (fl (fl f1 24 0) 24 0)))], [(a16, .inl (kA 0, 24, .inl (fl f2 24 (-1))))], [(a21, .inl (kA 0, 24, .inl (fl f3 24 (-1))))]]) (k_rV (pc := 122) (As := [.ref (g 0 j), .ref (g 1 j), .ref (g 3 j)]) (rest := []) X (c_Sy_apply_z1 l D kA q3 g j a38 a39 a40 a41 a42 a43 a44 a45 a46 a47 a48 a49 a50 f4 a25 a26 a27 a28 a29 a30 a31 a32 a33 a34 a35 a36 a37 hj H.size) rfl wm_2285 wm_23 wm_2282 wm_2283 wm_2284 3 (by decide +kernel) ⟨Nat.le_of_ble_eq_true rfl, Nat.le_of_ble_eq_true rfl⟩ rfl rfl (va_recv hK hP (ci := 11) (q0 := 8) rfl rfl) (k_pre hN hK hP hD [2, 3, 14] [0, 1, 4, 5, 6, 7, 8, 9, 10, 11, 12, 13, 15, 16, 17, 18] 19 rfl (by decide) rfl) rfl hl.1 rfl (Nat.le_of_ble_eq_true rfl) d_Ho_style_122 ⟨Nat.le_of_ble_eq_true rfl, Nat.le_of_ble_eq_true rfl⟩) hP hD hS hA [2, 3, 14] [0, 1, 4, 5, 6, 7, 8, 9, 10, 11, 12, 13, 15, 16, 17, 18] 19 rfl (by decide) rfl rfl (fun u9 H locs hu9 hP hD hS => ?_)
  have hP : va_P D classes (cat [[(a5, .inr (8, [.ref a11, .int 0, .int 0, .int ((-1)), .ref a12, .int 0, .int 0, .int 0, .int 0, .int 0, .ref a13, .int 0]))], [(a4, .inl (kA 7, 4, .inr (.inr (.inr (.inr (rr (g 3)))))))], [(u4 1, .inl (kA 0, 2112, .inl (fun _ => 0)))], [(u4 3, .inl (kA 0, 112, .inl (fun _ => 0)))], [(u4 4, .inl (kA 3, 80, .inr (.inl (fun _ => 0))))], [(u4 5, .inl (kA 3, 10, .inr (.inl (fun _ => 0))))], [(q3, .inr (11, [.int 0, .int 0, .int ((-1)), .ref a11, .int 0, .int 0, .int 0, .int 0, .int 0, .ref (u4 0), .ref (u4 1), .int 0, .ref (u4 2), .ref (u4 3), .ref (u4 4), .int 0, .ref (u4 5)]))], [(u4 2, .inl (kA 0, 113, .inl (upd ((fun _ => 0)) 0 0)))], [(a0, .inr (12, [.ref a1, .ref a2, .ref a3, .ref a4, .ref a5, .ref a6, .ref a7, .int 0, .int ((-1)), .ref a8, .ref a9, .int 0, .int 0, .ref a10, .int 0, .int 0, .ref q3, .null, .null, .null, .null]))], [(a2, .inl (kA 5, 4, .inr (.inr (.inr (.inr (rr (g 1)))))))], [(g 1 j, .inr (2, [.int 1, .int 0, .int 0, .int 0, .ref a14, .ref a15, .ref a16, .ref a17, .ref a18, .ref a19, .ref a20, .ref a21, .ref a22, .ref a23, .ref a24]))], [(a1, .inl (kA 4, 4, .inr (.inr (.inr (.inr (rr (g 0)))))))], [(a15, .inl (kA 0, 48, .inl f950))], [(a20, .inl (kA 0, 24, .inl (fl (fl f1 24 0) 24 0)))], [(a16, .inl (kA 0, 24, .inl (fl f2 24 (-1))))], [(a21, .inl (kA 0, 24, .inl (fl f3 24 (-1))))], [(g 3 j, .inr (0, [.ref a38, .int ((-1)), .ref a39, .ref a40, .ref a41, .ref a42, .ref a43, .int 0, .int 0, .int 0, .ref a44, .ref a45, .ref a46, .ref a47, .ref a48, .ref a49, .ref a50, .int 0, .int 0, .int 0, .int 0]))], [(a48, .inl (kA 0, 216, .inl (fl f4 216 0)))], [(g 0 j, .inr (3, [.int 0, .int 0, .int 1, .ref a25, .ref a26, .ref a27, .ref a28, .ref a29, .ref a30, .ref a31, .ref a32, .ref a33, .ref a34, .ref a35, .ref a36, .ref a37, .null, .int 0, .int 0]))]]) H := hP
  have hD : va_D A (cat [[(a5, .inr (8, [.ref a11, .int 0, .int 0, .int ((-1)), .ref a12, .int 0, .int 0, .int 0, .int 0, .int 0, .ref a13, .int 0]))], [(a4, .inl (kA 7, 4, .inr (.inr (.inr (.inr (rr (g 3)))))))], [(u4 1, .inl (kA 0, 2112, .inl (fun _ => 0)))], [(u4 3, .inl (kA 0, 112, .inl (fun _ => 0)))], [(u4 4, .inl (kA 3, 80, .inr (.inl (fun _ => 0))))], [(u4 5, .inl (kA 3, 10, .inr (.inl (fun _ => 0))))], [(q3, .inr (11, [.int 0, .int 0, .int ((-1)), .ref a11, .int 0, .int 0, .int 0, .int 0, .int 0, .ref (u4 0), .ref (u4 1), .int 0, .ref (u4 2), .ref (u4 3), .ref (u4 4), .int 0, .ref (u4 5)]))], [(u4 2, .inl (kA 0, 113, .inl (upd ((fun _ => 0)) 0 0)))], [(a0, .inr (12, [.ref a1, .ref a2, .ref a3, .ref a4, .ref a5, .ref a6, .ref a7, .int 0, .int ((-1)), .ref a8, .ref a9, .int 0, .int 0, .ref a10, .int 0, .int 0, .ref q3, .null, .null, .null, .null]))], [(a2, .inl (kA 5, 4, .inr (.inr (.inr (.inr (rr (g 1)))))))], [(g 1 j, .inr (2, [.int 1, .int 0, .int 0, .int 0, .ref a14, .ref a15, .ref a16, .ref a17, .ref a18, .ref a19, .ref a20, .ref a21, .ref a22, .ref a23, .ref a24]))], [(a1, .inl (kA 4, 4, .inr (.inr (.inr (.inr (rr (g 0)))))))], [(a15, .inl (kA 0, 48, .inl f950))], [(a20, .inl (kA 0, 24, .inl (fl (fl f1 24 0) 24 0)))], [(a16, .inl (kA 0, 24, .inl (fl f2 24 (-1))))], [(a21, .inl (kA 0, 24, .inl (fl f3 24 (-1))))], [(g 3 j, .inr (0, [.ref a38, .int ((-1)), .ref a39, .ref a40, .ref a41, .ref a42, .ref a43, .int 0, .int 0, .int 0, .ref a44, .ref a45, .ref a46, .ref a47, .ref a48, .ref a49, .ref a50, .int 0, .int 0, .int 0, .int 0]))], [(a48, .inl (kA 0, 216, .inl (fl f4 216 0)))], [(g 0 j, .inr (3, [.int 0, .int 0, .int 1, .ref a25, .ref a26, .ref a27, .ref a28, .ref a29, .ref a30, .ref a31, .ref a32, .ref a33, .ref a34, .ref a35, .ref a36, .ref a37, .null, .int 0, .int 0]))]]) := hD
  refine lv_aload_n (pc := 125) hx hb d_Ho_style_125 rfl (lv_at hl 1 rfl) ?_
  refine k_get (pc := 126) X hK hP 8 rfl rfl i_Ho 16 (by decide) wm_571 rfl rfl d_Ho_style_126 ?_
  refine k_get (pc := 129) X hK hP 6 rfl rfl i_Sy 0 (by decide) wm_2097 rfl rfl d_Ho_style_129 ?_
  refine W.widen (k := 6) (n := 2444) (Nat.le_of_ble_eq_true rfl) (Nat.le_of_ble_eq_true rfl) ?_
  exact W.iret (v := 0) hx hb hr (fun t ht hW => ⟨⟨0, [[(a5, .inr (8, [.ref a11, .int 0, .int 0, .int ((-1)), .ref a12, .int 0, .int 0, .int 0, .int 0, .int 0, .ref a13, .int 0]))], [(a4, .inl (kA 7, 4, .inr (.inr (.inr (.inr (rr (g 3)))))))], [(u4 1, .inl (kA 0, 2112, .inl (fun _ => 0)))], [(u4 3, .inl (kA 0, 112, .inl (fun _ => 0)))], [(u4 4, .inl (kA 3, 80, .inr (.inl (fun _ => 0))))], [(u4 5, .inl (kA 3, 10, .inr (.inl (fun _ => 0))))], [(q3, .inr (11, [.int 0, .int 0, .int ((-1)), .ref a11, .int 0, .int 0, .int 0, .int 0, .int 0, .ref (u4 0), .ref (u4 1), .int 0, .ref (u4 2), .ref (u4 3), .ref (u4 4), .int 0, .ref (u4 5)]))], [(u4 2, .inl (kA 0, 113, .inl (upd ((fun _ => 0)) 0 0)))], [(a0, .inr (12, [.ref a1, .ref a2, .ref a3, .ref a4, .ref a5, .ref a6, .ref a7, .int 0, .int ((-1)), .ref a8, .ref a9, .int 0, .int 0, .ref a10, .int 0, .int 0, .ref q3, .null, .null, .null, .null]))], [(a2, .inl (kA 5, 4, .inr (.inr (.inr (.inr (rr (g 1)))))))], [(g 1 j, .inr (2, [.int 1, .int 0, .int 0, .int 0, .ref a14, .ref a15, .ref a16, .ref a17, .ref a18, .ref a19, .ref a20, .ref a21, .ref a22, .ref a23, .ref a24]))], [(a1, .inl (kA 4, 4, .inr (.inr (.inr (.inr (rr (g 0)))))))], [(a15, .inl (kA 0, 48, .inl f950))], [(a20, .inl (kA 0, 24, .inl (fl (fl f1 24 0) 24 0)))], [(a16, .inl (kA 0, 24, .inl (fl f2 24 (-1))))], [(a21, .inl (kA 0, 24, .inl (fl f3 24 (-1))))], [(g 3 j, .inr (0, [.ref a38, .int ((-1)), .ref a39, .ref a40, .ref a41, .ref a42, .ref a43, .int 0, .int 0, .int 0, .ref a44, .ref a45, .ref a46, .ref a47, .ref a48, .ref a49, .ref a50, .int 0, .int 0, .int 0, .int 0]))], [(a48, .inl (kA 0, 216, .inl (fl f4 216 0)))], [(g 0 j, .inr (3, [.int 0, .int 0, .int 1, .ref a25, .ref a26, .ref a27, .ref a28, .ref a29, .ref a30, .ref a31, .ref a32, .ref a33, .ref a34, .ref a35, .ref a36, .ref a37, .null, .int 0, .int 0]))]], rfl, rfl, by rw [ht]; exact hP, va_K.moved hW.alike hK, hD⟩, hS.F ht⟩) hS.2.2 d_Ho_style_132
set_option maxRecDepth 100000 in
set_option maxHeartbeats 4000000 in
/-- DrawingHouseModel.take(I)V -/
theorem c_Mo_take_z3 (l : Launch) (D : va_G) (kA : Nat → ClassId) (a0 : Nat) (j : Nat) (qm : Nat → Nat) (hj : j < 4) : Cv l y_Mo_take z_Mo_take { frames := 1, cells := 0, slots := 0, locals := 21 } D classes (TY kA) [.ref a0, .int (nI j)] [[(a0, .inr (13, mF qm (va_up x0Mo 7 1) y0Mo))], [(qm 3, .inl (kA 0, 4, .inl (fun _ => 0)))]] (fun _ : Unit => True) (fun u => [[(a0, .inr (13, mF qm (va_up (va_up x0Mo 5 (nI (539 * (31 * j + 0)))) 7 1) y0Mo))], [(qm 3, .inl (kA 0, 4, .inl (fun _ => 0)))]]) 0 0 := by
  intro sz
  refine k_met (cc := b_Mo_take) (maxL := 2) (ret := none) (by decide) rfl (Nat.le_of_ble_eq_true rfl) (fun p e s m below meth c ls X hl hB => ?_)
  obtain ⟨hsz, hP, hK, hD0, hN⟩ := hB
  subst hsz
  have hD := hD0.self (sz := s.heap.size)
  generalize hAe : va_A (cat [[(a0, .inr (13, mF qm (va_up x0Mo 7 1) y0Mo))], [(qm 3, .inl (kA 0, 4, .inl (fun _ => 0)))]]) s.heap.size = A at hD ⊢
  have hA : ∀ q : Nat, s.heap.size ≤ q → A q := fun q h => by rw [← hAe]; exact Or.inr h
  have hS : va_S A s.heap s.heap [] := va_S.rf
  obtain ⟨hx, hb, hml, hown, hts, hr, hlk, hnm⟩ := id X
  have hl : lv_has ls 2 [(0, .ref a0), (1, .int (nI j))] := hl
  have hP : va_P D classes (cat [[(a0, .inr (13, mF qm (va_up x0Mo 7 1) y0Mo))], [(qm 3, .inl (kA 0, 4, .inl (fun _ => 0)))]]) s.heap := hP
  have hK : va_K D classes (TY kA) s := hK
  refine lv_aload_n (pc := 0) hx hb d_Mo_take_0 rfl (lv_at hl 0 rfl) ?_
  refine lv_iload_n (pc := 1) hx hb d_Mo_take_1 rfl (lv_at hl 1 rfl) ?_
  refine lv_aload_n (pc := 2) hx hb d_Mo_take_2 rfl (lv_at hl 0 rfl) ?_
  refine k_get (pc := 3) (v := .ref (qm 3)) X hK hP 0 rfl rfl i_Mo 3 (by decide) wm_2436 rfl rfl d_Mo_take_3 ?_
  refine lv_iload_n (pc := 6) hx hb d_Mo_take_6 rfl (lv_at hl 1 rfl) ?_
  refine k_ild (pc := 7) hx hb hK hP 1 0 rfl rfl (j) rfl (by omega) (by decide) d_Mo_take_7 ?_
  refine k_cst (v := 0) (by rfl) ?_
  refine k_goI (gr := [[(a0, .inr (13, mF qm (va_up x0Mo 7 1) y0Mo))], [(qm 3, .inl (kA 0, 4, .inl (fun _ => 0)))]]) (k_rS (pc := 8) (As := [.int (nI j), .int 0]) (rest := [.ref a0]) X (c_Mo_rowOf l D kA j 0 s.heap.size) rfl wm_2420 wm_9 wm_2418 wm_2419 2 (by decide +kernel) ⟨Nat.le_of_ble_eq_true rfl, Nat.le_of_ble_eq_true rfl⟩ rfl rfl (k_pre hN hK hP hD [] [0, 1] 2 rfl (by decide) rfl) rfl hl.1 rfl (Nat.le_of_ble_eq_true rfl) d_Mo_take_8 ⟨Nat.le_of_ble_eq_true rfl, Nat.le_of_ble_eq_true rfl⟩) hP hD hS hA [] [0, 1] 2 rfl (by decide) rfl rfl (fun r1 u2 H locs hu2 hP hD hS => ?_)
  subst hu2
  have hP : va_P D classes (cat [[(a0, .inr (13, mF qm (va_up x0Mo 7 1) y0Mo))], [(qm 3, .inl (kA 0, 4, .inl (fun _ => 0)))]]) H := hP
  have hD : va_D A (cat [[(a0, .inr (13, mF qm (va_up x0Mo 7 1) y0Mo))], [(qm 3, .inl (kA 0, 4, .inl (fun _ => 0)))]]) := hD
  refine k_put (pc := 11) X hK hP hD hS 0 rfl rfl i_Mo t_Mo t_Mo_ok n_Mo 5 (by decide) wm_2438 rfl (Or.inl rfl) rfl rfl (Nat.le_of_ble_eq_true rfl) d_Mo_take_11 (fun H locs hP hD hS => ?_)
  have hP : va_P D classes (cat [[(a0, .inr (13, mF qm (va_up (va_up x0Mo 5 (nI (539 * (31 * j + 0)))) 7 1) y0Mo))], [(qm 3, .inl (kA 0, 4, .inl (fun _ => 0)))]]) H := hP
  have hD : va_D A (cat [[(a0, .inr (13, mF qm (va_up (va_up x0Mo 5 (nI (539 * (31 * j + 0)))) 7 1) y0Mo))], [(qm 3, .inl (kA 0, 4, .inl (fun _ => 0)))]]) := hD
  refine W.widen (k := 0) (n := 0) (Nat.le_of_ble_eq_true rfl) (Nat.le_of_ble_eq_true rfl) ?_
  exact W.vret hx hb hr (fun t ht hW => ⟨⟨(), rfl, trivial, by rw [ht]; exact hP, va_K.moved hW.alike hK, hD⟩, hS.F ht⟩) hS.2.2 d_Mo_take_14
set_option maxRecDepth 100000 in
set_option maxHeartbeats 4000000 in
/-- DrawingHouseModel.byteAt(I)I -/
theorem c_Mo_byteAt_z2 (l : Launch) (D : va_G) (kA : Nat → ClassId) (a0 : Nat) (qm : Nat → Nat) (j : Nat) (hj : j < 4) : Ci l y_Mo_byteAt z_Mo_byteAt { frames := 0, cells := 0, slots := 0, locals := 0 } D classes (TY kA) [.ref a0, .int 0] [[(a0, .inr (13, mF qm (va_up (va_up (va_up x0Mo 5 (nI (539 * (31 * j + 0)))) 7 1) 139 (nI j)) y0Mo))]] (fun r (_ : Unit) => r = (-1)) (fun u => [[(a0, .inr (13, mF qm (va_up (va_up (va_up x0Mo 5 (nI (539 * (31 * j + 0)))) 7 1) 139 (nI j)) y0Mo))]]) 0 0 := by
  intro sz
  refine k_met (cc := b_Mo_byteAt) (maxL := 2) (ret := (some .int)) (by decide) rfl (Nat.le_of_ble_eq_true rfl) (fun p e s m below meth c ls X hl hB => ?_)
  obtain ⟨hsz, hP, hK, hD0, hN⟩ := hB
  subst hsz
  have hD := hD0.self (sz := s.heap.size)
  generalize hAe : va_A (cat [[(a0, .inr (13, mF qm (va_up (va_up (va_up x0Mo 5 (nI (539 * (31 * j + 0)))) 7 1) 139 (nI j)) y0Mo))]]) s.heap.size = A at hD ⊢
  have hA : ∀ q : Nat, s.heap.size ≤ q → A q := fun q h => by rw [← hAe]; exact Or.inr h
  have hS : va_S A s.heap s.heap [] := va_S.rf
  obtain ⟨hx, hb, hml, hown, hts, hr, hlk, hnm⟩ := id X
  have hl : lv_has ls 2 [(0, .ref a0), (1, .int 0)] := hl
  have hP : va_P D classes (cat [[(a0, .inr (13, mF qm (va_up (va_up (va_up x0Mo 5 (nI (539 * (31 * j + 0)))) 7 1) 139 (nI j)) y0Mo))]]) s.heap := hP
  have hK : va_K D classes (TY kA) s := hK
  refine lv_iload_n (pc := 0) hx hb d_Mo_byteAt_0 rfl (lv_at hl 1 rfl) ?_
  refine lv_aload_n (pc := 1) hx hb d_Mo_byteAt_1 rfl (lv_at hl 0 rfl) ?_
  refine k_get (pc := 2) (v := .int 0) X hK hP 0 rfl rfl i_Mo 10 (by decide) wm_2443 rfl rfl d_Mo_byteAt_2 ?_
  refine lv_icmp_ge (pc := 5) (tgt := 21) hx hb d_Mo_byteAt_5 (by decide) (fun _ => ?_) (fun c1 => absurd (by decide) c1)
  refine lv_iconst (pc := 21) (v := -1) hx hb d_Mo_byteAt_21 (by decide) ?_
  refine W.widen (k := 0) (n := 0) (Nat.le_of_ble_eq_true rfl) (Nat.le_of_ble_eq_true rfl) ?_
  exact W.iret (v := (-1)) hx hb hr (fun t ht hW => ⟨⟨(-1), (), rfl, rfl, by rw [ht]; exact hP, va_K.moved hW.alike hK, hD⟩, hS.F ht⟩) hS.2.2 d_Mo_byteAt_22
set_option maxRecDepth 100000 in
set_option maxHeartbeats 4000000 in
/-- DrawingHouseModel.styleTokens(I)V -/
theorem c_Mo_styleTokens_z1 (l : Launch) (D : va_G) (kA : Nat → ClassId) (a0 : Nat) (qm : Nat → Nat) (j : Nat) (f0 : Nat → Int32) (fl0 : Nat → Int64) (f1 : Nat → Int32) (f2 : Nat → Int32) (hj : j < 4) : Cv l y_Mo_styleTokens z_Mo_styleTokens { frames := 1, cells := 0, slots := 0, locals := 21 } D classes (TY kA) [.ref a0, .int 0] [[(a0, .inr (13, mF qm (va_up (va_up (va_up x0Mo 5 (nI (539 * (31 * j + 0)))) 7 1) 139 (nI j)) y0Mo))], [(qm 160, .inl (kA 0, 2010, .inl f0))], [(qm 161, .inl (kA 3, 2010, .inr (.inl fl0)))], [(qm 162, .inl (kA 0, 2010, .inl f1))], [(qm 163, .inl (kA 0, 2010, .inl f2))]] (fun _ : Unit => True) (fun u => [[(a0, .inr (13, mF qm (va_up (va_up (va_up (va_up x0Mo 5 (nI (539 * (31 * j + 0)))) 7 1) 139 (nI j)) 157 1) y0Mo))], [(qm 160, .inl (kA 0, 2010, .inl (upd (f0) 0 0)))], [(qm 161, .inl (kA 3, 2010, .inr (.inl (vp_updL fl0 0 ((-1))))))], [(qm 162, .inl (kA 0, 2010, .inl (upd (f1) 0 0)))], [(qm 163, .inl (kA 0, 2010, .inl (upd (f2) 0 0)))]]) 0 0 := by
  intro sz
  refine k_met (cc := b_Mo_styleTokens) (maxL := 9) (ret := none) (by decide) rfl (Nat.le_of_ble_eq_true rfl) (fun p e s m below meth c ls X hl hB => ?_)
  obtain ⟨hsz, hP, hK, hD0, hN⟩ := hB
  subst hsz
  have hD := hD0.self (sz := s.heap.size)
  generalize hAe : va_A (cat [[(a0, .inr (13, mF qm (va_up (va_up (va_up x0Mo 5 (nI (539 * (31 * j + 0)))) 7 1) 139 (nI j)) y0Mo))], [(qm 160, .inl (kA 0, 2010, .inl f0))], [(qm 161, .inl (kA 3, 2010, .inr (.inl fl0)))], [(qm 162, .inl (kA 0, 2010, .inl f1))], [(qm 163, .inl (kA 0, 2010, .inl f2))]]) s.heap.size = A at hD ⊢
  have hA : ∀ q : Nat, s.heap.size ≤ q → A q := fun q h => by rw [← hAe]; exact Or.inr h
  have hS : va_S A s.heap s.heap [] := va_S.rf
  obtain ⟨hx, hb, hml, hown, hts, hr, hlk, hnm⟩ := id X
  have hl : lv_has ls 9 [(0, .ref a0), (1, .int 0)] := hl
  have hP : va_P D classes (cat [[(a0, .inr (13, mF qm (va_up (va_up (va_up x0Mo 5 (nI (539 * (31 * j + 0)))) 7 1) 139 (nI j)) y0Mo))], [(qm 160, .inl (kA 0, 2010, .inl f0))], [(qm 161, .inl (kA 3, 2010, .inr (.inl fl0)))], [(qm 162, .inl (kA 0, 2010, .inl f1))], [(qm 163, .inl (kA 0, 2010, .inl f2))]]) s.heap := hP
  have hK : va_K D classes (TY kA) s := hK
  refine lv_aload_n (pc := 0) hx hb d_Mo_styleTokens_0 rfl (lv_at hl 0 rfl) ?_
  refine lv_iconst (pc := 1) (v := 0) hx hb d_Mo_styleTokens_1 (by decide) ?_
  refine k_put (pc := 2) X hK hP hD hS 0 rfl rfl i_Mo t_Mo t_Mo_ok n_Mo 157 (by decide) wm_2589 rfl (Or.inl rfl) rfl rfl (Nat.le_of_ble_eq_true rfl) d_Mo_styleTokens_2 (fun H locs hP hD hS => ?_)
  have hP : va_P D classes (cat [[(a0, .inr (13, mF qm (va_up (va_up (va_up x0Mo 5 (nI (539 * (31 * j + 0)))) 7 1) 139 (nI j)) y0Mo))], [(qm 160, .inl (kA 0, 2010, .inl f0))], [(qm 161, .inl (kA 3, 2010, .inr (.inl fl0)))], [(qm 162, .inl (kA 0, 2010, .inl f1))], [(qm 163, .inl (kA 0, 2010, .inl f2))]]) H := hP
  have hD : va_D A (cat [[(a0, .inr (13, mF qm (va_up (va_up (va_up x0Mo 5 (nI (539 * (31 * j + 0)))) 7 1) 139 (nI j)) y0Mo))], [(qm 160, .inl (kA 0, 2010, .inl f0))], [(qm 161, .inl (kA 3, 2010, .inr (.inl fl0)))], [(qm 162, .inl (kA 0, 2010, .inl f1))], [(qm 163, .inl (kA 0, 2010, .inl f2))]]) := hD
  refine lv_aload_n (pc := 5) hx hb d_Mo_styleTokens_5 rfl (lv_at hl 0 rfl) ?_
  refine lv_iload_n (pc := 6) hx hb d_Mo_styleTokens_6 rfl (lv_at hl 1 rfl) ?_
  refine k_put (pc := 7) X hK hP hD hS 0 rfl rfl i_Mo t_Mo t_Mo_ok n_Mo 10 (by decide) wm_2443 rfl (Or.inl rfl) rfl rfl (Nat.le_of_ble_eq_true rfl) d_Mo_styleTokens_7 (fun H locs hP hD hS => ?_)
  have hP : va_P D classes (cat [[(a0, .inr (13, mF qm (va_up (va_up (va_up x0Mo 5 (nI (539 * (31 * j + 0)))) 7 1) 139 (nI j)) y0Mo))], [(qm 160, .inl (kA 0, 2010, .inl f0))], [(qm 161, .inl (kA 3, 2010, .inr (.inl fl0)))], [(qm 162, .inl (kA 0, 2010, .inl f1))], [(qm 163, .inl (kA 0, 2010, .inl f2))]]) H := hP
  have hD : va_D A (cat [[(a0, .inr (13, mF qm (va_up (va_up (va_up x0Mo 5 (nI (539 * (31 * j + 0)))) 7 1) 139 (nI j)) y0Mo))], [(qm 160, .inl (kA 0, 2010, .inl f0))], [(qm 161, .inl (kA 3, 2010, .inr (.inl fl0)))], [(qm 162, .inl (kA 0, 2010, .inl f1))], [(qm 163, .inl (kA 0, 2010, .inl f2))]]) := hD
  refine lv_aload_n (pc := 10) hx hb d_Mo_styleTokens_10 rfl (lv_at hl 0 rfl) ?_
  refine lv_iconst (pc := 11) (v := 0) hx hb d_Mo_styleTokens_11 (by decide) ?_
  refine k_put (pc := 12) X hK hP hD hS 0 rfl rfl i_Mo t_Mo t_Mo_ok n_Mo 11 (by decide) wm_2444 rfl (Or.inl rfl) rfl rfl (Nat.le_of_ble_eq_true rfl) d_Mo_styleTokens_12 (fun H locs hP hD hS => ?_)
  have hP : va_P D classes (cat [[(a0, .inr (13, mF qm (va_up (va_up (va_up x0Mo 5 (nI (539 * (31 * j + 0)))) 7 1) 139 (nI j)) y0Mo))], [(qm 160, .inl (kA 0, 2010, .inl f0))], [(qm 161, .inl (kA 3, 2010, .inr (.inl fl0)))], [(qm 162, .inl (kA 0, 2010, .inl f1))], [(qm 163, .inl (kA 0, 2010, .inl f2))]]) H := hP
  have hD : va_D A (cat [[(a0, .inr (13, mF qm (va_up (va_up (va_up x0Mo 5 (nI (539 * (31 * j + 0)))) 7 1) 139 (nI j)) y0Mo))], [(qm 160, .inl (kA 0, 2010, .inl f0))], [(qm 161, .inl (kA 3, 2010, .inr (.inl fl0)))], [(qm 162, .inl (kA 0, 2010, .inl f1))], [(qm 163, .inl (kA 0, 2010, .inl f2))]]) := hD
  refine lv_iconst (pc := 15) (v := 1) hx hb d_Mo_styleTokens_15 (by decide) ?_
  refine lv_istore_n (pc := 16) (lv' := [(2, .int 1), (0, .ref a0), (1, .int 0)]) hx hb d_Mo_styleTokens_16 rfl hl (by decide) rfl (fun ls hl => ?_)
  refine lv_iload_n (pc := 17) hx hb d_Mo_styleTokens_17 rfl (lv_at hl 0 rfl) ?_
  refine lv_if_eq (pc := 18) (tgt := 439) hx hb d_Mo_styleTokens_18 (by decide) (fun c1 => absurd c1 (by decide)) (fun c1 => ?_)
  refine lv_aload_n (pc := 21) hx hb d_Mo_styleTokens_21 rfl (lv_at hl 1 rfl) ?_
  refine lv_aload_n (pc := 22) hx hb d_Mo_styleTokens_22 rfl (lv_at hl 1 rfl) ?_
  refine k_get (pc := 23) (v := .int 0) X hK hP 0 rfl rfl i_Mo 11 (by decide) wm_2444 rfl rfl d_Mo_styleTokens_23 ?_
  refine k_goI (gr := [[(qm 160, .inl (kA 0, 2010, .inl f0))], [(qm 161, .inl (kA 3, 2010, .inr (.inl fl0)))], [(qm 162, .inl (kA 0, 2010, .inl f1))], [(qm 163, .inl (kA 0, 2010, .inl f2))]]) (k_rV (pc := 26) (As := [.int 0]) (rest := []) X (c_Mo_byteAt_z2 l D kA a0 qm j hj H.size) rfl wm_2986 wm_9 wm_2983 wm_2985 wv_12_12 1 (by decide +kernel) ⟨Nat.le_of_ble_eq_true rfl, Nat.le_of_ble_eq_true rfl⟩ rfl rfl (va_recv hK hP (ci := 13) (q0 := 0) rfl rfl) (k_pre hN hK hP hD [0] [1, 2, 3, 4] 5 rfl (by decide) rfl) rfl hl.1 rfl (Nat.le_of_ble_eq_true rfl) d_Mo_styleTokens_26 ⟨Nat.le_of_ble_eq_true rfl, Nat.le_of_ble_eq_true rfl⟩) hP hD hS hA [0] [1, 2, 3, 4] 5 rfl (by decide) rfl rfl (fun r1 u2 H locs hu2 hP hD hS => ?_)
  subst hu2
  have hP : va_P D classes (cat [[(qm 160, .inl (kA 0, 2010, .inl f0))], [(qm 161, .inl (kA 3, 2010, .inr (.inl fl0)))], [(qm 162, .inl (kA 0, 2010, .inl f1))], [(qm 163, .inl (kA 0, 2010, .inl f2))], [(a0, .inr (13, mF qm (va_up (va_up (va_up x0Mo 5 (nI (539 * (31 * j + 0)))) 7 1) 139 (nI j)) y0Mo))]]) H := hP
  have hD : va_D A (cat [[(qm 160, .inl (kA 0, 2010, .inl f0))], [(qm 161, .inl (kA 3, 2010, .inr (.inl fl0)))], [(qm 162, .inl (kA 0, 2010, .inl f1))], [(qm 163, .inl (kA 0, 2010, .inl f2))], [(a0, .inr (13, mF qm (va_up (va_up (va_up x0Mo 5 (nI (539 * (31 * j + 0)))) 7 1) 139 (nI j)) y0Mo))]]) := hD
  refine lv_bipush (pc := 29) (v := 32) hx hb d_Mo_styleTokens_29 (by decide) ?_
  refine lv_icmp_eq (pc := 31) (tgt := 47) hx hb d_Mo_styleTokens_31 (by decide) (fun c1 => absurd c1 (by decide)) (fun _ => ?_)
  refine lv_aload_n (pc := 34) hx hb d_Mo_styleTokens_34 rfl (lv_at hl 1 rfl) ?_
  refine lv_aload_n (pc := 35) hx hb d_Mo_styleTokens_35 rfl (lv_at hl 1 rfl) ?_
  refine k_get (pc := 36) (v := .int 0) X hK hP 4 rfl rfl i_Mo 11 (by decide) wm_2444 rfl rfl d_Mo_styleTokens_36 ?_
  refine k_goI (gr := [[(qm 160, .inl (kA 0, 2010, .inl f0))], [(qm 161, .inl (kA 3, 2010, .inr (.inl fl0)))], [(qm 162, .inl (kA 0, 2010, .inl f1))], [(qm 163, .inl (kA 0, 2010, .inl f2))]]) (k_rV (pc := 39) (As := [.int 0]) (rest := []) X (c_Mo_byteAt_z2 l D kA a0 qm j hj H.size) rfl wm_2986 wm_9 wm_2983 wm_2985 wv_12_12 1 (by decide +kernel) ⟨Nat.le_of_ble_eq_true rfl, Nat.le_of_ble_eq_true rfl⟩ rfl rfl (va_recv hK hP (ci := 13) (q0 := 4) rfl rfl) (k_pre hN hK hP hD [4] [0, 1, 2, 3] 5 rfl (by decide) rfl) rfl hl.1 rfl (Nat.le_of_ble_eq_true rfl) d_Mo_styleTokens_39 ⟨Nat.le_of_ble_eq_true rfl, Nat.le_of_ble_eq_true rfl⟩) hP hD hS hA [4] [0, 1, 2, 3] 5 rfl (by decide) rfl rfl (fun r3 u4 H locs hu4 hP hD hS => ?_)
  subst hu4
  have hP : va_P D classes (cat [[(qm 160, .inl (kA 0, 2010, .inl f0))], [(qm 161, .inl (kA 3, 2010, .inr (.inl fl0)))], [(qm 162, .inl (kA 0, 2010, .inl f1))], [(qm 163, .inl (kA 0, 2010, .inl f2))], [(a0, .inr (13, mF qm (va_up (va_up (va_up x0Mo 5 (nI (539 * (31 * j + 0)))) 7 1) 139 (nI j)) y0Mo))]]) H := hP
  have hD : va_D A (cat [[(qm 160, .inl (kA 0, 2010, .inl f0))], [(qm 161, .inl (kA 3, 2010, .inr (.inl fl0)))], [(qm 162, .inl (kA 0, 2010, .inl f1))], [(qm 163, .inl (kA 0, 2010, .inl f2))], [(a0, .inr (13, mF qm (va_up (va_up (va_up x0Mo 5 (nI (539 * (31 * j + 0)))) 7 1) 139 (nI j)) y0Mo))]]) := hD
  refine lv_bipush (pc := 42) (v := 10) hx hb d_Mo_styleTokens_42 (by decide) ?_
  refine lv_icmp_ne (pc := 44) (tgt := 60) hx hb d_Mo_styleTokens_44 (by decide) (fun _ => ?_) (fun c1 => absurd c1 (by decide))
  refine lv_aload_n (pc := 60) hx hb d_Mo_styleTokens_60 rfl (lv_at hl 1 rfl) ?_
  refine lv_aload_n (pc := 61) hx hb d_Mo_styleTokens_61 rfl (lv_at hl 1 rfl) ?_
  refine k_get (pc := 62) (v := .int 0) X hK hP 4 rfl rfl i_Mo 11 (by decide) wm_2444 rfl rfl d_Mo_styleTokens_62 ?_
  refine k_goI (gr := [[(qm 160, .inl (kA 0, 2010, .inl f0))], [(qm 161, .inl (kA 3, 2010, .inr (.inl fl0)))], [(qm 162, .inl (kA 0, 2010, .inl f1))], [(qm 163, .inl (kA 0, 2010, .inl f2))]]) (k_rV (pc := 65) (As := [.int 0]) (rest := []) X (c_Mo_byteAt_z2 l D kA a0 qm j hj H.size) rfl wm_2986 wm_9 wm_2983 wm_2985 wv_12_12 1 (by decide +kernel) ⟨Nat.le_of_ble_eq_true rfl, Nat.le_of_ble_eq_true rfl⟩ rfl rfl (va_recv hK hP (ci := 13) (q0 := 4) rfl rfl) (k_pre hN hK hP hD [4] [0, 1, 2, 3] 5 rfl (by decide) rfl) rfl hl.1 rfl (Nat.le_of_ble_eq_true rfl) d_Mo_styleTokens_65 ⟨Nat.le_of_ble_eq_true rfl, Nat.le_of_ble_eq_true rfl⟩) hP hD hS hA [4] [0, 1, 2, 3] 5 rfl (by decide) rfl rfl (fun r5 u6 H locs hu6 hP hD hS => ?_)
  subst hu6
  have hP : va_P D classes (cat [[(qm 160, .inl (kA 0, 2010, .inl f0))], [(qm 161, .inl (kA 3, 2010, .inr (.inl fl0)))], [(qm 162, .inl (kA 0, 2010, .inl f1))], [(qm 163, .inl (kA 0, 2010, .inl f2))], [(a0, .inr (13, mF qm (va_up (va_up (va_up x0Mo 5 (nI (539 * (31 * j + 0)))) 7 1) 139 (nI j)) y0Mo))]]) H := hP
  have hD : va_D A (cat [[(qm 160, .inl (kA 0, 2010, .inl f0))], [(qm 161, .inl (kA 3, 2010, .inr (.inl fl0)))], [(qm 162, .inl (kA 0, 2010, .inl f1))], [(qm 163, .inl (kA 0, 2010, .inl f2))], [(a0, .inr (13, mF qm (va_up (va_up (va_up x0Mo 5 (nI (539 * (31 * j + 0)))) 7 1) 139 (nI j)) y0Mo))]]) := hD
  refine lv_istore_n (pc := 68) (lv' := [(3, .int ((-1))), (2, .int 1), (0, .ref a0), (1, .int 0)]) hx hb d_Mo_styleTokens_68 rfl hl (by decide) rfl (fun ls hl => ?_)
  refine lv_aload_n (pc := 69) hx hb d_Mo_styleTokens_69 rfl (lv_at hl 2 rfl) ?_
  refine k_get (pc := 70) (v := .int 0) X hK hP 4 rfl rfl i_Mo 11 (by decide) wm_2444 rfl rfl d_Mo_styleTokens_70 ?_
  refine lv_istore (pc := 73) (lv' := [(4, .int 0), (3, .int ((-1))), (2, .int 1), (0, .ref a0), (1, .int 0)]) hx hb d_Mo_styleTokens_73 hl (by decide) rfl (fun ls hl => ?_)
  refine lv_iconst (pc := 75) (v := 4) hx hb d_Mo_styleTokens_75 (by decide) ?_
  refine lv_istore (pc := 76) (lv' := [(5, .int 4), (4, .int 0), (3, .int ((-1))), (2, .int 1), (0, .ref a0), (1, .int 0)]) hx hb d_Mo_styleTokens_76 hl (by decide) rfl (fun ls hl => ?_)
  refine lv_iload_n (pc := 78) hx hb d_Mo_styleTokens_78 rfl (lv_at hl 2 rfl) ?_
  refine lv_i2l (pc := 79) (v := (-1)) hx hb d_Mo_styleTokens_79 (by decide) ?_
  refine lv_lstore (pc := 80) (lv' := [(6, .long ((-1))), (5, .int 4), (4, .int 0), (3, .int ((-1))), (2, .int 1), (0, .ref a0), (1, .int 0)]) hx hb d_Mo_styleTokens_80 hl (by decide) rfl (fun ls hl => ?_)
  refine lv_iload_n (pc := 82) hx hb d_Mo_styleTokens_82 rfl (lv_at hl 3 rfl) ?_
  refine lv_if_ge (pc := 83) (tgt := 92) hx hb d_Mo_styleTokens_83 (by decide) (fun c1 => absurd c1 (by decide)) (fun c1 => ?_)
  refine lv_iconst (pc := 86) (v := 0) hx hb d_Mo_styleTokens_86 (by decide) ?_
  refine lv_istore (pc := 87) (lv' := [(5, .int 0), (6, .long ((-1))), (4, .int 0), (3, .int ((-1))), (2, .int 1), (0, .ref a0), (1, .int 0)]) hx hb d_Mo_styleTokens_87 hl (by decide) rfl (fun ls hl => ?_)
  refine lv_goto (pc := 89) (tgt := 363) hx hb d_Mo_styleTokens_89 (by decide) ?_
  refine lv_aload_n (pc := 363) hx hb d_Mo_styleTokens_363 rfl (lv_at hl 5 rfl) ?_
  refine k_get (pc := 364) (v := .ref (qm 160)) X hK hP 4 rfl rfl i_Mo 160 (by decide) wm_2592 rfl rfl d_Mo_styleTokens_364 ?_
  refine lv_aload_n (pc := 367) hx hb d_Mo_styleTokens_367 rfl (lv_at hl 5 rfl) ?_
  refine k_get (pc := 368) (v := .int 0) X hK hP 4 rfl rfl i_Mo 157 (by decide) wm_2589 rfl rfl d_Mo_styleTokens_368 ?_
  refine lv_iload (pc := 371) hx hb d_Mo_styleTokens_371 (lv_at hl 0 rfl) ?_
  refine va_iast (pc := 373) hx hb hK hP hD hS 0 0 rfl rfl (by unfold vp_in; decide) d_Mo_styleTokens_373 (fun H locs hP hD hS => ?_)
  have hP : va_P D classes (cat [[(qm 160, .inl (kA 0, 2010, .inl (upd (f0) 0 0)))], [(qm 161, .inl (kA 3, 2010, .inr (.inl fl0)))], [(qm 162, .inl (kA 0, 2010, .inl f1))], [(qm 163, .inl (kA 0, 2010, .inl f2))], [(a0, .inr (13, mF qm (va_up (va_up (va_up x0Mo 5 (nI (539 * (31 * j + 0)))) 7 1) 139 (nI j)) y0Mo))]]) H := hP
  have hD : va_D A (cat [[(qm 160, .inl (kA 0, 2010, .inl (upd (f0) 0 0)))], [(qm 161, .inl (kA 3, 2010, .inr (.inl fl0)))], [(qm 162, .inl (kA 0, 2010, .inl f1))], [(qm 163, .inl (kA 0, 2010, .inl f2))], [(a0, .inr (13, mF qm (va_up (va_up (va_up x0Mo 5 (nI (539 * (31 * j + 0)))) 7 1) 139 (nI j)) y0Mo))]]) := hD
  refine lv_aload_n (pc := 374) hx hb d_Mo_styleTokens_374 rfl (lv_at hl 5 rfl) ?_
  refine k_get (pc := 375) (v := .ref (qm 161)) X hK hP 4 rfl rfl i_Mo 161 (by decide) wm_2593 rfl rfl d_Mo_styleTokens_375 ?_
  refine lv_aload_n (pc := 378) hx hb d_Mo_styleTokens_378 rfl (lv_at hl 5 rfl) ?_
  refine k_get (pc := 379) (v := .int 0) X hK hP 4 rfl rfl i_Mo 157 (by decide) wm_2589 rfl rfl d_Mo_styleTokens_379 ?_
  refine lv_lload (pc := 382) hx hb d_Mo_styleTokens_382 (lv_at hl 1 rfl) ?_
  refine k_lst (pc := 384) hx hb hK hP hD hS 1 3 rfl rfl (0) rfl (by decide) (by decide) d_Mo_styleTokens_384 (fun H locs hP hD hS => ?_)
  have hP : va_P D classes (cat [[(qm 160, .inl (kA 0, 2010, .inl (upd (f0) 0 0)))], [(qm 161, .inl (kA 3, 2010, .inr (.inl (vp_updL fl0 0 ((-1))))))], [(qm 162, .inl (kA 0, 2010, .inl f1))], [(qm 163, .inl (kA 0, 2010, .inl f2))], [(a0, .inr (13, mF qm (va_up (va_up (va_up x0Mo 5 (nI (539 * (31 * j + 0)))) 7 1) 139 (nI j)) y0Mo))]]) H := hP
  have hD : va_D A (cat [[(qm 160, .inl (kA 0, 2010, .inl (upd (f0) 0 0)))], [(qm 161, .inl (kA 3, 2010, .inr (.inl (vp_updL fl0 0 ((-1))))))], [(qm 162, .inl (kA 0, 2010, .inl f1))], [(qm 163, .inl (kA 0, 2010, .inl f2))], [(a0, .inr (13, mF qm (va_up (va_up (va_up x0Mo 5 (nI (539 * (31 * j + 0)))) 7 1) 139 (nI j)) y0Mo))]]) := hD
  refine lv_aload_n (pc := 385) hx hb d_Mo_styleTokens_385 rfl (lv_at hl 5 rfl) ?_
  refine k_get (pc := 386) (v := .ref (qm 162)) X hK hP 4 rfl rfl i_Mo 162 (by decide) wm_2594 rfl rfl d_Mo_styleTokens_386 ?_
  refine lv_aload_n (pc := 389) hx hb d_Mo_styleTokens_389 rfl (lv_at hl 5 rfl) ?_
  refine k_get (pc := 390) (v := .int 0) X hK hP 4 rfl rfl i_Mo 157 (by decide) wm_2589 rfl rfl d_Mo_styleTokens_390 ?_
  refine lv_iload (pc := 393) hx hb d_Mo_styleTokens_393 (lv_at hl 2 rfl) ?_
  refine va_iast (pc := 395) hx hb hK hP hD hS 2 0 rfl rfl (by unfold vp_in; decide) d_Mo_styleTokens_395 (fun H locs hP hD hS => ?_)
  have hP : va_P D classes (cat [[(qm 160, .inl (kA 0, 2010, .inl (upd (f0) 0 0)))], [(qm 161, .inl (kA 3, 2010, .inr (.inl (vp_updL fl0 0 ((-1))))))], [(qm 162, .inl (kA 0, 2010, .inl (upd (f1) 0 0)))], [(qm 163, .inl (kA 0, 2010, .inl f2))], [(a0, .inr (13, mF qm (va_up (va_up (va_up x0Mo 5 (nI (539 * (31 * j + 0)))) 7 1) 139 (nI j)) y0Mo))]]) H := hP
  have hD : va_D A (cat [[(qm 160, .inl (kA 0, 2010, .inl (upd (f0) 0 0)))], [(qm 161, .inl (kA 3, 2010, .inr (.inl (vp_updL fl0 0 ((-1))))))], [(qm 162, .inl (kA 0, 2010, .inl (upd (f1) 0 0)))], [(qm 163, .inl (kA 0, 2010, .inl f2))], [(a0, .inr (13, mF qm (va_up (va_up (va_up x0Mo 5 (nI (539 * (31 * j + 0)))) 7 1) 139 (nI j)) y0Mo))]]) := hD
  refine lv_aload_n (pc := 396) hx hb d_Mo_styleTokens_396 rfl (lv_at hl 5 rfl) ?_
  refine k_get (pc := 397) (v := .ref (qm 163)) X hK hP 4 rfl rfl i_Mo 163 (by decide) wm_2595 rfl rfl d_Mo_styleTokens_397 ?_
  refine lv_aload_n (pc := 400) hx hb d_Mo_styleTokens_400 rfl (lv_at hl 5 rfl) ?_
  refine k_get (pc := 401) (v := .int 0) X hK hP 4 rfl rfl i_Mo 157 (by decide) wm_2589 rfl rfl d_Mo_styleTokens_401 ?_
  refine lv_aload_n (pc := 404) hx hb d_Mo_styleTokens_404 rfl (lv_at hl 5 rfl) ?_
  refine k_get (pc := 405) (v := .int 0) X hK hP 4 rfl rfl i_Mo 11 (by decide) wm_2444 rfl rfl d_Mo_styleTokens_405 ?_
  refine va_iast (pc := 408) hx hb hK hP hD hS 3 0 rfl rfl (by unfold vp_in; decide) d_Mo_styleTokens_408 (fun H locs hP hD hS => ?_)
  have hP : va_P D classes (cat [[(qm 160, .inl (kA 0, 2010, .inl (upd (f0) 0 0)))], [(qm 161, .inl (kA 3, 2010, .inr (.inl (vp_updL fl0 0 ((-1))))))], [(qm 162, .inl (kA 0, 2010, .inl (upd (f1) 0 0)))], [(qm 163, .inl (kA 0, 2010, .inl (upd (f2) 0 0)))], [(a0, .inr (13, mF qm (va_up (va_up (va_up x0Mo 5 (nI (539 * (31 * j + 0)))) 7 1) 139 (nI j)) y0Mo))]]) H := hP
  have hD : va_D A (cat [[(qm 160, .inl (kA 0, 2010, .inl (upd (f0) 0 0)))], [(qm 161, .inl (kA 3, 2010, .inr (.inl (vp_updL fl0 0 ((-1))))))], [(qm 162, .inl (kA 0, 2010, .inl (upd (f1) 0 0)))], [(qm 163, .inl (kA 0, 2010, .inl (upd (f2) 0 0)))], [(a0, .inr (13, mF qm (va_up (va_up (va_up x0Mo 5 (nI (539 * (31 * j + 0)))) 7 1) 139 (nI j)) y0Mo))]]) := hD
  refine lv_aload_n (pc := 409) hx hb d_Mo_styleTokens_409 rfl (lv_at hl 5 rfl) ?_
  refine lv_dup (pc := 410) hx hb d_Mo_styleTokens_410 rfl ?_
  refine k_get (pc := 411) (v := .int 0) X hK hP 4 rfl rfl i_Mo 157 (by decide) wm_2589 rfl rfl d_Mo_styleTokens_411 ?_
  refine lv_iconst (pc := 414) (v := 1) hx hb d_Mo_styleTokens_414 (by decide) ?_
  refine lv_iadd (pc := 415) hx hb d_Mo_styleTokens_415 ?_
  refine k_cst (v := 1) (by decide) ?_
  refine k_put (pc := 416) X hK hP hD hS 4 rfl rfl i_Mo t_Mo t_Mo_ok n_Mo 157 (by decide) wm_2589 rfl (Or.inl rfl) rfl rfl (Nat.le_of_ble_eq_true rfl) d_Mo_styleTokens_416 (fun H locs hP hD hS => ?_)
  have hP : va_P D classes (cat [[(qm 160, .inl (kA 0, 2010, .inl (upd (f0) 0 0)))], [(qm 161, .inl (kA 3, 2010, .inr (.inl (vp_updL fl0 0 ((-1))))))], [(qm 162, .inl (kA 0, 2010, .inl (upd (f1) 0 0)))], [(qm 163, .inl (kA 0, 2010, .inl (upd (f2) 0 0)))], [(a0, .inr (13, mF qm (va_up (va_up (va_up (va_up x0Mo 5 (nI (539 * (31 * j + 0)))) 7 1) 139 (nI j)) 157 1) y0Mo))]]) H := hP
  have hD : va_D A (cat [[(qm 160, .inl (kA 0, 2010, .inl (upd (f0) 0 0)))], [(qm 161, .inl (kA 3, 2010, .inr (.inl (vp_updL fl0 0 ((-1))))))], [(qm 162, .inl (kA 0, 2010, .inl (upd (f1) 0 0)))], [(qm 163, .inl (kA 0, 2010, .inl (upd (f2) 0 0)))], [(a0, .inr (13, mF qm (va_up (va_up (va_up (va_up x0Mo 5 (nI (539 * (31 * j + 0)))) 7 1) 139 (nI j)) 157 1) y0Mo))]]) := hD
  refine lv_iload (pc := 419) hx hb d_Mo_styleTokens_419 (lv_at hl 0 rfl) ?_
  refine lv_if_eq (pc := 421) (tgt := 434) hx hb d_Mo_styleTokens_421 (by decide) (fun c1 => ?_) (fun c1 => absurd (by decide) c1)
  refine lv_iconst (pc := 434) (v := 0) hx hb d_Mo_styleTokens_434 (by decide) ?_
  refine lv_istore_n (pc := 435) (lv' := [(2, .int 0), (5, .int 0), (6, .long ((-1))), (4, .int 0), (3, .int ((-1))), (0, .ref a0), (1, .int 0)]) hx hb d_Mo_styleTokens_435 rfl hl (by decide) rfl (fun ls hl => ?_)
  refine lv_goto (pc := 436) (tgt := 17) hx hb d_Mo_styleTokens_436 (by decide) ?_
  refine lv_iload_n (pc := 17) hx hb d_Mo_styleTokens_17 rfl (lv_at hl 0 rfl) ?_
  refine lv_if_eq (pc := 18) (tgt := 439) hx hb d_Mo_styleTokens_18 (by decide) (fun c1 => ?_) (fun c1 => absurd (by decide) c1)
  obtain ⟨hP, hD⟩ := k_ord (gc := [[(a0, .inr (13, mF qm (va_up (va_up (va_up (va_up x0Mo 5 (nI (539 * (31 * j + 0)))) 7 1) 139 (nI j)) 157 1) y0Mo))], [(qm 160, .inl (kA 0, 2010, .inl (upd (f0) 0 0)))], [(qm 161, .inl (kA 3, 2010, .inr (.inl (vp_updL fl0 0 ((-1))))))], [(qm 162, .inl (kA 0, 2010, .inl (upd (f1) 0 0)))], [(qm 163, .inl (kA 0, 2010, .inl (upd (f2) 0 0)))]]) hP hD [4, 0, 1, 2, 3] 5 rfl (by decide) rfl
  refine W.widen (k := 0) (n := 0) (Nat.le_of_ble_eq_true rfl) (Nat.le_of_ble_eq_true rfl) ?_
  exact W.vret hx hb hr (fun t ht hW => ⟨⟨(), rfl, trivial, by rw [ht]; exact hP, va_K.moved hW.alike hK, hD⟩, hS.F ht⟩) hS.2.2 d_Mo_styleTokens_439
set_option maxRecDepth 100000 in
set_option maxHeartbeats 4000000 in
/-- DrawingHouseModel.nodes()I -/
theorem c_Mo_nodes_z3 (l : Launch) (D : va_G) (kA : Nat → ClassId) (a0 : Nat) (qm : Nat → Nat) (j : Nat) (hj : j < 4) : Ci l y_Mo_nodes z_Mo_nodes { frames := 0, cells := 0, slots := 0, locals := 0 } D classes (TY kA) [.ref a0] [[(a0, .inr (13, mF qm (va_up (va_up (va_up (va_up (va_up x0Mo 5 (nI (539 * (31 * j + 0)))) 7 1) 139 (nI j)) 157 1) 165 (-1)) y0Mo))], [(qm 2, .inl (kA 0, 66836, .inl all0))]] (fun r (_ : Unit) => r = 0) (fun u => [[(a0, .inr (13, mF qm (va_up (va_up (va_up (va_up (va_up x0Mo 5 (nI (539 * (31 * j + 0)))) 7 1) 139 (nI j)) 157 1) 165 (-1)) y0Mo))], [(qm 2, .inl (kA 0, 66836, .inl all0))]]) 0 0 := by
  intro sz
  refine k_met (cc := b_Mo_nodes) (maxL := 1) (ret := (some .int)) (by decide) rfl (Nat.le_of_ble_eq_true rfl) (fun p e s m below meth c ls X hl hB => ?_)
  obtain ⟨hsz, hP, hK, hD0, hN⟩ := hB
  subst hsz
  have hD := hD0.self (sz := s.heap.size)
  generalize hAe : va_A (cat [[(a0, .inr (13, mF qm (va_up (va_up (va_up (va_up (va_up x0Mo 5 (nI (539 * (31 * j + 0)))) 7 1) 139 (nI j)) 157 1) 165 (-1)) y0Mo))], [(qm 2, .inl (kA 0, 66836, .inl all0))]]) s.heap.size = A at hD ⊢
  have hA : ∀ q : Nat, s.heap.size ≤ q → A q := fun q h => by rw [← hAe]; exact Or.inr h
  have hS : va_S A s.heap s.heap [] := va_S.rf
  obtain ⟨hx, hb, hml, hown, hts, hr, hlk, hnm⟩ := id X
  have hl : lv_has ls 1 [(0, .ref a0)] := hl
  have hP : va_P D classes (cat [[(a0, .inr (13, mF qm (va_up (va_up (va_up (va_up (va_up x0Mo 5 (nI (539 * (31 * j + 0)))) 7 1) 139 (nI j)) 157 1) 165 (-1)) y0Mo))], [(qm 2, .inl (kA 0, 66836, .inl all0))]]) s.heap := hP
  have hK : va_K D classes (TY kA) s := hK
  refine lv_aload_n (pc := 0) hx hb d_Mo_nodes_0 rfl (lv_at hl 0 rfl) ?_
  refine k_get (pc := 1) (v := .ref (qm 2)) X hK hP 0 rfl rfl i_Mo 2 (by decide) wm_2435 rfl rfl d_Mo_nodes_1 ?_
  refine lv_aload_n (pc := 4) hx hb d_Mo_nodes_4 rfl (lv_at hl 0 rfl) ?_
  refine k_get (pc := 5) (v := .int (nI (539 * (31 * j + 0)))) X hK hP 0 rfl rfl i_Mo 5 (by decide) wm_2438 rfl rfl d_Mo_nodes_5 ?_
  refine k_ild (pc := 8) hx hb hK hP 1 0 rfl rfl (539 * (31 * j + 0)) rfl (by omega) (by decide) d_Mo_nodes_8 ?_
  refine k_cst (v := 0) (all0_e hj (o := 0) (by omega) (by decide) rfl) ?_
  refine W.widen (k := 0) (n := 0) (Nat.le_of_ble_eq_true rfl) (Nat.le_of_ble_eq_true rfl) ?_
  exact W.iret (v := 0) hx hb hr (fun t ht hW => ⟨⟨0, (), rfl, rfl, by rw [ht]; exact hP, va_K.moved hW.alike hK, hD⟩, hS.F ht⟩) hS.2.2 d_Mo_nodes_9
set_option maxRecDepth 100000 in
set_option maxHeartbeats 4000000 in
/-- DrawingHouseModel.edges()I -/
theorem c_Mo_edges_z2 (l : Launch) (D : va_G) (kA : Nat → ClassId) (a0 : Nat) (qm : Nat → Nat) (j : Nat) (hj : j < 4) : Ci l y_Mo_edges z_Mo_edges { frames := 0, cells := 0, slots := 0, locals := 0 } D classes (TY kA) [.ref a0] [[(a0, .inr (13, mF qm (va_up (va_up (va_up (va_up (va_up x0Mo 5 (nI (539 * (31 * j + 0)))) 7 1) 139 (nI j)) 157 1) 165 (-1)) y0Mo))], [(qm 2, .inl (kA 0, 66836, .inl all0))]] (fun r (_ : Unit) => r = 0) (fun u => [[(a0, .inr (13, mF qm (va_up (va_up (va_up (va_up (va_up x0Mo 5 (nI (539 * (31 * j + 0)))) 7 1) 139 (nI j)) 157 1) 165 (-1)) y0Mo))], [(qm 2, .inl (kA 0, 66836, .inl all0))]]) 0 0 := by
  intro sz
  refine k_met (cc := b_Mo_edges) (maxL := 1) (ret := (some .int)) (by decide) rfl (Nat.le_of_ble_eq_true rfl) (fun p e s m below meth c ls X hl hB => ?_)
  obtain ⟨hsz, hP, hK, hD0, hN⟩ := hB
  subst hsz
  have hD := hD0.self (sz := s.heap.size)
  generalize hAe : va_A (cat [[(a0, .inr (13, mF qm (va_up (va_up (va_up (va_up (va_up x0Mo 5 (nI (539 * (31 * j + 0)))) 7 1) 139 (nI j)) 157 1) 165 (-1)) y0Mo))], [(qm 2, .inl (kA 0, 66836, .inl all0))]]) s.heap.size = A at hD ⊢
  have hA : ∀ q : Nat, s.heap.size ≤ q → A q := fun q h => by rw [← hAe]; exact Or.inr h
  have hS : va_S A s.heap s.heap [] := va_S.rf
  obtain ⟨hx, hb, hml, hown, hts, hr, hlk, hnm⟩ := id X
  have hl : lv_has ls 1 [(0, .ref a0)] := hl
  have hP : va_P D classes (cat [[(a0, .inr (13, mF qm (va_up (va_up (va_up (va_up (va_up x0Mo 5 (nI (539 * (31 * j + 0)))) 7 1) 139 (nI j)) 157 1) 165 (-1)) y0Mo))], [(qm 2, .inl (kA 0, 66836, .inl all0))]]) s.heap := hP
  have hK : va_K D classes (TY kA) s := hK
  refine lv_aload_n (pc := 0) hx hb d_Mo_edges_0 rfl (lv_at hl 0 rfl) ?_
  refine k_get (pc := 1) (v := .ref (qm 2)) X hK hP 0 rfl rfl i_Mo 2 (by decide) wm_2435 rfl rfl d_Mo_edges_1 ?_
  refine lv_aload_n (pc := 4) hx hb d_Mo_edges_4 rfl (lv_at hl 0 rfl) ?_
  refine k_get (pc := 5) (v := .int (nI (539 * (31 * j + 0)))) X hK hP 0 rfl rfl i_Mo 5 (by decide) wm_2438 rfl rfl d_Mo_edges_5 ?_
  refine lv_iconst (pc := 8) (v := 1) hx hb d_Mo_edges_8 (by decide) ?_
  refine k_add (pc := 9) (x := 539 * (31 * j + 0)) (y := 1) hx hb d_Mo_edges_9 ?_
  refine k_ild (pc := 10) hx hb hK hP 1 0 rfl rfl ((539 * (31 * j + 0)) + 1) rfl (by omega) (by decide) d_Mo_edges_10 ?_
  refine k_cst (v := 0) (all0_e hj (o := 1) (by omega) (by decide) rfl) ?_
  refine W.widen (k := 0) (n := 0) (Nat.le_of_ble_eq_true rfl) (Nat.le_of_ble_eq_true rfl) ?_
  exact W.iret (v := 0) hx hb hr (fun t ht hW => ⟨⟨0, (), rfl, rfl, by rw [ht]; exact hP, va_K.moved hW.alike hK, hD⟩, hS.F ht⟩) hS.2.2 d_Mo_edges_11
set_option maxRecDepth 100000 in
set_option maxHeartbeats 4000000 in
theorem lp1_Mo_reaching_z2 {p : Program} {l : Launch} {e : Env} {R : Room} {s : State} {m : MethodId} {args : Array Value} {below : List Frame} {meth : Method} {c : Code} {cells slots : Nat} {Q : State → Prop} {D : va_G} {kA : Nat → ClassId} {A : Nat → Prop} (X : cx p s m args meth c b_Mo_reaching 6 none "DrawingHouseModel" "reaching") (hK : va_K D classes (TY kA) s) (qm : Nat → Nat) (a0 : Nat) (j : Nat) (hj : j < 4)
    (hex : ∀ (f80 : Nat → Int32) (H : Heap) (locs : List Loc) (ls : Array Slot), va_P D classes (cat [[(qm 21, .inl (kA 2, 576, .inl f80))], [(a0, .inr (13, mF qm (va_up (va_up (va_up (va_up (va_up x0Mo 5 (nI (539 * (31 * j + 0)))) 7 1) 139 (nI j)) 157 1) 165 (-1)) y0Mo))], [(qm 2, .inl (kA 0, 66836, .inl all0))]]) H → va_D A (cat [[(qm 21, .inl (kA 2, 576, .inl f80))], [(a0, .inr (13, mF qm (va_up (va_up (va_up (va_up (va_up x0Mo 5 (nI (539 * (31 * j + 0)))) 7 1) 139 (nI j)) 157 1) 165 (-1)) y0Mo))], [(qm 2, .inl (kA 0, 66836, .inl all0))]]) → va_S A s.heap H locs → lv_has ls 6 [(3, .int (nI 576)), (2, .int 0), (0, .ref a0), (1, .int 1)] → W p l e R s m args below meth c H locs cells slots Q (F0 m 27 ls [])) :
    ∀ (k i : Nat), i + k = 576 → ∀ (f80 : Nat → Int32) (H : Heap) (locs : List Loc) (ls : Array Slot), va_P D classes (cat [[(qm 21, .inl (kA 2, 576, .inl f80))], [(a0, .inr (13, mF qm (va_up (va_up (va_up (va_up (va_up x0Mo 5 (nI (539 * (31 * j + 0)))) 7 1) 139 (nI j)) 157 1) 165 (-1)) y0Mo))], [(qm 2, .inl (kA 0, 66836, .inl all0))]]) H → va_D A (cat [[(qm 21, .inl (kA 2, 576, .inl f80))], [(a0, .inr (13, mF qm (va_up (va_up (va_up (va_up (va_up x0Mo 5 (nI (539 * (31 * j + 0)))) 7 1) 139 (nI j)) 157 1) 165 (-1)) y0Mo))], [(qm 2, .inl (kA 0, 66836, .inl all0))]]) → va_S A s.heap H locs → lv_has ls 6 [(3, .int (nI i)), (2, .int 0), (0, .ref a0), (1, .int 1)] → W p l e R s m args below meth c H locs cells slots Q (F0 m 7 ls []) := by
  obtain ⟨hx, hb, hml, hown, hts, hr, hlk, hnm⟩ := id X
  intro k
  induction k with
  | zero =>
    intro i hi f80 H locs ls hP hD hS hl
    have hi : i = 576 := hi
    subst hi
    refine lv_iload_n (pc := 7) hx hb d_Mo_reaching_7 rfl (lv_at hl 0 rfl) ?_
    refine lv_sipush (pc := 8) (v := 576) hx hb d_Mo_reaching_8 (by decide) ?_
    refine k_cge (pc := 11) (x := 576) (y := 576) (tgt := 27) hx hb (by decide) (by decide) d_Mo_reaching_11 (by decide) (fun c1 => ?_) (fun c1 => absurd c1 (by omega))
    exact hex f80 H locs ls hP hD hS hl
  | succ k ih =>
    intro i hi f80 H locs ls hP hD hS hl
    have hlt : i < 576 := by omega
    refine lv_iload_n (pc := 7) hx hb d_Mo_reaching_7 rfl (lv_at hl 0 rfl) ?_
    refine lv_sipush (pc := 8) (v := 576) hx hb d_Mo_reaching_8 (by decide) ?_
    refine k_cge (pc := 11) (x := i) (y := 576) (tgt := 27) hx hb (by omega) (by decide) d_Mo_reaching_11 (by decide) (fun c1 => absurd c1 (by omega)) (fun c1 => ?_)
    refine lv_aload_n (pc := 14) hx hb d_Mo_reaching_14 rfl (lv_at hl 2 rfl) ?_
    refine k_get (pc := 15) (v := .ref (qm 21)) X hK hP 1 rfl rfl i_Mo 21 (by decide) wm_2454 rfl rfl d_Mo_reaching_15 ?_
    refine lv_iload_n (pc := 18) hx hb d_Mo_reaching_18 rfl (lv_at hl 0 rfl) ?_
    refine lv_iconst (pc := 19) (v := 0) hx hb d_Mo_reaching_19 (by decide) ?_
    refine k_zst (pc := 20) hx hb hK hP hD hS 0 2 rfl rfl (i) rfl (by omega) (by decide) d_Mo_reaching_20 (fun H locs hP hD hS => ?_)
    have hP : va_P D classes (cat [[(qm 21, .inl (kA 2, 576, .inl (upd f80 i (vp_nar .boolean 0))))], [(a0, .inr (13, mF qm (va_up (va_up (va_up (va_up (va_up x0Mo 5 (nI (539 * (31 * j + 0)))) 7 1) 139 (nI j)) 157 1) 165 (-1)) y0Mo))], [(qm 2, .inl (kA 0, 66836, .inl all0))]]) H := hP
    have hD : va_D A (cat [[(qm 21, .inl (kA 2, 576, .inl (upd f80 i (vp_nar .boolean 0))))], [(a0, .inr (13, mF qm (va_up (va_up (va_up (va_up (va_up x0Mo 5 (nI (539 * (31 * j + 0)))) 7 1) 139 (nI j)) 157 1) 165 (-1)) y0Mo))], [(qm 2, .inl (kA 0, 66836, .inl all0))]]) := hD
    refine lv_iinc (pc := 21) (v := nI (i + 1)) (lv' := [(3, .int (nI (i + 1))), (2, .int 0), (0, .ref a0), (1, .int 1)]) hx hb d_Mo_reaching_21 hl (k := 0) rfl (nI_add _ 1) (by decide) rfl (fun ls hl => ?_)
    refine lv_goto (pc := 24) (tgt := 7) hx hb d_Mo_reaching_24 (by decide) ?_
    exact ih (i + 1) (by omega) _ H locs ls hP hD hS (lv_sub hl [0, 1, 2, 3] rfl)
set_option maxRecDepth 100000 in
set_option maxHeartbeats 4000000 in
/-- DrawingHouseModel.reaching(Z)V -/
theorem c_Mo_reaching_z2 (l : Launch) (D : va_G) (kA : Nat → ClassId) (a0 : Nat) (qm : Nat → Nat) (j : Nat) (f0 : Nat → Int32) (hj : j < 4) : Cv l y_Mo_reaching z_Mo_reaching { frames := 1, cells := 0, slots := 0, locals := 20 } D classes (TY kA) [.ref a0, .int 1] [[(a0, .inr (13, mF qm (va_up (va_up (va_up (va_up (va_up x0Mo 5 (nI (539 * (31 * j + 0)))) 7 1) 139 (nI j)) 157 1) 165 (-1)) y0Mo))], [(qm 2, .inl (kA 0, 66836, .inl all0))], [(qm 21, .inl (kA 2, 576, .inl f0))]] (fun _ : (Nat → Nat) × (Nat → Nat → Int32) => True) (fun u => [[(a0, .inr (13, mF qm (va_up (va_up (va_up (va_up (va_up x0Mo 5 (nI (539 * (31 * j + 0)))) 7 1) 139 (nI j)) 157 1) 165 (-1)) y0Mo))], [(qm 2, .inl (kA 0, 66836, .inl all0))], [(qm 21, .inl (kA 2, 576, .inl (u.2 0)))]]) 0 0 := by
  intro sz
  refine k_met (cc := b_Mo_reaching) (maxL := 6) (ret := none) (by decide) rfl (Nat.le_of_ble_eq_true rfl) (fun p e s m below meth c ls X hl hB => ?_)
  obtain ⟨hsz, hP, hK, hD0, hN⟩ := hB
  subst hsz
  have hD := hD0.self (sz := s.heap.size)
  generalize hAe : va_A (cat [[(a0, .inr (13, mF qm (va_up (va_up (va_up (va_up (va_up x0Mo 5 (nI (539 * (31 * j + 0)))) 7 1) 139 (nI j)) 157 1) 165 (-1)) y0Mo))], [(qm 2, .inl (kA 0, 66836, .inl all0))], [(qm 21, .inl (kA 2, 576, .inl f0))]]) s.heap.size = A at hD ⊢
  have hA : ∀ q : Nat, s.heap.size ≤ q → A q := fun q h => by rw [← hAe]; exact Or.inr h
  have hS : va_S A s.heap s.heap [] := va_S.rf
  obtain ⟨hx, hb, hml, hown, hts, hr, hlk, hnm⟩ := id X
  have hl : lv_has ls 6 [(0, .ref a0), (1, .int 1)] := hl
  have hP : va_P D classes (cat [[(a0, .inr (13, mF qm (va_up (va_up (va_up (va_up (va_up x0Mo 5 (nI (539 * (31 * j + 0)))) 7 1) 139 (nI j)) 157 1) 165 (-1)) y0Mo))], [(qm 2, .inl (kA 0, 66836, .inl all0))], [(qm 21, .inl (kA 2, 576, .inl f0))]]) s.heap := hP
  have hK : va_K D classes (TY kA) s := hK
  refine lv_aload_n (pc := 0) hx hb d_Mo_reaching_0 rfl (lv_at hl 0 rfl) ?_
  refine k_goI (gr := [[(qm 21, .inl (kA 2, 576, .inl f0))]]) (k_rV (pc := 1) (As := []) (rest := []) X (c_Mo_nodes_z3 l D kA a0 qm j hj s.heap.size) rfl wm_3025 wm_9 wm_3022 wm_3024 wv_13_3 0 (by decide +kernel) ⟨Nat.le_of_ble_eq_true rfl, Nat.le_of_ble_eq_true rfl⟩ rfl rfl (va_recv hK hP (ci := 13) (q0 := 0) rfl rfl) (k_pre hN hK hP hD [0, 1] [2] 3 rfl (by decide) rfl) rfl hl.1 rfl (Nat.le_of_ble_eq_true rfl) d_Mo_reaching_1 ⟨Nat.le_of_ble_eq_true rfl, Nat.le_of_ble_eq_true rfl⟩) hP hD hS hA [0, 1] [2] 3 rfl (by decide) rfl rfl (fun r1 u2 H locs hu2 hP hD hS => ?_)
  subst hu2
  have hP : va_P D classes (cat [[(qm 21, .inl (kA 2, 576, .inl f0))], [(a0, .inr (13, mF qm (va_up (va_up (va_up (va_up (va_up x0Mo 5 (nI (539 * (31 * j + 0)))) 7 1) 139 (nI j)) 157 1) 165 (-1)) y0Mo))], [(qm 2, .inl (kA 0, 66836, .inl all0))]]) H := hP
  have hD : va_D A (cat [[(qm 21, .inl (kA 2, 576, .inl f0))], [(a0, .inr (13, mF qm (va_up (va_up (va_up (va_up (va_up x0Mo 5 (nI (539 * (31 * j + 0)))) 7 1) 139 (nI j)) 157 1) 165 (-1)) y0Mo))], [(qm 2, .inl (kA 0, 66836, .inl all0))]]) := hD
  refine lv_istore_n (pc := 4) (lv' := [(2, .int 0), (0, .ref a0), (1, .int 1)]) hx hb d_Mo_reaching_4 rfl hl (by decide) rfl (fun ls hl => ?_)
  refine lv_iconst (pc := 5) (v := 0) hx hb d_Mo_reaching_5 (by decide) ?_
  refine lv_istore_n (pc := 6) (lv' := [(3, .int 0), (2, .int 0), (0, .ref a0), (1, .int 1)]) hx hb d_Mo_reaching_6 rfl hl (by decide) rfl (fun ls hl => ?_)
  refine lp1_Mo_reaching_z2 X hK qm a0 j hj (fun f910 H locs ls hP hD hS hl => ?_) 576 0 (by omega) _ _ _ ls hP hD hS (lv_sub hl [0, 1, 2, 3] rfl)
  refine lv_iconst (pc := 27) (v := 0) hx hb d_Mo_reaching_27 (by decide) ?_
  refine lv_istore_n (pc := 28) (lv' := [(3, .int 0), (2, .int 0), (0, .ref a0), (1, .int 1)]) hx hb d_Mo_reaching_28 rfl hl (by decide) rfl (fun ls hl => ?_)
  refine lv_iload_n (pc := 29) hx hb d_Mo_reaching_29 rfl (lv_at hl 0 rfl) ?_
  refine lv_iload_n (pc := 30) hx hb d_Mo_reaching_30 rfl (lv_at hl 1 rfl) ?_
  refine lv_icmp_ge (pc := 31) (tgt := 52) hx hb d_Mo_reaching_31 (by decide) (fun _ => ?_) (fun c1 => absurd (by decide) c1)
  refine lv_iconst (pc := 52) (v := 0) hx hb d_Mo_reaching_52 (by decide) ?_
  refine lv_istore_n (pc := 53) (lv' := [(3, .int 0), (2, .int 0), (0, .ref a0), (1, .int 1)]) hx hb d_Mo_reaching_53 rfl hl (by decide) rfl (fun ls hl => ?_)
  refine lv_iload_n (pc := 54) hx hb d_Mo_reaching_54 rfl (lv_at hl 0 rfl) ?_
  refine lv_aload_n (pc := 55) hx hb d_Mo_reaching_55 rfl (lv_at hl 2 rfl) ?_
  refine k_goI (gr := [[(qm 21, .inl (kA 2, 576, .inl f910))]]) (k_rV (pc := 56) (As := []) (rest := [.int 0]) X (c_Mo_edges_z2 l D kA a0 qm j hj H.size) rfl wm_3037 wm_9 wm_3034 wm_3036 wv_13_6 0 (by decide +kernel) ⟨Nat.le_of_ble_eq_true rfl, Nat.le_of_ble_eq_true rfl⟩ rfl rfl (va_recv hK hP (ci := 13) (q0 := 1) rfl rfl) (k_pre hN hK hP hD [1, 2] [0] 3 rfl (by decide) rfl) rfl hl.1 rfl (Nat.le_of_ble_eq_true rfl) d_Mo_reaching_56 ⟨Nat.le_of_ble_eq_true rfl, Nat.le_of_ble_eq_true rfl⟩) hP hD hS hA [1, 2] [0] 3 rfl (by decide) rfl rfl (fun r4 u5 H locs hu5 hP hD hS => ?_)
  subst hu5
  have hP : va_P D classes (cat [[(qm 21, .inl (kA 2, 576, .inl f910))], [(a0, .inr (13, mF qm (va_up (va_up (va_up (va_up (va_up x0Mo 5 (nI (539 * (31 * j + 0)))) 7 1) 139 (nI j)) 157 1) 165 (-1)) y0Mo))], [(qm 2, .inl (kA 0, 66836, .inl all0))]]) H := hP
  have hD : va_D A (cat [[(qm 21, .inl (kA 2, 576, .inl f910))], [(a0, .inr (13, mF qm (va_up (va_up (va_up (va_up (va_up x0Mo 5 (nI (539 * (31 * j + 0)))) 7 1) 139 (nI j)) 157 1) 165 (-1)) y0Mo))], [(qm 2, .inl (kA 0, 66836, .inl all0))]]) := hD
  refine lv_icmp_ge (pc := 59) (tgt := 120) hx hb d_Mo_reaching_59 (by decide) (fun _ => ?_) (fun c1 => absurd (by decide) c1)
  refine lv_iconst (pc := 120) (v := 0) hx hb d_Mo_reaching_120 (by decide) ?_
  refine lv_istore_n (pc := 121) (lv' := [(3, .int 0), (2, .int 0), (0, .ref a0), (1, .int 1)]) hx hb d_Mo_reaching_121 rfl hl (by decide) rfl (fun ls hl => ?_)
  refine lv_iload_n (pc := 122) hx hb d_Mo_reaching_122 rfl (lv_at hl 0 rfl) ?_
  refine lv_iload_n (pc := 123) hx hb d_Mo_reaching_123 rfl (lv_at hl 1 rfl) ?_
  refine lv_icmp_ge (pc := 124) (tgt := 227) hx hb d_Mo_reaching_124 (by decide) (fun _ => ?_) (fun c1 => absurd (by decide) c1)
  obtain ⟨hP, hD⟩ := k_ord (gc := [[(a0, .inr (13, mF qm (va_up (va_up (va_up (va_up (va_up x0Mo 5 (nI (539 * (31 * j + 0)))) 7 1) 139 (nI j)) 157 1) 165 (-1)) y0Mo))], [(qm 2, .inl (kA 0, 66836, .inl all0))], [(qm 21, .inl (kA 2, 576, .inl f910))]]) hP hD [1, 2, 0] 3 rfl (by decide) rfl
  refine W.widen (k := 0) (n := 0) (Nat.le_of_ble_eq_true rfl) (Nat.le_of_ble_eq_true rfl) ?_
  exact W.vret hx hb hr (fun t ht hW => ⟨⟨((fun _ => 0), (fun k => match k with | 0 => f910 | _ => fun _ => 0)), rfl, trivial, by rw [ht]; exact hP, va_K.moved hW.alike hK, hD⟩, hS.F ht⟩) hS.2.2 d_Mo_reaching_227
set_option maxRecDepth 100000 in
set_option maxHeartbeats 4000000 in
/-- DrawingHouseModel.strong(Z)I -/
theorem c_Mo_strong_z2 (l : Launch) (D : va_G) (kA : Nat → ClassId) (a0 : Nat) (qm : Nat → Nat) (j : Nat) (f0 : Nat → Int32) (hj : j < 4) : Ci l y_Mo_strong z_Mo_strong { frames := 2, cells := 0, slots := 0, locals := 45 } D classes (TY kA) [.ref a0, .int 1] [[(a0, .inr (13, mF qm (va_up (va_up (va_up (va_up (va_up x0Mo 5 (nI (539 * (31 * j + 0)))) 7 1) 139 (nI j)) 157 1) 165 (-1)) y0Mo))], [(qm 2, .inl (kA 0, 66836, .inl all0))], [(qm 21, .inl (kA 2, 576, .inl f0))]] (fun r (_ : (Nat → Nat) × (Nat → Nat → Int32)) => r = 0) (fun u => [[(a0, .inr (13, mF qm (va_up (va_up (va_up (va_up (va_up x0Mo 5 (nI (539 * (31 * j + 0)))) 7 1) 139 (nI j)) 157 1) 165 (-1)) y0Mo))], [(qm 2, .inl (kA 0, 66836, .inl all0))], [(qm 21, .inl (kA 2, 576, .inl (u.2 0)))]]) 0 0 := by
  intro sz
  refine k_met (cc := b_Mo_strong) (maxL := 5) (ret := (some .int)) (by decide) rfl (Nat.le_of_ble_eq_true rfl) (fun p e s m below meth c ls X hl hB => ?_)
  obtain ⟨hsz, hP, hK, hD0, hN⟩ := hB
  subst hsz
  have hD := hD0.self (sz := s.heap.size)
  generalize hAe : va_A (cat [[(a0, .inr (13, mF qm (va_up (va_up (va_up (va_up (va_up x0Mo 5 (nI (539 * (31 * j + 0)))) 7 1) 139 (nI j)) 157 1) 165 (-1)) y0Mo))], [(qm 2, .inl (kA 0, 66836, .inl all0))], [(qm 21, .inl (kA 2, 576, .inl f0))]]) s.heap.size = A at hD ⊢
  have hA : ∀ q : Nat, s.heap.size ≤ q → A q := fun q h => by rw [← hAe]; exact Or.inr h
  have hS : va_S A s.heap s.heap [] := va_S.rf
  obtain ⟨hx, hb, hml, hown, hts, hr, hlk, hnm⟩ := id X
  have hl : lv_has ls 5 [(0, .ref a0), (1, .int 1)] := hl
  have hP : va_P D classes (cat [[(a0, .inr (13, mF qm (va_up (va_up (va_up (va_up (va_up x0Mo 5 (nI (539 * (31 * j + 0)))) 7 1) 139 (nI j)) 157 1) 165 (-1)) y0Mo))], [(qm 2, .inl (kA 0, 66836, .inl all0))], [(qm 21, .inl (kA 2, 576, .inl f0))]]) s.heap := hP
  have hK : va_K D classes (TY kA) s := hK
  refine lv_aload_n (pc := 0) hx hb d_Mo_strong_0 rfl (lv_at hl 0 rfl) ?_
  refine lv_iload_n (pc := 1) hx hb d_Mo_strong_1 rfl (lv_at hl 1 rfl) ?_
  refine k_goV (gr := []) (k_rV (pc := 2) (As := [.int 1]) (rest := []) X (c_Mo_reaching_z2 l D kA a0 qm j f0 hj s.heap.size) rfl wm_3295 wm_9 wm_3292 wm_3294 wv_16_14 1 (by decide +kernel) ⟨Nat.le_of_ble_eq_true rfl, Nat.le_of_ble_eq_true rfl⟩ rfl rfl (va_recv hK hP (ci := 13) (q0 := 0) rfl rfl) (k_pre hN hK hP hD [0, 1, 2] [] 3 rfl (by decide) rfl) rfl hl.1 rfl (Nat.le_of_ble_eq_true rfl) d_Mo_strong_2 ⟨Nat.le_of_ble_eq_true rfl, Nat.le_of_ble_eq_true rfl⟩) hP hD hS hA [0, 1, 2] [] 3 rfl (by decide) rfl rfl (fun u1 H locs hu1 hP hD hS => ?_)
  have hP : va_P D classes (cat [[(a0, .inr (13, mF qm (va_up (va_up (va_up (va_up (va_up x0Mo 5 (nI (539 * (31 * j + 0)))) 7 1) 139 (nI j)) 157 1) 165 (-1)) y0Mo))], [(qm 2, .inl (kA 0, 66836, .inl all0))], [(qm 21, .inl (kA 2, 576, .inl (u1.2 0)))]]) H := hP
  have hD : va_D A (cat [[(a0, .inr (13, mF qm (va_up (va_up (va_up (va_up (va_up x0Mo 5 (nI (539 * (31 * j + 0)))) 7 1) 139 (nI j)) 157 1) 165 (-1)) y0Mo))], [(qm 2, .inl (kA 0, 66836, .inl all0))], [(qm 21, .inl (kA 2, 576, .inl (u1.2 0)))]]) := hD
  obtain ⟨f950, hf950⟩ : ∃ z : Nat → Int32, u1.2 0 = z := ⟨_, rfl⟩
  rw [hf950] at hP hD
  refine lv_iconst (pc := 5) (v := 0) hx hb d_Mo_strong_5 (by decide) ?_
  refine lv_istore_n (pc := 6) (lv' := [(2, .int 0), (0, .ref a0), (1, .int 1)]) hx hb d_Mo_strong_6 rfl hl (by decide) rfl (fun ls hl => ?_)
  refine lv_iconst (pc := 7) (v := 0) hx hb d_Mo_strong_7 (by decide) ?_
  refine lv_istore_n (pc := 8) (lv' := [(3, .int 0), (2, .int 0), (0, .ref a0), (1, .int 1)]) hx hb d_Mo_strong_8 rfl hl (by decide) rfl (fun ls hl => ?_)
  refine lv_iload_n (pc := 9) hx hb d_Mo_strong_9 rfl (lv_at hl 0 rfl) ?_
  refine lv_aload_n (pc := 10) hx hb d_Mo_strong_10 rfl (lv_at hl 2 rfl) ?_
  refine k_goI (gr := [[(qm 21, .inl (kA 2, 576, .inl f950))]]) (k_rV (pc := 11) (As := []) (rest := [.int 0]) X (c_Mo_nodes_z3 l D kA a0 qm j hj H.size) rfl wm_3025 wm_9 wm_3022 wm_3024 wv_13_3 0 (by decide +kernel) ⟨Nat.le_of_ble_eq_true rfl, Nat.le_of_ble_eq_true rfl⟩ rfl rfl (va_recv hK hP (ci := 13) (q0 := 0) rfl rfl) (k_pre hN hK hP hD [0, 1] [2] 3 rfl (by decide) rfl) rfl hl.1 rfl (Nat.le_of_ble_eq_true rfl) d_Mo_strong_11 ⟨Nat.le_of_ble_eq_true rfl, Nat.le_of_ble_eq_true rfl⟩) hP hD hS hA [0, 1] [2] 3 rfl (by decide) rfl rfl (fun r2 u3 H locs hu3 hP hD hS => ?_)
  subst hu3
  have hP : va_P D classes (cat [[(qm 21, .inl (kA 2, 576, .inl f950))], [(a0, .inr (13, mF qm (va_up (va_up (va_up (va_up (va_up x0Mo 5 (nI (539 * (31 * j + 0)))) 7 1) 139 (nI j)) 157 1) 165 (-1)) y0Mo))], [(qm 2, .inl (kA 0, 66836, .inl all0))]]) H := hP
  have hD : va_D A (cat [[(qm 21, .inl (kA 2, 576, .inl f950))], [(a0, .inr (13, mF qm (va_up (va_up (va_up (va_up (va_up x0Mo 5 (nI (539 * (31 * j + 0)))) 7 1) 139 (nI j)) 157 1) 165 (-1)) y0Mo))], [(qm 2, .inl (kA 0, 66836, .inl all0))]]) := hD
  refine lv_icmp_ge (pc := 14) (tgt := 30) hx hb d_Mo_strong_14 (by decide) (fun _ => ?_) (fun c1 => absurd (by decide) c1)
  refine lv_iconst (pc := 30) (v := 0) hx hb d_Mo_strong_30 (by decide) ?_
  refine lv_istore_n (pc := 31) (lv' := [(3, .int 0), (2, .int 0), (0, .ref a0), (1, .int 1)]) hx hb d_Mo_strong_31 rfl hl (by decide) rfl (fun ls hl => ?_)
  refine lv_iload_n (pc := 32) hx hb d_Mo_strong_32 rfl (lv_at hl 0 rfl) ?_
  refine lv_aload_n (pc := 33) hx hb d_Mo_strong_33 rfl (lv_at hl 2 rfl) ?_
  refine k_goI (gr := [[(qm 21, .inl (kA 2, 576, .inl f950))]]) (k_rV (pc := 34) (As := []) (rest := [.int 0]) X (c_Mo_nodes_z3 l D kA a0 qm j hj H.size) rfl wm_3025 wm_9 wm_3022 wm_3024 wv_13_3 0 (by decide +kernel) ⟨Nat.le_of_ble_eq_true rfl, Nat.le_of_ble_eq_true rfl⟩ rfl rfl (va_recv hK hP (ci := 13) (q0 := 1) rfl rfl) (k_pre hN hK hP hD [1, 2] [0] 3 rfl (by decide) rfl) rfl hl.1 rfl (Nat.le_of_ble_eq_true rfl) d_Mo_strong_34 ⟨Nat.le_of_ble_eq_true rfl, Nat.le_of_ble_eq_true rfl⟩) hP hD hS hA [1, 2] [0] 3 rfl (by decide) rfl rfl (fun r4 u5 H locs hu5 hP hD hS => ?_)
  subst hu5
  have hP : va_P D classes (cat [[(qm 21, .inl (kA 2, 576, .inl f950))], [(a0, .inr (13, mF qm (va_up (va_up (va_up (va_up (va_up x0Mo 5 (nI (539 * (31 * j + 0)))) 7 1) 139 (nI j)) 157 1) 165 (-1)) y0Mo))], [(qm 2, .inl (kA 0, 66836, .inl all0))]]) H := hP
  have hD : va_D A (cat [[(qm 21, .inl (kA 2, 576, .inl f950))], [(a0, .inr (13, mF qm (va_up (va_up (va_up (va_up (va_up x0Mo 5 (nI (539 * (31 * j + 0)))) 7 1) 139 (nI j)) 157 1) 165 (-1)) y0Mo))], [(qm 2, .inl (kA 0, 66836, .inl all0))]]) := hD
  refine lv_icmp_ge (pc := 37) (tgt := 117) hx hb d_Mo_strong_37 (by decide) (fun _ => ?_) (fun c1 => absurd (by decide) c1)
  refine lv_iload_n (pc := 117) hx hb d_Mo_strong_117 rfl (lv_at hl 1 rfl) ?_
  obtain ⟨hP, hD⟩ := k_ord (gc := [[(a0, .inr (13, mF qm (va_up (va_up (va_up (va_up (va_up x0Mo 5 (nI (539 * (31 * j + 0)))) 7 1) 139 (nI j)) 157 1) 165 (-1)) y0Mo))], [(qm 2, .inl (kA 0, 66836, .inl all0))], [(qm 21, .inl (kA 2, 576, .inl f950))]]) hP hD [1, 2, 0] 3 rfl (by decide) rfl
  refine W.widen (k := 0) (n := 0) (Nat.le_of_ble_eq_true rfl) (Nat.le_of_ble_eq_true rfl) ?_
  exact W.iret (v := 0) hx hb hr (fun t ht hW => ⟨⟨0, ((fun _ => 0), (fun k => match k with | 0 => f950 | _ => fun _ => 0)), rfl, rfl, by rw [ht]; exact hP, va_K.moved hW.alike hK, hD⟩, hS.F ht⟩) hS.2.2 d_Mo_strong_118
set_option maxRecDepth 100000 in
set_option maxHeartbeats 4000000 in
/-- DrawingHouseModel.turnEdges()V -/
theorem c_Mo_turnEdges_z1 (l : Launch) (D : va_G) (kA : Nat → ClassId) (a0 : Nat) (qm : Nat → Nat) (j : Nat) (f0 : Nat → Int32) (hj : j < 4) : Cv l y_Mo_turnEdges z_Mo_turnEdges { frames := 3, cells := 0, slots := 0, locals := 69 } D classes (TY kA) [.ref a0] [[(a0, .inr (13, mF qm (va_up (va_up (va_up (va_up (va_up x0Mo 5 (nI (539 * (31 * j + 0)))) 7 1) 139 (nI j)) 157 1) 165 (-1)) y0Mo))], [(qm 2, .inl (kA 0, 66836, .inl all0))], [(qm 21, .inl (kA 2, 576, .inl f0))]] (fun _ : (Nat → Nat) × (Nat → Nat → Int32) => True) (fun u => [[(a0, .inr (13, mF qm (va_up (va_up (va_up (va_up (va_up x0Mo 5 (nI (539 * (31 * j + 0)))) 7 1) 139 (nI j)) 157 1) 165 (-1)) y0Mo))], [(qm 2, .inl (kA 0, 66836, .inl all0))], [(qm 21, .inl (kA 2, 576, .inl (u.2 0)))]]) 0 0 := by
  intro sz
  refine k_met (cc := b_Mo_turnEdges) (maxL := 4) (ret := none) (by decide) rfl (Nat.le_of_ble_eq_true rfl) (fun p e s m below meth c ls X hl hB => ?_)
  obtain ⟨hsz, hP, hK, hD0, hN⟩ := hB
  subst hsz
  have hD := hD0.self (sz := s.heap.size)
  generalize hAe : va_A (cat [[(a0, .inr (13, mF qm (va_up (va_up (va_up (va_up (va_up x0Mo 5 (nI (539 * (31 * j + 0)))) 7 1) 139 (nI j)) 157 1) 165 (-1)) y0Mo))], [(qm 2, .inl (kA 0, 66836, .inl all0))], [(qm 21, .inl (kA 2, 576, .inl f0))]]) s.heap.size = A at hD ⊢
  have hA : ∀ q : Nat, s.heap.size ≤ q → A q := fun q h => by rw [← hAe]; exact Or.inr h
  have hS : va_S A s.heap s.heap [] := va_S.rf
  obtain ⟨hx, hb, hml, hown, hts, hr, hlk, hnm⟩ := id X
  have hl : lv_has ls 4 [(0, .ref a0)] := hl
  have hP : va_P D classes (cat [[(a0, .inr (13, mF qm (va_up (va_up (va_up (va_up (va_up x0Mo 5 (nI (539 * (31 * j + 0)))) 7 1) 139 (nI j)) 157 1) 165 (-1)) y0Mo))], [(qm 2, .inl (kA 0, 66836, .inl all0))], [(qm 21, .inl (kA 2, 576, .inl f0))]]) s.heap := hP
  have hK : va_K D classes (TY kA) s := hK
  refine lv_aload_n (pc := 0) hx hb d_Mo_turnEdges_0 rfl (lv_at hl 0 rfl) ?_
  refine lv_iconst (pc := 1) (v := 1) hx hb d_Mo_turnEdges_1 (by decide) ?_
  refine k_goI (gr := []) (k_rV (pc := 2) (As := [.int 1]) (rest := []) X (c_Mo_strong_z2 l D kA a0 qm j f0 hj s.heap.size) rfl wm_3291 wm_9 wm_3288 wm_3290 wv_16_13 1 (by decide +kernel) ⟨Nat.le_of_ble_eq_true rfl, Nat.le_of_ble_eq_true rfl⟩ rfl rfl (va_recv hK hP (ci := 13) (q0 := 0) rfl rfl) (k_pre hN hK hP hD [0, 1, 2] [] 3 rfl (by decide) rfl) rfl hl.1 rfl (Nat.le_of_ble_eq_true rfl) d_Mo_turnEdges_2 ⟨Nat.le_of_ble_eq_true rfl, Nat.le_of_ble_eq_true rfl⟩) hP hD hS hA [0, 1, 2] [] 3 rfl (by decide) rfl rfl (fun r1 u2 H locs hu2 hP hD hS => ?_)
  have hP : va_P D classes (cat [[(a0, .inr (13, mF qm (va_up (va_up (va_up (va_up (va_up x0Mo 5 (nI (539 * (31 * j + 0)))) 7 1) 139 (nI j)) 157 1) 165 (-1)) y0Mo))], [(qm 2, .inl (kA 0, 66836, .inl all0))], [(qm 21, .inl (kA 2, 576, .inl (u2.2 0)))]]) H := hP
  have hD : va_D A (cat [[(a0, .inr (13, mF qm (va_up (va_up (va_up (va_up (va_up x0Mo 5 (nI (539 * (31 * j + 0)))) 7 1) 139 (nI j)) 157 1) 165 (-1)) y0Mo))], [(qm 2, .inl (kA 0, 66836, .inl all0))], [(qm 21, .inl (kA 2, 576, .inl (u2.2 0)))]]) := hD
  obtain ⟨f950, hf950⟩ : ∃ z : Nat → Int32, u2.2 0 = z := ⟨_, rfl⟩
  rw [hf950] at hP hD
  subst hu2
  refine lv_istore_n (pc := 5) (lv' := [(1, .int 0), (0, .ref a0)]) hx hb d_Mo_turnEdges_5 rfl hl (by decide) rfl (fun ls hl => ?_)
  refine lv_iconst (pc := 6) (v := 0) hx hb d_Mo_turnEdges_6 (by decide) ?_
  refine lv_istore_n (pc := 7) (lv' := [(2, .int 0), (1, .int 0), (0, .ref a0)]) hx hb d_Mo_turnEdges_7 rfl hl (by decide) rfl (fun ls hl => ?_)
  refine lv_iload_n (pc := 8) hx hb d_Mo_turnEdges_8 rfl (lv_at hl 0 rfl) ?_
  refine lv_aload_n (pc := 9) hx hb d_Mo_turnEdges_9 rfl (lv_at hl 2 rfl) ?_
  refine k_goI (gr := [[(qm 21, .inl (kA 2, 576, .inl f950))]]) (k_rV (pc := 10) (As := []) (rest := [.int 0]) X (c_Mo_edges_z2 l D kA a0 qm j hj H.size) rfl wm_3037 wm_9 wm_3034 wm_3036 wv_13_6 0 (by decide +kernel) ⟨Nat.le_of_ble_eq_true rfl, Nat.le_of_ble_eq_true rfl⟩ rfl rfl (va_recv hK hP (ci := 13) (q0 := 0) rfl rfl) (k_pre hN hK hP hD [0, 1] [2] 3 rfl (by decide) rfl) rfl hl.1 rfl (Nat.le_of_ble_eq_true rfl) d_Mo_turnEdges_10 ⟨Nat.le_of_ble_eq_true rfl, Nat.le_of_ble_eq_true rfl⟩) hP hD hS hA [0, 1] [2] 3 rfl (by decide) rfl rfl (fun r3 u4 H locs hu4 hP hD hS => ?_)
  subst hu4
  have hP : va_P D classes (cat [[(qm 21, .inl (kA 2, 576, .inl f950))], [(a0, .inr (13, mF qm (va_up (va_up (va_up (va_up (va_up x0Mo 5 (nI (539 * (31 * j + 0)))) 7 1) 139 (nI j)) 157 1) 165 (-1)) y0Mo))], [(qm 2, .inl (kA 0, 66836, .inl all0))]]) H := hP
  have hD : va_D A (cat [[(qm 21, .inl (kA 2, 576, .inl f950))], [(a0, .inr (13, mF qm (va_up (va_up (va_up (va_up (va_up x0Mo 5 (nI (539 * (31 * j + 0)))) 7 1) 139 (nI j)) 157 1) 165 (-1)) y0Mo))], [(qm 2, .inl (kA 0, 66836, .inl all0))]]) := hD
  refine lv_icmp_ge (pc := 13) (tgt := 29) hx hb d_Mo_turnEdges_13 (by decide) (fun _ => ?_) (fun c1 => absurd (by decide) c1)
  refine lv_iconst (pc := 29) (v := 0) hx hb d_Mo_turnEdges_29 (by decide) ?_
  refine lv_istore_n (pc := 30) (lv' := [(2, .int 0), (1, .int 0), (0, .ref a0)]) hx hb d_Mo_turnEdges_30 rfl hl (by decide) rfl (fun ls hl => ?_)
  refine lv_iload_n (pc := 31) hx hb d_Mo_turnEdges_31 rfl (lv_at hl 0 rfl) ?_
  refine lv_iload_n (pc := 32) hx hb d_Mo_turnEdges_32 rfl (lv_at hl 1 rfl) ?_
  refine lv_icmp_ge (pc := 33) (tgt := 203) hx hb d_Mo_turnEdges_33 (by decide) (fun _ => ?_) (fun c1 => absurd (by decide) c1)
  obtain ⟨hP, hD⟩ := k_ord (gc := [[(a0, .inr (13, mF qm (va_up (va_up (va_up (va_up (va_up x0Mo 5 (nI (539 * (31 * j + 0)))) 7 1) 139 (nI j)) 157 1) 165 (-1)) y0Mo))], [(qm 2, .inl (kA 0, 66836, .inl all0))], [(qm 21, .inl (kA 2, 576, .inl f950))]]) hP hD [1, 2, 0] 3 rfl (by decide) rfl
  refine W.widen (k := 0) (n := 0) (Nat.le_of_ble_eq_true rfl) (Nat.le_of_ble_eq_true rfl) ?_
  exact W.vret hx hb hr (fun t ht hW => ⟨⟨((fun _ => 0), (fun k => match k with | 0 => f950 | _ => fun _ => 0)), rfl, trivial, by rw [ht]; exact hP, va_K.moved hW.alike hK, hD⟩, hS.F ht⟩) hS.2.2 d_Mo_turnEdges_203
set_option maxRecDepth 100000 in
set_option maxHeartbeats 4000000 in
/-- DrawingHouseModel.plane()V -/
theorem c_Mo_plane_z2 (l : Launch) (D : va_G) (kA : Nat → ClassId) (a0 : Nat) (qm : Nat → Nat) (j : Nat) (hj : j < 4) : Cv l y_Mo_plane z_Mo_plane { frames := 1, cells := 0, slots := 0, locals := 20 } D classes (TY kA) [.ref a0] [[(a0, .inr (13, mF qm (va_up (va_up (va_up (va_up (va_up x0Mo 5 (nI (539 * (31 * j + 0)))) 7 1) 139 (nI j)) 157 1) 165 (-1)) y0Mo))], [(qm 2, .inl (kA 0, 66836, .inl all0))]] (fun _ : Unit => True) (fun u => [[(a0, .inr (13, mF qm (va_up (va_up (va_up (va_up (va_up x0Mo 5 (nI (539 * (31 * j + 0)))) 7 1) 139 (nI j)) 157 1) 165 (-1)) y0Mo))], [(qm 2, .inl (kA 0, 66836, .inl all0))]]) 0 0 := by
  intro sz
  refine k_met (cc := b_Mo_plane) (maxL := 2) (ret := none) (by decide) rfl (Nat.le_of_ble_eq_true rfl) (fun p e s m below meth c ls X hl hB => ?_)
  obtain ⟨hsz, hP, hK, hD0, hN⟩ := hB
  subst hsz
  have hD := hD0.self (sz := s.heap.size)
  generalize hAe : va_A (cat [[(a0, .inr (13, mF qm (va_up (va_up (va_up (va_up (va_up x0Mo 5 (nI (539 * (31 * j + 0)))) 7 1) 139 (nI j)) 157 1) 165 (-1)) y0Mo))], [(qm 2, .inl (kA 0, 66836, .inl all0))]]) s.heap.size = A at hD ⊢
  have hA : ∀ q : Nat, s.heap.size ≤ q → A q := fun q h => by rw [← hAe]; exact Or.inr h
  have hS : va_S A s.heap s.heap [] := va_S.rf
  obtain ⟨hx, hb, hml, hown, hts, hr, hlk, hnm⟩ := id X
  have hl : lv_has ls 2 [(0, .ref a0)] := hl
  have hP : va_P D classes (cat [[(a0, .inr (13, mF qm (va_up (va_up (va_up (va_up (va_up x0Mo 5 (nI (539 * (31 * j + 0)))) 7 1) 139 (nI j)) 157 1) 165 (-1)) y0Mo))], [(qm 2, .inl (kA 0, 66836, .inl all0))]]) s.heap := hP
  have hK : va_K D classes (TY kA) s := hK
  refine lv_aload_n (pc := 0) hx hb d_Mo_plane_0 rfl (lv_at hl 0 rfl) ?_
  refine lv_aload_n (pc := 1) hx hb d_Mo_plane_1 rfl (lv_at hl 0 rfl) ?_
  refine k_goI (gr := []) (k_rV (pc := 2) (As := []) (rest := [.ref a0]) X (c_Mo_nodes_z3 l D kA a0 qm j hj s.heap.size) rfl wm_3025 wm_9 wm_3022 wm_3024 wv_13_3 0 (by decide +kernel) ⟨Nat.le_of_ble_eq_true rfl, Nat.le_of_ble_eq_true rfl⟩ rfl rfl (va_recv hK hP (ci := 13) (q0 := 0) rfl rfl) (k_pre hN hK hP hD [0, 1] [] 2 rfl (by decide) rfl) rfl hl.1 rfl (Nat.le_of_ble_eq_true rfl) d_Mo_plane_2 ⟨Nat.le_of_ble_eq_true rfl, Nat.le_of_ble_eq_true rfl⟩) hP hD hS hA [0, 1] [] 2 rfl (by decide) rfl rfl (fun r1 u2 H locs hu2 hP hD hS => ?_)
  subst hu2
  have hP : va_P D classes (cat [[(a0, .inr (13, mF qm (va_up (va_up (va_up (va_up (va_up x0Mo 5 (nI (539 * (31 * j + 0)))) 7 1) 139 (nI j)) 157 1) 165 (-1)) y0Mo))], [(qm 2, .inl (kA 0, 66836, .inl all0))]]) H := hP
  have hD : va_D A (cat [[(a0, .inr (13, mF qm (va_up (va_up (va_up (va_up (va_up x0Mo 5 (nI (539 * (31 * j + 0)))) 7 1) 139 (nI j)) 157 1) 165 (-1)) y0Mo))], [(qm 2, .inl (kA 0, 66836, .inl all0))]]) := hD
  refine k_put (pc := 5) X hK hP hD hS 0 rfl rfl i_Mo t_Mo t_Mo_ok n_Mo 31 (by decide) wm_2464 rfl (Or.inl rfl) rfl rfl (Nat.le_of_ble_eq_true rfl) d_Mo_plane_5 (fun H locs hP hD hS => ?_)
  have hP : va_P D classes (cat [[(a0, .inr (13, mF qm (va_up (va_up (va_up (va_up (va_up x0Mo 5 (nI (539 * (31 * j + 0)))) 7 1) 139 (nI j)) 157 1) 165 (-1)) y0Mo))], [(qm 2, .inl (kA 0, 66836, .inl all0))]]) H := hP
  have hD : va_D A (cat [[(a0, .inr (13, mF qm (va_up (va_up (va_up (va_up (va_up x0Mo 5 (nI (539 * (31 * j + 0)))) 7 1) 139 (nI j)) 157 1) 165 (-1)) y0Mo))], [(qm 2, .inl (kA 0, 66836, .inl all0))]]) := hD
  refine lv_aload_n (pc := 8) hx hb d_Mo_plane_8 rfl (lv_at hl 0 rfl) ?_
  refine lv_aload_n (pc := 9) hx hb d_Mo_plane_9 rfl (lv_at hl 0 rfl) ?_
  refine k_goI (gr := []) (k_rV (pc := 10) (As := []) (rest := [.ref a0]) X (c_Mo_edges_z2 l D kA a0 qm j hj H.size) rfl wm_3037 wm_9 wm_3034 wm_3036 wv_13_6 0 (by decide +kernel) ⟨Nat.le_of_ble_eq_true rfl, Nat.le_of_ble_eq_true rfl⟩ rfl rfl (va_recv hK hP (ci := 13) (q0 := 0) rfl rfl) (k_pre hN hK hP hD [0, 1] [] 2 rfl (by decide) rfl) rfl hl.1 rfl (Nat.le_of_ble_eq_true rfl) d_Mo_plane_10 ⟨Nat.le_of_ble_eq_true rfl, Nat.le_of_ble_eq_true rfl⟩) hP hD hS hA [0, 1] [] 2 rfl (by decide) rfl rfl (fun r3 u4 H locs hu4 hP hD hS => ?_)
  subst hu4
  have hP : va_P D classes (cat [[(a0, .inr (13, mF qm (va_up (va_up (va_up (va_up (va_up x0Mo 5 (nI (539 * (31 * j + 0)))) 7 1) 139 (nI j)) 157 1) 165 (-1)) y0Mo))], [(qm 2, .inl (kA 0, 66836, .inl all0))]]) H := hP
  have hD : va_D A (cat [[(a0, .inr (13, mF qm (va_up (va_up (va_up (va_up (va_up x0Mo 5 (nI (539 * (31 * j + 0)))) 7 1) 139 (nI j)) 157 1) 165 (-1)) y0Mo))], [(qm 2, .inl (kA 0, 66836, .inl all0))]]) := hD
  refine k_put (pc := 13) X hK hP hD hS 0 rfl rfl i_Mo t_Mo t_Mo_ok n_Mo 32 (by decide) wm_2465 rfl (Or.inl rfl) rfl rfl (Nat.le_of_ble_eq_true rfl) d_Mo_plane_13 (fun H locs hP hD hS => ?_)
  have hP : va_P D classes (cat [[(a0, .inr (13, mF qm (va_up (va_up (va_up (va_up (va_up x0Mo 5 (nI (539 * (31 * j + 0)))) 7 1) 139 (nI j)) 157 1) 165 (-1)) y0Mo))], [(qm 2, .inl (kA 0, 66836, .inl all0))]]) H := hP
  have hD : va_D A (cat [[(a0, .inr (13, mF qm (va_up (va_up (va_up (va_up (va_up x0Mo 5 (nI (539 * (31 * j + 0)))) 7 1) 139 (nI j)) 157 1) 165 (-1)) y0Mo))], [(qm 2, .inl (kA 0, 66836, .inl all0))]]) := hD
  refine lv_iconst (pc := 16) (v := 0) hx hb d_Mo_plane_16 (by decide) ?_
  refine lv_istore_n (pc := 17) (lv' := [(1, .int 0), (0, .ref a0)]) hx hb d_Mo_plane_17 rfl hl (by decide) rfl (fun ls hl => ?_)
  refine lv_iload_n (pc := 18) hx hb d_Mo_plane_18 rfl (lv_at hl 0 rfl) ?_
  refine lv_aload_n (pc := 19) hx hb d_Mo_plane_19 rfl (lv_at hl 1 rfl) ?_
  refine k_get (pc := 20) (v := .int 0) X hK hP 0 rfl rfl i_Mo 32 (by decide) wm_2465 rfl rfl d_Mo_plane_20 ?_
  refine lv_icmp_ge (pc := 23) (tgt := 61) hx hb d_Mo_plane_23 (by decide) (fun _ => ?_) (fun c1 => absurd (by decide) c1)
  refine W.widen (k := 0) (n := 0) (Nat.le_of_ble_eq_true rfl) (Nat.le_of_ble_eq_true rfl) ?_
  exact W.vret hx hb hr (fun t ht hW => ⟨⟨(), rfl, trivial, by rw [ht]; exact hP, va_K.moved hW.alike hK, hD⟩, hS.F ht⟩) hS.2.2 d_Mo_plane_61
set_option maxRecDepth 100000 in
set_option maxHeartbeats 4000000 in
/-- DrawingHouseModel.blocks()I -/
theorem c_Mo_blocks_z4 (l : Launch) (D : va_G) (kA : Nat → ClassId) (a0 : Nat) (qm : Nat → Nat) (j : Nat) (hj : j < 4) : Ci l y_Mo_blocks z_Mo_blocks { frames := 0, cells := 0, slots := 0, locals := 0 } D classes (TY kA) [.ref a0] [[(a0, .inr (13, mF qm (va_up (va_up (va_up (va_up (va_up x0Mo 5 (nI (539 * (31 * j + 0)))) 7 1) 139 (nI j)) 157 1) 165 (-1)) y0Mo))]] (fun r (_ : Unit) => r = 0) (fun u => [[(a0, .inr (13, mF qm (va_up (va_up (va_up (va_up (va_up x0Mo 5 (nI (539 * (31 * j + 0)))) 7 1) 139 (nI j)) 157 1) 165 (-1)) y0Mo))]]) 0 0 := by
  intro sz
  refine k_met (cc := b_Mo_blocks) (maxL := 4) (ret := (some .int)) (by decide) rfl (Nat.le_of_ble_eq_true rfl) (fun p e s m below meth c ls X hl hB => ?_)
  obtain ⟨hsz, hP, hK, hD0, hN⟩ := hB
  subst hsz
  have hD := hD0.self (sz := s.heap.size)
  generalize hAe : va_A (cat [[(a0, .inr (13, mF qm (va_up (va_up (va_up (va_up (va_up x0Mo 5 (nI (539 * (31 * j + 0)))) 7 1) 139 (nI j)) 157 1) 165 (-1)) y0Mo))]]) s.heap.size = A at hD ⊢
  have hA : ∀ q : Nat, s.heap.size ≤ q → A q := fun q h => by rw [← hAe]; exact Or.inr h
  have hS : va_S A s.heap s.heap [] := va_S.rf
  obtain ⟨hx, hb, hml, hown, hts, hr, hlk, hnm⟩ := id X
  have hl : lv_has ls 4 [(0, .ref a0)] := hl
  have hP : va_P D classes (cat [[(a0, .inr (13, mF qm (va_up (va_up (va_up (va_up (va_up x0Mo 5 (nI (539 * (31 * j + 0)))) 7 1) 139 (nI j)) 157 1) 165 (-1)) y0Mo))]]) s.heap := hP
  have hK : va_K D classes (TY kA) s := hK
  refine lv_iconst (pc := 0) (v := 0) hx hb d_Mo_blocks_0 (by decide) ?_
  refine lv_istore_n (pc := 1) (lv' := [(1, .int 0), (0, .ref a0)]) hx hb d_Mo_blocks_1 rfl hl (by decide) rfl (fun ls hl => ?_)
  refine lv_iload_n (pc := 2) hx hb d_Mo_blocks_2 rfl (lv_at hl 0 rfl) ?_
  refine lv_aload_n (pc := 3) hx hb d_Mo_blocks_3 rfl (lv_at hl 1 rfl) ?_
  refine k_get (pc := 4) (v := .int 0) X hK hP 0 rfl rfl i_Mo 32 (by decide) wm_2465 rfl rfl d_Mo_blocks_4 ?_
  refine lv_icmp_ge (pc := 7) (tgt := 23) hx hb d_Mo_blocks_7 (by decide) (fun _ => ?_) (fun c1 => absurd (by decide) c1)
  refine lv_iconst (pc := 23) (v := 0) hx hb d_Mo_blocks_23 (by decide) ?_
  refine lv_istore_n (pc := 24) (lv' := [(1, .int 0), (0, .ref a0)]) hx hb d_Mo_blocks_24 rfl hl (by decide) rfl (fun ls hl => ?_)
  refine lv_iload_n (pc := 25) hx hb d_Mo_blocks_25 rfl (lv_at hl 0 rfl) ?_
  refine lv_aload_n (pc := 26) hx hb d_Mo_blocks_26 rfl (lv_at hl 1 rfl) ?_
  refine k_get (pc := 27) (v := .int 0) X hK hP 0 rfl rfl i_Mo 31 (by decide) wm_2464 rfl rfl d_Mo_blocks_27 ?_
  refine lv_icmp_ge (pc := 30) (tgt := 135) hx hb d_Mo_blocks_30 (by decide) (fun _ => ?_) (fun c1 => absurd (by decide) c1)
  refine lv_iconst (pc := 135) (v := 0) hx hb d_Mo_blocks_135 (by decide) ?_
  refine lv_istore_n (pc := 136) (lv' := [(1, .int 0), (0, .ref a0)]) hx hb d_Mo_blocks_136 rfl hl (by decide) rfl (fun ls hl => ?_)
  refine lv_iconst (pc := 137) (v := 0) hx hb d_Mo_blocks_137 (by decide) ?_
  refine lv_istore_n (pc := 138) (lv' := [(2, .int 0), (1, .int 0), (0, .ref a0)]) hx hb d_Mo_blocks_138 rfl hl (by decide) rfl (fun ls hl => ?_)
  refine lv_iload_n (pc := 139) hx hb d_Mo_blocks_139 rfl (lv_at hl 0 rfl) ?_
  refine lv_aload_n (pc := 140) hx hb d_Mo_blocks_140 rfl (lv_at hl 2 rfl) ?_
  refine k_get (pc := 141) (v := .int 0) X hK hP 0 rfl rfl i_Mo 32 (by decide) wm_2465 rfl rfl d_Mo_blocks_141 ?_
  refine lv_icmp_ge (pc := 144) (tgt := 160) hx hb d_Mo_blocks_144 (by decide) (fun _ => ?_) (fun c1 => absurd (by decide) c1)
  refine lv_iconst (pc := 160) (v := 0) hx hb d_Mo_blocks_160 (by decide) ?_
  refine lv_istore_n (pc := 161) (lv' := [(2, .int 0), (1, .int 0), (0, .ref a0)]) hx hb d_Mo_blocks_161 rfl hl (by decide) rfl (fun ls hl => ?_)
  refine lv_iload_n (pc := 162) hx hb d_Mo_blocks_162 rfl (lv_at hl 0 rfl) ?_
  refine lv_aload_n (pc := 163) hx hb d_Mo_blocks_163 rfl (lv_at hl 2 rfl) ?_
  refine k_get (pc := 164) (v := .int 0) X hK hP 0 rfl rfl i_Mo 32 (by decide) wm_2465 rfl rfl d_Mo_blocks_164 ?_
  refine lv_icmp_ge (pc := 167) (tgt := 233) hx hb d_Mo_blocks_167 (by decide) (fun _ => ?_) (fun c1 => absurd (by decide) c1)
  refine lv_iload_n (pc := 233) hx hb d_Mo_blocks_233 rfl (lv_at hl 1 rfl) ?_
  refine W.widen (k := 0) (n := 0) (Nat.le_of_ble_eq_true rfl) (Nat.le_of_ble_eq_true rfl) ?_
  exact W.iret (v := 0) hx hb hr (fun t ht hW => ⟨⟨0, (), rfl, rfl, by rw [ht]; exact hP, va_K.moved hW.alike hK, hD⟩, hS.F ht⟩) hS.2.2 d_Mo_blocks_234
set_option maxRecDepth 100000 in
set_option maxHeartbeats 4000000 in
/-- DrawingHouseModel.prepare()V -/
theorem c_Mo_prepare_z1 (l : Launch) (D : va_G) (kA : Nat → ClassId) (a0 : Nat) (qm : Nat → Nat) (j : Nat) (f0 : Nat → Int32) (hj : j < 4) : Cv l y_Mo_prepare z_Mo_prepare { frames := 4, cells := 0, slots := 0, locals := 92 } D classes (TY kA) [.ref a0] [[(a0, .inr (13, mF qm (va_up (va_up (va_up (va_up (va_up x0Mo 5 (nI (539 * (31 * j + 0)))) 7 1) 139 (nI j)) 157 1) 165 (-1)) y0Mo))], [(qm 2, .inl (kA 0, 66836, .inl all0))], [(qm 21, .inl (kA 2, 576, .inl f0))]] (fun _ : (Nat → Nat) × (Nat → Nat → Int32) => True) (fun u => [[(a0, .inr (13, mF qm (va_up (va_up (va_up (va_up (va_up x0Mo 5 (nI (539 * (31 * j + 0)))) 7 1) 139 (nI j)) 157 1) 165 (-1)) y0Mo))], [(qm 2, .inl (kA 0, 66836, .inl all0))], [(qm 21, .inl (kA 2, 576, .inl (u.2 0)))]]) 0 0 := by
  intro sz
  refine k_met (cc := b_Mo_prepare) (maxL := 3) (ret := none) (by decide) rfl (Nat.le_of_ble_eq_true rfl) (fun p e s m below meth c ls X hl hB => ?_)
  obtain ⟨hsz, hP, hK, hD0, hN⟩ := hB
  subst hsz
  have hD := hD0.self (sz := s.heap.size)
  generalize hAe : va_A (cat [[(a0, .inr (13, mF qm (va_up (va_up (va_up (va_up (va_up x0Mo 5 (nI (539 * (31 * j + 0)))) 7 1) 139 (nI j)) 157 1) 165 (-1)) y0Mo))], [(qm 2, .inl (kA 0, 66836, .inl all0))], [(qm 21, .inl (kA 2, 576, .inl f0))]]) s.heap.size = A at hD ⊢
  have hA : ∀ q : Nat, s.heap.size ≤ q → A q := fun q h => by rw [← hAe]; exact Or.inr h
  have hS : va_S A s.heap s.heap [] := va_S.rf
  obtain ⟨hx, hb, hml, hown, hts, hr, hlk, hnm⟩ := id X
  have hl : lv_has ls 3 [(0, .ref a0)] := hl
  have hP : va_P D classes (cat [[(a0, .inr (13, mF qm (va_up (va_up (va_up (va_up (va_up x0Mo 5 (nI (539 * (31 * j + 0)))) 7 1) 139 (nI j)) 157 1) 165 (-1)) y0Mo))], [(qm 2, .inl (kA 0, 66836, .inl all0))], [(qm 21, .inl (kA 2, 576, .inl f0))]]) s.heap := hP
  have hK : va_K D classes (TY kA) s := hK
  refine lv_aload_n (pc := 0) hx hb d_Mo_prepare_0 rfl (lv_at hl 0 rfl) ?_
  refine k_goV (gr := []) (k_rV (pc := 1) (As := []) (rest := []) X (c_Mo_turnEdges_z1 l D kA a0 qm j f0 hj s.heap.size) rfl wm_3375 wm_9 wm_3372 wm_3374 wv_17_12 0 (by decide +kernel) ⟨Nat.le_of_ble_eq_true rfl, Nat.le_of_ble_eq_true rfl⟩ rfl rfl (va_recv hK hP (ci := 13) (q0 := 0) rfl rfl) (k_pre hN hK hP hD [0, 1, 2] [] 3 rfl (by decide) rfl) rfl hl.1 rfl (Nat.le_of_ble_eq_true rfl) d_Mo_prepare_1 ⟨Nat.le_of_ble_eq_true rfl, Nat.le_of_ble_eq_true rfl⟩) hP hD hS hA [0, 1, 2] [] 3 rfl (by decide) rfl rfl (fun u1 H locs hu1 hP hD hS => ?_)
  have hP : va_P D classes (cat [[(a0, .inr (13, mF qm (va_up (va_up (va_up (va_up (va_up x0Mo 5 (nI (539 * (31 * j + 0)))) 7 1) 139 (nI j)) 157 1) 165 (-1)) y0Mo))], [(qm 2, .inl (kA 0, 66836, .inl all0))], [(qm 21, .inl (kA 2, 576, .inl (u1.2 0)))]]) H := hP
  have hD : va_D A (cat [[(a0, .inr (13, mF qm (va_up (va_up (va_up (va_up (va_up x0Mo 5 (nI (539 * (31 * j + 0)))) 7 1) 139 (nI j)) 157 1) 165 (-1)) y0Mo))], [(qm 2, .inl (kA 0, 66836, .inl all0))], [(qm 21, .inl (kA 2, 576, .inl (u1.2 0)))]]) := hD
  obtain ⟨f950, hf950⟩ : ∃ z : Nat → Int32, u1.2 0 = z := ⟨_, rfl⟩
  rw [hf950] at hP hD
  refine lv_iconst (pc := 4) (v := 0) hx hb d_Mo_prepare_4 (by decide) ?_
  refine lv_istore_n (pc := 5) (lv' := [(1, .int 0), (0, .ref a0)]) hx hb d_Mo_prepare_5 rfl hl (by decide) rfl (fun ls hl => ?_)
  refine lv_iload_n (pc := 6) hx hb d_Mo_prepare_6 rfl (lv_at hl 0 rfl) ?_
  refine lv_aload_n (pc := 7) hx hb d_Mo_prepare_7 rfl (lv_at hl 1 rfl) ?_
  refine k_goI (gr := [[(qm 21, .inl (kA 2, 576, .inl f950))]]) (k_rV (pc := 8) (As := []) (rest := [.int 0]) X (c_Mo_edges_z2 l D kA a0 qm j hj H.size) rfl wm_3037 wm_9 wm_3034 wm_3036 wv_13_6 0 (by decide +kernel) ⟨Nat.le_of_ble_eq_true rfl, Nat.le_of_ble_eq_true rfl⟩ rfl rfl (va_recv hK hP (ci := 13) (q0 := 0) rfl rfl) (k_pre hN hK hP hD [0, 1] [2] 3 rfl (by decide) rfl) rfl hl.1 rfl (Nat.le_of_ble_eq_true rfl) d_Mo_prepare_8 ⟨Nat.le_of_ble_eq_true rfl, Nat.le_of_ble_eq_true rfl⟩) hP hD hS hA [0, 1] [2] 3 rfl (by decide) rfl rfl (fun r2 u3 H locs hu3 hP hD hS => ?_)
  subst hu3
  have hP : va_P D classes (cat [[(qm 21, .inl (kA 2, 576, .inl f950))], [(a0, .inr (13, mF qm (va_up (va_up (va_up (va_up (va_up x0Mo 5 (nI (539 * (31 * j + 0)))) 7 1) 139 (nI j)) 157 1) 165 (-1)) y0Mo))], [(qm 2, .inl (kA 0, 66836, .inl all0))]]) H := hP
  have hD : va_D A (cat [[(qm 21, .inl (kA 2, 576, .inl f950))], [(a0, .inr (13, mF qm (va_up (va_up (va_up (va_up (va_up x0Mo 5 (nI (539 * (31 * j + 0)))) 7 1) 139 (nI j)) 157 1) 165 (-1)) y0Mo))], [(qm 2, .inl (kA 0, 66836, .inl all0))]]) := hD
  refine lv_icmp_ge (pc := 11) (tgt := 32) hx hb d_Mo_prepare_11 (by decide) (fun _ => ?_) (fun c1 => absurd (by decide) c1)
  refine lv_aload_n (pc := 32) hx hb d_Mo_prepare_32 rfl (lv_at hl 1 rfl) ?_
  refine k_goV (gr := [[(qm 21, .inl (kA 2, 576, .inl f950))]]) (k_rV (pc := 33) (As := []) (rest := []) X (c_Mo_plane_z2 l D kA a0 qm j hj H.size) rfl wm_3147 wm_9 wm_3144 wm_3146 wv_14_12 0 (by decide +kernel) ⟨Nat.le_of_ble_eq_true rfl, Nat.le_of_ble_eq_true rfl⟩ rfl rfl (va_recv hK hP (ci := 13) (q0 := 1) rfl rfl) (k_pre hN hK hP hD [1, 2] [0] 3 rfl (by decide) rfl) rfl hl.1 rfl (Nat.le_of_ble_eq_true rfl) d_Mo_prepare_33 ⟨Nat.le_of_ble_eq_true rfl, Nat.le_of_ble_eq_true rfl⟩) hP hD hS hA [1, 2] [0] 3 rfl (by decide) rfl rfl (fun u4 H locs hu4 hP hD hS => ?_)
  have hP : va_P D classes (cat [[(qm 21, .inl (kA 2, 576, .inl f950))], [(a0, .inr (13, mF qm (va_up (va_up (va_up (va_up (va_up x0Mo 5 (nI (539 * (31 * j + 0)))) 7 1) 139 (nI j)) 157 1) 165 (-1)) y0Mo))], [(qm 2, .inl (kA 0, 66836, .inl all0))]]) H := hP
  have hD : va_D A (cat [[(qm 21, .inl (kA 2, 576, .inl f950))], [(a0, .inr (13, mF qm (va_up (va_up (va_up (va_up (va_up x0Mo 5 (nI (539 * (31 * j + 0)))) 7 1) 139 (nI j)) 157 1) 165 (-1)) y0Mo))], [(qm 2, .inl (kA 0, 66836, .inl all0))]]) := hD
  refine lv_aload_n (pc := 36) hx hb d_Mo_prepare_36 rfl (lv_at hl 1 rfl) ?_
  refine k_goI (gr := [[(qm 21, .inl (kA 2, 576, .inl f950))], [(qm 2, .inl (kA 0, 66836, .inl all0))]]) (k_rV (pc := 37) (As := []) (rest := []) X (c_Mo_blocks_z4 l D kA a0 qm j hj H.size) rfl wm_3155 wm_9 wm_3152 wm_3154 wv_14_14 0 (by decide +kernel) ⟨Nat.le_of_ble_eq_true rfl, Nat.le_of_ble_eq_true rfl⟩ rfl rfl (va_recv hK hP (ci := 13) (q0 := 1) rfl rfl) (k_pre hN hK hP hD [1] [0, 2] 3 rfl (by decide) rfl) rfl hl.1 rfl (Nat.le_of_ble_eq_true rfl) d_Mo_prepare_37 ⟨Nat.le_of_ble_eq_true rfl, Nat.le_of_ble_eq_true rfl⟩) hP hD hS hA [1] [0, 2] 3 rfl (by decide) rfl rfl (fun r5 u6 H locs hu6 hP hD hS => ?_)
  subst hu6
  have hP : va_P D classes (cat [[(qm 21, .inl (kA 2, 576, .inl f950))], [(qm 2, .inl (kA 0, 66836, .inl all0))], [(a0, .inr (13, mF qm (va_up (va_up (va_up (va_up (va_up x0Mo 5 (nI (539 * (31 * j + 0)))) 7 1) 139 (nI j)) 157 1) 165 (-1)) y0Mo))]]) H := hP
  have hD : va_D A (cat [[(qm 21, .inl (kA 2, 576, .inl f950))], [(qm 2, .inl (kA 0, 66836, .inl all0))], [(a0, .inr (13, mF qm (va_up (va_up (va_up (va_up (va_up x0Mo 5 (nI (539 * (31 * j + 0)))) 7 1) 139 (nI j)) 157 1) 165 (-1)) y0Mo))]]) := hD
  refine lv_istore_n (pc := 40) (lv' := [(1, .int 0), (0, .ref a0)]) hx hb d_Mo_prepare_40 rfl hl (by decide) rfl (fun ls hl => ?_)
  refine lv_iconst (pc := 41) (v := 0) hx hb d_Mo_prepare_41 (by decide) ?_
  refine lv_istore_n (pc := 42) (lv' := [(2, .int 0), (1, .int 0), (0, .ref a0)]) hx hb d_Mo_prepare_42 rfl hl (by decide) rfl (fun ls hl => ?_)
  refine lv_iload_n (pc := 43) hx hb d_Mo_prepare_43 rfl (lv_at hl 0 rfl) ?_
  refine lv_aload_n (pc := 44) hx hb d_Mo_prepare_44 rfl (lv_at hl 2 rfl) ?_
  refine k_goI (gr := [[(qm 21, .inl (kA 2, 576, .inl f950))]]) (k_rV (pc := 45) (As := []) (rest := [.int 0]) X (c_Mo_nodes_z3 l D kA a0 qm j hj H.size) rfl wm_3025 wm_9 wm_3022 wm_3024 wv_13_3 0 (by decide +kernel) ⟨Nat.le_of_ble_eq_true rfl, Nat.le_of_ble_eq_true rfl⟩ rfl rfl (va_recv hK hP (ci := 13) (q0 := 2) rfl rfl) (k_pre hN hK hP hD [2, 1] [0] 3 rfl (by decide) rfl) rfl hl.1 rfl (Nat.le_of_ble_eq_true rfl) d_Mo_prepare_45 ⟨Nat.le_of_ble_eq_true rfl, Nat.le_of_ble_eq_true rfl⟩) hP hD hS hA [2, 1] [0] 3 rfl (by decide) rfl rfl (fun r7 u8 H locs hu8 hP hD hS => ?_)
  subst hu8
  have hP : va_P D classes (cat [[(qm 21, .inl (kA 2, 576, .inl f950))], [(a0, .inr (13, mF qm (va_up (va_up (va_up (va_up (va_up x0Mo 5 (nI (539 * (31 * j + 0)))) 7 1) 139 (nI j)) 157 1) 165 (-1)) y0Mo))], [(qm 2, .inl (kA 0, 66836, .inl all0))]]) H := hP
  have hD : va_D A (cat [[(qm 21, .inl (kA 2, 576, .inl f950))], [(a0, .inr (13, mF qm (va_up (va_up (va_up (va_up (va_up x0Mo 5 (nI (539 * (31 * j + 0)))) 7 1) 139 (nI j)) 157 1) 165 (-1)) y0Mo))], [(qm 2, .inl (kA 0, 66836, .inl all0))]]) := hD
  refine lv_icmp_ge (pc := 48) (tgt := 79) hx hb d_Mo_prepare_48 (by decide) (fun _ => ?_) (fun c1 => absurd (by decide) c1)
  refine lv_aload_n (pc := 79) hx hb d_Mo_prepare_79 rfl (lv_at hl 2 rfl) ?_
  refine k_goI (gr := [[(qm 21, .inl (kA 2, 576, .inl f950))]]) (k_rV (pc := 80) (As := []) (rest := []) X (c_Mo_nodes_z3 l D kA a0 qm j hj H.size) rfl wm_3025 wm_9 wm_3022 wm_3024 wv_13_3 0 (by decide +kernel) ⟨Nat.le_of_ble_eq_true rfl, Nat.le_of_ble_eq_true rfl⟩ rfl rfl (va_recv hK hP (ci := 13) (q0 := 1) rfl rfl) (k_pre hN hK hP hD [1, 2] [0] 3 rfl (by decide) rfl) rfl hl.1 rfl (Nat.le_of_ble_eq_true rfl) d_Mo_prepare_80 ⟨Nat.le_of_ble_eq_true rfl, Nat.le_of_ble_eq_true rfl⟩) hP hD hS hA [1, 2] [0] 3 rfl (by decide) rfl rfl (fun r9 u10 H locs hu10 hP hD hS => ?_)
  subst hu10
  have hP : va_P D classes (cat [[(qm 21, .inl (kA 2, 576, .inl f950))], [(a0, .inr (13, mF qm (va_up (va_up (va_up (va_up (va_up x0Mo 5 (nI (539 * (31 * j + 0)))) 7 1) 139 (nI j)) 157 1) 165 (-1)) y0Mo))], [(qm 2, .inl (kA 0, 66836, .inl all0))]]) H := hP
  have hD : va_D A (cat [[(qm 21, .inl (kA 2, 576, .inl f950))], [(a0, .inr (13, mF qm (va_up (va_up (va_up (va_up (va_up x0Mo 5 (nI (539 * (31 * j + 0)))) 7 1) 139 (nI j)) 157 1) 165 (-1)) y0Mo))], [(qm 2, .inl (kA 0, 66836, .inl all0))]]) := hD
  refine lv_if_le (pc := 83) (tgt := 91) hx hb d_Mo_prepare_83 (by decide) (fun c1 => ?_) (fun c1 => absurd (by decide) c1)
  obtain ⟨hP, hD⟩ := k_ord (gc := [[(a0, .inr (13, mF qm (va_up (va_up (va_up (va_up (va_up x0Mo 5 (nI (539 * (31 * j + 0)))) 7 1) 139 (nI j)) 157 1) 165 (-1)) y0Mo))], [(qm 2, .inl (kA 0, 66836, .inl all0))], [(qm 21, .inl (kA 2, 576, .inl f950))]]) hP hD [1, 2, 0] 3 rfl (by decide) rfl
  refine W.widen (k := 0) (n := 0) (Nat.le_of_ble_eq_true rfl) (Nat.le_of_ble_eq_true rfl) ?_
  exact W.vret hx hb hr (fun t ht hW => ⟨⟨((fun _ => 0), (fun k => match k with | 0 => f950 | _ => fun _ => 0)), rfl, trivial, by rw [ht]; exact hP, va_K.moved hW.alike hK, hD⟩, hS.F ht⟩) hS.2.2 d_Mo_prepare_91
set_option maxRecDepth 100000 in
set_option maxHeartbeats 4000000 in
theorem lp1_Mo_style_z4 {p : Program} {l : Launch} {e : Env} {R : Room} {s : State} {m : MethodId} {args : Array Value} {below : List Frame} {meth : Method} {c : Code} {cells slots : Nat} {Q : State → Prop} {D : va_G} {kA : Nat → ClassId} {A : Nat → Prop} (X : cx p s m args meth c b_Mo_style 6 (some .int) "DrawingHouseModel" "style") (hK : va_K D classes (TY kA) s) (qm : Nat → Nat) (fl0 : Nat → Int64) (f0 : Nat → Int32) (f1 : Nat → Int32) (a0 : Nat) (j : Nat) (f950 : Nat → Int32) (hj : j < 4)
    (hex : ∀ (f80 : Nat → Int32) (H : Heap) (locs : List Loc) (ls : Array Slot), va_P D classes (cat [[(qm 73, .inl (kA 0, 864, .inl f80))], [(qm 3, .inl (kA 0, 4, .inl (fun _ => 0)))], [(qm 160, .inl (kA 0, 2010, .inl (upd ((fun _ => 0)) 0 0)))], [(qm 161, .inl (kA 3, 2010, .inr (.inl (vp_updL fl0 0 ((-1))))))], [(qm 162, .inl (kA 0, 2010, .inl (upd (f0) 0 0)))], [(qm 163, .inl (kA 0, 2010, .inl (upd (f1) 0 0)))], [(a0, .inr (13, mF qm (va_up (va_up (va_up (va_up (va_up x0Mo 5 (nI (539 * (31 * j + 0)))) 7 1) 139 (nI j)) 157 1) 165 (-1)) y0Mo))], [(qm 2, .inl (kA 0, 66836, .inl all0))], [(qm 21, .inl (kA 2, 576, .inl f950))]]) H → va_D A (cat [[(qm 73, .inl (kA 0, 864, .inl f80))], [(qm 3, .inl (kA 0, 4, .inl (fun _ => 0)))], [(qm 160, .inl (kA 0, 2010, .inl (upd ((fun _ => 0)) 0 0)))], [(qm 161, .inl (kA 3, 2010, .inr (.inl (vp_updL fl0 0 ((-1))))))], [(qm 162, .inl (kA 0, 2010, .inl (upd (f0) 0 0)))], [(qm 163, .inl (kA 0, 2010, .inl (upd (f1) 0 0)))], [(a0, .inr (13, mF qm (va_up (va_up (va_up (va_up (va_up x0Mo 5 (nI (539 * (31 * j + 0)))) 7 1) 139 (nI j)) 157 1) 165 (-1)) y0Mo))], [(qm 2, .inl (kA 0, 66836, .inl all0))], [(qm 21, .inl (kA 2, 576, .inl f950))]]) → va_S A s.heap H locs → lv_has ls 6 [(4, .int (nI 216)), (3, .int 0), (0, .ref a0), (1, .int (nI j)), (2, .int 0)] → W p l e R s m args below meth c H locs cells slots Q (F0 m 142 ls [])) :
    ∀ (k i : Nat), i + k = 216 → ∀ (f80 : Nat → Int32) (H : Heap) (locs : List Loc) (ls : Array Slot), va_P D classes (cat [[(qm 73, .inl (kA 0, 864, .inl f80))], [(qm 3, .inl (kA 0, 4, .inl (fun _ => 0)))], [(qm 160, .inl (kA 0, 2010, .inl (upd ((fun _ => 0)) 0 0)))], [(qm 161, .inl (kA 3, 2010, .inr (.inl (vp_updL fl0 0 ((-1))))))], [(qm 162, .inl (kA 0, 2010, .inl (upd (f0) 0 0)))], [(qm 163, .inl (kA 0, 2010, .inl (upd (f1) 0 0)))], [(a0, .inr (13, mF qm (va_up (va_up (va_up (va_up (va_up x0Mo 5 (nI (539 * (31 * j + 0)))) 7 1) 139 (nI j)) 157 1) 165 (-1)) y0Mo))], [(qm 2, .inl (kA 0, 66836, .inl all0))], [(qm 21, .inl (kA 2, 576, .inl f950))]]) H → va_D A (cat [[(qm 73, .inl (kA 0, 864, .inl f80))], [(qm 3, .inl (kA 0, 4, .inl (fun _ => 0)))], [(qm 160, .inl (kA 0, 2010, .inl (upd ((fun _ => 0)) 0 0)))], [(qm 161, .inl (kA 3, 2010, .inr (.inl (vp_updL fl0 0 ((-1))))))], [(qm 162, .inl (kA 0, 2010, .inl (upd (f0) 0 0)))], [(qm 163, .inl (kA 0, 2010, .inl (upd (f1) 0 0)))], [(a0, .inr (13, mF qm (va_up (va_up (va_up (va_up (va_up x0Mo 5 (nI (539 * (31 * j + 0)))) 7 1) 139 (nI j)) 157 1) 165 (-1)) y0Mo))], [(qm 2, .inl (kA 0, 66836, .inl all0))], [(qm 21, .inl (kA 2, 576, .inl f950))]]) → va_S A s.heap H locs → lv_has ls 6 [(4, .int (nI i)), (3, .int 0), (0, .ref a0), (1, .int (nI j)), (2, .int 0)] → W p l e R s m args below meth c H locs cells slots Q (F0 m 114 ls []) := by
  obtain ⟨hx, hb, hml, hown, hts, hr, hlk, hnm⟩ := id X
  intro k
  induction k with
  | zero =>
    intro i hi f80 H locs ls hP hD hS hl
    have hi : i = 216 := hi
    subst hi
    refine lv_iload (pc := 114) hx hb d_Mo_style_114 (lv_at hl 0 rfl) ?_
    refine lv_sipush (pc := 116) (v := 216) hx hb d_Mo_style_116 (by decide) ?_
    refine k_cge (pc := 119) (x := 216) (y := 216) (tgt := 142) hx hb (by decide) (by decide) d_Mo_style_119 (by decide) (fun c1 => ?_) (fun c1 => absurd c1 (by omega))
    exact hex f80 H locs ls hP hD hS hl
  | succ k ih =>
    intro i hi f80 H locs ls hP hD hS hl
    have hlt : i < 216 := by omega
    refine lv_iload (pc := 114) hx hb d_Mo_style_114 (lv_at hl 0 rfl) ?_
    refine lv_sipush (pc := 116) (v := 216) hx hb d_Mo_style_116 (by decide) ?_
    refine k_cge (pc := 119) (x := i) (y := 216) (tgt := 142) hx hb (by omega) (by decide) d_Mo_style_119 (by decide) (fun c1 => absurd c1 (by omega)) (fun c1 => ?_)
    refine lv_aload_n (pc := 122) hx hb d_Mo_style_122 rfl (lv_at hl 2 rfl) ?_
    refine k_get (pc := 123) (v := .ref (qm 73)) X hK hP 6 rfl rfl i_Mo 73 (by decide) wm_2505 rfl rfl d_Mo_style_123 ?_
    refine lv_sipush (pc := 126) (v := 216) hx hb d_Mo_style_126 (by decide) ?_
    refine lv_iload_n (pc := 129) hx hb d_Mo_style_129 rfl (lv_at hl 3 rfl) ?_
    refine k_mul (pc := 130) (x := 216) (y := j) hx hb d_Mo_style_130 ?_
    refine lv_iload (pc := 131) hx hb d_Mo_style_131 (lv_at hl 0 rfl) ?_
    refine k_add (pc := 133) (x := 216 * j) (y := i) hx hb d_Mo_style_133 ?_
    refine lv_iconst (pc := 134) (v := 0) hx hb d_Mo_style_134 (by decide) ?_
    refine k_ist (pc := 135) hx hb hK hP hD hS 0 0 rfl rfl ((216 * j) + i) rfl (by omega) (by decide) d_Mo_style_135 (fun H locs hP hD hS => ?_)
    have hP : va_P D classes (cat [[(qm 73, .inl (kA 0, 864, .inl (upd f80 ((216 * j) + i) 0)))], [(qm 3, .inl (kA 0, 4, .inl (fun _ => 0)))], [(qm 160, .inl (kA 0, 2010, .inl (upd ((fun _ => 0)) 0 0)))], [(qm 161, .inl (kA 3, 2010, .inr (.inl (vp_updL fl0 0 ((-1))))))], [(qm 162, .inl (kA 0, 2010, .inl (upd (f0) 0 0)))], [(qm 163, .inl (kA 0, 2010, .inl (upd (f1) 0 0)))], [(a0, .inr (13, mF qm (va_up (va_up (va_up (va_up (va_up x0Mo 5 (nI (539 * (31 * j + 0)))) 7 1) 139 (nI j)) 157 1) 165 (-1)) y0Mo))], [(qm 2, .inl (kA 0, 66836, .inl all0))], [(qm 21, .inl (kA 2, 576, .inl f950))]]) H := hP
    have hD : va_D A (cat [[(qm 73, .inl (kA 0, 864, .inl (upd f80 ((216 * j) + i) 0)))], [(qm 3, .inl (kA 0, 4, .inl (fun _ => 0)))], [(qm 160, .inl (kA 0, 2010, .inl (upd ((fun _ => 0)) 0 0)))], [(qm 161, .inl (kA 3, 2010, .inr (.inl (vp_updL fl0 0 ((-1))))))], [(qm 162, .inl (kA 0, 2010, .inl (upd (f0) 0 0)))], [(qm 163, .inl (kA 0, 2010, .inl (upd (f1) 0 0)))], [(a0, .inr (13, mF qm (va_up (va_up (va_up (va_up (va_up x0Mo 5 (nI (539 * (31 * j + 0)))) 7 1) 139 (nI j)) 157 1) 165 (-1)) y0Mo))], [(qm 2, .inl (kA 0, 66836, .inl all0))], [(qm 21, .inl (kA 2, 576, .inl f950))]]) := hD
    refine lv_iinc (pc := 136) (v := nI (i + 1)) (lv' := [(4, .int (nI (i + 1))), (3, .int 0), (0, .ref a0), (1, .int (nI j)), (2, .int 0)]) hx hb d_Mo_style_136 hl (k := 0) rfl (nI_add _ 1) (by decide) rfl (fun ls hl => ?_)
    refine lv_goto (pc := 139) (tgt := 114) hx hb d_Mo_style_139 (by decide) ?_
    exact ih (i + 1) (by omega) _ H locs ls hP hD hS (lv_sub hl [0, 1, 2, 3, 4] rfl)
set_option maxRecDepth 100000 in
set_option maxHeartbeats 4000000 in
/-- DrawingHouseModel.style(II)I -/
theorem c_Mo_style_z4 (l : Launch) (D : va_G) (kA : Nat → ClassId) (a0 : Nat) (j : Nat) (qm : Nat → Nat) (fl0 : Nat → Int64) (f0 : Nat → Int32) (f1 : Nat → Int32) (f2 : Nat → Int32) (f3 : Nat → Int32) (hj : j < 4) : Ci l y_Mo_style z_Mo_style { frames := 5, cells := 0, slots := 0, locals := 114 } D classes (TY kA) [.ref a0, .int (nI j), .int 0] [[(a0, .inr (13, mF qm x0Mo y0Mo))], [(qm 3, .inl (kA 0, 4, .inl (fun _ => 0)))], [(qm 160, .inl (kA 0, 2010, .inl (fun _ => 0)))], [(qm 161, .inl (kA 3, 2010, .inr (.inl fl0)))], [(qm 162, .inl (kA 0, 2010, .inl f0))], [(qm 163, .inl (kA 0, 2010, .inl f1))], [(qm 2, .inl (kA 0, 66836, .inl all0))], [(qm 21, .inl (kA 2, 576, .inl f2))], [(qm 73, .inl (kA 0, 864, .inl f3))]] (fun r (_ : List va_W) => r = 0) (fun u => u) 0 0 := by
  intro sz
  refine k_met (cc := b_Mo_style) (maxL := 6) (ret := (some .int)) (by decide) rfl (Nat.le_of_ble_eq_true rfl) (fun p e s m below meth c ls X hl hB => ?_)
  obtain ⟨hsz, hP, hK, hD0, hN⟩ := hB
  subst hsz
  have hD := hD0.self (sz := s.heap.size)
  generalize hAe : va_A (cat [[(a0, .inr (13, mF qm x0Mo y0Mo))], [(qm 3, .inl (kA 0, 4, .inl (fun _ => 0)))], [(qm 160, .inl (kA 0, 2010, .inl (fun _ => 0)))], [(qm 161, .inl (kA 3, 2010, .inr (.inl fl0)))], [(qm 162, .inl (kA 0, 2010, .inl f0))], [(qm 163, .inl (kA 0, 2010, .inl f1))], [(qm 2, .inl (kA 0, 66836, .inl all0))], [(qm 21, .inl (kA 2, 576, .inl f2))], [(qm 73, .inl (kA 0, 864, .inl f3))]]) s.heap.size = A at hD ⊢
  have hA : ∀ q : Nat, s.heap.size ≤ q → A q := fun q h => by rw [← hAe]; exact Or.inr h
  have hS : va_S A s.heap s.heap [] := va_S.rf
  obtain ⟨hx, hb, hml, hown, hts, hr, hlk, hnm⟩ := id X
  have hl : lv_has ls 6 [(0, .ref a0), (1, .int (nI j)), (2, .int 0)] := hl
  have hP : va_P D classes (cat [[(a0, .inr (13, mF qm x0Mo y0Mo))], [(qm 3, .inl (kA 0, 4, .inl (fun _ => 0)))], [(qm 160, .inl (kA 0, 2010, .inl (fun _ => 0)))], [(qm 161, .inl (kA 3, 2010, .inr (.inl fl0)))], [(qm 162, .inl (kA 0, 2010, .inl f0))], [(qm 163, .inl (kA 0, 2010, .inl f1))], [(qm 2, .inl (kA 0, 66836, .inl all0))], [(qm 21, .inl (kA 2, 576, .inl f2))], [(qm 73, .inl (kA 0, 864, .inl f3))]]) s.heap := hP
  have hK : va_K D classes (TY kA) s := hK
  refine lv_iload_n (pc := 0) hx hb d_Mo_style_0 rfl (lv_at hl 1 rfl) ?_
  refine k_goI (gr := [[(a0, .inr (13, mF qm x0Mo y0Mo))], [(qm 3, .inl (kA 0, 4, .inl (fun _ => 0)))], [(qm 160, .inl (kA 0, 2010, .inl (fun _ => 0)))], [(qm 161, .inl (kA 3, 2010, .inr (.inl fl0)))], [(qm 162, .inl (kA 0, 2010, .inl f0))], [(qm 163, .inl (kA 0, 2010, .inl f1))], [(qm 2, .inl (kA 0, 66836, .inl all0))], [(qm 21, .inl (kA 2, 576, .inl f2))], [(qm 73, .inl (kA 0, 864, .inl f3))]]) (k_rS (pc := 1) (As := [.int (nI j)]) (rest := []) X (c_Mo_isPlace l D kA (nI j) s.heap.size) rfl wm_2978 wm_9 wm_2976 wm_2977 1 (by decide +kernel) ⟨Nat.le_of_ble_eq_true rfl, Nat.le_of_ble_eq_true rfl⟩ rfl rfl (k_pre hN hK hP hD [] [0, 1, 2, 3, 4, 5, 6, 7, 8] 9 rfl (by decide) rfl) rfl hl.1 rfl (Nat.le_of_ble_eq_true rfl) d_Mo_style_1 ⟨Nat.le_of_ble_eq_true rfl, Nat.le_of_ble_eq_true rfl⟩) hP hD hS hA [] [0, 1, 2, 3, 4, 5, 6, 7, 8] 9 rfl (by decide) rfl rfl (fun r1 u2 H locs hu2 hP hD hS => ?_)
  subst hu2
  refine k_cst (v := 1) (placeM_ok hj) ?_
  have hP : va_P D classes (cat [[(a0, .inr (13, mF qm x0Mo y0Mo))], [(qm 3, .inl (kA 0, 4, .inl (fun _ => 0)))], [(qm 160, .inl (kA 0, 2010, .inl (fun _ => 0)))], [(qm 161, .inl (kA 3, 2010, .inr (.inl fl0)))], [(qm 162, .inl (kA 0, 2010, .inl f0))], [(qm 163, .inl (kA 0, 2010, .inl f1))], [(qm 2, .inl (kA 0, 66836, .inl all0))], [(qm 21, .inl (kA 2, 576, .inl f2))], [(qm 73, .inl (kA 0, 864, .inl f3))]]) H := hP
  have hD : va_D A (cat [[(a0, .inr (13, mF qm x0Mo y0Mo))], [(qm 3, .inl (kA 0, 4, .inl (fun _ => 0)))], [(qm 160, .inl (kA 0, 2010, .inl (fun _ => 0)))], [(qm 161, .inl (kA 3, 2010, .inr (.inl fl0)))], [(qm 162, .inl (kA 0, 2010, .inl f0))], [(qm 163, .inl (kA 0, 2010, .inl f1))], [(qm 2, .inl (kA 0, 66836, .inl all0))], [(qm 21, .inl (kA 2, 576, .inl f2))], [(qm 73, .inl (kA 0, 864, .inl f3))]]) := hD
  refine lv_if_eq (pc := 4) (tgt := 19) hx hb d_Mo_style_4 (by decide) (fun c1 => absurd c1 (by decide)) (fun c1 => ?_)
  refine lv_iload_n (pc := 7) hx hb d_Mo_style_7 rfl (lv_at hl 2 rfl) ?_
  refine lv_if_lt (pc := 8) (tgt := 19) hx hb d_Mo_style_8 (by decide) (fun c1 => absurd c1 (by decide)) (fun c1 => ?_)
  refine lv_iload_n (pc := 11) hx hb d_Mo_style_11 rfl (lv_at hl 2 rfl) ?_
  refine lv_aload_n (pc := 12) hx hb d_Mo_style_12 rfl (lv_at hl 0 rfl) ?_
  refine k_get (pc := 13) (v := .int 0) X hK hP 0 rfl rfl i_Mo 0 (by decide) wm_2433 rfl rfl d_Mo_style_13 ?_
  refine lv_icmp_le (pc := 16) (tgt := 22) hx hb d_Mo_style_16 (by decide) (fun _ => ?_) (fun c1 => absurd (by decide) c1)
  refine lv_aload_n (pc := 22) hx hb d_Mo_style_22 rfl (lv_at hl 0 rfl) ?_
  refine lv_iconst (pc := 23) (v := 0) hx hb d_Mo_style_23 (by decide) ?_
  refine k_put (pc := 24) X hK hP hD hS 0 rfl rfl i_Mo t_Mo t_Mo_ok n_Mo 0 (by decide) wm_2433 rfl (Or.inl rfl) rfl rfl (Nat.le_of_ble_eq_true rfl) d_Mo_style_24 (fun H locs hP hD hS => ?_)
  have hP : va_P D classes (cat [[(a0, .inr (13, mF qm x0Mo y0Mo))], [(qm 3, .inl (kA 0, 4, .inl (fun _ => 0)))], [(qm 160, .inl (kA 0, 2010, .inl (fun _ => 0)))], [(qm 161, .inl (kA 3, 2010, .inr (.inl fl0)))], [(qm 162, .inl (kA 0, 2010, .inl f0))], [(qm 163, .inl (kA 0, 2010, .inl f1))], [(qm 2, .inl (kA 0, 66836, .inl all0))], [(qm 21, .inl (kA 2, 576, .inl f2))], [(qm 73, .inl (kA 0, 864, .inl f3))]]) H := hP
  have hD : va_D A (cat [[(a0, .inr (13, mF qm x0Mo y0Mo))], [(qm 3, .inl (kA 0, 4, .inl (fun _ => 0)))], [(qm 160, .inl (kA 0, 2010, .inl (fun _ => 0)))], [(qm 161, .inl (kA 3, 2010, .inr (.inl fl0)))], [(qm 162, .inl (kA 0, 2010, .inl f0))], [(qm 163, .inl (kA 0, 2010, .inl f1))], [(qm 2, .inl (kA 0, 66836, .inl all0))], [(qm 21, .inl (kA 2, 576, .inl f2))], [(qm 73, .inl (kA 0, 864, .inl f3))]]) := hD
  refine lv_aload_n (pc := 27) hx hb d_Mo_style_27 rfl (lv_at hl 0 rfl) ?_
  refine lv_iconst (pc := 28) (v := 1) hx hb d_Mo_style_28 (by decide) ?_
  refine k_put (pc := 29) X hK hP hD hS 0 rfl rfl i_Mo t_Mo t_Mo_ok n_Mo 7 (by decide) wm_2440 rfl (Or.inl rfl) rfl rfl (Nat.le_of_ble_eq_true rfl) d_Mo_style_29 (fun H locs hP hD hS => ?_)
  have hP : va_P D classes (cat [[(a0, .inr (13, mF qm (va_up x0Mo 7 1) y0Mo))], [(qm 3, .inl (kA 0, 4, .inl (fun _ => 0)))], [(qm 160, .inl (kA 0, 2010, .inl (fun _ => 0)))], [(qm 161, .inl (kA 3, 2010, .inr (.inl fl0)))], [(qm 162, .inl (kA 0, 2010, .inl f0))], [(qm 163, .inl (kA 0, 2010, .inl f1))], [(qm 2, .inl (kA 0, 66836, .inl all0))], [(qm 21, .inl (kA 2, 576, .inl f2))], [(qm 73, .inl (kA 0, 864, .inl f3))]]) H := hP
  have hD : va_D A (cat [[(a0, .inr (13, mF qm (va_up x0Mo 7 1) y0Mo))], [(qm 3, .inl (kA 0, 4, .inl (fun _ => 0)))], [(qm 160, .inl (kA 0, 2010, .inl (fun _ => 0)))], [(qm 161, .inl (kA 3, 2010, .inr (.inl fl0)))], [(qm 162, .inl (kA 0, 2010, .inl f0))], [(qm 163, .inl (kA 0, 2010, .inl f1))], [(qm 2, .inl (kA 0, 66836, .inl all0))], [(qm 21, .inl (kA 2, 576, .inl f2))], [(qm 73, .inl (kA 0, 864, .inl f3))]]) := hD
  refine lv_aload_n (pc := 32) hx hb d_Mo_style_32 rfl (lv_at hl 0 rfl) ?_
  refine lv_iconst (pc := 33) (v := 0) hx hb d_Mo_style_33 (by decide) ?_
  refine k_put (pc := 34) X hK hP hD hS 0 rfl rfl i_Mo t_Mo t_Mo_ok n_Mo 8 (by decide) wm_2441 rfl (Or.inl rfl) rfl rfl (Nat.le_of_ble_eq_true rfl) d_Mo_style_34 (fun H locs hP hD hS => ?_)
  have hP : va_P D classes (cat [[(a0, .inr (13, mF qm (va_up x0Mo 7 1) y0Mo))], [(qm 3, .inl (kA 0, 4, .inl (fun _ => 0)))], [(qm 160, .inl (kA 0, 2010, .inl (fun _ => 0)))], [(qm 161, .inl (kA 3, 2010, .inr (.inl fl0)))], [(qm 162, .inl (kA 0, 2010, .inl f0))], [(qm 163, .inl (kA 0, 2010, .inl f1))], [(qm 2, .inl (kA 0, 66836, .inl all0))], [(qm 21, .inl (kA 2, 576, .inl f2))], [(qm 73, .inl (kA 0, 864, .inl f3))]]) H := hP
  have hD : va_D A (cat [[(a0, .inr (13, mF qm (va_up x0Mo 7 1) y0Mo))], [(qm 3, .inl (kA 0, 4, .inl (fun _ => 0)))], [(qm 160, .inl (kA 0, 2010, .inl (fun _ => 0)))], [(qm 161, .inl (kA 3, 2010, .inr (.inl fl0)))], [(qm 162, .inl (kA 0, 2010, .inl f0))], [(qm 163, .inl (kA 0, 2010, .inl f1))], [(qm 2, .inl (kA 0, 66836, .inl all0))], [(qm 21, .inl (kA 2, 576, .inl f2))], [(qm 73, .inl (kA 0, 864, .inl f3))]]) := hD
  refine lv_aload_n (pc := 37) hx hb d_Mo_style_37 rfl (lv_at hl 0 rfl) ?_
  refine lv_iload_n (pc := 38) hx hb d_Mo_style_38 rfl (lv_at hl 1 rfl) ?_
  refine k_goV (gr := [[(qm 160, .inl (kA 0, 2010, .inl (fun _ => 0)))], [(qm 161, .inl (kA 3, 2010, .inr (.inl fl0)))], [(qm 162, .inl (kA 0, 2010, .inl f0))], [(qm 163, .inl (kA 0, 2010, .inl f1))], [(qm 2, .inl (kA 0, 66836, .inl all0))], [(qm 21, .inl (kA 2, 576, .inl f2))], [(qm 73, .inl (kA 0, 864, .inl f3))]]) (k_rV (pc := 39) (As := [.int (nI j)]) (rest := []) X (c_Mo_take_z3 l D kA a0 j qm hj H.size) rfl wm_3091 wm_9 wm_3088 wm_3090 wv_14_2 1 (by decide +kernel) ⟨Nat.le_of_ble_eq_true rfl, Nat.le_of_ble_eq_true rfl⟩ rfl rfl (va_recv hK hP (ci := 13) (q0 := 0) rfl rfl) (k_pre hN hK hP hD [0, 1] [2, 3, 4, 5, 6, 7, 8] 9 rfl (by decide) rfl) rfl hl.1 rfl (Nat.le_of_ble_eq_true rfl) d_Mo_style_39 ⟨Nat.le_of_ble_eq_true rfl, Nat.le_of_ble_eq_true rfl⟩) hP hD hS hA [0, 1] [2, 3, 4, 5, 6, 7, 8] 9 rfl (by decide) rfl rfl (fun u3 H locs hu3 hP hD hS => ?_)
  have hP : va_P D classes (cat [[(qm 160, .inl (kA 0, 2010, .inl (fun _ => 0)))], [(qm 161, .inl (kA 3, 2010, .inr (.inl fl0)))], [(qm 162, .inl (kA 0, 2010, .inl f0))], [(qm 163, .inl (kA 0, 2010, .inl f1))], [(qm 2, .inl (kA 0, 66836, .inl all0))], [(qm 21, .inl (kA 2, 576, .inl f2))], [(qm 73, .inl (kA 0, 864, .inl f3))], [(a0, .inr (13, mF qm (va_up (va_up x0Mo 5 (nI (539 * (31 * j + 0)))) 7 1) y0Mo))], [(qm 3, .inl (kA 0, 4, .inl (fun _ => 0)))]]) H := hP
  have hD : va_D A (cat [[(qm 160, .inl (kA 0, 2010, .inl (fun _ => 0)))], [(qm 161, .inl (kA 3, 2010, .inr (.inl fl0)))], [(qm 162, .inl (kA 0, 2010, .inl f0))], [(qm 163, .inl (kA 0, 2010, .inl f1))], [(qm 2, .inl (kA 0, 66836, .inl all0))], [(qm 21, .inl (kA 2, 576, .inl f2))], [(qm 73, .inl (kA 0, 864, .inl f3))], [(a0, .inr (13, mF qm (va_up (va_up x0Mo 5 (nI (539 * (31 * j + 0)))) 7 1) y0Mo))], [(qm 3, .inl (kA 0, 4, .inl (fun _ => 0)))]]) := hD
  refine lv_aload_n (pc := 42) hx hb d_Mo_style_42 rfl (lv_at hl 0 rfl) ?_
  refine lv_iload_n (pc := 43) hx hb d_Mo_style_43 rfl (lv_at hl 1 rfl) ?_
  refine k_put (pc := 44) X hK hP hD hS 7 rfl rfl i_Mo t_Mo t_Mo_ok n_Mo 139 (by decide) wm_2571 rfl (Or.inl rfl) rfl rfl (Nat.le_of_ble_eq_true rfl) d_Mo_style_44 (fun H locs hP hD hS => ?_)
  have hP : va_P D classes (cat [[(qm 160, .inl (kA 0, 2010, .inl (fun _ => 0)))], [(qm 161, .inl (kA 3, 2010, .inr (.inl fl0)))], [(qm 162, .inl (kA 0, 2010, .inl f0))], [(qm 163, .inl (kA 0, 2010, .inl f1))], [(qm 2, .inl (kA 0, 66836, .inl all0))], [(qm 21, .inl (kA 2, 576, .inl f2))], [(qm 73, .inl (kA 0, 864, .inl f3))], [(a0, .inr (13, mF qm (va_up (va_up (va_up x0Mo 5 (nI (539 * (31 * j + 0)))) 7 1) 139 (nI j)) y0Mo))], [(qm 3, .inl (kA 0, 4, .inl (fun _ => 0)))]]) H := hP
  have hD : va_D A (cat [[(qm 160, .inl (kA 0, 2010, .inl (fun _ => 0)))], [(qm 161, .inl (kA 3, 2010, .inr (.inl fl0)))], [(qm 162, .inl (kA 0, 2010, .inl f0))], [(qm 163, .inl (kA 0, 2010, .inl f1))], [(qm 2, .inl (kA 0, 66836, .inl all0))], [(qm 21, .inl (kA 2, 576, .inl f2))], [(qm 73, .inl (kA 0, 864, .inl f3))], [(a0, .inr (13, mF qm (va_up (va_up (va_up x0Mo 5 (nI (539 * (31 * j + 0)))) 7 1) 139 (nI j)) y0Mo))], [(qm 3, .inl (kA 0, 4, .inl (fun _ => 0)))]]) := hD
  refine lv_aload_n (pc := 47) hx hb d_Mo_style_47 rfl (lv_at hl 0 rfl) ?_
  refine lv_iload_n (pc := 48) hx hb d_Mo_style_48 rfl (lv_at hl 2 rfl) ?_
  refine k_goV (gr := [[(qm 2, .inl (kA 0, 66836, .inl all0))], [(qm 21, .inl (kA 2, 576, .inl f2))], [(qm 73, .inl (kA 0, 864, .inl f3))], [(qm 3, .inl (kA 0, 4, .inl (fun _ => 0)))]]) (k_rV (pc := 49) (As := [.int 0]) (rest := []) X (c_Mo_styleTokens_z1 l D kA a0 qm j (fun _ => 0) fl0 f0 f1 hj H.size) rfl wm_3798 wm_9 wm_3795 wm_3797 wv_23_4 1 (by decide +kernel) ⟨Nat.le_of_ble_eq_true rfl, Nat.le_of_ble_eq_true rfl⟩ rfl rfl (va_recv hK hP (ci := 13) (q0 := 7) rfl rfl) (k_pre hN hK hP hD [7, 0, 1, 2, 3] [4, 5, 6, 8] 9 rfl (by decide) rfl) rfl hl.1 rfl (Nat.le_of_ble_eq_true rfl) d_Mo_style_49 ⟨Nat.le_of_ble_eq_true rfl, Nat.le_of_ble_eq_true rfl⟩) hP hD hS hA [7, 0, 1, 2, 3] [4, 5, 6, 8] 9 rfl (by decide) rfl rfl (fun u4 H locs hu4 hP hD hS => ?_)
  have hP : va_P D classes (cat [[(qm 2, .inl (kA 0, 66836, .inl all0))], [(qm 21, .inl (kA 2, 576, .inl f2))], [(qm 73, .inl (kA 0, 864, .inl f3))], [(qm 3, .inl (kA 0, 4, .inl (fun _ => 0)))], [(a0, .inr (13, mF qm (va_up (va_up (va_up (va_up x0Mo 5 (nI (539 * (31 * j + 0)))) 7 1) 139 (nI j)) 157 1) y0Mo))], [(qm 160, .inl (kA 0, 2010, .inl (upd ((fun _ => 0)) 0 0)))], [(qm 161, .inl (kA 3, 2010, .inr (.inl (vp_updL fl0 0 ((-1))))))], [(qm 162, .inl (kA 0, 2010, .inl (upd (f0) 0 0)))], [(qm 163, .inl (kA 0, 2010, .inl (upd (f1) 0 0)))]]) H := hP
  have hD : va_D A (cat [[(qm 2, .inl (kA 0, 66836, .inl all0))], [(qm 21, .inl (kA 2, 576, .inl f2))], [(qm 73, .inl (kA 0, 864, .inl f3))], [(qm 3, .inl (kA 0, 4, .inl (fun _ => 0)))], [(a0, .inr (13, mF qm (va_up (va_up (va_up (va_up x0Mo 5 (nI (539 * (31 * j + 0)))) 7 1) 139 (nI j)) 157 1) y0Mo))], [(qm 160, .inl (kA 0, 2010, .inl (upd ((fun _ => 0)) 0 0)))], [(qm 161, .inl (kA 3, 2010, .inr (.inl (vp_updL fl0 0 ((-1))))))], [(qm 162, .inl (kA 0, 2010, .inl (upd (f0) 0 0)))], [(qm 163, .inl (kA 0, 2010, .inl (upd (f1) 0 0)))]]) := hD
  refine lv_aload_n (pc := 52) hx hb d_Mo_style_52 rfl (lv_at hl 0 rfl) ?_
  refine lv_iconst (pc := 53) (v := 0) hx hb d_Mo_style_53 (by decide) ?_
  refine k_put (pc := 54) X hK hP hD hS 4 rfl rfl i_Mo t_Mo t_Mo_ok n_Mo 159 (by decide) wm_2591 rfl (Or.inl rfl) rfl rfl (Nat.le_of_ble_eq_true rfl) d_Mo_style_54 (fun H locs hP hD hS => ?_)
  have hP : va_P D classes (cat [[(qm 2, .inl (kA 0, 66836, .inl all0))], [(qm 21, .inl (kA 2, 576, .inl f2))], [(qm 73, .inl (kA 0, 864, .inl f3))], [(qm 3, .inl (kA 0, 4, .inl (fun _ => 0)))], [(a0, .inr (13, mF qm (va_up (va_up (va_up (va_up x0Mo 5 (nI (539 * (31 * j + 0)))) 7 1) 139 (nI j)) 157 1) y0Mo))], [(qm 160, .inl (kA 0, 2010, .inl (upd ((fun _ => 0)) 0 0)))], [(qm 161, .inl (kA 3, 2010, .inr (.inl (vp_updL fl0 0 ((-1))))))], [(qm 162, .inl (kA 0, 2010, .inl (upd (f0) 0 0)))], [(qm 163, .inl (kA 0, 2010, .inl (upd (f1) 0 0)))]]) H := hP
  have hD : va_D A (cat [[(qm 2, .inl (kA 0, 66836, .inl all0))], [(qm 21, .inl (kA 2, 576, .inl f2))], [(qm 73, .inl (kA 0, 864, .inl f3))], [(qm 3, .inl (kA 0, 4, .inl (fun _ => 0)))], [(a0, .inr (13, mF qm (va_up (va_up (va_up (va_up x0Mo 5 (nI (539 * (31 * j + 0)))) 7 1) 139 (nI j)) 157 1) y0Mo))], [(qm 160, .inl (kA 0, 2010, .inl (upd ((fun _ => 0)) 0 0)))], [(qm 161, .inl (kA 3, 2010, .inr (.inl (vp_updL fl0 0 ((-1))))))], [(qm 162, .inl (kA 0, 2010, .inl (upd (f0) 0 0)))], [(qm 163, .inl (kA 0, 2010, .inl (upd (f1) 0 0)))]]) := hD
  refine lv_aload_n (pc := 57) hx hb d_Mo_style_57 rfl (lv_at hl 0 rfl) ?_
  refine lv_iconst (pc := 58) (v := -1) hx hb d_Mo_style_58 (by decide) ?_
  refine k_put (pc := 59) X hK hP hD hS 4 rfl rfl i_Mo t_Mo t_Mo_ok n_Mo 165 (by decide) wm_2597 rfl (Or.inl rfl) rfl rfl (Nat.le_of_ble_eq_true rfl) d_Mo_style_59 (fun H locs hP hD hS => ?_)
  have hP : va_P D classes (cat [[(qm 2, .inl (kA 0, 66836, .inl all0))], [(qm 21, .inl (kA 2, 576, .inl f2))], [(qm 73, .inl (kA 0, 864, .inl f3))], [(qm 3, .inl (kA 0, 4, .inl (fun _ => 0)))], [(a0, .inr (13, mF qm (va_up (va_up (va_up (va_up (va_up x0Mo 5 (nI (539 * (31 * j + 0)))) 7 1) 139 (nI j)) 157 1) 165 (-1)) y0Mo))], [(qm 160, .inl (kA 0, 2010, .inl (upd ((fun _ => 0)) 0 0)))], [(qm 161, .inl (kA 3, 2010, .inr (.inl (vp_updL fl0 0 ((-1))))))], [(qm 162, .inl (kA 0, 2010, .inl (upd (f0) 0 0)))], [(qm 163, .inl (kA 0, 2010, .inl (upd (f1) 0 0)))]]) H := hP
  have hD : va_D A (cat [[(qm 2, .inl (kA 0, 66836, .inl all0))], [(qm 21, .inl (kA 2, 576, .inl f2))], [(qm 73, .inl (kA 0, 864, .inl f3))], [(qm 3, .inl (kA 0, 4, .inl (fun _ => 0)))], [(a0, .inr (13, mF qm (va_up (va_up (va_up (va_up (va_up x0Mo 5 (nI (539 * (31 * j + 0)))) 7 1) 139 (nI j)) 157 1) 165 (-1)) y0Mo))], [(qm 160, .inl (kA 0, 2010, .inl (upd ((fun _ => 0)) 0 0)))], [(qm 161, .inl (kA 3, 2010, .inr (.inl (vp_updL fl0 0 ((-1))))))], [(qm 162, .inl (kA 0, 2010, .inl (upd (f0) 0 0)))], [(qm 163, .inl (kA 0, 2010, .inl (upd (f1) 0 0)))]]) := hD
  refine lv_iconst (pc := 62) (v := 0) hx hb d_Mo_style_62 (by decide) ?_
  refine lv_istore_n (pc := 63) (lv' := [(3, .int 0), (0, .ref a0), (1, .int (nI j)), (2, .int 0)]) hx hb d_Mo_style_63 rfl hl (by decide) rfl (fun ls hl => ?_)
  refine lv_aload_n (pc := 64) hx hb d_Mo_style_64 rfl (lv_at hl 1 rfl) ?_
  refine lv_iconst (pc := 65) (v := 0) hx hb d_Mo_style_65 (by decide) ?_
  refine k_put (pc := 66) X hK hP hD hS 4 rfl rfl i_Mo t_Mo t_Mo_ok n_Mo 158 (by decide) wm_2590 rfl (Or.inl rfl) rfl rfl (Nat.le_of_ble_eq_true rfl) d_Mo_style_66 (fun H locs hP hD hS => ?_)
  have hP : va_P D classes (cat [[(qm 2, .inl (kA 0, 66836, .inl all0))], [(qm 21, .inl (kA 2, 576, .inl f2))], [(qm 73, .inl (kA 0, 864, .inl f3))], [(qm 3, .inl (kA 0, 4, .inl (fun _ => 0)))], [(a0, .inr (13, mF qm (va_up (va_up (va_up (va_up (va_up x0Mo 5 (nI (539 * (31 * j + 0)))) 7 1) 139 (nI j)) 157 1) 165 (-1)) y0Mo))], [(qm 160, .inl (kA 0, 2010, .inl (upd ((fun _ => 0)) 0 0)))], [(qm 161, .inl (kA 3, 2010, .inr (.inl (vp_updL fl0 0 ((-1))))))], [(qm 162, .inl (kA 0, 2010, .inl (upd (f0) 0 0)))], [(qm 163, .inl (kA 0, 2010, .inl (upd (f1) 0 0)))]]) H := hP
  have hD : va_D A (cat [[(qm 2, .inl (kA 0, 66836, .inl all0))], [(qm 21, .inl (kA 2, 576, .inl f2))], [(qm 73, .inl (kA 0, 864, .inl f3))], [(qm 3, .inl (kA 0, 4, .inl (fun _ => 0)))], [(a0, .inr (13, mF qm (va_up (va_up (va_up (va_up (va_up x0Mo 5 (nI (539 * (31 * j + 0)))) 7 1) 139 (nI j)) 157 1) 165 (-1)) y0Mo))], [(qm 160, .inl (kA 0, 2010, .inl (upd ((fun _ => 0)) 0 0)))], [(qm 161, .inl (kA 3, 2010, .inr (.inl (vp_updL fl0 0 ((-1))))))], [(qm 162, .inl (kA 0, 2010, .inl (upd (f0) 0 0)))], [(qm 163, .inl (kA 0, 2010, .inl (upd (f1) 0 0)))]]) := hD
  refine lv_aload_n (pc := 69) hx hb d_Mo_style_69 rfl (lv_at hl 1 rfl) ?_
  refine k_get (pc := 70) (v := .int 0) X hK hP 4 rfl rfl i_Mo 8 (by decide) wm_2441 rfl rfl d_Mo_style_70 ?_
  refine lv_if_ne (pc := 73) (tgt := 98) hx hb d_Mo_style_73 (by decide) (fun c1 => absurd (by decide) c1) (fun c1 => ?_)
  refine lv_aload_n (pc := 76) hx hb d_Mo_style_76 rfl (lv_at hl 1 rfl) ?_
  refine k_get (pc := 77) (v := .ref (qm 160)) X hK hP 4 rfl rfl i_Mo 160 (by decide) wm_2592 rfl rfl d_Mo_style_77 ?_
  refine lv_aload_n (pc := 80) hx hb d_Mo_style_80 rfl (lv_at hl 1 rfl) ?_
  refine k_get (pc := 81) (v := .int 0) X hK hP 4 rfl rfl i_Mo 158 (by decide) wm_2590 rfl rfl d_Mo_style_81 ?_
  refine k_ild (pc := 84) hx hb hK hP 5 0 rfl rfl (0) rfl (by decide) (by decide) d_Mo_style_84 ?_
  refine k_cst (v := 0) (by rfl) ?_
  refine lv_if_eq (pc := 85) (tgt := 98) hx hb d_Mo_style_85 (by decide) (fun c1 => ?_) (fun c1 => absurd (by decide) c1)
  refine lv_aload_n (pc := 98) hx hb d_Mo_style_98 rfl (lv_at hl 1 rfl) ?_
  refine k_get (pc := 99) (v := .int 0) X hK hP 4 rfl rfl i_Mo 8 (by decide) wm_2441 rfl rfl d_Mo_style_99 ?_
  refine lv_if_le (pc := 102) (tgt := 107) hx hb d_Mo_style_102 (by decide) (fun c1 => ?_) (fun c1 => absurd (by decide) c1)
  refine lv_aload_n (pc := 107) hx hb d_Mo_style_107 rfl (lv_at hl 1 rfl) ?_
  refine k_goV (gr := [[(qm 73, .inl (kA 0, 864, .inl f3))], [(qm 3, .inl (kA 0, 4, .inl (fun _ => 0)))], [(qm 160, .inl (kA 0, 2010, .inl (upd ((fun _ => 0)) 0 0)))], [(qm 161, .inl (kA 3, 2010, .inr (.inl (vp_updL fl0 0 ((-1))))))], [(qm 162, .inl (kA 0, 2010, .inl (upd (f0) 0 0)))], [(qm 163, .inl (kA 0, 2010, .inl (upd (f1) 0 0)))]]) (k_rV (pc := 108) (As := []) (rest := []) X (c_Mo_prepare_z1 l D kA a0 qm j f2 hj H.size) rfl wm_3893 wm_9 wm_3890 wm_3892 wv_24_5 0 (by decide +kernel) ⟨Nat.le_of_ble_eq_true rfl, Nat.le_of_ble_eq_true rfl⟩ rfl rfl (va_recv hK hP (ci := 13) (q0 := 4) rfl rfl) (k_pre hN hK hP hD [4, 0, 1] [2, 3, 5, 6, 7, 8] 9 rfl (by decide) rfl) rfl hl.1 rfl (Nat.le_of_ble_eq_true rfl) d_Mo_style_108 ⟨Nat.le_of_ble_eq_true rfl, Nat.le_of_ble_eq_true rfl⟩) hP hD hS hA [4, 0, 1] [2, 3, 5, 6, 7, 8] 9 rfl (by decide) rfl rfl (fun u5 H locs hu5 hP hD hS => ?_)
  have hP : va_P D classes (cat [[(qm 73, .inl (kA 0, 864, .inl f3))], [(qm 3, .inl (kA 0, 4, .inl (fun _ => 0)))], [(qm 160, .inl (kA 0, 2010, .inl (upd ((fun _ => 0)) 0 0)))], [(qm 161, .inl (kA 3, 2010, .inr (.inl (vp_updL fl0 0 ((-1))))))], [(qm 162, .inl (kA 0, 2010, .inl (upd (f0) 0 0)))], [(qm 163, .inl (kA 0, 2010, .inl (upd (f1) 0 0)))], [(a0, .inr (13, mF qm (va_up (va_up (va_up (va_up (va_up x0Mo 5 (nI (539 * (31 * j + 0)))) 7 1) 139 (nI j)) 157 1) 165 (-1)) y0Mo))], [(qm 2, .inl (kA 0, 66836, .inl all0))], [(qm 21, .inl (kA 2, 576, .inl (u5.2 0)))]]) H := hP
  have hD : va_D A (cat [[(qm 73, .inl (kA 0, 864, .inl f3))], [(qm 3, .inl (kA 0, 4, .inl (fun _ => 0)))], [(qm 160, .inl (kA 0, 2010, .inl (upd ((fun _ => 0)) 0 0)))], [(qm 161, .inl (kA 3, 2010, .inr (.inl (vp_updL fl0 0 ((-1))))))], [(qm 162, .inl (kA 0, 2010, .inl (upd (f0) 0 0)))], [(qm 163, .inl (kA 0, 2010, .inl (upd (f1) 0 0)))], [(a0, .inr (13, mF qm (va_up (va_up (va_up (va_up (va_up x0Mo 5 (nI (539 * (31 * j + 0)))) 7 1) 139 (nI j)) 157 1) 165 (-1)) y0Mo))], [(qm 2, .inl (kA 0, 66836, .inl all0))], [(qm 21, .inl (kA 2, 576, .inl (u5.2 0)))]]) := hD
  obtain ⟨f950, hf950⟩ : ∃ z : Nat → Int32, u5.2 0 = z := ⟨_, rfl⟩
  rw [hf950] at hP hD
  refine lv_iconst (pc := 111) (v := 0) hx hb d_Mo_style_111 (by decide) ?_
  refine lv_istore (pc := 112) (lv' := [(4, .int 0), (3, .int 0), (0, .ref a0), (1, .int (nI j)), (2, .int 0)]) hx hb d_Mo_style_112 hl (by decide) rfl (fun ls hl => ?_)
  refine lp1_Mo_style_z4 X hK qm fl0 f0 f1 a0 j f950 hj (fun f910 H locs ls hP hD hS hl => ?_) 216 0 (by omega) _ _ _ ls hP hD hS (lv_sub hl [0, 1, 2, 3, 4] rfl)
  refine lv_iconst (pc := 142) (v := 0) hx hb d_Mo_style_142 (by decide) ?_
  refine lv_istore (pc := 143) (lv' := [(4, .int 0), (3, .int 0), (0, .ref a0), (1, .int (nI j)), (2, .int 0)]) hx hb d_Mo_style_143 hl (by decide) rfl (fun ls hl => ?_)
  refine lv_iload (pc := 145) hx hb d_Mo_style_145 (lv_at hl 0 rfl) ?_
  refine lv_iconst (pc := 147) (v := 2) hx hb d_Mo_style_147 (by decide) ?_
  refine lv_icmp_ge (pc := 148) (tgt := 241) hx hb d_Mo_style_148 (by decide) (fun c1 => absurd c1 (by decide)) (fun _ => ?_)
  refine lv_iconst (pc := 151) (v := 0) hx hb d_Mo_style_151 (by decide) ?_
  refine lv_istore (pc := 152) (lv' := [(5, .int 0), (4, .int 0), (3, .int 0), (0, .ref a0), (1, .int (nI j)), (2, .int 0)]) hx hb d_Mo_style_152 hl (by decide) rfl (fun ls hl => ?_)
  refine lv_iload (pc := 154) hx hb d_Mo_style_154 (lv_at hl 0 rfl) ?_
  refine lv_iload (pc := 156) hx hb d_Mo_style_156 (lv_at hl 1 rfl) ?_
  refine lv_if_ne (pc := 158) (tgt := 168) hx hb d_Mo_style_158 (by decide) (fun c1 => absurd (by decide) c1) (fun c1 => ?_)
  refine lv_aload_n (pc := 161) hx hb d_Mo_style_161 rfl (lv_at hl 3 rfl) ?_
  refine k_goI (gr := [[(qm 73, .inl (kA 0, 864, .inl f910))], [(qm 3, .inl (kA 0, 4, .inl (fun _ => 0)))], [(qm 160, .inl (kA 0, 2010, .inl (upd ((fun _ => 0)) 0 0)))], [(qm 161, .inl (kA 3, 2010, .inr (.inl (vp_updL fl0 0 ((-1))))))], [(qm 162, .inl (kA 0, 2010, .inl (upd (f0) 0 0)))], [(qm 163, .inl (kA 0, 2010, .inl (upd (f1) 0 0)))], [(qm 21, .inl (kA 2, 576, .inl f950))]]) (k_rV (pc := 162) (As := []) (rest := [.int 0]) X (c_Mo_nodes_z3 l D kA a0 qm j hj H.size) rfl wm_3025 wm_9 wm_3022 wm_3024 wv_13_3 0 (by decide +kernel) ⟨Nat.le_of_ble_eq_true rfl, Nat.le_of_ble_eq_true rfl⟩ rfl rfl (va_recv hK hP (ci := 13) (q0 := 6) rfl rfl) (k_pre hN hK hP hD [6, 7] [0, 1, 2, 3, 4, 5, 8] 9 rfl (by decide) rfl) rfl hl.1 rfl (Nat.le_of_ble_eq_true rfl) d_Mo_style_162 ⟨Nat.le_of_ble_eq_true rfl, Nat.le_of_ble_eq_true rfl⟩) hP hD hS hA [6, 7] [0, 1, 2, 3, 4, 5, 8] 9 rfl (by decide) rfl rfl (fun r7 u8 H locs hu8 hP hD hS => ?_)
  subst hu8
  have hP : va_P D classes (cat [[(qm 73, .inl (kA 0, 864, .inl f910))], [(qm 3, .inl (kA 0, 4, .inl (fun _ => 0)))], [(qm 160, .inl (kA 0, 2010, .inl (upd ((fun _ => 0)) 0 0)))], [(qm 161, .inl (kA 3, 2010, .inr (.inl (vp_updL fl0 0 ((-1))))))], [(qm 162, .inl (kA 0, 2010, .inl (upd (f0) 0 0)))], [(qm 163, .inl (kA 0, 2010, .inl (upd (f1) 0 0)))], [(qm 21, .inl (kA 2, 576, .inl f950))], [(a0, .inr (13, mF qm (va_up (va_up (va_up (va_up (va_up x0Mo 5 (nI (539 * (31 * j + 0)))) 7 1) 139 (nI j)) 157 1) 165 (-1)) y0Mo))], [(qm 2, .inl (kA 0, 66836, .inl all0))]]) H := hP
  have hD : va_D A (cat [[(qm 73, .inl (kA 0, 864, .inl f910))], [(qm 3, .inl (kA 0, 4, .inl (fun _ => 0)))], [(qm 160, .inl (kA 0, 2010, .inl (upd ((fun _ => 0)) 0 0)))], [(qm 161, .inl (kA 3, 2010, .inr (.inl (vp_updL fl0 0 ((-1))))))], [(qm 162, .inl (kA 0, 2010, .inl (upd (f0) 0 0)))], [(qm 163, .inl (kA 0, 2010, .inl (upd (f1) 0 0)))], [(qm 21, .inl (kA 2, 576, .inl f950))], [(a0, .inr (13, mF qm (va_up (va_up (va_up (va_up (va_up x0Mo 5 (nI (539 * (31 * j + 0)))) 7 1) 139 (nI j)) 157 1) 165 (-1)) y0Mo))], [(qm 2, .inl (kA 0, 66836, .inl all0))]]) := hD
  refine lv_goto (pc := 165) (tgt := 172) hx hb d_Mo_style_165 (by decide) ?_
  refine lv_icmp_ge (pc := 172) (tgt := 235) hx hb d_Mo_style_172 (by decide) (fun _ => ?_) (fun c1 => absurd (by decide) c1)
  refine lv_iinc (pc := 235) (v := 1) (lv' := [(4, .int 1), (5, .int 0), (3, .int 0), (0, .ref a0), (1, .int (nI j)), (2, .int 0)]) hx hb d_Mo_style_235 hl (k := 1) rfl (by decide) (by decide) rfl (fun ls hl => ?_)
  refine lv_goto (pc := 238) (tgt := 145) hx hb d_Mo_style_238 (by decide) ?_
  refine lv_iload (pc := 145) hx hb d_Mo_style_145 (lv_at hl 0 rfl) ?_
  refine lv_iconst (pc := 147) (v := 2) hx hb d_Mo_style_147 (by decide) ?_
  refine lv_icmp_ge (pc := 148) (tgt := 241) hx hb d_Mo_style_148 (by decide) (fun c1 => absurd c1 (by decide)) (fun _ => ?_)
  refine lv_iconst (pc := 151) (v := 0) hx hb d_Mo_style_151 (by decide) ?_
  refine lv_istore (pc := 152) (lv' := [(5, .int 0), (4, .int 1), (3, .int 0), (0, .ref a0), (1, .int (nI j)), (2, .int 0)]) hx hb d_Mo_style_152 hl (by decide) rfl (fun ls hl => ?_)
  refine lv_iload (pc := 154) hx hb d_Mo_style_154 (lv_at hl 0 rfl) ?_
  refine lv_iload (pc := 156) hx hb d_Mo_style_156 (lv_at hl 1 rfl) ?_
  refine lv_if_ne (pc := 158) (tgt := 168) hx hb d_Mo_style_158 (by decide) (fun c1 => ?_) (fun c1 => absurd c1 (by decide))
  refine lv_aload_n (pc := 168) hx hb d_Mo_style_168 rfl (lv_at hl 3 rfl) ?_
  refine k_goI (gr := [[(qm 73, .inl (kA 0, 864, .inl f910))], [(qm 3, .inl (kA 0, 4, .inl (fun _ => 0)))], [(qm 160, .inl (kA 0, 2010, .inl (upd ((fun _ => 0)) 0 0)))], [(qm 161, .inl (kA 3, 2010, .inr (.inl (vp_updL fl0 0 ((-1))))))], [(qm 162, .inl (kA 0, 2010, .inl (upd (f0) 0 0)))], [(qm 163, .inl (kA 0, 2010, .inl (upd (f1) 0 0)))], [(qm 21, .inl (kA 2, 576, .inl f950))]]) (k_rV (pc := 169) (As := []) (rest := [.int 0]) X (c_Mo_edges_z2 l D kA a0 qm j hj H.size) rfl wm_3037 wm_9 wm_3034 wm_3036 wv_13_6 0 (by decide +kernel) ⟨Nat.le_of_ble_eq_true rfl, Nat.le_of_ble_eq_true rfl⟩ rfl rfl (va_recv hK hP (ci := 13) (q0 := 7) rfl rfl) (k_pre hN hK hP hD [7, 8] [0, 1, 2, 3, 4, 5, 6] 9 rfl (by decide) rfl) rfl hl.1 rfl (Nat.le_of_ble_eq_true rfl) d_Mo_style_169 ⟨Nat.le_of_ble_eq_true rfl, Nat.le_of_ble_eq_true rfl⟩) hP hD hS hA [7, 8] [0, 1, 2, 3, 4, 5, 6] 9 rfl (by decide) rfl rfl (fun r9 u10 H locs hu10 hP hD hS => ?_)
  subst hu10
  have hP : va_P D classes (cat [[(qm 73, .inl (kA 0, 864, .inl f910))], [(qm 3, .inl (kA 0, 4, .inl (fun _ => 0)))], [(qm 160, .inl (kA 0, 2010, .inl (upd ((fun _ => 0)) 0 0)))], [(qm 161, .inl (kA 3, 2010, .inr (.inl (vp_updL fl0 0 ((-1))))))], [(qm 162, .inl (kA 0, 2010, .inl (upd (f0) 0 0)))], [(qm 163, .inl (kA 0, 2010, .inl (upd (f1) 0 0)))], [(qm 21, .inl (kA 2, 576, .inl f950))], [(a0, .inr (13, mF qm (va_up (va_up (va_up (va_up (va_up x0Mo 5 (nI (539 * (31 * j + 0)))) 7 1) 139 (nI j)) 157 1) 165 (-1)) y0Mo))], [(qm 2, .inl (kA 0, 66836, .inl all0))]]) H := hP
  have hD : va_D A (cat [[(qm 73, .inl (kA 0, 864, .inl f910))], [(qm 3, .inl (kA 0, 4, .inl (fun _ => 0)))], [(qm 160, .inl (kA 0, 2010, .inl (upd ((fun _ => 0)) 0 0)))], [(qm 161, .inl (kA 3, 2010, .inr (.inl (vp_updL fl0 0 ((-1))))))], [(qm 162, .inl (kA 0, 2010, .inl (upd (f0) 0 0)))], [(qm 163, .inl (kA 0, 2010, .inl (upd (f1) 0 0)))], [(qm 21, .inl (kA 2, 576, .inl f950))], [(a0, .inr (13, mF qm (va_up (va_up (va_up (va_up (va_up x0Mo 5 (nI (539 * (31 * j + 0)))) 7 1) 139 (nI j)) 157 1) 165 (-1)) y0Mo))], [(qm 2, .inl (kA 0, 66836, .inl all0))]]) := hD
  refine lv_icmp_ge (pc := 172) (tgt := 235) hx hb d_Mo_style_172 (by decide) (fun _ => ?_) (fun c1 => absurd (by decide) c1)
  refine lv_iinc (pc := 235) (v := 2) (lv' := [(4, .int 2), (5, .int 0), (3, .int 0), (0, .ref a0), (1, .int (nI j)), (2, .int 0)]) hx hb d_Mo_style_235 hl (k := 1) rfl (by decide) (by decide) rfl (fun ls hl => ?_)
  refine lv_goto (pc := 238) (tgt := 145) hx hb d_Mo_style_238 (by decide) ?_
  refine lv_iload (pc := 145) hx hb d_Mo_style_145 (lv_at hl 0 rfl) ?_
  refine lv_iconst (pc := 147) (v := 2) hx hb d_Mo_style_147 (by decide) ?_
  refine lv_icmp_ge (pc := 148) (tgt := 241) hx hb d_Mo_style_148 (by decide) (fun _ => ?_) (fun c1 => absurd (by decide) c1)
  refine lv_iload_n (pc := 241) hx hb d_Mo_style_241 rfl (lv_at hl 2 rfl) ?_
  refine W.widen (k := 0) (n := 0) (Nat.le_of_ble_eq_true rfl) (Nat.le_of_ble_eq_true rfl) ?_
  exact W.iret (v := 0) hx hb hr (fun t ht hW => ⟨⟨0, [[(qm 73, .inl (kA 0, 864, .inl f910))], [(qm 3, .inl (kA 0, 4, .inl (fun _ => 0)))], [(qm 160, .inl (kA 0, 2010, .inl (upd ((fun _ => 0)) 0 0)))], [(qm 161, .inl (kA 3, 2010, .inr (.inl (vp_updL fl0 0 ((-1))))))], [(qm 162, .inl (kA 0, 2010, .inl (upd (f0) 0 0)))], [(qm 163, .inl (kA 0, 2010, .inl (upd (f1) 0 0)))], [(qm 21, .inl (kA 2, 576, .inl f950))], [(a0, .inr (13, mF qm (va_up (va_up (va_up (va_up (va_up x0Mo 5 (nI (539 * (31 * j + 0)))) 7 1) 139 (nI j)) 157 1) 165 (-1)) y0Mo))], [(qm 2, .inl (kA 0, 66836, .inl all0))]], rfl, rfl, by rw [ht]; exact hP, va_K.moved hW.alike hK, hD⟩, hS.F ht⟩) hS.2.2 d_Mo_style_242
set_option maxRecDepth 100000 in
set_option maxHeartbeats 4000000 in
/-- style, a fresh house -/
theorem lf_style_4 {p : Program} {e : Env} {s : State} {m : MethodId} {below : List Frame} {meth : Method} {c : Code} (l : Launch) {b : Nat} {xs : Nat → Int32} (C0 : lw_At p s m meth c b 6 xs) {D : va_G} {kA : Nat → ClassId} (h : Nat) (h2 : Nat) (q : Nat → Nat) (qg : Nat → Nat) (qf : Nat → Nat) (qd : Nat → Nat) (qr : Nat → Nat) (qm : Nat → Nat) (g : Nat → Nat → Nat) (j : Nat) (hj : j < 4) (hv1 : xs 1 = nI j) (hv2 : xs 2 = 0) {H : Heap} {locs : List Loc} {ls : Array Slot} (hK : va_K D classes (TY kA) s) (hN : nst s) (hP : va_P D classes (cat [[(h, .inr (12, [.ref (q 0), .ref (q 1), .ref (q 2), .ref (q 3), .ref (q 4), .ref (q 5), .ref (q 6), .int 0, .int ((-1)), .ref (q 9), .ref (q 10), .int 0, .int 0, .ref (q 13), .int 0, .int 0, .null, .null, .null, .null, .null]))], [(q 4, .inr (8, [.ref (qr 0), .int 0, .int ((-1)), .int ((-1)), .ref (qr 4), .int 0, .int 0, .int 0, .int 0, .int 0, .ref (qr 10), .int 0]))], [(q 0, .inl (kA 4, 4, .inr (.inr (.inr (.inr (rr (g 0)))))))], [(q 1, .inl (kA 5, 4, .inr (.inr (.inr (.inr (rr (g 1)))))))], [(g 1 j, .inr (2, [.int 0, .int 0, .int 0, .int 0, .ref (qf 4), .ref (qf 5), .ref (qf 6), .ref (qf 7), .ref (qf 8), .ref (qf 9), .ref (qf 10), .ref (qf 11), .ref (qf 12), .ref (qf 13), .ref (qf 14)]))], [(g 0 j, .inr (3, [.int 0, .int 0, .int 1, .ref (qg 3), .ref (qg 4), .ref (qg 5), .ref (qg 6), .ref (qg 7), .ref (qg 8), .ref (qg 9), .ref (qg 10), .ref (qg 11), .ref (qg 12), .ref (qg 13), .ref (qg 14), .ref (qg 15), .null, .int 0, .int 0]))], [(qf 5, .inl (kA 0, 48, .inl (fun _ => 0)))], [(qf 10, .inl (kA 0, 24, .inl (fun _ => 0)))], [(qf 6, .inl (kA 0, 24, .inl (fun _ => 0)))], [(qf 11, .inl (kA 0, 24, .inl (fun _ => 0)))], [(q 3, .inl (kA 7, 4, .inr (.inr (.inr (.inr (rr (g 3)))))))], [(g 3 j, .inr (0, [.ref (qd 0), .int ((-1)), .ref (qd 2), .ref (qd 3), .ref (qd 4), .ref (qd 5), .ref (qd 6), .int 0, .int 0, .int 0, .ref (qd 10), .ref (qd 11), .ref (qd 12), .ref (qd 13), .ref (qd 14), .ref (qd 15), .ref (qd 16), .int 0, .int 0, .int 0, .int 0]))], [(qd 14, .inl (kA 0, 216, .inl (fun _ => 0)))], [(h2, .inr (13, mF qm x0Mo y0Mo))], [(qm 3, .inl (kA 0, 4, .inl (fun _ => 0)))], [(qm 160, .inl (kA 0, 2010, .inl (fun _ => 0)))], [(qm 161, .inl (kA 3, 2010, .inr (.inl (fun _ => 0))))], [(qm 162, .inl (kA 0, 2010, .inl (fun _ => 0)))], [(qm 163, .inl (kA 0, 2010, .inl (fun _ => 0)))], [(qm 2, .inl (kA 0, 66836, .inl all0))], [(qm 21, .inl (kA 2, 576, .inl (fun _ => 0)))], [(qm 73, .inl (kA 0, 864, .inl (fun _ => 0)))]]) H) (hD : va_D (fun q : Nat => s.heap.size ≤ q) (cat [[(h, .inr (12, [.ref (q 0), .ref (q 1), .ref (q 2), .ref (q 3), .ref (q 4), .ref (q 5), .ref (q 6), .int 0, .int ((-1)), .ref (q 9), .ref (q 10), .int 0, .int 0, .ref (q 13), .int 0, .int 0, .null, .null, .null, .null, .null]))], [(q 4, .inr (8, [.ref (qr 0), .int 0, .int ((-1)), .int ((-1)), .ref (qr 4), .int 0, .int 0, .int 0, .int 0, .int 0, .ref (qr 10), .int 0]))], [(q 0, .inl (kA 4, 4, .inr (.inr (.inr (.inr (rr (g 0)))))))], [(q 1, .inl (kA 5, 4, .inr (.inr (.inr (.inr (rr (g 1)))))))], [(g 1 j, .inr (2, [.int 0, .int 0, .int 0, .int 0, .ref (qf 4), .ref (qf 5), .ref (qf 6), .ref (qf 7), .ref (qf 8), .ref (qf 9), .ref (qf 10), .ref (qf 11), .ref (qf 12), .ref (qf 13), .ref (qf 14)]))], [(g 0 j, .inr (3, [.int 0, .int 0, .int 1, .ref (qg 3), .ref (qg 4), .ref (qg 5), .ref (qg 6), .ref (qg 7), .ref (qg 8), .ref (qg 9), .ref (qg 10), .ref (qg 11), .ref (qg 12), .ref (qg 13), .ref (qg 14), .ref (qg 15), .null, .int 0, .int 0]))], [(qf 5, .inl (kA 0, 48, .inl (fun _ => 0)))], [(qf 10, .inl (kA 0, 24, .inl (fun _ => 0)))], [(qf 6, .inl (kA 0, 24, .inl (fun _ => 0)))], [(qf 11, .inl (kA 0, 24, .inl (fun _ => 0)))], [(q 3, .inl (kA 7, 4, .inr (.inr (.inr (.inr (rr (g 3)))))))], [(g 3 j, .inr (0, [.ref (qd 0), .int ((-1)), .ref (qd 2), .ref (qd 3), .ref (qd 4), .ref (qd 5), .ref (qd 6), .int 0, .int 0, .int 0, .ref (qd 10), .ref (qd 11), .ref (qd 12), .ref (qd 13), .ref (qd 14), .ref (qd 15), .ref (qd 16), .int 0, .int 0, .int 0, .int 0]))], [(qd 14, .inl (kA 0, 216, .inl (fun _ => 0)))], [(h2, .inr (13, mF qm x0Mo y0Mo))], [(qm 3, .inl (kA 0, 4, .inl (fun _ => 0)))], [(qm 160, .inl (kA 0, 2010, .inl (fun _ => 0)))], [(qm 161, .inl (kA 3, 2010, .inr (.inl (fun _ => 0))))], [(qm 162, .inl (kA 0, 2010, .inl (fun _ => 0)))], [(qm 163, .inl (kA 0, 2010, .inl (fun _ => 0)))], [(qm 2, .inl (kA 0, 66836, .inl all0))], [(qm 21, .inl (kA 2, 576, .inl (fun _ => 0)))], [(qm 73, .inl (kA 0, 864, .inl (fun _ => 0)))]])) (hS : va_S (fun q : Nat => s.heap.size ≤ q) s.heap H locs) (hl : lv_has ls 4 [(3, .int 0), (2, .ref h2), (1, .ref h), (0, .ref b)]) : W p l e room_1 s m #[Value.ref b] below meth c H locs 368 365796 (lw_Z below #[Value.ref b] s) (F0 m 1077 ls []) := by
  obtain ⟨hx, hb, hr, hml, hown, hts0, hX, hbl, hlocks, hgv⟩ := id C0
  have hts : ∀ w ∈ lw_g, w.before #[Value.ref b] s = true := fun w h => hts0 w (lw_gt h)
  have X : cx p s m #[Value.ref b] meth c b_law_law 4 ret "DrawingHouseLaw" meth.name := ⟨hx, hb, hml, hown, hts, hr, hlocks, rfl⟩
  obtain ⟨A, hAe⟩ : ∃ A : Nat → Prop, A = fun q : Nat => s.heap.size ≤ q := ⟨_, rfl⟩
  have hA : ∀ q : Nat, s.heap.size ≤ q → A q := fun q h => by rw [hAe]; exact h
  have hbA : ¬ A b := by rw [hAe]; exact Nat.not_le.mpr hbl
  rw [← hAe] at hD hS
  refine lv_aload_n (pc := 1077) hx hb d_law_law_1077 rfl (lv_at hl 2 rfl) ?_
  refine lv_aload_n (pc := 1078) hx hb d_law_law_1078 rfl (lv_at hl 3 rfl) ?_
  refine lv_iload_n (pc := 1079) hx hb d_law_law_1079 rfl (lv_at hl 0 rfl) ?_
  refine lv_iconst (pc := 1080) (v := 1) hx hb d_law_law_1080 (by decide) ?_
  refine lv_iadd (pc := 1081) hx hb d_law_law_1081 ?_
  refine k_cst (v := 1) (by decide) ?_
  refine va_sld (pc := 1082) hx hb hX hbl hbA hS (by unfold vp_in; decide) d_law_law_1082 ?_
  refine k_cst (v := nI j) hv1 ?_
  refine lv_aload_n (pc := 1083) hx hb d_law_law_1083 rfl (lv_at hl 3 rfl) ?_
  refine lv_iload_n (pc := 1084) hx hb d_law_law_1084 rfl (lv_at hl 0 rfl) ?_
  refine lv_iconst (pc := 1085) (v := 2) hx hb d_law_law_1085 (by decide) ?_
  refine lv_iadd (pc := 1086) hx hb d_law_law_1086 ?_
  refine k_cst (v := 2) (by decide) ?_
  refine va_sld (pc := 1087) hx hb hX hbl hbA hS (by unfold vp_in; decide) d_law_law_1087 ?_
  refine k_cst (v := 0) hv2 ?_
  refine k_goI (gr := [[(h2, .inr (13, mF qm x0Mo y0Mo))], [(qm 3, .inl (kA 0, 4, .inl (fun _ => 0)))], [(qm 160, .inl (kA 0, 2010, .inl (fun _ => 0)))], [(qm 161, .inl (kA 3, 2010, .inr (.inl (fun _ => 0))))], [(qm 162, .inl (kA 0, 2010, .inl (fun _ => 0)))], [(qm 163, .inl (kA 0, 2010, .inl (fun _ => 0)))], [(qm 2, .inl (kA 0, 66836, .inl all0))], [(qm 21, .inl (kA 2, 576, .inl (fun _ => 0)))], [(qm 73, .inl (kA 0, 864, .inl (fun _ => 0)))]]) (k_rV (pc := 1088) (As := [.int (nI j), .int 0]) (rest := []) X (c_Ho_style_z4 l D kA h j (q 0) (q 1) (q 2) (q 3) (q 4) (q 5) (q 6) (q 9) (q 10) (q 13) (qr 0) (qr 4) (qr 10) g (qf 4) (qf 5) (qf 6) (qf 7) (qf 8) (qf 9) (qf 10) (qf 11) (qf 12) (qf 13) (qf 14) (qg 3) (qg 4) (qg 5) (qg 6) (qg 7) (qg 8) (qg 9) (qg 10) (qg 11) (qg 12) (qg 13) (qg 14) (qg 15) (fun _ => 0) (fun _ => 0) (fun _ => 0) (fun _ => 0) (qd 0) (qd 2) (qd 3) (qd 4) (qd 5) (qd 6) (qd 10) (qd 11) (qd 12) (qd 13) (qd 14) (qd 15) (qd 16) (fun _ => 0) hj H.size) rfl wm_2088 wm_1 wm_2085 wm_2086 wm_2087 2 (by decide +kernel) ⟨Nat.le_of_ble_eq_true rfl, Nat.le_of_ble_eq_true rfl⟩ rfl rfl (va_recv hK hP (ci := 12) (q0 := 0) rfl rfl) (k_pre hN hK hP hD [0, 1, 2, 3, 4, 5, 6, 7, 8, 9, 10, 11, 12] [13, 14, 15, 16, 17, 18, 19, 20, 21] 22 rfl (by decide) rfl) rfl hl.1 rfl (Nat.le_of_ble_eq_true rfl) d_law_law_1088 ⟨Nat.le_of_ble_eq_true rfl, Nat.le_of_ble_eq_true rfl⟩) hP hD hS hA [0, 1, 2, 3, 4, 5, 6, 7, 8, 9, 10, 11, 12] [13, 14, 15, 16, 17, 18, 19, 20, 21] 22 rfl (by decide) rfl rfl (fun r1 u2 H locs hu2 hP hD hS => ?_)
  obtain ⟨hP, hD⟩ := k_left hP hD
  subst hu2
  have hP : va_P D classes (cat [[(h2, .inr (13, mF qm x0Mo y0Mo))], [(qm 3, .inl (kA 0, 4, .inl (fun _ => 0)))], [(qm 160, .inl (kA 0, 2010, .inl (fun _ => 0)))], [(qm 161, .inl (kA 3, 2010, .inr (.inl (fun _ => 0))))], [(qm 162, .inl (kA 0, 2010, .inl (fun _ => 0)))], [(qm 163, .inl (kA 0, 2010, .inl (fun _ => 0)))], [(qm 2, .inl (kA 0, 66836, .inl all0))], [(qm 21, .inl (kA 2, 576, .inl (fun _ => 0)))], [(qm 73, .inl (kA 0, 864, .inl (fun _ => 0)))]]) H := hP
  have hD : va_D A (cat [[(h2, .inr (13, mF qm x0Mo y0Mo))], [(qm 3, .inl (kA 0, 4, .inl (fun _ => 0)))], [(qm 160, .inl (kA 0, 2010, .inl (fun _ => 0)))], [(qm 161, .inl (kA 3, 2010, .inr (.inl (fun _ => 0))))], [(qm 162, .inl (kA 0, 2010, .inl (fun _ => 0)))], [(qm 163, .inl (kA 0, 2010, .inl (fun _ => 0)))], [(qm 2, .inl (kA 0, 66836, .inl all0))], [(qm 21, .inl (kA 2, 576, .inl (fun _ => 0)))], [(qm 73, .inl (kA 0, 864, .inl (fun _ => 0)))]]) := hD
  refine W.widen (k := 374) (n := 368240) (by omega) (by omega) ?_
  refine lv_aload_n (pc := 1091) hx hb d_law_law_1091 rfl (lv_at hl 1 rfl) ?_
  refine lv_aload_n (pc := 1092) hx hb d_law_law_1092 rfl (lv_at hl 3 rfl) ?_
  refine lv_iload_n (pc := 1093) hx hb d_law_law_1093 rfl (lv_at hl 0 rfl) ?_
  refine lv_iconst (pc := 1094) (v := 1) hx hb d_law_law_1094 (by decide) ?_
  refine lv_iadd (pc := 1095) hx hb d_law_law_1095 ?_
  refine k_cst (v := 1) (by decide) ?_
  refine va_sld (pc := 1096) hx hb hX hbl hbA hS (by unfold vp_in; decide) d_law_law_1096 ?_
  refine k_cst (v := nI j) hv1 ?_
  refine lv_aload_n (pc := 1097) hx hb d_law_law_1097 rfl (lv_at hl 3 rfl) ?_
  refine lv_iload_n (pc := 1098) hx hb d_law_law_1098 rfl (lv_at hl 0 rfl) ?_
  refine lv_iconst (pc := 1099) (v := 2) hx hb d_law_law_1099 (by decide) ?_
  refine lv_iadd (pc := 1100) hx hb d_law_law_1100 ?_
  refine k_cst (v := 2) (by decide) ?_
  refine va_sld (pc := 1101) hx hb hX hbl hbA hS (by unfold vp_in; decide) d_law_law_1101 ?_
  refine k_cst (v := 0) hv2 ?_
  refine k_goI (gr := []) (k_rV (pc := 1102) (As := [.int (nI j), .int 0]) (rest := [.int 0]) X (c_Mo_style_z4 l D kA h2 j qm (fun _ => 0) (fun _ => 0) (fun _ => 0) (fun _ => 0) (fun _ => 0) hj H.size) rfl wm_3794 wm_9 wm_3791 wm_3792 wm_3793 2 (by decide +kernel) ⟨Nat.le_of_ble_eq_true rfl, Nat.le_of_ble_eq_true rfl⟩ rfl rfl (va_recv hK hP (ci := 13) (q0 := 0) rfl rfl) (k_pre hN hK hP hD [0, 1, 2, 3, 4, 5, 6, 7, 8] [] 9 rfl (by decide) rfl) rfl hl.1 rfl (Nat.le_of_ble_eq_true rfl) d_law_law_1102 ⟨Nat.le_of_ble_eq_true rfl, Nat.le_of_ble_eq_true rfl⟩) hP hD hS hA [0, 1, 2, 3, 4, 5, 6, 7, 8] [] 9 rfl (by decide) rfl rfl (fun r3 u4 H locs hu4 hP hD hS => ?_)
  obtain ⟨hP, hD⟩ := k_left hP hD
  subst hu4
  have hP : va_P D classes (cat []) H := hP
  have hD : va_D A (cat []) := hD
  refine lv_icmp_eq (pc := 1105) (tgt := 1295) hx hb d_law_law_1105 (by decide) (fun _ => ?_) (fun c1 => absurd (by decide) c1)
  rw [hAe] at hS
  exact law_exit l C0 (Nat.le_of_ble_eq_true rfl) (Nat.le_of_ble_eq_true rfl) hS hl
set_option maxRecDepth 100000 in
set_option maxHeartbeats 8000000 in
/-- style: the case of the law -/
theorem op_style {p : Program} {e : Env} {s : State} {m : MethodId} {below : List Frame} {meth : Method} {c : Code} (l : Launch) {b : Nat} {xs : Nat → Int32} (C0 : lw_At p s m meth c b 6 xs) {D : va_G} {kA : Nat → ClassId} (h h2 : Nat) (u1 : Nat → Nat → Nat) (qm : Nat → Nat) (v1 : Int32) (v2 : Int32) (hv1 : xs 1 = v1) (hv2 : xs 2 = v2) {H : Heap} {locs : List Loc} {ls : Array Slot} (hK : va_K D classes (TY kA) s) (hN : nst s) (hpost : u1 50 1 = u1 0 4 ∧ u1 50 3 = u1 0 5 ∧ u1 50 2 = u1 1 4 ∧ u1 50 4 = u1 3 1 ∧ u1 8 0 = u1 50 5 ∧ u1 12 0 = u1 50 9 ∧ u1 16 0 = u1 50 13 ∧ u1 20 0 = u1 50 17) (hP : va_P D classes (cat [cat (sHo kA h u1), cat (sMo kA h2 qm)]) H) (hD : va_D (fun q : Nat => s.heap.size ≤ q) (cat [cat (sHo kA h u1), cat (sMo kA h2 qm)])) (hS : va_S (fun q : Nat => s.heap.size ≤ q) s.heap H locs) (hl : lv_has ls 4 [(3, .int 0), (2, .ref h2), (1, .ref h), (0, .ref b)]) : W p l e room_1 s m #[Value.ref b] below meth c H locs 368 365796 (lw_Z below #[Value.ref b] s) (F0 m 1077 ls []) := by
  rcases place_no v1 with hg | ⟨j, hj, ej⟩
  · have hgM : sp_Mo_isPlace v1 = 0 := by rw [← place_iff]; exact hg
    obtain ⟨q, qg, qf, qn, qd, qr, qs, qe, qp, g, hP, hD⟩ := big (j := 0) (by decide) hpost hP hD
    obtain ⟨hP, hD⟩ := k_drop (sg := bH kA h q qg qf qn qd qr qs qe qp g 0 ++ bM kA h2 qm) (gc := [[(h, .inr (12, [.ref (q 0), .ref (q 1), .ref (q 2), .ref (q 3), .ref (q 4), .ref (q 5), .ref (q 6), .int 0, .int ((-1)), .ref (q 9), .ref (q 10), .int 0, .int 0, .ref (q 13), .int 0, .int 0, .null, .null, .null, .null, .null]))], [(h2, .inr (13, mF qm x0Mo y0Mo))]]) hP hD [1, 2, 3, 4, 5, 6, 7, 8, 9, 10, 11, 12, 13, 14, 15, 16, 17, 18, 19, 20, 21, 22, 23, 24, 25, 26, 27, 28, 29, 30, 31, 32, 33, 34, 35, 36, 37, 38, 39, 40, 41, 42, 43, 44, 45, 46, 47, 48, 49, 50, 51, 52, 53, 54, 55, 56, 57, 58, 59, 60, 61, 62, 63, 64, 65, 66, 67, 68, 69, 70, 71, 72, 73, 74, 75, 76, 77, 78, 79, 80, 81, 82, 83, 84, 85, 86, 87, 88, 89, 90, 91, 92, 93, 94, 95, 96, 97, 98, 100, 101, 102, 103, 104, 105, 106, 107, 108, 109, 110, 111, 112, 113, 114, 115, 116, 117, 118, 119, 120, 121, 122, 123, 124, 125, 126, 127, 128, 129, 130, 131, 132, 133, 134, 135, 136, 137, 138, 139, 140, 141, 142, 143, 144, 145, 146, 147, 148, 149, 150, 151, 152, 153, 154, 155, 156, 157, 158, 159, 160, 161, 162, 163, 164, 165, 166, 167, 168, 169, 170, 171, 172, 173, 174, 175, 176, 177, 178, 179, 180, 181, 182, 183, 184, 185, 186, 187, 188, 189, 190, 191, 192, 193, 194, 195, 196, 197, 198, 199, 200, 201, 202, 203, 204, 205, 206, 207, 208, 209, 210, 211, 212, 213, 214, 215, 216, 217] [0, 99] 218 rfl (by decide +kernel) rfl
    exact lf_style_1 l C0 h h2 q qm v1 v2 hg hgM hv1 hv2 hK hN hP hD hS hl
  · subst ej
    rcases tri1 v2 with hn2 | ⟨hp2, hb2, hc2⟩ | ee2
    · obtain ⟨q, qg, qf, qn, qd, qr, qs, qe, qp, g, hP, hD⟩ := big (j := j) hj hpost hP hD
      obtain ⟨hP, hD⟩ := k_drop (sg := bH kA h q qg qf qn qd qr qs qe qp g j ++ bM kA h2 qm) (gc := [[(h, .inr (12, [.ref (q 0), .ref (q 1), .ref (q 2), .ref (q 3), .ref (q 4), .ref (q 5), .ref (q 6), .int 0, .int ((-1)), .ref (q 9), .ref (q 10), .int 0, .int 0, .ref (q 13), .int 0, .int 0, .null, .null, .null, .null, .null]))], [(h2, .inr (13, mF qm x0Mo y0Mo))]]) hP hD [1, 2, 3, 4, 5, 6, 7, 8, 9, 10, 11, 12, 13, 14, 15, 16, 17, 18, 19, 20, 21, 22, 23, 24, 25, 26, 27, 28, 29, 30, 31, 32, 33, 34, 35, 36, 37, 38, 39, 40, 41, 42, 43, 44, 45, 46, 47, 48, 49, 50, 51, 52, 53, 54, 55, 56, 57, 58, 59, 60, 61, 62, 63, 64, 65, 66, 67, 68, 69, 70, 71, 72, 73, 74, 75, 76, 77, 78, 79, 80, 81, 82, 83, 84, 85, 86, 87, 88, 89, 90, 91, 92, 93, 94, 95, 96, 97, 98, 100, 101, 102, 103, 104, 105, 106, 107, 108, 109, 110, 111, 112, 113, 114, 115, 116, 117, 118, 119, 120, 121, 122, 123, 124, 125, 126, 127, 128, 129, 130, 131, 132, 133, 134, 135, 136, 137, 138, 139, 140, 141, 142, 143, 144, 145, 146, 147, 148, 149, 150, 151, 152, 153, 154, 155, 156, 157, 158, 159, 160, 161, 162, 163, 164, 165, 166, 167, 168, 169, 170, 171, 172, 173, 174, 175, 176, 177, 178, 179, 180, 181, 182, 183, 184, 185, 186, 187, 188, 189, 190, 191, 192, 193, 194, 195, 196, 197, 198, 199, 200, 201, 202, 203, 204, 205, 206, 207, 208, 209, 210, 211, 212, 213, 214, 215, 216, 217] [0, 99] 218 rfl (by decide +kernel) rfl
      exact lf_style_2 l C0 h h2 q qm j v2 hj hn2 hv1 hv2 hK hN hP hD hS hl
    · obtain ⟨q, qg, qf, qn, qd, qr, qs, qe, qp, g, hP, hD⟩ := big (j := j) hj hpost hP hD
      obtain ⟨hP, hD⟩ := k_drop (sg := bH kA h q qg qf qn qd qr qs qe qp g j ++ bM kA h2 qm) (gc := [[(h, .inr (12, [.ref (q 0), .ref (q 1), .ref (q 2), .ref (q 3), .ref (q 4), .ref (q 5), .ref (q 6), .int 0, .int ((-1)), .ref (q 9), .ref (q 10), .int 0, .int 0, .ref (q 13), .int 0, .int 0, .null, .null, .null, .null, .null]))], [(q 4, .inr (8, [.ref (qr 0), .int 0, .int ((-1)), .int ((-1)), .ref (qr 4), .int 0, .int 0, .int 0, .int 0, .int 0, .ref (qr 10), .int 0]))], [(h2, .inr (13, mF qm x0Mo y0Mo))]]) hP hD [1, 2, 3, 4, 5, 6, 7, 8, 9, 10, 11, 12, 13, 14, 15, 16, 17, 18, 19, 20, 21, 22, 23, 24, 25, 26, 27, 28, 29, 30, 31, 32, 33, 34, 35, 36, 37, 38, 39, 40, 41, 42, 43, 44, 45, 46, 47, 48, 49, 50, 51, 52, 53, 54, 55, 56, 57, 58, 60, 61, 62, 63, 64, 65, 66, 67, 68, 69, 70, 71, 72, 73, 74, 75, 76, 77, 78, 79, 80, 81, 82, 83, 84, 85, 86, 87, 88, 89, 90, 91, 92, 93, 94, 95, 96, 97, 98, 100, 101, 102, 103, 104, 105, 106, 107, 108, 109, 110, 111, 112, 113, 114, 115, 116, 117, 118, 119, 120, 121, 122, 123, 124, 125, 126, 127, 128, 129, 130, 131, 132, 133, 134, 135, 136, 137, 138, 139, 140, 141, 142, 143, 144, 145, 146, 147, 148, 149, 150, 151, 152, 153, 154, 155, 156, 157, 158, 159, 160, 161, 162, 163, 164, 165, 166, 167, 168, 169, 170, 171, 172, 173, 174, 175, 176, 177, 178, 179, 180, 181, 182, 183, 184, 185, 186, 187, 188, 189, 190, 191, 192, 193, 194, 195, 196, 197, 198, 199, 200, 201, 202, 203, 204, 205, 206, 207, 208, 209, 210, 211, 212, 213, 214, 215, 216, 217] [0, 59, 99] 218 rfl (by decide +kernel) rfl
      exact lf_style_3 l C0 h h2 q qr qm j v2 hj hp2 hb2 hc2 hv1 hv2 hK hN hP hD hS hl
    · subst ee2
      obtain ⟨q, qg, qf, qn, qd, qr, qs, qe, qp, g, hP, hD⟩ := big (j := j) hj hpost hP hD
      obtain ⟨hP, hD⟩ := k_drop (sg := bH kA h q qg qf qn qd qr qs qe qp g j ++ bM kA h2 qm) (gc := [[(h, .inr (12, [.ref (q 0), .ref (q 1), .ref (q 2), .ref (q 3), .ref (q 4), .ref (q 5), .ref (q 6), .int 0, .int ((-1)), .ref (q 9), .ref (q 10), .int 0, .int 0, .ref (q 13), .int 0, .int 0, .null, .null, .null, .null, .null]))], [(q 4, .inr (8, [.ref (qr 0), .int 0, .int ((-1)), .int ((-1)), .ref (qr 4), .int 0, .int 0, .int 0, .int 0, .int 0, .ref (qr 10), .int 0]))], [(q 0, .inl (kA 4, 4, .inr (.inr (.inr (.inr (rr (g 0)))))))], [(q 1, .inl (kA 5, 4, .inr (.inr (.inr (.inr (rr (g 1)))))))], [(g 1 j, .inr (2, [.int 0, .int 0, .int 0, .int 0, .ref (qf 4), .ref (qf 5), .ref (qf 6), .ref (qf 7), .ref (qf 8), .ref (qf 9), .ref (qf 10), .ref (qf 11), .ref (qf 12), .ref (qf 13), .ref (qf 14)]))], [(g 0 j, .inr (3, [.int 0, .int 0, .int 1, .ref (qg 3), .ref (qg 4), .ref (qg 5), .ref (qg 6), .ref (qg 7), .ref (qg 8), .ref (qg 9), .ref (qg 10), .ref (qg 11), .ref (qg 12), .ref (qg 13), .ref (qg 14), .ref (qg 15), .null, .int 0, .int 0]))], [(qf 5, .inl (kA 0, 48, .inl (fun _ => 0)))], [(qf 10, .inl (kA 0, 24, .inl (fun _ => 0)))], [(qf 6, .inl (kA 0, 24, .inl (fun _ => 0)))], [(qf 11, .inl (kA 0, 24, .inl (fun _ => 0)))], [(q 3, .inl (kA 7, 4, .inr (.inr (.inr (.inr (rr (g 3)))))))], [(g 3 j, .inr (0, [.ref (qd 0), .int ((-1)), .ref (qd 2), .ref (qd 3), .ref (qd 4), .ref (qd 5), .ref (qd 6), .int 0, .int 0, .int 0, .ref (qd 10), .ref (qd 11), .ref (qd 12), .ref (qd 13), .ref (qd 14), .ref (qd 15), .ref (qd 16), .int 0, .int 0, .int 0, .int 0]))], [(qd 14, .inl (kA 0, 216, .inl (fun _ => 0)))], [(h2, .inr (13, mF qm x0Mo y0Mo))], [(qm 3, .inl (kA 0, 4, .inl (fun _ => 0)))], [(qm 160, .inl (kA 0, 2010, .inl (fun _ => 0)))], [(qm 161, .inl (kA 3, 2010, .inr (.inl (fun _ => 0))))], [(qm 162, .inl (kA 0, 2010, .inl (fun _ => 0)))], [(qm 163, .inl (kA 0, 2010, .inl (fun _ => 0)))], [(qm 2, .inl (kA 0, 66836, .inl all0))], [(qm 21, .inl (kA 2, 576, .inl (fun _ => 0)))], [(qm 73, .inl (kA 0, 864, .inl (fun _ => 0)))]]) hP hD [3, 5, 6, 7, 8, 10, 11, 12, 13, 14, 15, 16, 17, 18, 19, 20, 21, 22, 24, 27, 28, 29, 32, 33, 34, 35, 36, 37, 38, 39, 40, 41, 42, 43, 44, 45, 47, 48, 49, 50, 51, 52, 53, 54, 55, 57, 58, 60, 61, 62, 63, 64, 65, 66, 67, 68, 69, 70, 71, 72, 73, 74, 75, 76, 77, 78, 79, 80, 81, 82, 83, 84, 85, 86, 87, 88, 89, 90, 91, 92, 93, 94, 95, 96, 97, 98, 101, 102, 103, 104, 105, 107, 108, 109, 110, 111, 112, 113, 115, 116, 117, 118, 119, 120, 121, 122, 123, 124, 125, 126, 127, 128, 129, 130, 131, 132, 133, 134, 135, 136, 137, 138, 139, 140, 141, 142, 143, 144, 145, 146, 147, 148, 149, 150, 152, 153, 154, 155, 156, 157, 158, 159, 160, 161, 162, 163, 164, 165, 166, 167, 168, 169, 170, 171, 172, 173, 174, 175, 176, 177, 178, 179, 180, 181, 182, 183, 184, 185, 186, 187, 188, 189, 190, 191, 192, 193, 194, 195, 196, 197, 198, 199, 200, 201, 202, 203, 204, 205, 206, 207, 212, 213, 214, 215, 216, 217] [0, 59, 1, 2, 23, 9, 25, 30, 26, 31, 4, 46, 56, 99, 106, 208, 209, 210, 211, 100, 114, 151] 218 rfl (by decide +kernel) rfl
      exact lf_style_4 l C0 h h2 q qg qf qd qr qm g j hj hv1 hv2 hK hN hP hD hS hl
