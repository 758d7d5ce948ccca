theorem wm_62 : (Cond.fieldLink "DrawingHouse" (132 : Nat) "DrawingHouse$Graph" "nodes" "I" : Cond) ∈ lw_g := lw_gi (lw_c1 (List.mem_of_getElem? (i := 62) rfl)) rfl
theorem wm_73 : (Cond.fieldLink "DrawingHouse" (141 : Nat) "DrawingHouse$Graph" "edges" "I" : Cond) ∈ lw_g := lw_gi (lw_c1 (List.mem_of_getElem? (i := 73) rfl)) rfl
theorem wm_80 : (Cond.fieldLink "DrawingHouse" (144 : Nat) "DrawingHouse$Graph" "groups" "I" : Cond) ∈ lw_g := lw_gi (lw_c1 (List.mem_of_getElem? (i := 80) rfl)) rfl
theorem wm_131 : (Cond.fieldLink "DrawingHouse" (221 : Nat) "DrawingHouse$Graph" "within" "[I" : Cond) ∈ lw_g := lw_gi (lw_c1 (List.mem_of_getElem? (i := 131) rfl)) rfl
theorem wm_138 : (Cond.fieldLink "DrawingHouse" (224 : Nat) "DrawingHouse$Graph" "groupNameLength" "[I" : Cond) ∈ lw_g := lw_gi (lw_c1 (List.mem_of_getElem? (i := 138) rfl)) rfl
theorem wm_150 : (Cond.fieldLink "DrawingHouse" (160 : Nat) "DrawingHouse$Graph" "done" "I" : Cond) ∈ lw_g := lw_gi (lw_c1 (List.mem_of_getElem? (i := 150) rfl)) rfl
theorem wm_152 : (Cond.fieldLink "DrawingHouse" (163 : Nat) "DrawingHouse$Graph" "undone" "I" : Cond) ∈ lw_g := lw_gi (lw_c1 (List.mem_of_getElem? (i := 152) rfl)) rfl
theorem wm_197 : (Cond.fieldLink "DrawingHouse" (108 : Nat) "DrawingHouse$Reader" "length" "I" : Cond) ∈ lw_g := lw_gi (lw_c1 (List.mem_of_getElem? (i := 197) rfl)) rfl
theorem wm_467 : (Cond.fieldLink "DrawingHouse" (309 : Nat) "DrawingHouse$Drawing" "way" "I" : Cond) ∈ lw_g := lw_gi (lw_c2 (List.mem_of_getElem? (i := 227) rfl)) rfl
theorem wm_622 : (Cond.code ({ cls := "DrawingHouse", name := "feed", desc := "(IIIII)I" } : MethodName) prog_1_method_2_code (6 : Nat) (Option.some ClassFile.FieldType.int) : Cond) ∈ lw_g := lw_gi (lw_c3 (List.mem_of_getElem? (i := 142) rfl)) rfl
theorem wm_623 : (Cond.methodLink "DrawingHouse" (111 : Nat) ({ cls := "DrawingHouse$Reader", name := "append", desc := "(I)V" } : MethodName) : Cond) ∈ lw_g := lw_gi (lw_c3 (List.mem_of_getElem? (i := 143) rfl)) rfl
theorem wm_624 : (Cond.instanceMethod ({ cls := "DrawingHouse$Reader", name := "append", desc := "(I)V" } : MethodName) : Cond) ∈ lw_g := lw_gi (lw_c3 (List.mem_of_getElem? (i := 144) rfl)) rfl
theorem wm_625 : (Cond.selects "DrawingHouse$Reader" ({ cls := "DrawingHouse$Reader", name := "append", desc := "(I)V" } : MethodName) ({ cls := "DrawingHouse$Reader", name := "append", desc := "(I)V" } : MethodName) : Cond) ∈ lw_g := lw_gi (lw_c3 (List.mem_of_getElem? (i := 145) rfl)) rfl
theorem wm_626 : (Cond.code ({ cls := "DrawingHouse$Reader", name := "append", desc := "(I)V" } : MethodName) prog_10_method_2_code (3 : Nat) (Option.none : Option ClassFile.FieldType) : Cond) ∈ lw_g := lw_gi (lw_c3 (List.mem_of_getElem? (i := 146) rfl)) rfl
theorem wm_631 : (Cond.methodLink "DrawingHouse" (115 : Nat) ({ cls := "DrawingHouse", name := "isPlace", desc := "(I)Z" } : MethodName) : Cond) ∈ lw_g := lw_gi (lw_c3 (List.mem_of_getElem? (i := 151) rfl)) rfl
theorem wm_632 : (Cond.static ({ cls := "DrawingHouse", name := "isPlace", desc := "(I)Z" } : MethodName) : Cond) ∈ lw_g := lw_gi (lw_c3 (List.mem_of_getElem? (i := 152) rfl)) rfl
theorem wm_806 : (Cond.code ({ cls := "DrawingHouse", name := "count", desc := "(II)I" } : MethodName) prog_1_method_5_code (3 : Nat) (Option.some ClassFile.FieldType.int) : Cond) ∈ lw_g := lw_gi (lw_c4 (List.mem_of_getElem? (i := 86) rfl)) rfl
theorem wm_917 : (Cond.code ({ cls := "DrawingHouse", name := "node", desc := "(III)I" } : MethodName) prog_1_method_6_code (4 : Nat) (Option.some ClassFile.FieldType.int) : Cond) ∈ lw_g := lw_gi (lw_c4 (List.mem_of_getElem? (i := 197) rfl)) rfl
theorem wm_918 : (Cond.methodLink "DrawingHouse" (166 : Nat) ({ cls := "DrawingHouse$Graph", name := "hasNode", desc := "(I)Z" } : MethodName) : Cond) ∈ lw_g := lw_gi (lw_c4 (List.mem_of_getElem? (i := 198) rfl)) rfl
theorem wm_919 : (Cond.instanceMethod ({ cls := "DrawingHouse$Graph", name := "hasNode", desc := "(I)Z" } : MethodName) : Cond) ∈ lw_g := lw_gi (lw_c4 (List.mem_of_getElem? (i := 199) rfl)) rfl
theorem wm_920 : (Cond.selects "DrawingHouse$Graph" ({ cls := "DrawingHouse$Graph", name := "hasNode", desc := "(I)Z" } : MethodName) ({ cls := "DrawingHouse$Graph", name := "hasNode", desc := "(I)Z" } : MethodName) : Cond) ∈ lw_g := lw_gi (lw_c4 (List.mem_of_getElem? (i := 200) rfl)) rfl
theorem wm_926 : (Cond.code ({ cls := "DrawingHouse", name := "edge", desc := "(III)I" } : MethodName) prog_1_method_7_code (4 : Nat) (Option.some ClassFile.FieldType.int) : Cond) ∈ lw_g := lw_gi (lw_c4 (List.mem_of_getElem? (i := 206) rfl)) rfl
theorem wm_927 : (Cond.methodLink "DrawingHouse" (197 : Nat) ({ cls := "DrawingHouse$Graph", name := "hasEdge", desc := "(I)Z" } : MethodName) : Cond) ∈ lw_g := lw_gi (lw_c4 (List.mem_of_getElem? (i := 207) rfl)) rfl
theorem wm_928 : (Cond.instanceMethod ({ cls := "DrawingHouse$Graph", name := "hasEdge", desc := "(I)Z" } : MethodName) : Cond) ∈ lw_g := lw_gi (lw_c4 (List.mem_of_getElem? (i := 208) rfl)) rfl
theorem wm_929 : (Cond.selects "DrawingHouse$Graph" ({ cls := "DrawingHouse$Graph", name := "hasEdge", desc := "(I)Z" } : MethodName) ({ cls := "DrawingHouse$Graph", name := "hasEdge", desc := "(I)Z" } : MethodName) : Cond) ∈ lw_g := lw_gi (lw_c4 (List.mem_of_getElem? (i := 209) rfl)) rfl
theorem wm_938 : (Cond.code ({ cls := "DrawingHouse", name := "group", desc := "(III)I" } : MethodName) prog_1_method_8_code (4 : Nat) (Option.some ClassFile.FieldType.int) : Cond) ∈ lw_g := lw_gi (lw_c4 (List.mem_of_getElem? (i := 218) rfl)) rfl
theorem wm_939 : (Cond.methodLink "DrawingHouse" (218 : Nat) ({ cls := "DrawingHouse$Graph", name := "hasGroup", desc := "(I)Z" } : MethodName) : Cond) ∈ lw_g := lw_gi (lw_c4 (List.mem_of_getElem? (i := 219) rfl)) rfl
theorem wm_940 : (Cond.instanceMethod ({ cls := "DrawingHouse$Graph", name := "hasGroup", desc := "(I)Z" } : MethodName) : Cond) ∈ lw_g := lw_gi (lw_c4 (List.mem_of_getElem? (i := 220) rfl)) rfl
theorem wm_941 : (Cond.selects "DrawingHouse$Graph" ({ cls := "DrawingHouse$Graph", name := "hasGroup", desc := "(I)Z" } : MethodName) ({ cls := "DrawingHouse$Graph", name := "hasGroup", desc := "(I)Z" } : MethodName) : Cond) ∈ lw_g := lw_gi (lw_c4 (List.mem_of_getElem? (i := 221) rfl)) rfl
theorem wm_946 : (Cond.code ({ cls := "DrawingHouse$Graph", name := "sizeOfGroup", desc := "(I)I" } : MethodName) prog_5_method_10_code (6 : Nat) (Option.some ClassFile.FieldType.int) : Cond) ∈ lw_g := lw_gi (lw_c4 (List.mem_of_getElem? (i := 226) rfl)) rfl
theorem wm_950 : (Cond.code ({ cls := "DrawingHouse", name := "letter", desc := "(IIII)I" } : MethodName) prog_1_method_9_code (6 : Nat) (Option.some ClassFile.FieldType.int) : Cond) ∈ lw_g := lw_gi (lw_c4 (List.mem_of_getElem? (i := 230) rfl)) rfl
theorem wm_1001 : (Cond.code ({ cls := "DrawingHouse", name := "back", desc := "(II)Z" } : MethodName) prog_1_method_11_code (3 : Nat) (Option.some ClassFile.FieldType.boolean) : Cond) ∈ lw_g := lw_gi (lw_c5 (List.mem_of_getElem? (i := 41) rfl)) rfl
theorem wm_1002 : (Cond.methodLink "DrawingHouse" (244 : Nat) ({ cls := "DrawingHouse$Graph", name := "step", desc := "(I)Z" } : MethodName) : Cond) ∈ lw_g := lw_gi (lw_c5 (List.mem_of_getElem? (i := 42) rfl)) rfl
theorem wm_1003 : (Cond.instanceMethod ({ cls := "DrawingHouse$Graph", name := "step", desc := "(I)Z" } : MethodName) : Cond) ∈ lw_g := lw_gi (lw_c5 (List.mem_of_getElem? (i := 43) rfl)) rfl
theorem wm_1004 : (Cond.selects "DrawingHouse$Graph" ({ cls := "DrawingHouse$Graph", name := "step", desc := "(I)Z" } : MethodName) ({ cls := "DrawingHouse$Graph", name := "step", desc := "(I)Z" } : MethodName) : Cond) ∈ lw_g := lw_gi (lw_c5 (List.mem_of_getElem? (i := 44) rfl)) rfl
theorem wm_1005 : (Cond.code ({ cls := "DrawingHouse$Graph", name := "step", desc := "(I)Z" } : MethodName) prog_5_method_25_code (2 : Nat) (Option.some ClassFile.FieldType.boolean) : Cond) ∈ lw_g := lw_gi (lw_c5 (List.mem_of_getElem? (i := 45) rfl)) rfl
theorem wm_1017 : (Cond.code ({ cls := "DrawingHouse", name := "far", desc := "(III)I" } : MethodName) prog_1_method_12_code (4 : Nat) (Option.some ClassFile.FieldType.int) : Cond) ∈ lw_g := lw_gi (lw_c5 (List.mem_of_getElem? (i := 57) rfl)) rfl
theorem wm_1044 : (Cond.code ({ cls := "DrawingHouse", name := "map", desc := "(I)I" } : MethodName) prog_1_method_14_code (2 : Nat) (Option.some ClassFile.FieldType.int) : Cond) ∈ lw_g := lw_gi (lw_c5 (List.mem_of_getElem? (i := 84) rfl)) rfl
theorem wm_1185 : (Cond.code ({ cls := "DrawingHouse", name := "draw", desc := "(III)I" } : MethodName) prog_1_method_17_code (5 : Nat) (Option.some ClassFile.FieldType.int) : Cond) ∈ lw_g := lw_gi (lw_c5 (List.mem_of_getElem? (i := 225) rfl)) rfl
theorem wm_1816 : (Cond.code ({ cls := "DrawingHouse", name := "at", desc := "(IIII)I" } : MethodName) prog_1_method_18_code (5 : Nat) (Option.some ClassFile.FieldType.int) : Cond) ∈ lw_g := lw_gi (lw_c8 (List.mem_of_getElem? (i := 136) rfl)) rfl
theorem wm_1817 : (Cond.methodLink "DrawingHouse" (312 : Nat) ({ cls := "DrawingHouse$Drawing", name := "coordinate", desc := "(III)I" } : MethodName) : Cond) ∈ lw_g := lw_gi (lw_c8 (List.mem_of_getElem? (i := 137) rfl)) rfl
theorem wm_1818 : (Cond.instanceMethod ({ cls := "DrawingHouse$Drawing", name := "coordinate", desc := "(III)I" } : MethodName) : Cond) ∈ lw_g := lw_gi (lw_c8 (List.mem_of_getElem? (i := 138) rfl)) rfl
theorem wm_1819 : (Cond.selects "DrawingHouse$Drawing" ({ cls := "DrawingHouse$Drawing", name := "coordinate", desc := "(III)I" } : MethodName) ({ cls := "DrawingHouse$Drawing", name := "coordinate", desc := "(III)I" } : MethodName) : Cond) ∈ lw_g := lw_gi (lw_c8 (List.mem_of_getElem? (i := 139) rfl)) rfl
theorem wm_1820 : (Cond.code ({ cls := "DrawingHouse$Drawing", name := "coordinate", desc := "(III)I" } : MethodName) prog_2_method_5_code (4 : Nat) (Option.some ClassFile.FieldType.int) : Cond) ∈ lw_g := lw_gi (lw_c8 (List.mem_of_getElem? (i := 140) rfl)) rfl
theorem wm_1821 : (Cond.constant "DrawingHouse$Drawing" (84 : Nat) (-2147483648 : Int32) : Cond) ∈ lw_g := lw_gi (lw_c8 (List.mem_of_getElem? (i := 141) rfl)) rfl
theorem wm_1824 : (Cond.constant "DrawingHouse" (315 : Nat) (-2147483648 : Int32) : Cond) ∈ lw_g := lw_gi (lw_c8 (List.mem_of_getElem? (i := 144) rfl)) rfl
theorem wm_1828 : (Cond.code ({ cls := "DrawingHouse", name := "told", desc := "(III)I" } : MethodName) prog_1_method_19_code (4 : Nat) (Option.some ClassFile.FieldType.int) : Cond) ∈ lw_g := lw_gi (lw_c8 (List.mem_of_getElem? (i := 148) rfl)) rfl
theorem wm_1829 : (Cond.methodLink "DrawingHouse" (316 : Nat) ({ cls := "DrawingHouse$Drawing", name := "report", desc := "(II)I" } : MethodName) : Cond) ∈ lw_g := lw_gi (lw_c8 (List.mem_of_getElem? (i := 149) rfl)) rfl
theorem wm_1830 : (Cond.instanceMethod ({ cls := "DrawingHouse$Drawing", name := "report", desc := "(II)I" } : MethodName) : Cond) ∈ lw_g := lw_gi (lw_c8 (List.mem_of_getElem? (i := 150) rfl)) rfl
theorem wm_1831 : (Cond.selects "DrawingHouse$Drawing" ({ cls := "DrawingHouse$Drawing", name := "report", desc := "(II)I" } : MethodName) ({ cls := "DrawingHouse$Drawing", name := "report", desc := "(II)I" } : MethodName) : Cond) ∈ lw_g := lw_gi (lw_c8 (List.mem_of_getElem? (i := 151) rfl)) rfl
theorem wm_1832 : (Cond.code ({ cls := "DrawingHouse$Drawing", name := "report", desc := "(II)I" } : MethodName) prog_2_method_6_code (3 : Nat) (Option.some ClassFile.FieldType.int) : Cond) ∈ lw_g := lw_gi (lw_c8 (List.mem_of_getElem? (i := 152) rfl)) rfl
theorem wm_1845 : (Cond.code ({ cls := "DrawingHouse", name := "put", desc := "(IIIII)Z" } : MethodName) prog_1_method_20_code (6 : Nat) (Option.some ClassFile.FieldType.boolean) : Cond) ∈ lw_g := lw_gi (lw_c8 (List.mem_of_getElem? (i := 165) rfl)) rfl
theorem wm_1846 : (Cond.methodLink "DrawingHouse" (319 : Nat) ({ cls := "DrawingHouse$Drawing", name := "move", desc := "(IIII)Z" } : MethodName) : Cond) ∈ lw_g := lw_gi (lw_c8 (List.mem_of_getElem? (i := 166) rfl)) rfl
theorem wm_1847 : (Cond.instanceMethod ({ cls := "DrawingHouse$Drawing", name := "move", desc := "(IIII)Z" } : MethodName) : Cond) ∈ lw_g := lw_gi (lw_c8 (List.mem_of_getElem? (i := 167) rfl)) rfl
theorem wm_1848 : (Cond.selects "DrawingHouse$Drawing" ({ cls := "DrawingHouse$Drawing", name := "move", desc := "(IIII)Z" } : MethodName) ({ cls := "DrawingHouse$Drawing", name := "move", desc := "(IIII)Z" } : MethodName) : Cond) ∈ lw_g := lw_gi (lw_c8 (List.mem_of_getElem? (i := 168) rfl)) rfl
theorem wm_1849 : (Cond.code ({ cls := "DrawingHouse$Drawing", name := "move", desc := "(IIII)Z" } : MethodName) prog_2_method_9_code (5 : Nat) (Option.some ClassFile.FieldType.boolean) : Cond) ∈ lw_g := lw_gi (lw_c8 (List.mem_of_getElem? (i := 169) rfl)) rfl
theorem wm_1855 : (Cond.code ({ cls := "DrawingHouse", name := "route", desc := "(II)I" } : MethodName) prog_1_method_21_code (3 : Nat) (Option.some ClassFile.FieldType.int) : Cond) ∈ lw_g := lw_gi (lw_c8 (List.mem_of_getElem? (i := 175) rfl)) rfl
theorem wm_1856 : (Cond.methodLink "DrawingHouse" (323 : Nat) ({ cls := "DrawingHouse", name := "hasDrawing", desc := "(I)Z" } : MethodName) : Cond) ∈ lw_g := lw_gi (lw_c8 (List.mem_of_getElem? (i := 176) rfl)) rfl
theorem wm_1858 : (Cond.instanceMethod ({ cls := "DrawingHouse", name := "hasDrawing", desc := "(I)Z" } : MethodName) : Cond) ∈ lw_g := lw_gi (lw_c8 (List.mem_of_getElem? (i := 178) rfl)) rfl
theorem wm_1859 : (Cond.code ({ cls := "DrawingHouse", name := "hasDrawing", desc := "(I)Z" } : MethodName) prog_1_method_31_code (2 : Nat) (Option.some ClassFile.FieldType.boolean) : Cond) ∈ lw_g := lw_gi (lw_c8 (List.mem_of_getElem? (i := 179) rfl)) rfl
theorem wm_1974 : (Cond.code ({ cls := "DrawingHouse", name := "label", desc := "(III)I" } : MethodName) prog_1_method_22_code (4 : Nat) (Option.some ClassFile.FieldType.int) : Cond) ∈ lw_g := lw_gi (lw_c9 (List.mem_of_getElem? (i := 54) rfl)) rfl
theorem wm_2005 : (Cond.code ({ cls := "DrawingHouse", name := "judge", desc := "(II)J" } : MethodName) prog_1_method_23_code (3 : Nat) (Option.some ClassFile.FieldType.long) : Cond) ∈ lw_g := lw_gi (lw_c9 (List.mem_of_getElem? (i := 85) rfl)) rfl
theorem wm_2084 : (Cond.constantLong "DrawingHouse" (340 : Nat) (-1 : Int64) : Cond) ∈ lw_g := lw_gi (lw_c9 (List.mem_of_getElem? (i := 164) rfl)) rfl
theorem wm_2326 : (Cond.code ({ cls := "DrawingHouse", name := "shade", desc := "(IIII)I" } : MethodName) prog_1_method_25_code (5 : Nat) (Option.some ClassFile.FieldType.int) : Cond) ∈ lw_g := lw_gi (lw_c10 (List.mem_of_getElem? (i := 166) rfl)) rfl
theorem wm_2382 : (Cond.code ({ cls := "DrawingHouse", name := "octet", desc := "(I)I" } : MethodName) prog_1_method_27_code (2 : Nat) (Option.some ClassFile.FieldType.int) : Cond) ∈ lw_g := lw_gi (lw_c10 (List.mem_of_getElem? (i := 222) rfl)) rfl
theorem wm_2386 : (Cond.code ({ cls := "DrawingHouse", name := "dots", desc := "(III)I" } : MethodName) prog_1_method_28_code (8 : Nat) (Option.some ClassFile.FieldType.int) : Cond) ∈ lw_g := lw_gi (lw_c10 (List.mem_of_getElem? (i := 226) rfl)) rfl
theorem wm_2408 : (Cond.code ({ cls := "DrawingHouse", name := "dot", desc := "(II)I" } : MethodName) prog_1_method_29_code (3 : Nat) (Option.some ClassFile.FieldType.int) : Cond) ∈ lw_g := lw_gi (lw_c11 (List.mem_of_getElem? (i := 8) rfl)) rfl
theorem wm_2433 : (Cond.fieldLink "DrawingHouseModel" (383 : Nat) "DrawingHouseModel" "taped" "I" : Cond) ∈ lw_g := lw_gi (lw_c11 (List.mem_of_getElem? (i := 33) rfl)) rfl
theorem wm_2438 : (Cond.fieldLink "DrawingHouseModel" (391 : Nat) "DrawingHouseModel" "\x72" "I" : Cond) ∈ lw_g := lw_gi (lw_c11 (List.mem_of_getElem? (i := 38) rfl)) rfl
theorem wm_2458 : (Cond.fieldLink "DrawingHouseModel" (581 : Nat) "DrawingHouseModel" "isMapped" "Z" : Cond) ∈ lw_g := lw_gi (lw_c11 (List.mem_of_getElem? (i := 58) rfl)) rfl
theorem wm_2459 : (Cond.fieldLink "DrawingHouseModel" (584 : Nat) "DrawingHouseModel" "mapNodes" "I" : Cond) ∈ lw_g := lw_gi (lw_c11 (List.mem_of_getElem? (i := 59) rfl)) rfl
theorem wm_2460 : (Cond.fieldLink "DrawingHouseModel" (572 : Nat) "DrawingHouseModel" "steps" "I" : Cond) ∈ lw_g := lw_gi (lw_c11 (List.mem_of_getElem? (i := 60) rfl)) rfl
theorem wm_2463 : (Cond.fieldLink "DrawingHouseModel" (575 : Nat) "DrawingHouseModel" "hasSteps" "Z" : Cond) ∈ lw_g := lw_gi (lw_c11 (List.mem_of_getElem? (i := 63) rfl)) rfl
theorem wm_2601 : (Cond.fieldLink "DrawingHouseModel" (1326 : Nat) "DrawingHouseModel" "octets" "I" : Cond) ∈ lw_g := lw_gi (lw_c11 (List.mem_of_getElem? (i := 201) rfl)) rfl
theorem wm_2605 : (Cond.fieldLink "DrawingHouseModel" (1329 : Nat) "DrawingHouseModel" "dotWide" "I" : Cond) ∈ lw_g := lw_gi (lw_c11 (List.mem_of_getElem? (i := 205) rfl)) rfl
theorem wm_2606 : (Cond.fieldLink "DrawingHouseModel" (1332 : Nat) "DrawingHouseModel" "dotTall" "I" : Cond) ∈ lw_g := lw_gi (lw_c11 (List.mem_of_getElem? (i := 206) rfl)) rfl
theorem wm_2964 : (Cond.code ({ cls := "DrawingHouseModel", name := "feed", desc := "(IIIII)I" } : MethodName) prog_15_method_6_code (8 : Nat) (Option.some ClassFile.FieldType.int) : Cond) ∈ lw_g := lw_gi (lw_c13 (List.mem_of_getElem? (i := 84) rfl)) rfl
theorem wm_2976 : (Cond.methodLink "DrawingHouseModel" (521 : Nat) ({ cls := "DrawingHouseModel", name := "isPlace", desc := "(I)Z" } : MethodName) : Cond) ∈ lw_g := lw_gi (lw_c13 (List.mem_of_getElem? (i := 96) rfl)) rfl
theorem wm_2977 : (Cond.static ({ cls := "DrawingHouseModel", name := "isPlace", desc := "(I)Z" } : MethodName) : Cond) ∈ lw_g := lw_gi (lw_c13 (List.mem_of_getElem? (i := 97) rfl)) rfl
theorem wm_3022 : (Cond.methodLink "DrawingHouseModel" (475 : Nat) ({ cls := "DrawingHouseModel", name := "nodes", desc := "()I" } : MethodName) : Cond) ∈ lw_g := lw_gi (lw_c13 (List.mem_of_getElem? (i := 142) rfl)) rfl
theorem wm_3024 : (Cond.instanceMethod ({ cls := "DrawingHouseModel", name := "nodes", desc := "()I" } : MethodName) : Cond) ∈ lw_g := lw_gi (lw_c13 (List.mem_of_getElem? (i := 144) rfl)) rfl
theorem wm_3025 : (Cond.code ({ cls := "DrawingHouseModel", name := "nodes", desc := "()I" } : MethodName) prog_15_method_11_code (1 : Nat) (Option.some ClassFile.FieldType.int) : Cond) ∈ lw_g := lw_gi (lw_c13 (List.mem_of_getElem? (i := 145) rfl)) rfl
theorem wm_3029 : (Cond.code ({ cls := "DrawingHouseModel", name := "longOf", desc := "(I)I" } : MethodName) prog_15_method_20_code (2 : Nat) (Option.some ClassFile.FieldType.int) : Cond) ∈ lw_g := lw_gi (lw_c13 (List.mem_of_getElem? (i := 149) rfl)) rfl
theorem wm_3034 : (Cond.methodLink "DrawingHouseModel" (401 : Nat) ({ cls := "DrawingHouseModel", name := "edges", desc := "()I" } : MethodName) : Cond) ∈ lw_g := lw_gi (lw_c13 (List.mem_of_getElem? (i := 154) rfl)) rfl
theorem wm_3036 : (Cond.instanceMethod ({ cls := "DrawingHouseModel", name := "edges", desc := "()I" } : MethodName) : Cond) ∈ lw_g := lw_gi (lw_c13 (List.mem_of_getElem? (i := 156) rfl)) rfl
theorem wm_3037 : (Cond.code ({ cls := "DrawingHouseModel", name := "edges", desc := "()I" } : MethodName) prog_15_method_12_code (1 : Nat) (Option.some ClassFile.FieldType.int) : Cond) ∈ lw_g := lw_gi (lw_c13 (List.mem_of_getElem? (i := 157) rfl)) rfl
theorem wm_3045 : (Cond.code ({ cls := "DrawingHouseModel", name := "tail", desc := "(I)I" } : MethodName) prog_15_method_14_code (2 : Nat) (Option.some ClassFile.FieldType.int) : Cond) ∈ lw_g := lw_gi (lw_c13 (List.mem_of_getElem? (i := 165) rfl)) rfl
theorem wm_3049 : (Cond.code ({ cls := "DrawingHouseModel", name := "head", desc := "(I)I" } : MethodName) prog_15_method_15_code (2 : Nat) (Option.some ClassFile.FieldType.int) : Cond) ∈ lw_g := lw_gi (lw_c13 (List.mem_of_getElem? (i := 169) rfl)) rfl
theorem wm_3067 : (Cond.methodLink "DrawingHouseModel" (509 : Nat) ({ cls := "DrawingHouseModel", name := "groups", desc := "()I" } : MethodName) : Cond) ∈ lw_g := lw_gi (lw_c13 (List.mem_of_getElem? (i := 187) rfl)) rfl
theorem wm_3069 : (Cond.instanceMethod ({ cls := "DrawingHouseModel", name := "groups", desc := "()I" } : MethodName) : Cond) ∈ lw_g := lw_gi (lw_c13 (List.mem_of_getElem? (i := 189) rfl)) rfl
theorem wm_3070 : (Cond.code ({ cls := "DrawingHouseModel", name := "groups", desc := "()I" } : MethodName) prog_15_method_13_code (1 : Nat) (Option.some ClassFile.FieldType.int) : Cond) ∈ lw_g := lw_gi (lw_c13 (List.mem_of_getElem? (i := 190) rfl)) rfl
theorem wm_3088 : (Cond.methodLink "DrawingHouseModel" (527 : Nat) ({ cls := "DrawingHouseModel", name := "take", desc := "(I)V" } : MethodName) : Cond) ∈ lw_g := lw_gi (lw_c13 (List.mem_of_getElem? (i := 208) rfl)) rfl
theorem wm_3090 : (Cond.instanceMethod ({ cls := "DrawingHouseModel", name := "take", desc := "(I)V" } : MethodName) : Cond) ∈ lw_g := lw_gi (lw_c13 (List.mem_of_getElem? (i := 210) rfl)) rfl
theorem wm_3091 : (Cond.code ({ cls := "DrawingHouseModel", name := "take", desc := "(I)V" } : MethodName) prog_15_method_10_code (2 : Nat) (Option.none : Option ClassFile.FieldType) : Cond) ∈ lw_g := lw_gi (lw_c13 (List.mem_of_getElem? (i := 211) rfl)) rfl
theorem wm_3115 : (Cond.code ({ cls := "DrawingHouseModel", name := "back", desc := "(II)Z" } : MethodName) prog_15_method_49_code (3 : Nat) (Option.some ClassFile.FieldType.boolean) : Cond) ∈ lw_g := lw_gi (lw_c13 (List.mem_of_getElem? (i := 235) rfl)) rfl
theorem wm_3135 : (Cond.code ({ cls := "DrawingHouseModel", name := "map", desc := "(I)I" } : MethodName) prog_15_method_61_code (2 : Nat) (Option.some ClassFile.FieldType.int) : Cond) ∈ lw_g := lw_gi (lw_c14 (List.mem_of_getElem? (i := 15) rfl)) rfl
theorem wm_3279 : (Cond.code ({ cls := "DrawingHouseModel", name := "count", desc := "(II)I" } : MethodName) prog_15_method_98_code (3 : Nat) (Option.some ClassFile.FieldType.int) : Cond) ∈ lw_g := lw_gi (lw_c14 (List.mem_of_getElem? (i := 159) rfl)) rfl
theorem wm_3299 : (Cond.code ({ cls := "DrawingHouseModel", name := "one", desc := "(I)I" } : MethodName) prog_15_method_17_code (2 : Nat) (Option.some ClassFile.FieldType.int) : Cond) ∈ lw_g := lw_gi (lw_c14 (List.mem_of_getElem? (i := 179) rfl)) rfl
theorem wm_3303 : (Cond.code ({ cls := "DrawingHouseModel", name := "node", desc := "(III)I" } : MethodName) prog_15_method_99_code (7 : Nat) (Option.some ClassFile.FieldType.int) : Cond) ∈ lw_g := lw_gi (lw_c14 (List.mem_of_getElem? (i := 183) rfl)) rfl
theorem wm_3307 : (Cond.code ({ cls := "DrawingHouseModel", name := "size", desc := "(I)I" } : MethodName) prog_15_method_18_code (2 : Nat) (Option.some ClassFile.FieldType.int) : Cond) ∈ lw_g := lw_gi (lw_c14 (List.mem_of_getElem? (i := 187) rfl)) rfl
theorem wm_3311 : (Cond.code ({ cls := "DrawingHouseModel", name := "groupOf", desc := "(I)I" } : MethodName) prog_15_method_19_code (2 : Nat) (Option.some ClassFile.FieldType.int) : Cond) ∈ lw_g := lw_gi (lw_c14 (List.mem_of_getElem? (i := 191) rfl)) rfl
theorem wm_3335 : (Cond.code ({ cls := "DrawingHouseModel", name := "edge", desc := "(III)I" } : MethodName) prog_15_method_100_code (5 : Nat) (Option.some ClassFile.FieldType.int) : Cond) ∈ lw_g := lw_gi (lw_c14 (List.mem_of_getElem? (i := 215) rfl)) rfl
theorem wm_3339 : (Cond.code ({ cls := "DrawingHouseModel", name := "weight", desc := "(I)I" } : MethodName) prog_15_method_16_code (2 : Nat) (Option.some ClassFile.FieldType.int) : Cond) ∈ lw_g := lw_gi (lw_c14 (List.mem_of_getElem? (i := 219) rfl)) rfl
theorem wm_3347 : (Cond.code ({ cls := "DrawingHouseModel", name := "group", desc := "(III)I" } : MethodName) prog_15_method_103_code (4 : Nat) (Option.some ClassFile.FieldType.int) : Cond) ∈ lw_g := lw_gi (lw_c14 (List.mem_of_getElem? (i := 227) rfl)) rfl
theorem wm_3359 : (Cond.code ({ cls := "DrawingHouseModel", name := "letter", desc := "(IIII)I" } : MethodName) prog_15_method_104_code (5 : Nat) (Option.some ClassFile.FieldType.int) : Cond) ∈ lw_g := lw_gi (lw_c14 (List.mem_of_getElem? (i := 239) rfl)) rfl
theorem wm_3363 : (Cond.code ({ cls := "DrawingHouseModel", name := "far", desc := "(III)I" } : MethodName) prog_15_method_105_code (4 : Nat) (Option.some ClassFile.FieldType.int) : Cond) ∈ lw_g := lw_gi (lw_c15 (List.mem_of_getElem? (i := 3) rfl)) rfl
theorem wm_3367 : (Cond.code ({ cls := "DrawingHouseModel", name := "draw", desc := "(III)I" } : MethodName) prog_15_method_107_code (5 : Nat) (Option.some ClassFile.FieldType.int) : Cond) ∈ lw_g := lw_gi (lw_c15 (List.mem_of_getElem? (i := 7) rfl)) rfl
theorem wm_3625 : (Cond.constantLong "DrawingHouseModel" (1007 : Nat) (-1 : Int64) : Cond) ∈ lw_g := lw_gi (lw_c16 (List.mem_of_getElem? (i := 25) rfl)) rfl
theorem wm_3652 : (Cond.code ({ cls := "DrawingHouseModel", name := "at", desc := "(IIII)I" } : MethodName) prog_15_method_108_code (6 : Nat) (Option.some ClassFile.FieldType.int) : Cond) ∈ lw_g := lw_gi (lw_c16 (List.mem_of_getElem? (i := 52) rfl)) rfl
theorem wm_3653 : (Cond.constant "DrawingHouseModel" (775 : Nat) (-2147483648 : Int32) : Cond) ∈ lw_g := lw_gi (lw_c16 (List.mem_of_getElem? (i := 53) rfl)) rfl
theorem wm_3657 : (Cond.code ({ cls := "DrawingHouseModel", name := "told", desc := "(III)I" } : MethodName) prog_15_method_109_code (6 : Nat) (Option.some ClassFile.FieldType.int) : Cond) ∈ lw_g := lw_gi (lw_c16 (List.mem_of_getElem? (i := 57) rfl)) rfl
theorem wm_3661 : (Cond.code ({ cls := "DrawingHouseModel", name := "put", desc := "(IIIII)Z" } : MethodName) prog_15_method_110_code (6 : Nat) (Option.some ClassFile.FieldType.boolean) : Cond) ∈ lw_g := lw_gi (lw_c16 (List.mem_of_getElem? (i := 61) rfl)) rfl
theorem wm_3665 : (Cond.code ({ cls := "DrawingHouseModel", name := "route", desc := "(II)I" } : MethodName) prog_15_method_187_code (7 : Nat) (Option.some ClassFile.FieldType.int) : Cond) ∈ lw_g := lw_gi (lw_c16 (List.mem_of_getElem? (i := 65) rfl)) rfl
theorem wm_3666 : (Cond.methodLink "DrawingHouseModel" (1032 : Nat) ({ cls := "DrawingHouseModel", name := "isDrawn", desc := "(I)Z" } : MethodName) : Cond) ∈ lw_g := lw_gi (lw_c16 (List.mem_of_getElem? (i := 66) rfl)) rfl
theorem wm_3668 : (Cond.instanceMethod ({ cls := "DrawingHouseModel", name := "isDrawn", desc := "(I)Z" } : MethodName) : Cond) ∈ lw_g := lw_gi (lw_c16 (List.mem_of_getElem? (i := 68) rfl)) rfl
theorem wm_3669 : (Cond.code ({ cls := "DrawingHouseModel", name := "isDrawn", desc := "(I)Z" } : MethodName) prog_15_method_180_code (2 : Nat) (Option.some ClassFile.FieldType.boolean) : Cond) ∈ lw_g := lw_gi (lw_c16 (List.mem_of_getElem? (i := 69) rfl)) rfl
theorem wm_3718 : (Cond.code ({ cls := "DrawingHouseModel", name := "label", desc := "(III)I" } : MethodName) prog_15_method_196_code (5 : Nat) (Option.some ClassFile.FieldType.int) : Cond) ∈ lw_g := lw_gi (lw_c16 (List.mem_of_getElem? (i := 118) rfl)) rfl
theorem wm_3738 : (Cond.code ({ cls := "DrawingHouseModel", name := "judge", desc := "(II)J" } : MethodName) prog_15_method_205_code (9 : Nat) (Option.some ClassFile.FieldType.long) : Cond) ∈ lw_g := lw_gi (lw_c16 (List.mem_of_getElem? (i := 138) rfl)) rfl
theorem wm_3897 : (Cond.code ({ cls := "DrawingHouseModel", name := "shade", desc := "(IIII)I" } : MethodName) prog_15_method_231_code (5 : Nat) (Option.some ClassFile.FieldType.int) : Cond) ∈ lw_g := lw_gi (lw_c17 (List.mem_of_getElem? (i := 57) rfl)) rfl
theorem wm_3948 : (Cond.code ({ cls := "DrawingHouseModel", name := "octet", desc := "(I)I" } : MethodName) prog_15_method_241_code (2 : Nat) (Option.some ClassFile.FieldType.int) : Cond) ∈ lw_g := lw_gi (lw_c17 (List.mem_of_getElem? (i := 108) rfl)) rfl
theorem wm_3952 : (Cond.code ({ cls := "DrawingHouseModel", name := "dots", desc := "(III)I" } : MethodName) prog_15_method_242_code (6 : Nat) (Option.some ClassFile.FieldType.int) : Cond) ∈ lw_g := lw_gi (lw_c17 (List.mem_of_getElem? (i := 112) rfl)) rfl
theorem wm_3968 : (Cond.code ({ cls := "DrawingHouseModel", name := "dot", desc := "(II)I" } : MethodName) prog_15_method_246_code (3 : Nat) (Option.some ClassFile.FieldType.int) : Cond) ∈ lw_g := lw_gi (lw_c17 (List.mem_of_getElem? (i := 128) rfl)) rfl
theorem wv_8_15 : (Cond.selects "DrawingHouse" ⟨"DrawingHouse", "hasDrawing", "(I)Z"⟩ ⟨"DrawingHouse", "hasDrawing", "(I)Z"⟩ : Cond) ∈ lw_g := lw_gi (List.mem_append_left _ (List.mem_map.mpr ⟨_, lw_v2 (List.mem_of_getElem? (i := 2) rfl), rfl⟩)) rfl
theorem wv_13_3 : (Cond.selects "DrawingHouseModel" ⟨"DrawingHouseModel", "nodes", "()I"⟩ ⟨"DrawingHouseModel", "nodes", "()I"⟩ : Cond) ∈ lw_g := lw_gi (List.mem_append_left _ (List.mem_map.mpr ⟨_, lw_v2 (List.mem_of_getElem? (i := 11) rfl), rfl⟩)) rfl
theorem wv_13_6 : (Cond.selects "DrawingHouseModel" ⟨"DrawingHouseModel", "edges", "()I"⟩ ⟨"DrawingHouseModel", "edges", "()I"⟩ : Cond) ∈ lw_g := lw_gi (List.mem_append_left _ (List.mem_map.mpr ⟨_, lw_v2 (List.mem_of_getElem? (i := 12) rfl), rfl⟩)) rfl
theorem wv_13_14 : (Cond.selects "DrawingHouseModel" ⟨"DrawingHouseModel", "groups", "()I"⟩ ⟨"DrawingHouseModel", "groups", "()I"⟩ : Cond) ∈ lw_g := lw_gi (List.mem_append_left _ (List.mem_map.mpr ⟨_, lw_v2 (List.mem_of_getElem? (i := 13) rfl), rfl⟩)) rfl
theorem wv_14_2 : (Cond.selects "DrawingHouseModel" ⟨"DrawingHouseModel", "take", "(I)V"⟩ ⟨"DrawingHouseModel", "take", "(I)V"⟩ : Cond) ∈ lw_g := lw_gi (List.mem_append_left _ (List.mem_map.mpr ⟨_, lw_v2 (List.mem_of_getElem? (i := 15) rfl), rfl⟩)) rfl
theorem wv_21_13 : (Cond.selects "DrawingHouseModel" ⟨"DrawingHouseModel", "isDrawn", "(I)Z"⟩ ⟨"DrawingHouseModel", "isDrawn", "(I)Z"⟩ : Cond) ∈ lw_g := lw_gi (List.mem_append_left _ (List.mem_map.mpr ⟨_, lw_v3 (List.mem_of_getElem? (i := 14) rfl), rfl⟩)) rfl
theorem d_law_law_18 : decode b_law_law 18 = .ok (.iload_n 3, 1) := by decide +kernel
theorem d_law_law_19 : decode b_law_law 19 = .ok (.aload_n 0, 1) := by decide +kernel
theorem d_law_law_20 : decode b_law_law 20 = .ok (.arraylength, 1) := by decide +kernel
theorem d_law_law_21 : decode b_law_law 21 = .ok (.bipush 6, 2) := by decide +kernel
theorem d_law_law_23 : decode b_law_law 23 = .ok (.isub, 1) := by decide +kernel
theorem d_law_law_24 : decode b_law_law 24 = .ok (.if_icmp .gt 1277, 3) := by decide +kernel
theorem d_law_law_1295 : decode b_law_law 1295 = .ok (.iinc 3 6, 3) := by decide +kernel
theorem d_law_law_1298 : decode b_law_law 1298 = .ok (.goto (-1280), 3) := by decide +kernel
theorem d_law_law_1301 : decode b_law_law 1301 = .ok (.iconst 1, 1) := by decide +kernel
theorem d_law_law_1302 : decode b_law_law 1302 = .ok (.ireturn, 1) := by decide +kernel
set_option maxRecDepth 100000 in
theorem law_exit {p : Program} {e : Env} {s : State} {m : MethodId} {below : List Frame} {meth : Method} {c : Code} (l : Launch) {b : Nat} {xs : Nat → Int32} (C0 : lw_At p s m meth c b 6 xs) {h h2 k n : Nat} (hk : k ≤ 600000) (hn : n ≤ 7302250) {H : Heap} {locs : List Loc} {ls : Array Slot} (hS : va_S (fun q : Nat => s.heap.size ≤ q) s.heap H locs) (hl : lv_has ls 4 [(3, .int 0), (2, .ref h2), (1, .ref h), (0, .ref b)]) : W p l e room_1 s m #[Value.ref b] below meth c H locs k n (lw_Z below #[Value.ref b] s) (F0 m 1295 ls []) := by
  obtain ⟨hx, hb, hr, hml, hown, hts0, hX, hbl, hlocks, hgv⟩ := id C0
  have hts : ∀ w ∈ lw_g, w.before #[Value.ref b] s = true := fun w h => hts0 w (lw_gt h)
  have X : cx p s m #[Value.ref b] meth c b_law_law 4 ret "DrawingHouseLaw" meth.name := ⟨hx, hb, hml, hown, hts, hr, hlocks, rfl⟩
  obtain ⟨A, hAe⟩ : ∃ A : Nat → Prop, A = fun q : Nat => s.heap.size ≤ q := ⟨_, rfl⟩
  have hA : ∀ q : Nat, s.heap.size ≤ q → A q := fun q h => by rw [hAe]; exact h
  have hbA : ¬ A b := by rw [hAe]; exact Nat.not_le.mpr hbl
  rw [← hAe] at hS
  refine lv_iinc (pc := 1295) (v := 6) (lv' := [(3, .int 6), (2, .ref h2), (1, .ref h), (0, .ref b)]) hx hb d_law_law_1295 hl (k := 0) rfl (by decide) (by decide) rfl (fun ls hl => ?_)
  refine lv_goto (pc := 1298) (tgt := 18) hx hb d_law_law_1298 (by decide) ?_
  refine lv_iload_n (pc := 18) hx hb d_law_law_18 rfl (lv_at hl 0 rfl) ?_
  refine lv_aload_n (pc := 19) hx hb d_law_law_19 rfl (lv_at hl 3 rfl) ?_
  refine va_slen (pc := 20) hx hb hX hbl hbA hS d_law_law_20 ?_
  refine k_cst (v := 6) (by decide) ?_
  refine lv_bipush (pc := 21) (v := 6) hx hb d_law_law_21 (by decide) ?_
  refine lv_isub (pc := 23) hx hb d_law_law_23 ?_
  refine k_cst (v := 0) (by decide) ?_
  refine lv_icmp_gt (pc := 24) (tgt := 1301) hx hb d_law_law_24 (by decide) (fun _ => ?_) (fun c1 => absurd (by decide) c1)
  refine lv_iconst (pc := 1301) (v := 1) hx hb d_law_law_1301 (by decide) ?_
  rw [hAe] at hS
  refine va_forget (fun q hq => hS.2.2 q hq) ?_
  refine W.widen (k := 600000) (n := 7302250) hk hn ?_
  exact lw_ret hx hb hr hlocks d_law_law_1302
