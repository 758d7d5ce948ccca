theorem wm_62 : (Cond.fieldLink "DrawingHouse" (132 : Nat) "DrawingHouse$Graph" "nodes" "I" : Cond) ∈ lw_g := lw_gi (lw_c1 (List.mem_of_getElem? (i := 62) rfl)) rfl
theorem wm_73 : (Cond.fieldLink "DrawingHouse" (141 : Nat) "DrawingHouse$Graph" "edges" "I" : Cond) ∈ lw_g := lw_gi (lw_c1 (List.mem_of_getElem? (i := 73) rfl)) rfl
theorem wm_80 : (Cond.fieldLink "DrawingHouse" (144 : Nat) "DrawingHouse$Graph" "groups" "I" : Cond) ∈ lw_g := lw_gi (lw_c1 (List.mem_of_getElem? (i := 80) rfl)) rfl
theorem wm_131 : (Cond.fieldLink "DrawingHouse" (221 : Nat) "DrawingHouse$Graph" "within" "[I" : Cond) ∈ lw_g := lw_gi (lw_c1 (List.mem_of_getElem? (i := 131) rfl)) rfl
theorem wm_138 : (Cond.fieldLink "DrawingHouse" (224 : Nat) "DrawingHouse$Graph" "groupNameLength" "[I" : Cond) ∈ lw_g := lw_gi (lw_c1 (List.mem_of_getElem? (i := 138) rfl)) rfl
theorem wm_150 : (Cond.fieldLink "DrawingHouse" (160 : Nat) "DrawingHouse$Graph" "done" "I" : Cond) ∈ lw_g := lw_gi (lw_c1 (List.mem_of_getElem? (i := 150) rfl)) rfl
theorem wm_152 : (Cond.fieldLink "DrawingHouse" (163 : Nat) "DrawingHouse$Graph" "undone" "I" : Cond) ∈ lw_g := lw_gi (lw_c1 (List.mem_of_getElem? (i := 152) rfl)) rfl
theorem wm_197 : (Cond.fieldLink "DrawingHouse" (108 : Nat) "DrawingHouse$Reader" "length" "I" : Cond) ∈ lw_g := lw_gi (lw_c1 (List.mem_of_getElem? (i := 197) rfl)) rfl
theorem wm_467 : (Cond.fieldLink "DrawingHouse" (309 : Nat) "DrawingHouse$Drawing" "way" "I" : Cond) ∈ lw_g := lw_gi (lw_c2 (List.mem_of_getElem? (i := 227) rfl)) rfl
theorem wm_622 : (Cond.code ({ cls := "DrawingHouse", name := "feed", desc := "(IIIII)I" } : MethodName) prog_1_method_2_code (6 : Nat) (Option.some ClassFile.FieldType.int) : Cond) ∈ lw_g := lw_gi (lw_c3 (List.mem_of_getElem? (i := 142) rfl)) rfl
theorem wm_623 : (Cond.methodLink "DrawingHouse" (111 : Nat) ({ cls := "DrawingHouse$Reader", name := "append", desc := "(I)V" } : MethodName) : Cond) ∈ lw_g := lw_gi (lw_c3 (List.mem_of_getElem? (i := 143) rfl)) rfl
theorem wm_624 : (Cond.instanceMethod ({ cls := "DrawingHouse$Reader", name := "append", desc := "(I)V" } : MethodName) : Cond) ∈ lw_g := lw_gi (lw_c3 (List.mem_of_getElem? (i := 144) rfl)) rfl
theorem wm_625 : (Cond.selects "DrawingHouse$Reader" ({ cls := "DrawingHouse$Reader", name := "append", desc := "(I)V" } : MethodName) ({ cls := "DrawingHouse$Reader", name := "append", desc := "(I)V" } : MethodName) : Cond) ∈ lw_g := lw_gi (lw_c3 (List.mem_of_getElem? (i := 145) rfl)) rfl
theorem wm_626 : (Cond.code ({ cls := "DrawingHouse$Reader", name := "append", desc := "(I)V" } : MethodName) prog_10_method_2_code (3 : Nat) (Option.none : Option ClassFile.FieldType) : Cond) ∈ lw_g := lw_gi (lw_c3 (List.mem_of_getElem? (i := 146) rfl)) rfl
theorem wm_631 : (Cond.methodLink "DrawingHouse" (115 : Nat) ({ cls := "DrawingHouse", name := "isPlace", desc := "(I)Z" } : MethodName) : Cond) ∈ lw_g := lw_gi (lw_c3 (List.mem_of_getElem? (i := 151) rfl)) rfl
theorem wm_632 : (Cond.static ({ cls := "DrawingHouse", name := "isPlace", desc := "(I)Z" } : MethodName) : Cond) ∈ lw_g := lw_gi (lw_c3 (List.mem_of_getElem? (i := 152) rfl)) rfl
theorem wm_807 : (Cond.code ({ cls := "DrawingHouse", name := "count", desc := "(II)I" } : MethodName) prog_1_method_5_code (3 : Nat) (Option.some ClassFile.FieldType.int) : Cond) ∈ lw_g := lw_gi (lw_c4 (List.mem_of_getElem? (i := 87) rfl)) rfl
theorem wm_918 : (Cond.code ({ cls := "DrawingHouse", name := "node", desc := "(III)I" } : MethodName) prog_1_method_6_code (4 : Nat) (Option.some ClassFile.FieldType.int) : Cond) ∈ lw_g := lw_gi (lw_c4 (List.mem_of_getElem? (i := 198) rfl)) rfl
theorem wm_919 : (Cond.methodLink "DrawingHouse" (166 : Nat) ({ cls := "DrawingHouse$Graph", name := "hasNode", desc := "(I)Z" } : MethodName) : Cond) ∈ lw_g := lw_gi (lw_c4 (List.mem_of_getElem? (i := 199) rfl)) rfl
theorem wm_920 : (Cond.instanceMethod ({ cls := "DrawingHouse$Graph", name := "hasNode", desc := "(I)Z" } : MethodName) : Cond) ∈ lw_g := lw_gi (lw_c4 (List.mem_of_getElem? (i := 200) rfl)) rfl
theorem wm_921 : (Cond.selects "DrawingHouse$Graph" ({ cls := "DrawingHouse$Graph", name := "hasNode", desc := "(I)Z" } : MethodName) ({ cls := "DrawingHouse$Graph", name := "hasNode", desc := "(I)Z" } : MethodName) : Cond) ∈ lw_g := lw_gi (lw_c4 (List.mem_of_getElem? (i := 201) rfl)) rfl
theorem wm_927 : (Cond.code ({ cls := "DrawingHouse", name := "edge", desc := "(III)I" } : MethodName) prog_1_method_7_code (4 : Nat) (Option.some ClassFile.FieldType.int) : Cond) ∈ lw_g := lw_gi (lw_c4 (List.mem_of_getElem? (i := 207) rfl)) rfl
theorem wm_928 : (Cond.methodLink "DrawingHouse" (197 : Nat) ({ cls := "DrawingHouse$Graph", name := "hasEdge", desc := "(I)Z" } : MethodName) : Cond) ∈ lw_g := lw_gi (lw_c4 (List.mem_of_getElem? (i := 208) rfl)) rfl
theorem wm_929 : (Cond.instanceMethod ({ cls := "DrawingHouse$Graph", name := "hasEdge", desc := "(I)Z" } : MethodName) : Cond) ∈ lw_g := lw_gi (lw_c4 (List.mem_of_getElem? (i := 209) rfl)) rfl
theorem wm_930 : (Cond.selects "DrawingHouse$Graph" ({ cls := "DrawingHouse$Graph", name := "hasEdge", desc := "(I)Z" } : MethodName) ({ cls := "DrawingHouse$Graph", name := "hasEdge", desc := "(I)Z" } : MethodName) : Cond) ∈ lw_g := lw_gi (lw_c4 (List.mem_of_getElem? (i := 210) rfl)) rfl
theorem wm_939 : (Cond.code ({ cls := "DrawingHouse", name := "group", desc := "(III)I" } : MethodName) prog_1_method_8_code (4 : Nat) (Option.some ClassFile.FieldType.int) : Cond) ∈ lw_g := lw_gi (lw_c4 (List.mem_of_getElem? (i := 219) rfl)) rfl
theorem wm_940 : (Cond.methodLink "DrawingHouse" (218 : Nat) ({ cls := "DrawingHouse$Graph", name := "hasGroup", desc := "(I)Z" } : MethodName) : Cond) ∈ lw_g := lw_gi (lw_c4 (List.mem_of_getElem? (i := 220) rfl)) rfl
theorem wm_941 : (Cond.instanceMethod ({ cls := "DrawingHouse$Graph", name := "hasGroup", desc := "(I)Z" } : MethodName) : Cond) ∈ lw_g := lw_gi (lw_c4 (List.mem_of_getElem? (i := 221) rfl)) rfl
theorem wm_942 : (Cond.selects "DrawingHouse$Graph" ({ cls := "DrawingHouse$Graph", name := "hasGroup", desc := "(I)Z" } : MethodName) ({ cls := "DrawingHouse$Graph", name := "hasGroup", desc := "(I)Z" } : MethodName) : Cond) ∈ lw_g := lw_gi (lw_c4 (List.mem_of_getElem? (i := 222) rfl)) rfl
theorem wm_947 : (Cond.code ({ cls := "DrawingHouse$Graph", name := "sizeOfGroup", desc := "(I)I" } : MethodName) prog_5_method_10_code (6 : Nat) (Option.some ClassFile.FieldType.int) : Cond) ∈ lw_g := lw_gi (lw_c4 (List.mem_of_getElem? (i := 227) rfl)) rfl
theorem wm_951 : (Cond.code ({ cls := "DrawingHouse", name := "letter", desc := "(IIII)I" } : MethodName) prog_1_method_9_code (6 : Nat) (Option.some ClassFile.FieldType.int) : Cond) ∈ lw_g := lw_gi (lw_c4 (List.mem_of_getElem? (i := 231) rfl)) rfl
theorem wm_1002 : (Cond.code ({ cls := "DrawingHouse", name := "back", desc := "(II)Z" } : MethodName) prog_1_method_11_code (3 : Nat) (Option.some ClassFile.FieldType.boolean) : Cond) ∈ lw_g := lw_gi (lw_c5 (List.mem_of_getElem? (i := 42) rfl)) rfl
theorem wm_1003 : (Cond.methodLink "DrawingHouse" (244 : Nat) ({ cls := "DrawingHouse$Graph", name := "step", desc := "(I)Z" } : MethodName) : Cond) ∈ lw_g := lw_gi (lw_c5 (List.mem_of_getElem? (i := 43) rfl)) rfl
theorem wm_1004 : (Cond.instanceMethod ({ cls := "DrawingHouse$Graph", name := "step", desc := "(I)Z" } : MethodName) : Cond) ∈ lw_g := lw_gi (lw_c5 (List.mem_of_getElem? (i := 44) rfl)) rfl
theorem wm_1005 : (Cond.selects "DrawingHouse$Graph" ({ cls := "DrawingHouse$Graph", name := "step", desc := "(I)Z" } : MethodName) ({ cls := "DrawingHouse$Graph", name := "step", desc := "(I)Z" } : MethodName) : Cond) ∈ lw_g := lw_gi (lw_c5 (List.mem_of_getElem? (i := 45) rfl)) rfl
theorem wm_1006 : (Cond.code ({ cls := "DrawingHouse$Graph", name := "step", desc := "(I)Z" } : MethodName) prog_5_method_25_code (2 : Nat) (Option.some ClassFile.FieldType.boolean) : Cond) ∈ lw_g := lw_gi (lw_c5 (List.mem_of_getElem? (i := 46) rfl)) rfl
theorem wm_1018 : (Cond.code ({ cls := "DrawingHouse", name := "far", desc := "(III)I" } : MethodName) prog_1_method_12_code (4 : Nat) (Option.some ClassFile.FieldType.int) : Cond) ∈ lw_g := lw_gi (lw_c5 (List.mem_of_getElem? (i := 58) rfl)) rfl
theorem wm_1045 : (Cond.code ({ cls := "DrawingHouse", name := "map", desc := "(I)I" } : MethodName) prog_1_method_14_code (2 : Nat) (Option.some ClassFile.FieldType.int) : Cond) ∈ lw_g := lw_gi (lw_c5 (List.mem_of_getElem? (i := 85) rfl)) rfl
theorem wm_1186 : (Cond.code ({ cls := "DrawingHouse", name := "draw", desc := "(III)I" } : MethodName) prog_1_method_17_code (5 : Nat) (Option.some ClassFile.FieldType.int) : Cond) ∈ lw_g := lw_gi (lw_c5 (List.mem_of_getElem? (i := 226) rfl)) rfl
theorem wm_1817 : (Cond.code ({ cls := "DrawingHouse", name := "at", desc := "(IIII)I" } : MethodName) prog_1_method_18_code (5 : Nat) (Option.some ClassFile.FieldType.int) : Cond) ∈ lw_g := lw_gi (lw_c8 (List.mem_of_getElem? (i := 137) rfl)) rfl
theorem wm_1818 : (Cond.methodLink "DrawingHouse" (312 : Nat) ({ cls := "DrawingHouse$Drawing", name := "coordinate", desc := "(III)I" } : MethodName) : Cond) ∈ lw_g := lw_gi (lw_c8 (List.mem_of_getElem? (i := 138) rfl)) rfl
theorem wm_1819 : (Cond.instanceMethod ({ cls := "DrawingHouse$Drawing", name := "coordinate", desc := "(III)I" } : MethodName) : Cond) ∈ lw_g := lw_gi (lw_c8 (List.mem_of_getElem? (i := 139) rfl)) rfl
theorem wm_1820 : (Cond.selects "DrawingHouse$Drawing" ({ cls := "DrawingHouse$Drawing", name := "coordinate", desc := "(III)I" } : MethodName) ({ cls := "DrawingHouse$Drawing", name := "coordinate", desc := "(III)I" } : MethodName) : Cond) ∈ lw_g := lw_gi (lw_c8 (List.mem_of_getElem? (i := 140) rfl)) rfl
theorem wm_1821 : (Cond.code ({ cls := "DrawingHouse$Drawing", name := "coordinate", desc := "(III)I" } : MethodName) prog_2_method_5_code (4 : Nat) (Option.some ClassFile.FieldType.int) : Cond) ∈ lw_g := lw_gi (lw_c8 (List.mem_of_getElem? (i := 141) rfl)) rfl
theorem wm_1822 : (Cond.constant "DrawingHouse$Drawing" (84 : Nat) (-2147483648 : Int32) : Cond) ∈ lw_g := lw_gi (lw_c8 (List.mem_of_getElem? (i := 142) rfl)) rfl
theorem wm_1825 : (Cond.constant "DrawingHouse" (315 : Nat) (-2147483648 : Int32) : Cond) ∈ lw_g := lw_gi (lw_c8 (List.mem_of_getElem? (i := 145) rfl)) rfl
theorem wm_1829 : (Cond.code ({ cls := "DrawingHouse", name := "told", desc := "(III)I" } : MethodName) prog_1_method_19_code (4 : Nat) (Option.some ClassFile.FieldType.int) : Cond) ∈ lw_g := lw_gi (lw_c8 (List.mem_of_getElem? (i := 149) rfl)) rfl
theorem wm_1830 : (Cond.methodLink "DrawingHouse" (316 : Nat) ({ cls := "DrawingHouse$Drawing", name := "report", desc := "(II)I" } : MethodName) : Cond) ∈ lw_g := lw_gi (lw_c8 (List.mem_of_getElem? (i := 150) rfl)) rfl
theorem wm_1831 : (Cond.instanceMethod ({ cls := "DrawingHouse$Drawing", name := "report", desc := "(II)I" } : MethodName) : Cond) ∈ lw_g := lw_gi (lw_c8 (List.mem_of_getElem? (i := 151) rfl)) rfl
theorem wm_1832 : (Cond.selects "DrawingHouse$Drawing" ({ cls := "DrawingHouse$Drawing", name := "report", desc := "(II)I" } : MethodName) ({ cls := "DrawingHouse$Drawing", name := "report", desc := "(II)I" } : MethodName) : Cond) ∈ lw_g := lw_gi (lw_c8 (List.mem_of_getElem? (i := 152) rfl)) rfl
theorem wm_1833 : (Cond.code ({ cls := "DrawingHouse$Drawing", name := "report", desc := "(II)I" } : MethodName) prog_2_method_6_code (3 : Nat) (Option.some ClassFile.FieldType.int) : Cond) ∈ lw_g := lw_gi (lw_c8 (List.mem_of_getElem? (i := 153) rfl)) rfl
theorem wm_1846 : (Cond.code ({ cls := "DrawingHouse", name := "put", desc := "(IIIII)Z" } : MethodName) prog_1_method_20_code (6 : Nat) (Option.some ClassFile.FieldType.boolean) : Cond) ∈ lw_g := lw_gi (lw_c8 (List.mem_of_getElem? (i := 166) rfl)) rfl
theorem wm_1847 : (Cond.methodLink "DrawingHouse" (319 : Nat) ({ cls := "DrawingHouse$Drawing", name := "move", desc := "(IIII)Z" } : MethodName) : Cond) ∈ lw_g := lw_gi (lw_c8 (List.mem_of_getElem? (i := 167) rfl)) rfl
theorem wm_1848 : (Cond.instanceMethod ({ cls := "DrawingHouse$Drawing", name := "move", desc := "(IIII)Z" } : MethodName) : Cond) ∈ lw_g := lw_gi (lw_c8 (List.mem_of_getElem? (i := 168) rfl)) rfl
theorem wm_1849 : (Cond.selects "DrawingHouse$Drawing" ({ cls := "DrawingHouse$Drawing", name := "move", desc := "(IIII)Z" } : MethodName) ({ cls := "DrawingHouse$Drawing", name := "move", desc := "(IIII)Z" } : MethodName) : Cond) ∈ lw_g := lw_gi (lw_c8 (List.mem_of_getElem? (i := 169) rfl)) rfl
theorem wm_1850 : (Cond.code ({ cls := "DrawingHouse$Drawing", name := "move", desc := "(IIII)Z" } : MethodName) prog_2_method_9_code (5 : Nat) (Option.some ClassFile.FieldType.boolean) : Cond) ∈ lw_g := lw_gi (lw_c8 (List.mem_of_getElem? (i := 170) rfl)) rfl
theorem wm_1856 : (Cond.code ({ cls := "DrawingHouse", name := "route", desc := "(II)I" } : MethodName) prog_1_method_21_code (3 : Nat) (Option.some ClassFile.FieldType.int) : Cond) ∈ lw_g := lw_gi (lw_c8 (List.mem_of_getElem? (i := 176) rfl)) rfl
theorem wm_1857 : (Cond.methodLink "DrawingHouse" (323 : Nat) ({ cls := "DrawingHouse", name := "hasDrawing", desc := "(I)Z" } : MethodName) : Cond) ∈ lw_g := lw_gi (lw_c8 (List.mem_of_getElem? (i := 177) rfl)) rfl
theorem wm_1859 : (Cond.instanceMethod ({ cls := "DrawingHouse", name := "hasDrawing", desc := "(I)Z" } : MethodName) : Cond) ∈ lw_g := lw_gi (lw_c8 (List.mem_of_getElem? (i := 179) rfl)) rfl
theorem wm_1860 : (Cond.code ({ cls := "DrawingHouse", name := "hasDrawing", desc := "(I)Z" } : MethodName) prog_1_method_31_code (2 : Nat) (Option.some ClassFile.FieldType.boolean) : Cond) ∈ lw_g := lw_gi (lw_c8 (List.mem_of_getElem? (i := 180) rfl)) rfl
theorem wm_1975 : (Cond.code ({ cls := "DrawingHouse", name := "label", desc := "(III)I" } : MethodName) prog_1_method_22_code (4 : Nat) (Option.some ClassFile.FieldType.int) : Cond) ∈ lw_g := lw_gi (lw_c9 (List.mem_of_getElem? (i := 55) rfl)) rfl
theorem wm_2006 : (Cond.code ({ cls := "DrawingHouse", name := "judge", desc := "(II)J" } : MethodName) prog_1_method_23_code (3 : Nat) (Option.some ClassFile.FieldType.long) : Cond) ∈ lw_g := lw_gi (lw_c9 (List.mem_of_getElem? (i := 86) rfl)) rfl
theorem wm_2085 : (Cond.constantLong "DrawingHouse" (340 : Nat) (-1 : Int64) : Cond) ∈ lw_g := lw_gi (lw_c9 (List.mem_of_getElem? (i := 165) rfl)) rfl
theorem wm_2327 : (Cond.code ({ cls := "DrawingHouse", name := "shade", desc := "(IIII)I" } : MethodName) prog_1_method_25_code (5 : Nat) (Option.some ClassFile.FieldType.int) : Cond) ∈ lw_g := lw_gi (lw_c10 (List.mem_of_getElem? (i := 167) rfl)) rfl
theorem wm_2383 : (Cond.code ({ cls := "DrawingHouse", name := "octet", desc := "(I)I" } : MethodName) prog_1_method_27_code (2 : Nat) (Option.some ClassFile.FieldType.int) : Cond) ∈ lw_g := lw_gi (lw_c10 (List.mem_of_getElem? (i := 223) rfl)) rfl
theorem wm_2387 : (Cond.code ({ cls := "DrawingHouse", name := "dots", desc := "(III)I" } : MethodName) prog_1_method_28_code (8 : Nat) (Option.some ClassFile.FieldType.int) : Cond) ∈ lw_g := lw_gi (lw_c10 (List.mem_of_getElem? (i := 227) rfl)) rfl
theorem wm_2409 : (Cond.code ({ cls := "DrawingHouse", name := "dot", desc := "(II)I" } : MethodName) prog_1_method_29_code (3 : Nat) (Option.some ClassFile.FieldType.int) : Cond) ∈ lw_g := lw_gi (lw_c11 (List.mem_of_getElem? (i := 9) rfl)) rfl
theorem wm_2434 : (Cond.fieldLink "DrawingHouseModel" (383 : Nat) "DrawingHouseModel" "taped" "I" : Cond) ∈ lw_g := lw_gi (lw_c11 (List.mem_of_getElem? (i := 34) rfl)) rfl
theorem wm_2439 : (Cond.fieldLink "DrawingHouseModel" (391 : Nat) "DrawingHouseModel" "\x72" "I" : Cond) ∈ lw_g := lw_gi (lw_c11 (List.mem_of_getElem? (i := 39) rfl)) rfl
theorem wm_2459 : (Cond.fieldLink "DrawingHouseModel" (581 : Nat) "DrawingHouseModel" "isMapped" "Z" : Cond) ∈ lw_g := lw_gi (lw_c11 (List.mem_of_getElem? (i := 59) rfl)) rfl
theorem wm_2460 : (Cond.fieldLink "DrawingHouseModel" (584 : Nat) "DrawingHouseModel" "mapNodes" "I" : Cond) ∈ lw_g := lw_gi (lw_c11 (List.mem_of_getElem? (i := 60) rfl)) rfl
theorem wm_2461 : (Cond.fieldLink "DrawingHouseModel" (572 : Nat) "DrawingHouseModel" "steps" "I" : Cond) ∈ lw_g := lw_gi (lw_c11 (List.mem_of_getElem? (i := 61) rfl)) rfl
theorem wm_2464 : (Cond.fieldLink "DrawingHouseModel" (575 : Nat) "DrawingHouseModel" "hasSteps" "Z" : Cond) ∈ lw_g := lw_gi (lw_c11 (List.mem_of_getElem? (i := 64) rfl)) rfl
theorem wm_2602 : (Cond.fieldLink "DrawingHouseModel" (1326 : Nat) "DrawingHouseModel" "octets" "I" : Cond) ∈ lw_g := lw_gi (lw_c11 (List.mem_of_getElem? (i := 202) rfl)) rfl
theorem wm_2606 : (Cond.fieldLink "DrawingHouseModel" (1329 : Nat) "DrawingHouseModel" "dotWide" "I" : Cond) ∈ lw_g := lw_gi (lw_c11 (List.mem_of_getElem? (i := 206) rfl)) rfl
theorem wm_2607 : (Cond.fieldLink "DrawingHouseModel" (1332 : Nat) "DrawingHouseModel" "dotTall" "I" : Cond) ∈ lw_g := lw_gi (lw_c11 (List.mem_of_getElem? (i := 207) rfl)) rfl
theorem wm_2965 : (Cond.code ({ cls := "DrawingHouseModel", name := "feed", desc := "(IIIII)I" } : MethodName) prog_15_method_6_code (8 : Nat) (Option.some ClassFile.FieldType.int) : Cond) ∈ lw_g := lw_gi (lw_c13 (List.mem_of_getElem? (i := 85) rfl)) rfl
theorem wm_2977 : (Cond.methodLink "DrawingHouseModel" (521 : Nat) ({ cls := "DrawingHouseModel", name := "isPlace", desc := "(I)Z" } : MethodName) : Cond) ∈ lw_g := lw_gi (lw_c13 (List.mem_of_getElem? (i := 97) rfl)) rfl
theorem wm_2978 : (Cond.static ({ cls := "DrawingHouseModel", name := "isPlace", desc := "(I)Z" } : MethodName) : Cond) ∈ lw_g := lw_gi (lw_c13 (List.mem_of_getElem? (i := 98) rfl)) rfl
theorem wm_3023 : (Cond.methodLink "DrawingHouseModel" (475 : Nat) ({ cls := "DrawingHouseModel", name := "nodes", desc := "()I" } : MethodName) : Cond) ∈ lw_g := lw_gi (lw_c13 (List.mem_of_getElem? (i := 143) rfl)) rfl
theorem wm_3025 : (Cond.instanceMethod ({ cls := "DrawingHouseModel", name := "nodes", desc := "()I" } : MethodName) : Cond) ∈ lw_g := lw_gi (lw_c13 (List.mem_of_getElem? (i := 145) rfl)) rfl
theorem wm_3026 : (Cond.code ({ cls := "DrawingHouseModel", name := "nodes", desc := "()I" } : MethodName) prog_15_method_11_code (1 : Nat) (Option.some ClassFile.FieldType.int) : Cond) ∈ lw_g := lw_gi (lw_c13 (List.mem_of_getElem? (i := 146) rfl)) rfl
theorem wm_3030 : (Cond.code ({ cls := "DrawingHouseModel", name := "longOf", desc := "(I)I" } : MethodName) prog_15_method_20_code (2 : Nat) (Option.some ClassFile.FieldType.int) : Cond) ∈ lw_g := lw_gi (lw_c13 (List.mem_of_getElem? (i := 150) rfl)) rfl
theorem wm_3035 : (Cond.methodLink "DrawingHouseModel" (401 : Nat) ({ cls := "DrawingHouseModel", name := "edges", desc := "()I" } : MethodName) : Cond) ∈ lw_g := lw_gi (lw_c13 (List.mem_of_getElem? (i := 155) rfl)) rfl
theorem wm_3037 : (Cond.instanceMethod ({ cls := "DrawingHouseModel", name := "edges", desc := "()I" } : MethodName) : Cond) ∈ lw_g := lw_gi (lw_c13 (List.mem_of_getElem? (i := 157) rfl)) rfl
theorem wm_3038 : (Cond.code ({ cls := "DrawingHouseModel", name := "edges", desc := "()I" } : MethodName) prog_15_method_12_code (1 : Nat) (Option.some ClassFile.FieldType.int) : Cond) ∈ lw_g := lw_gi (lw_c13 (List.mem_of_getElem? (i := 158) rfl)) rfl
theorem wm_3046 : (Cond.code ({ cls := "DrawingHouseModel", name := "tail", desc := "(I)I" } : MethodName) prog_15_method_14_code (2 : Nat) (Option.some ClassFile.FieldType.int) : Cond) ∈ lw_g := lw_gi (lw_c13 (List.mem_of_getElem? (i := 166) rfl)) rfl
theorem wm_3050 : (Cond.code ({ cls := "DrawingHouseModel", name := "head", desc := "(I)I" } : MethodName) prog_15_method_15_code (2 : Nat) (Option.some ClassFile.FieldType.int) : Cond) ∈ lw_g := lw_gi (lw_c13 (List.mem_of_getElem? (i := 170) rfl)) rfl
theorem wm_3068 : (Cond.methodLink "DrawingHouseModel" (509 : Nat) ({ cls := "DrawingHouseModel", name := "groups", desc := "()I" } : MethodName) : Cond) ∈ lw_g := lw_gi (lw_c13 (List.mem_of_getElem? (i := 188) rfl)) rfl
theorem wm_3070 : (Cond.instanceMethod ({ cls := "DrawingHouseModel", name := "groups", desc := "()I" } : MethodName) : Cond) ∈ lw_g := lw_gi (lw_c13 (List.mem_of_getElem? (i := 190) rfl)) rfl
theorem wm_3071 : (Cond.code ({ cls := "DrawingHouseModel", name := "groups", desc := "()I" } : MethodName) prog_15_method_13_code (1 : Nat) (Option.some ClassFile.FieldType.int) : Cond) ∈ lw_g := lw_gi (lw_c13 (List.mem_of_getElem? (i := 191) rfl)) rfl
theorem wm_3089 : (Cond.methodLink "DrawingHouseModel" (527 : Nat) ({ cls := "DrawingHouseModel", name := "take", desc := "(I)V" } : MethodName) : Cond) ∈ lw_g := lw_gi (lw_c13 (List.mem_of_getElem? (i := 209) rfl)) rfl
theorem wm_3091 : (Cond.instanceMethod ({ cls := "DrawingHouseModel", name := "take", desc := "(I)V" } : MethodName) : Cond) ∈ lw_g := lw_gi (lw_c13 (List.mem_of_getElem? (i := 211) rfl)) rfl
theorem wm_3092 : (Cond.code ({ cls := "DrawingHouseModel", name := "take", desc := "(I)V" } : MethodName) prog_15_method_10_code (2 : Nat) (Option.none : Option ClassFile.FieldType) : Cond) ∈ lw_g := lw_gi (lw_c13 (List.mem_of_getElem? (i := 212) rfl)) rfl
theorem wm_3116 : (Cond.code ({ cls := "DrawingHouseModel", name := "back", desc := "(II)Z" } : MethodName) prog_15_method_49_code (3 : Nat) (Option.some ClassFile.FieldType.boolean) : Cond) ∈ lw_g := lw_gi (lw_c13 (List.mem_of_getElem? (i := 236) rfl)) rfl
theorem wm_3136 : (Cond.code ({ cls := "DrawingHouseModel", name := "map", desc := "(I)I" } : MethodName) prog_15_method_61_code (2 : Nat) (Option.some ClassFile.FieldType.int) : Cond) ∈ lw_g := lw_gi (lw_c14 (List.mem_of_getElem? (i := 16) rfl)) rfl
theorem wm_3280 : (Cond.code ({ cls := "DrawingHouseModel", name := "count", desc := "(II)I" } : MethodName) prog_15_method_98_code (3 : Nat) (Option.some ClassFile.FieldType.int) : Cond) ∈ lw_g := lw_gi (lw_c14 (List.mem_of_getElem? (i := 160) rfl)) rfl
theorem wm_3300 : (Cond.code ({ cls := "DrawingHouseModel", name := "one", desc := "(I)I" } : MethodName) prog_15_method_17_code (2 : Nat) (Option.some ClassFile.FieldType.int) : Cond) ∈ lw_g := lw_gi (lw_c14 (List.mem_of_getElem? (i := 180) rfl)) rfl
theorem wm_3304 : (Cond.code ({ cls := "DrawingHouseModel", name := "node", desc := "(III)I" } : MethodName) prog_15_method_99_code (7 : Nat) (Option.some ClassFile.FieldType.int) : Cond) ∈ lw_g := lw_gi (lw_c14 (List.mem_of_getElem? (i := 184) rfl)) rfl
theorem wm_3308 : (Cond.code ({ cls := "DrawingHouseModel", name := "size", desc := "(I)I" } : MethodName) prog_15_method_18_code (2 : Nat) (Option.some ClassFile.FieldType.int) : Cond) ∈ lw_g := lw_gi (lw_c14 (List.mem_of_getElem? (i := 188) rfl)) rfl
theorem wm_3312 : (Cond.code ({ cls := "DrawingHouseModel", name := "groupOf", desc := "(I)I" } : MethodName) prog_15_method_19_code (2 : Nat) (Option.some ClassFile.FieldType.int) : Cond) ∈ lw_g := lw_gi (lw_c14 (List.mem_of_getElem? (i := 192) rfl)) rfl
theorem wm_3336 : (Cond.code ({ cls := "DrawingHouseModel", name := "edge", desc := "(III)I" } : MethodName) prog_15_method_100_code (5 : Nat) (Option.some ClassFile.FieldType.int) : Cond) ∈ lw_g := lw_gi (lw_c14 (List.mem_of_getElem? (i := 216) rfl)) rfl
theorem wm_3340 : (Cond.code ({ cls := "DrawingHouseModel", name := "weight", desc := "(I)I" } : MethodName) prog_15_method_16_code (2 : Nat) (Option.some ClassFile.FieldType.int) : Cond) ∈ lw_g := lw_gi (lw_c14 (List.mem_of_getElem? (i := 220) rfl)) rfl
theorem wm_3348 : (Cond.code ({ cls := "DrawingHouseModel", name := "group", desc := "(III)I" } : MethodName) prog_15_method_103_code (4 : Nat) (Option.some ClassFile.FieldType.int) : Cond) ∈ lw_g := lw_gi (lw_c14 (List.mem_of_getElem? (i := 228) rfl)) rfl
theorem wm_3360 : (Cond.code ({ cls := "DrawingHouseModel", name := "letter", desc := "(IIII)I" } : MethodName) prog_15_method_104_code (5 : Nat) (Option.some ClassFile.FieldType.int) : Cond) ∈ lw_g := lw_gi (lw_c15 (List.mem_of_getElem? (i := 0) rfl)) rfl
theorem wm_3364 : (Cond.code ({ cls := "DrawingHouseModel", name := "far", desc := "(III)I" } : MethodName) prog_15_method_105_code (4 : Nat) (Option.some ClassFile.FieldType.int) : Cond) ∈ lw_g := lw_gi (lw_c15 (List.mem_of_getElem? (i := 4) rfl)) rfl
theorem wm_3368 : (Cond.code ({ cls := "DrawingHouseModel", name := "draw", desc := "(III)I" } : MethodName) prog_15_method_107_code (5 : Nat) (Option.some ClassFile.FieldType.int) : Cond) ∈ lw_g := lw_gi (lw_c15 (List.mem_of_getElem? (i := 8) rfl)) rfl
theorem wm_3626 : (Cond.constantLong "DrawingHouseModel" (1007 : Nat) (-1 : Int64) : Cond) ∈ lw_g := lw_gi (lw_c16 (List.mem_of_getElem? (i := 26) rfl)) rfl
theorem wm_3653 : (Cond.code ({ cls := "DrawingHouseModel", name := "at", desc := "(IIII)I" } : MethodName) prog_15_method_108_code (6 : Nat) (Option.some ClassFile.FieldType.int) : Cond) ∈ lw_g := lw_gi (lw_c16 (List.mem_of_getElem? (i := 53) rfl)) rfl
theorem wm_3654 : (Cond.constant "DrawingHouseModel" (775 : Nat) (-2147483648 : Int32) : Cond) ∈ lw_g := lw_gi (lw_c16 (List.mem_of_getElem? (i := 54) rfl)) rfl
theorem wm_3658 : (Cond.code ({ cls := "DrawingHouseModel", name := "told", desc := "(III)I" } : MethodName) prog_15_method_109_code (6 : Nat) (Option.some ClassFile.FieldType.int) : Cond) ∈ lw_g := lw_gi (lw_c16 (List.mem_of_getElem? (i := 58) rfl)) rfl
theorem wm_3662 : (Cond.code ({ cls := "DrawingHouseModel", name := "put", desc := "(IIIII)Z" } : MethodName) prog_15_method_110_code (6 : Nat) (Option.some ClassFile.FieldType.boolean) : Cond) ∈ lw_g := lw_gi (lw_c16 (List.mem_of_getElem? (i := 62) rfl)) rfl
theorem wm_3666 : (Cond.code ({ cls := "DrawingHouseModel", name := "route", desc := "(II)I" } : MethodName) prog_15_method_187_code (7 : Nat) (Option.some ClassFile.FieldType.int) : Cond) ∈ lw_g := lw_gi (lw_c16 (List.mem_of_getElem? (i := 66) rfl)) rfl
theorem wm_3667 : (Cond.methodLink "DrawingHouseModel" (1032 : Nat) ({ cls := "DrawingHouseModel", name := "isDrawn", desc := "(I)Z" } : MethodName) : Cond) ∈ lw_g := lw_gi (lw_c16 (List.mem_of_getElem? (i := 67) rfl)) rfl
theorem wm_3669 : (Cond.instanceMethod ({ cls := "DrawingHouseModel", name := "isDrawn", desc := "(I)Z" } : MethodName) : Cond) ∈ lw_g := lw_gi (lw_c16 (List.mem_of_getElem? (i := 69) rfl)) rfl
theorem wm_3670 : (Cond.code ({ cls := "DrawingHouseModel", name := "isDrawn", desc := "(I)Z" } : MethodName) prog_15_method_180_code (2 : Nat) (Option.some ClassFile.FieldType.boolean) : Cond) ∈ lw_g := lw_gi (lw_c16 (List.mem_of_getElem? (i := 70) rfl)) rfl
theorem wm_3719 : (Cond.code ({ cls := "DrawingHouseModel", name := "label", desc := "(III)I" } : MethodName) prog_15_method_196_code (5 : Nat) (Option.some ClassFile.FieldType.int) : Cond) ∈ lw_g := lw_gi (lw_c16 (List.mem_of_getElem? (i := 119) rfl)) rfl
theorem wm_3739 : (Cond.code ({ cls := "DrawingHouseModel", name := "judge", desc := "(II)J" } : MethodName) prog_15_method_205_code (9 : Nat) (Option.some ClassFile.FieldType.long) : Cond) ∈ lw_g := lw_gi (lw_c16 (List.mem_of_getElem? (i := 139) rfl)) rfl
theorem wm_3898 : (Cond.code ({ cls := "DrawingHouseModel", name := "shade", desc := "(IIII)I" } : MethodName) prog_15_method_231_code (5 : Nat) (Option.some ClassFile.FieldType.int) : Cond) ∈ lw_g := lw_gi (lw_c17 (List.mem_of_getElem? (i := 58) rfl)) rfl
theorem wm_3949 : (Cond.code ({ cls := "DrawingHouseModel", name := "octet", desc := "(I)I" } : MethodName) prog_15_method_241_code (2 : Nat) (Option.some ClassFile.FieldType.int) : Cond) ∈ lw_g := lw_gi (lw_c17 (List.mem_of_getElem? (i := 109) rfl)) rfl
theorem wm_3953 : (Cond.code ({ cls := "DrawingHouseModel", name := "dots", desc := "(III)I" } : MethodName) prog_15_method_242_code (6 : Nat) (Option.some ClassFile.FieldType.int) : Cond) ∈ lw_g := lw_gi (lw_c17 (List.mem_of_getElem? (i := 113) rfl)) rfl
theorem wm_3969 : (Cond.code ({ cls := "DrawingHouseModel", name := "dot", desc := "(II)I" } : MethodName) prog_15_method_246_code (3 : Nat) (Option.some ClassFile.FieldType.int) : Cond) ∈ lw_g := lw_gi (lw_c17 (List.mem_of_getElem? (i := 129) rfl)) rfl
theorem wv_9_0 : (Cond.selects "DrawingHouse" ⟨"DrawingHouse", "hasDrawing", "(I)Z"⟩ ⟨"DrawingHouse", "hasDrawing", "(I)Z"⟩ : Cond) ∈ lw_g := lw_gi (List.mem_append_left _ (List.mem_map.mpr ⟨_, lw_v2 (List.mem_of_getElem? (i := 2) rfl), rfl⟩)) rfl
theorem wv_13_4 : (Cond.selects "DrawingHouseModel" ⟨"DrawingHouseModel", "nodes", "()I"⟩ ⟨"DrawingHouseModel", "nodes", "()I"⟩ : Cond) ∈ lw_g := lw_gi (List.mem_append_left _ (List.mem_map.mpr ⟨_, lw_v2 (List.mem_of_getElem? (i := 11) rfl), rfl⟩)) rfl
theorem wv_13_7 : (Cond.selects "DrawingHouseModel" ⟨"DrawingHouseModel", "edges", "()I"⟩ ⟨"DrawingHouseModel", "edges", "()I"⟩ : Cond) ∈ lw_g := lw_gi (List.mem_append_left _ (List.mem_map.mpr ⟨_, lw_v2 (List.mem_of_getElem? (i := 12) rfl), rfl⟩)) rfl
theorem wv_13_15 : (Cond.selects "DrawingHouseModel" ⟨"DrawingHouseModel", "groups", "()I"⟩ ⟨"DrawingHouseModel", "groups", "()I"⟩ : Cond) ∈ lw_g := lw_gi (List.mem_append_left _ (List.mem_map.mpr ⟨_, lw_v2 (List.mem_of_getElem? (i := 13) rfl), rfl⟩)) rfl
theorem wv_14_3 : (Cond.selects "DrawingHouseModel" ⟨"DrawingHouseModel", "take", "(I)V"⟩ ⟨"DrawingHouseModel", "take", "(I)V"⟩ : Cond) ∈ lw_g := lw_gi (List.mem_append_left _ (List.mem_map.mpr ⟨_, lw_v2 (List.mem_of_getElem? (i := 15) rfl), rfl⟩)) rfl
theorem wv_21_14 : (Cond.selects "DrawingHouseModel" ⟨"DrawingHouseModel", "isDrawn", "(I)Z"⟩ ⟨"DrawingHouseModel", "isDrawn", "(I)Z"⟩ : Cond) ∈ lw_g := lw_gi (List.mem_append_left _ (List.mem_map.mpr ⟨_, lw_v3 (List.mem_of_getElem? (i := 14) rfl), rfl⟩)) rfl
theorem d_law_law_18 : decode b_law_law 18 = .ok (.iload_n 3, 1) := by decide +kernel
theorem d_law_law_19 : decode b_law_law 19 = .ok (.aload_n 0, 1) := by decide +kernel
theorem d_law_law_20 : decode b_law_law 20 = .ok (.arraylength, 1) := by decide +kernel
theorem d_law_law_21 : decode b_law_law 21 = .ok (.bipush 6, 2) := by decide +kernel
theorem d_law_law_23 : decode b_law_law 23 = .ok (.isub, 1) := by decide +kernel
theorem d_law_law_24 : decode b_law_law 24 = .ok (.if_icmp .gt 1277, 3) := by decide +kernel
theorem d_law_law_1295 : decode b_law_law 1295 = .ok (.iinc 3 6, 3) := by decide +kernel
theorem d_law_law_1298 : decode b_law_law 1298 = .ok (.goto (-1280), 3) := by decide +kernel
theorem d_law_law_1301 : decode b_law_law 1301 = .ok (.iconst 1, 1) := by decide +kernel
theorem d_law_law_1302 : decode b_law_law 1302 = .ok (.ireturn, 1) := by decide +kernel
set_option maxRecDepth 100000 in
theorem law_exit {p : Program} {e : Env} {s : State} {m : MethodId} {below : List Frame} {meth : Method} {c : Code} (l : Launch) {b : Nat} {xs : Nat → Int32} (C0 : lw_At p s m meth c b 6 xs) {h h2 k n : Nat} (hk : k ≤ 600000) (hn : n ≤ 7302250) {H : Heap} {locs : List Loc} {ls : Array Slot} (hS : va_S (fun q : Nat => s.heap.size ≤ q) s.heap H locs) (hl : lv_has ls 4 [(3, .int 0), (2, .ref h2), (1, .ref h), (0, .ref b)]) : W p l e room_1 s m #[Value.ref b] below meth c H locs k n (lw_Z below #[Value.ref b] s) (F0 m 1295 ls []) := by
  obtain ⟨hx, hb, hr, hml, hown, hts0, hX, hbl, hlocks, hgv⟩ := id C0
  have hts : ∀ w ∈ lw_g, w.before #[Value.ref b] s = true := fun w h => hts0 w (lw_gt h)
  have X : cx p s m #[Value.ref b] meth c b_law_law 4 ret "DrawingHouseLaw" meth.name := ⟨hx, hb, hml, hown, hts, hr, hlocks, rfl⟩
  obtain ⟨A, hAe⟩ : ∃ A : Nat → Prop, A = fun q : Nat => s.heap.size ≤ q := ⟨_, rfl⟩
  have hA : ∀ q : Nat, s.heap.size ≤ q → A q := fun q h => by rw [hAe]; exact h
  have hbA : ¬ A b := by rw [hAe]; exact Nat.not_le.mpr hbl
  rw [← hAe] at hS
  refine lv_iinc (pc := 1295) (v := 6) (lv' := [(3, .int 6), (2, .ref h2), (1, .ref h), (0, .ref b)]) hx hb d_law_law_1295 hl (k := 0) rfl (by decide) (by decide) rfl (fun ls hl => ?_)
  refine lv_goto (pc := 1298) (tgt := 18) hx hb d_law_law_1298 (by decide) ?_
  refine lv_iload_n (pc := 18) hx hb d_law_law_18 rfl (lv_at hl 0 rfl) ?_
  refine lv_aload_n (pc := 19) hx hb d_law_law_19 rfl (lv_at hl 3 rfl) ?_
  refine va_slen (pc := 20) hx hb hX hbl hbA hS d_law_law_20 ?_
  refine k_cst (v := 6) (by decide) ?_
  refine lv_bipush (pc := 21) (v := 6) hx hb d_law_law_21 (by decide) ?_
  refine lv_isub (pc := 23) hx hb d_law_law_23 ?_
  refine k_cst (v := 0) (by decide) ?_
  refine lv_icmp_gt (pc := 24) (tgt := 1301) hx hb d_law_law_24 (by decide) (fun _ => ?_) (fun c1 => absurd (by decide) c1)
  refine lv_iconst (pc := 1301) (v := 1) hx hb d_law_law_1301 (by decide) ?_
  rw [hAe] at hS
  refine va_forget (fun q hq => hS.2.2 q hq) ?_
  refine W.widen (k := 600000) (n := 7302250) hk hn ?_
  exact lw_ret hx hb hr hlocks d_law_law_1302
