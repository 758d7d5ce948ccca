section
theorem wn_666 : (Cond.stringRef "DrawingHouse$Reader" (93 : Nat) "node" : Cond) ∈ lw_n := lw_ni (lw_c3 (List.mem_of_getElem? (i := 186) rfl)) rfl
theorem wn_727 : (Cond.stringRef "DrawingHouse$Reader" (99 : Nat) "group" : Cond) ∈ lw_n := lw_ni (lw_c4 (List.mem_of_getElem? (i := 7) rfl)) rfl
theorem wn_751 : (Cond.stringRef "DrawingHouse$Reader" (130 : Nat) "size" : Cond) ∈ lw_n := lw_ni (lw_c4 (List.mem_of_getElem? (i := 31) rfl)) rfl
theorem wn_777 : (Cond.stringRef "DrawingHouse$Reader" (166 : Nat) "weight" : Cond) ∈ lw_n := lw_ni (lw_c4 (List.mem_of_getElem? (i := 57) rfl)) rfl
theorem wn_2095 : (Cond.stringRef "DrawingHouse$Styler" (40 : Nat) "deg in out size group far core cut x y " : Cond) ∈ lw_n := lw_ni (lw_c9 (List.mem_of_getElem? (i := 175) rfl)) rfl
theorem wn_2165 : (Cond.stringRef "DrawingHouse$Styler" (92 : Nat) ":=,;{}<>+-*/()" : Cond) ∈ lw_n := lw_ni (lw_c10 (List.mem_of_getElem? (i := 5) rfl)) rfl
theorem wn_2225 : (Cond.stringRef "DrawingHouse$Styler" (112 : Nat) "node edge " : Cond) ∈ lw_n := lw_ni (lw_c10 (List.mem_of_getElem? (i := 65) rfl)) rfl
theorem wn_2240 : (Cond.stringRef "DrawingHouse$Styler" (121 : Nat) "weight turned bridge from to block long one " : Cond) ∈ lw_n := lw_ni (lw_c10 (List.mem_of_getElem? (i := 80) rfl)) rfl
theorem wn_2241 : (Cond.stringRef "DrawingHouse$Styler" (123 : Nat) "if " : Cond) ∈ lw_n := lw_ni (lw_c10 (List.mem_of_getElem? (i := 81) rfl)) rfl
theorem wn_2254 : (Cond.stringRef "DrawingHouse$Styler" (150 : Nat) "not " : Cond) ∈ lw_n := lw_ni (lw_c10 (List.mem_of_getElem? (i := 94) rfl)) rfl
theorem wn_2275 : (Cond.stringRef "DrawingHouse$Styler" (148 : Nat) "and " : Cond) ∈ lw_n := lw_ni (lw_c10 (List.mem_of_getElem? (i := 115) rfl)) rfl
theorem wn_2276 : (Cond.stringRef "DrawingHouse$Styler" (143 : Nat) "or " : Cond) ∈ lw_n := lw_ni (lw_c10 (List.mem_of_getElem? (i := 116) rfl)) rfl
theorem wn_2281 : (Cond.stringRef "DrawingHouse$Styler" (135 : Nat) "color width form " : Cond) ∈ lw_n := lw_ni (lw_c10 (List.mem_of_getElem? (i := 121) rfl)) rfl
theorem wn_2335 : (Cond.stringRef "DrawingHouse" (459 : Nat) "node " : Cond) ∈ lw_n := lw_ni (lw_c10 (List.mem_of_getElem? (i := 175) rfl)) rfl
theorem wn_2350 : (Cond.stringRef "DrawingHouse" (469 : Nat) " [size=" : Cond) ∈ lw_n := lw_ni (lw_c10 (List.mem_of_getElem? (i := 190) rfl)) rfl
theorem wn_2358 : (Cond.stringRef "DrawingHouse" (474 : Nat) ";\n" : Cond) ∈ lw_n := lw_ni (lw_c10 (List.mem_of_getElem? (i := 198) rfl)) rfl
theorem wn_2359 : (Cond.stringRef "DrawingHouse" (476 : Nat) "group " : Cond) ∈ lw_n := lw_ni (lw_c10 (List.mem_of_getElem? (i := 199) rfl)) rfl
theorem wn_2360 : (Cond.stringRef "DrawingHouse" (478 : Nat) " {\n" : Cond) ∈ lw_n := lw_ni (lw_c10 (List.mem_of_getElem? (i := 200) rfl)) rfl
theorem wn_2361 : (Cond.stringRef "DrawingHouse" (480 : Nat) "}\n" : Cond) ∈ lw_n := lw_ni (lw_c10 (List.mem_of_getElem? (i := 201) rfl)) rfl
theorem wn_2366 : (Cond.stringRef "DrawingHouse" (482 : Nat) " > " : Cond) ∈ lw_n := lw_ni (lw_c10 (List.mem_of_getElem? (i := 206) rfl)) rfl
theorem wn_2367 : (Cond.stringRef "DrawingHouse" (484 : Nat) " - " : Cond) ∈ lw_n := lw_ni (lw_c10 (List.mem_of_getElem? (i := 207) rfl)) rfl
theorem wn_2368 : (Cond.stringRef "DrawingHouse" (486 : Nat) " [weight=" : Cond) ∈ lw_n := lw_ni (lw_c10 (List.mem_of_getElem? (i := 208) rfl)) rfl
theorem wn_2998 : (Cond.stringRef "DrawingHouseModel" (467 : Nat) "node" : Cond) ∈ lw_n := lw_ni (lw_c13 (List.mem_of_getElem? (i := 118) rfl)) rfl
theorem wn_3013 : (Cond.stringRef "DrawingHouseModel" (473 : Nat) "group" : Cond) ∈ lw_n := lw_ni (lw_c13 (List.mem_of_getElem? (i := 133) rfl)) rfl
theorem wn_3050 : (Cond.stringRef "DrawingHouseModel" (497 : Nat) "size" : Cond) ∈ lw_n := lw_ni (lw_c13 (List.mem_of_getElem? (i := 170) rfl)) rfl
theorem wn_3079 : (Cond.stringRef "DrawingHouseModel" (519 : Nat) "weight" : Cond) ∈ lw_n := lw_ni (lw_c13 (List.mem_of_getElem? (i := 199) rfl)) rfl
theorem wn_3810 : (Cond.stringRef "DrawingHouseModel" (1193 : Nat) "edge" : Cond) ∈ lw_n := lw_ni (lw_c16 (List.mem_of_getElem? (i := 210) rfl)) rfl
theorem wn_3811 : (Cond.stringRef "DrawingHouseModel" (1198 : Nat) "if" : Cond) ∈ lw_n := lw_ni (lw_c16 (List.mem_of_getElem? (i := 211) rfl)) rfl
theorem wn_3824 : (Cond.stringRef "DrawingHouseModel" (1230 : Nat) "not" : Cond) ∈ lw_n := lw_ni (lw_c16 (List.mem_of_getElem? (i := 224) rfl)) rfl
theorem wn_3853 : (Cond.stringRef "DrawingHouseModel" (1254 : Nat) "deg" : Cond) ∈ lw_n := lw_ni (lw_c17 (List.mem_of_getElem? (i := 13) rfl)) rfl
theorem wn_3854 : (Cond.stringRef "DrawingHouseModel" (1256 : Nat) "in" : Cond) ∈ lw_n := lw_ni (lw_c17 (List.mem_of_getElem? (i := 14) rfl)) rfl
theorem wn_3855 : (Cond.stringRef "DrawingHouseModel" (1257 : Nat) "out" : Cond) ∈ lw_n := lw_ni (lw_c17 (List.mem_of_getElem? (i := 15) rfl)) rfl
theorem wn_3856 : (Cond.stringRef "DrawingHouseModel" (1259 : Nat) "far" : Cond) ∈ lw_n := lw_ni (lw_c17 (List.mem_of_getElem? (i := 16) rfl)) rfl
theorem wn_3857 : (Cond.stringRef "DrawingHouseModel" (1261 : Nat) "core" : Cond) ∈ lw_n := lw_ni (lw_c17 (List.mem_of_getElem? (i := 17) rfl)) rfl
theorem wn_3858 : (Cond.stringRef "DrawingHouseModel" (1262 : Nat) "cut" : Cond) ∈ lw_n := lw_ni (lw_c17 (List.mem_of_getElem? (i := 18) rfl)) rfl
theorem wn_3859 : (Cond.stringRef "DrawingHouseModel" (1263 : Nat) "x" : Cond) ∈ lw_n := lw_ni (lw_c17 (List.mem_of_getElem? (i := 19) rfl)) rfl
theorem wn_3860 : (Cond.stringRef "DrawingHouseModel" (1265 : Nat) "y" : Cond) ∈ lw_n := lw_ni (lw_c17 (List.mem_of_getElem? (i := 20) rfl)) rfl
theorem wn_3865 : (Cond.stringRef "DrawingHouseModel" (1267 : Nat) "turned" : Cond) ∈ lw_n := lw_ni (lw_c17 (List.mem_of_getElem? (i := 25) rfl)) rfl
theorem wn_3866 : (Cond.stringRef "DrawingHouseModel" (1268 : Nat) "bridge" : Cond) ∈ lw_n := lw_ni (lw_c17 (List.mem_of_getElem? (i := 26) rfl)) rfl
theorem wn_3867 : (Cond.stringRef "DrawingHouseModel" (1270 : Nat) "from" : Cond) ∈ lw_n := lw_ni (lw_c17 (List.mem_of_getElem? (i := 27) rfl)) rfl
theorem wn_3868 : (Cond.stringRef "DrawingHouseModel" (1271 : Nat) "to" : Cond) ∈ lw_n := lw_ni (lw_c17 (List.mem_of_getElem? (i := 28) rfl)) rfl
theorem wn_3869 : (Cond.stringRef "DrawingHouseModel" (1272 : Nat) "block" : Cond) ∈ lw_n := lw_ni (lw_c17 (List.mem_of_getElem? (i := 29) rfl)) rfl
theorem wn_3870 : (Cond.stringRef "DrawingHouseModel" (1274 : Nat) "long" : Cond) ∈ lw_n := lw_ni (lw_c17 (List.mem_of_getElem? (i := 30) rfl)) rfl
theorem wn_3871 : (Cond.stringRef "DrawingHouseModel" (1276 : Nat) "one" : Cond) ∈ lw_n := lw_ni (lw_c17 (List.mem_of_getElem? (i := 31) rfl)) rfl
theorem wn_3880 : (Cond.stringRef "DrawingHouseModel" (1228 : Nat) "and" : Cond) ∈ lw_n := lw_ni (lw_c17 (List.mem_of_getElem? (i := 40) rfl)) rfl
theorem wn_3881 : (Cond.stringRef "DrawingHouseModel" (1223 : Nat) "or" : Cond) ∈ lw_n := lw_ni (lw_c17 (List.mem_of_getElem? (i := 41) rfl)) rfl
theorem wn_3882 : (Cond.stringRef "DrawingHouseModel" (1206 : Nat) "color" : Cond) ∈ lw_n := lw_ni (lw_c17 (List.mem_of_getElem? (i := 42) rfl)) rfl
theorem wn_3883 : (Cond.stringRef "DrawingHouseModel" (1208 : Nat) "width" : Cond) ∈ lw_n := lw_ni (lw_c17 (List.mem_of_getElem? (i := 43) rfl)) rfl
theorem wn_3884 : (Cond.stringRef "DrawingHouseModel" (1210 : Nat) "form" : Cond) ∈ lw_n := lw_ni (lw_c17 (List.mem_of_getElem? (i := 44) rfl)) rfl
theorem wn_3906 : (Cond.stringRef "DrawingHouseModel" (1288 : Nat) "node " : Cond) ∈ lw_n := lw_ni (lw_c17 (List.mem_of_getElem? (i := 66) rfl)) rfl
theorem wn_3923 : (Cond.stringRef "DrawingHouseModel" (1296 : Nat) " [size=" : Cond) ∈ lw_n := lw_ni (lw_c17 (List.mem_of_getElem? (i := 83) rfl)) rfl
theorem wn_3929 : (Cond.stringRef "DrawingHouseModel" (1301 : Nat) "]" : Cond) ∈ lw_n := lw_ni (lw_c17 (List.mem_of_getElem? (i := 89) rfl)) rfl
theorem wn_3930 : (Cond.stringRef "DrawingHouseModel" (1303 : Nat) ";\n" : Cond) ∈ lw_n := lw_ni (lw_c17 (List.mem_of_getElem? (i := 90) rfl)) rfl
theorem wn_3931 : (Cond.stringRef "DrawingHouseModel" (1305 : Nat) "group " : Cond) ∈ lw_n := lw_ni (lw_c17 (List.mem_of_getElem? (i := 91) rfl)) rfl
theorem wn_3932 : (Cond.stringRef "DrawingHouseModel" (1307 : Nat) " {\n" : Cond) ∈ lw_n := lw_ni (lw_c17 (List.mem_of_getElem? (i := 92) rfl)) rfl
theorem wn_3933 : (Cond.stringRef "DrawingHouseModel" (1312 : Nat) "}\n" : Cond) ∈ lw_n := lw_ni (lw_c17 (List.mem_of_getElem? (i := 93) rfl)) rfl
theorem wn_3938 : (Cond.stringRef "DrawingHouseModel" (1314 : Nat) " > " : Cond) ∈ lw_n := lw_ni (lw_c17 (List.mem_of_getElem? (i := 98) rfl)) rfl
theorem wn_3939 : (Cond.stringRef "DrawingHouseModel" (1316 : Nat) " - " : Cond) ∈ lw_n := lw_ni (lw_c17 (List.mem_of_getElem? (i := 99) rfl)) rfl
theorem wn_3940 : (Cond.stringRef "DrawingHouseModel" (1318 : Nat) " [weight=" : Cond) ∈ lw_n := lw_ni (lw_c17 (List.mem_of_getElem? (i := 100) rfl)) rfl
def nw_0 : List Cond := [(Jvm.Cond.count (1 : Nat)), (Jvm.Cond.isRef (Jvm.Term.arg (0 : Nat))), (Jvm.Cond.arrayOf (Jvm.Term.arg (0 : Nat)) Jvm.ClassFile.FieldType.int), (Jvm.Cond.le (Jvm.Term.length (Jvm.Term.arg (0 : Nat))) (Jvm.Term.int (3072 : Int32))), (Jvm.Cond.eq (Jvm.Term.static "java/lang/String" "COMPACT_STRINGS" "Z") (Jvm.Term.int (1 : Int32))), (Jvm.Cond.isRef (Jvm.Term.static "jdk/internal/util/Preconditions" "SIOOBE_FORMATTER" "Ljava/util/function/BiFunction;")), (Jvm.Cond.eq (Jvm.Term.static "java/lang/StringUTF16" "$assertionsDisabled" "Z") (Jvm.Term.int (1 : Int32))), (Jvm.Cond.eq (Jvm.Term.static "java/lang/StringUTF16" "HI_BYTE_SHIFT" "I") (Jvm.Term.int (0 : Int32))), (Jvm.Cond.eq (Jvm.Term.static "java/lang/StringUTF16" "LO_BYTE_SHIFT" "I") (Jvm.Term.int (8 : Int32))), (Jvm.Cond.isRef (Jvm.Term.static "DrawingHouse" "ORDER_COUNTS" "[I")), (Jvm.Cond.arrayOf (Jvm.Term.static "DrawingHouse" "ORDER_COUNTS" "[I") Jvm.ClassFile.FieldType.int), (Jvm.Cond.eq (Jvm.Term.length (Jvm.Term.static "DrawingHouse" "ORDER_COUNTS" "[I")) (Jvm.Term.int (7 : Int32))), (Jvm.Cond.eq (Jvm.Term.elem (Jvm.Term.static "DrawingHouse" "ORDER_COUNTS" "[I") (Jvm.Term.int (0 : Int32))) (Jvm.Term.int (1 : Int32))), (Jvm.Cond.eq (Jvm.Term.elem (Jvm.Term.static "DrawingHouse" "ORDER_COUNTS" "[I") (Jvm.Term.int (1 : Int32))) (Jvm.Term.int (1 : Int32))), (Jvm.Cond.eq (Jvm.Term.elem (Jvm.Term.static "DrawingHouse" "ORDER_COUNTS" "[I") (Jvm.Term.int (2 : Int32))) (Jvm.Term.int (2 : Int32))), (Jvm.Cond.eq (Jvm.Term.elem (Jvm.Term.static "DrawingHouse" "ORDER_COUNTS" "[I") (Jvm.Term.int (3 : Int32))) (Jvm.Term.int (6 : Int32))), (Jvm.Cond.eq (Jvm.Term.elem (Jvm.Term.static "DrawingHouse" "ORDER_COUNTS" "[I") (Jvm.Term.int (4 : Int32))) (Jvm.Term.int (24 : Int32))), (Jvm.Cond.eq (Jvm.Term.elem (Jvm.Term.static "DrawingHouse" "ORDER_COUNTS" "[I") (Jvm.Term.int (5 : Int32))) (Jvm.Term.int (120 : Int32))), (Jvm.Cond.eq (Jvm.Term.elem (Jvm.Term.static "DrawingHouse" "ORDER_COUNTS" "[I") (Jvm.Term.int (6 : Int32))) (Jvm.Term.int (720 : Int32))), (Jvm.Cond.isRef (Jvm.Term.static "DrawingHouse" "ORDER_STARTS" "[I")), (Jvm.Cond.arrayOf (Jvm.Term.static "DrawingHouse" "ORDER_STARTS" "[I") Jvm.ClassFile.FieldType.int), (Jvm.Cond.eq (Jvm.Term.length (Jvm.Term.static "DrawingHouse" "ORDER_STARTS" "[I")) (Jvm.Term.int (7 : Int32))), (Jvm.Cond.eq (Jvm.Term.elem (Jvm.Term.static "DrawingHouse" "ORDER_STARTS" "[I") (Jvm.Term.int (0 : Int32))) (Jvm.Term.int (0 : Int32))), (Jvm.Cond.eq (Jvm.Term.elem (Jvm.Term.static "DrawingHouse" "ORDER_STARTS" "[I") (Jvm.Term.int (1 : Int32))) (Jvm.Term.int (0 : Int32))), (Jvm.Cond.eq (Jvm.Term.elem (Jvm.Term.static "DrawingHouse" "ORDER_STARTS" "[I") (Jvm.Term.int (2 : Int32))) (Jvm.Term.int (1 : Int32))), (Jvm.Cond.eq (Jvm.Term.elem (Jvm.Term.static "DrawingHouse" "ORDER_STARTS" "[I") (Jvm.Term.int (3 : Int32))) (Jvm.Term.int (3 : Int32))), (Jvm.Cond.eq (Jvm.Term.elem (Jvm.Term.static "DrawingHouse" "ORDER_STARTS" "[I") (Jvm.Term.int (4 : Int32))) (Jvm.Term.int (9 : Int32))), (Jvm.Cond.eq (Jvm.Term.elem (Jvm.Term.static "DrawingHouse" "ORDER_STARTS" "[I") (Jvm.Term.int (5 : Int32))) (Jvm.Term.int (33 : Int32))), (Jvm.Cond.eq (Jvm.Term.elem (Jvm.Term.static "DrawingHouse" "ORDER_STARTS" "[I") (Jvm.Term.int (6 : Int32))) (Jvm.Term.int (153 : Int32))), (Jvm.Cond.exactly (Jvm.Term.string "DrawingHouse$Reader" (93 : Nat)) "java/lang/String"), (Jvm.Cond.eq (Jvm.Term.field (Jvm.Term.string "DrawingHouse$Reader" (93 : Nat)) "java/lang/String" "coder" "B") (Jvm.Term.int (0 : Int32))), (Jvm.Cond.arrayOf (Jvm.Term.field (Jvm.Term.string "DrawingHouse$Reader" (93 : Nat)) "java/lang/String" "value" "[B") Jvm.ClassFile.FieldType.byte), (Jvm.Cond.eq (Jvm.Term.length (Jvm.Term.field (Jvm.Term.string "DrawingHouse$Reader" (93 : Nat)) "java/lang/String" "value" "[B")) (Jvm.Term.int (4 : Int32))), (Jvm.Cond.eq (Jvm.Term.elem (Jvm.Term.field (Jvm.Term.string "DrawingHouse$Reader" (93 : Nat)) "java/lang/String" "value" "[B") (Jvm.Term.int (0 : Int32))) (Jvm.Term.int (110 : Int32))), (Jvm.Cond.eq (Jvm.Term.elem (Jvm.Term.field (Jvm.Term.string "DrawingHouse$Reader" (93 : Nat)) "java/lang/String" "value" "[B") (Jvm.Term.int (1 : Int32))) (Jvm.Term.int (111 : Int32))), (Jvm.Cond.eq (Jvm.Term.elem (Jvm.Term.field (Jvm.Term.string "DrawingHouse$Reader" (93 : Nat)) "java/lang/String" "value" "[B") (Jvm.Term.int (2 : Int32))) (Jvm.Term.int (100 : Int32))), (Jvm.Cond.eq (Jvm.Term.elem (Jvm.Term.field (Jvm.Term.string "DrawingHouse$Reader" (93 : Nat)) "java/lang/String" "value" "[B") (Jvm.Term.int (3 : Int32))) (Jvm.Term.int (101 : Int32))), (Jvm.Cond.exactly (Jvm.Term.string "DrawingHouse$Reader" (99 : Nat)) "java/lang/String"), (Jvm.Cond.eq (Jvm.Term.field (Jvm.Term.string "DrawingHouse$Reader" (99 : Nat)) "java/lang/String" "coder" "B") (Jvm.Term.int (0 : Int32))), (Jvm.Cond.arrayOf (Jvm.Term.field (Jvm.Term.string "DrawingHouse$Reader" (99 : Nat)) "java/lang/String" "value" "[B") Jvm.ClassFile.FieldType.byte), (Jvm.Cond.eq (Jvm.Term.length (Jvm.Term.field (Jvm.Term.string "DrawingHouse$Reader" (99 : Nat)) "java/lang/String" "value" "[B")) (Jvm.Term.int (5 : Int32))), (Jvm.Cond.eq (Jvm.Term.elem (Jvm.Term.field (Jvm.Term.string "DrawingHouse$Reader" (99 : Nat)) "java/lang/String" "value" "[B") (Jvm.Term.int (0 : Int32))) (Jvm.Term.int (103 : Int32))), (Jvm.Cond.eq (Jvm.Term.elem (Jvm.Term.field (Jvm.Term.string "DrawingHouse$Reader" (99 : Nat)) "java/lang/String" "value" "[B") (Jvm.Term.int (1 : Int32))) (Jvm.Term.int (114 : Int32))), (Jvm.Cond.eq (Jvm.Term.elem (Jvm.Term.field (Jvm.Term.string "DrawingHouse$Reader" (99 : Nat)) "java/lang/String" "value" "[B") (Jvm.Term.int (2 : Int32))) (Jvm.Term.int (111 : Int32))), (Jvm.Cond.eq (Jvm.Term.elem (Jvm.Term.field (Jvm.Term.string "DrawingHouse$Reader" (99 : Nat)) "java/lang/String" "value" "[B") (Jvm.Term.int (3 : Int32))) (Jvm.Term.int (117 : Int32))), (Jvm.Cond.eq (Jvm.Term.elem (Jvm.Term.field (Jvm.Term.string "DrawingHouse$Reader" (99 : Nat)) "java/lang/String" "value" "[B") (Jvm.Term.int (4 : Int32))) (Jvm.Term.int (112 : Int32))), (Jvm.Cond.exactly (Jvm.Term.string "DrawingHouse$Reader" (130 : Nat)) "java/lang/String"), (Jvm.Cond.eq (Jvm.Term.field (Jvm.Term.string "DrawingHouse$Reader" (130 : Nat)) "java/lang/String" "coder" "B") (Jvm.Term.int (0 : Int32))), (Jvm.Cond.arrayOf (Jvm.Term.field (Jvm.Term.string "DrawingHouse$Reader" (130 : Nat)) "java/lang/String" "value" "[B") Jvm.ClassFile.FieldType.byte), (Jvm.Cond.eq (Jvm.Term.length (Jvm.Term.field (Jvm.Term.string "DrawingHouse$Reader" (130 : Nat)) "java/lang/String" "value" "[B")) (Jvm.Term.int (4 : Int32))), (Jvm.Cond.eq (Jvm.Term.elem (Jvm.Term.field (Jvm.Term.string "DrawingHouse$Reader" (130 : Nat)) "java/lang/String" "value" "[B") (Jvm.Term.int (0 : Int32))) (Jvm.Term.int (115 : Int32))), (Jvm.Cond.eq (Jvm.Term.elem (Jvm.Term.field (Jvm.Term.string "DrawingHouse$Reader" (130 : Nat)) "java/lang/String" "value" "[B") (Jvm.Term.int (1 : Int32))) (Jvm.Term.int (105 : Int32))), (Jvm.Cond.eq (Jvm.Term.elem (Jvm.Term.field (Jvm.Term.string "DrawingHouse$Reader" (130 : Nat)) "java/lang/String" "value" "[B") (Jvm.Term.int (2 : Int32))) (Jvm.Term.int (122 : Int32))), (Jvm.Cond.eq (Jvm.Term.elem (Jvm.Term.field (Jvm.Term.string "DrawingHouse$Reader" (130 : Nat)) "java/lang/String" "value" "[B") (Jvm.Term.int (3 : Int32))) (Jvm.Term.int (101 : Int32))), (Jvm.Cond.exactly (Jvm.Term.string "DrawingHouse$Reader" (166 : Nat)) "java/lang/String"), (Jvm.Cond.eq (Jvm.Term.field (Jvm.Term.string "DrawingHouse$Reader" (166 : Nat)) "java/lang/String" "coder" "B") (Jvm.Term.int (0 : Int32))), (Jvm.Cond.arrayOf (Jvm.Term.field (Jvm.Term.string "DrawingHouse$Reader" (166 : Nat)) "java/lang/String" "value" "[B") Jvm.ClassFile.FieldType.byte), (Jvm.Cond.eq (Jvm.Term.length (Jvm.Term.field (Jvm.Term.string "DrawingHouse$Reader" (166 : Nat)) "java/lang/String" "value" "[B")) (Jvm.Term.int (6 : Int32))), (Jvm.Cond.eq (Jvm.Term.elem (Jvm.Term.field (Jvm.Term.string "DrawingHouse$Reader" (166 : Nat)) "java/lang/String" "value" "[B") (Jvm.Term.int (0 : Int32))) (Jvm.Term.int (119 : Int32))), (Jvm.Cond.eq (Jvm.Term.elem (Jvm.Term.field (Jvm.Term.string "DrawingHouse$Reader" (166 : Nat)) "java/lang/String" "value" "[B") (Jvm.Term.int (1 : Int32))) (Jvm.Term.int (101 : Int32))), (Jvm.Cond.eq (Jvm.Term.elem (Jvm.Term.field (Jvm.Term.string "DrawingHouse$Reader" (166 : Nat)) "java/lang/String" "value" "[B") (Jvm.Term.int (2 : Int32))) (Jvm.Term.int (105 : Int32))), (Jvm.Cond.eq (Jvm.Term.elem (Jvm.Term.field (Jvm.Term.string "DrawingHouse$Reader" (166 : Nat)) "java/lang/String" "value" "[B") (Jvm.Term.int (3 : Int32))) (Jvm.Term.int (103 : Int32))), (Jvm.Cond.eq (Jvm.Term.elem (Jvm.Term.field (Jvm.Term.string "DrawingHouse$Reader" (166 : Nat)) "java/lang/String" "value" "[B") (Jvm.Term.int (4 : Int32))) (Jvm.Term.int (104 : Int32))), (Jvm.Cond.eq (Jvm.Term.elem (Jvm.Term.field (Jvm.Term.string "DrawingHouse$Reader" (166 : Nat)) "java/lang/String" "value" "[B") (Jvm.Term.int (5 : Int32))) (Jvm.Term.int (116 : Int32)))]
def nw_1 : List Cond := [(Jvm.Cond.exactly (Jvm.Term.string "DrawingHouse$Styler" (40 : Nat)) "java/lang/String"), (Jvm.Cond.eq (Jvm.Term.field (Jvm.Term.string "DrawingHouse$Styler" (40 : Nat)) "java/lang/String" "coder" "B") (Jvm.Term.int (0 : Int32))), (Jvm.Cond.arrayOf (Jvm.Term.field (Jvm.Term.string "DrawingHouse$Styler" (40 : Nat)) "java/lang/String" "value" "[B") Jvm.ClassFile.FieldType.byte), (Jvm.Cond.eq (Jvm.Term.length (Jvm.Term.field (Jvm.Term.string "DrawingHouse$Styler" (40 : Nat)) "java/lang/String" "value" "[B")) (Jvm.Term.int (39 : Int32))), (Jvm.Cond.eq (Jvm.Term.elem (Jvm.Term.field (Jvm.Term.string "DrawingHouse$Styler" (40 : Nat)) "java/lang/String" "value" "[B") (Jvm.Term.int (0 : Int32))) (Jvm.Term.int (100 : Int32))), (Jvm.Cond.eq (Jvm.Term.elem (Jvm.Term.field (Jvm.Term.string "DrawingHouse$Styler" (40 : Nat)) "java/lang/String" "value" "[B") (Jvm.Term.int (1 : Int32))) (Jvm.Term.int (101 : Int32))), (Jvm.Cond.eq (Jvm.Term.elem (Jvm.Term.field (Jvm.Term.string "DrawingHouse$Styler" (40 : Nat)) "java/lang/String" "value" "[B") (Jvm.Term.int (2 : Int32))) (Jvm.Term.int (103 : Int32))), (Jvm.Cond.eq (Jvm.Term.elem (Jvm.Term.field (Jvm.Term.string "DrawingHouse$Styler" (40 : Nat)) "java/lang/String" "value" "[B") (Jvm.Term.int (3 : Int32))) (Jvm.Term.int (32 : Int32))), (Jvm.Cond.eq (Jvm.Term.elem (Jvm.Term.field (Jvm.Term.string "DrawingHouse$Styler" (40 : Nat)) "java/lang/String" "value" "[B") (Jvm.Term.int (4 : Int32))) (Jvm.Term.int (105 : Int32))), (Jvm.Cond.eq (Jvm.Term.elem (Jvm.Term.field (Jvm.Term.string "DrawingHouse$Styler" (40 : Nat)) "java/lang/String" "value" "[B") (Jvm.Term.int (5 : Int32))) (Jvm.Term.int (110 : Int32))), (Jvm.Cond.eq (Jvm.Term.elem (Jvm.Term.field (Jvm.Term.string "DrawingHouse$Styler" (40 : Nat)) "java/lang/String" "value" "[B") (Jvm.Term.int (6 : Int32))) (Jvm.Term.int (32 : Int32))), (Jvm.Cond.eq (Jvm.Term.elem (Jvm.Term.field (Jvm.Term.string "DrawingHouse$Styler" (40 : Nat)) "java/lang/String" "value" "[B") (Jvm.Term.int (7 : Int32))) (Jvm.Term.int (111 : Int32))), (Jvm.Cond.eq (Jvm.Term.elem (Jvm.Term.field (Jvm.Term.string "DrawingHouse$Styler" (40 : Nat)) "java/lang/String" "value" "[B") (Jvm.Term.int (8 : Int32))) (Jvm.Term.int (117 : Int32))), (Jvm.Cond.eq (Jvm.Term.elem (Jvm.Term.field (Jvm.Term.string "DrawingHouse$Styler" (40 : Nat)) "java/lang/String" "value" "[B") (Jvm.Term.int (9 : Int32))) (Jvm.Term.int (116 : Int32))), (Jvm.Cond.eq (Jvm.Term.elem (Jvm.Term.field (Jvm.Term.string "DrawingHouse$Styler" (40 : Nat)) "java/lang/String" "value" "[B") (Jvm.Term.int (10 : Int32))) (Jvm.Term.int (32 : Int32))), (Jvm.Cond.eq (Jvm.Term.elem (Jvm.Term.field (Jvm.Term.string "DrawingHouse$Styler" (40 : Nat)) "java/lang/String" "value" "[B") (Jvm.Term.int (11 : Int32))) (Jvm.Term.int (115 : Int32))), (Jvm.Cond.eq (Jvm.Term.elem (Jvm.Term.field (Jvm.Term.string "DrawingHouse$Styler" (40 : Nat)) "java/lang/String" "value" "[B") (Jvm.Term.int (12 : Int32))) (Jvm.Term.int (105 : Int32))), (Jvm.Cond.eq (Jvm.Term.elem (Jvm.Term.field (Jvm.Term.string "DrawingHouse$Styler" (40 : Nat)) "java/lang/String" "value" "[B") (Jvm.Term.int (13 : Int32))) (Jvm.Term.int (122 : Int32))), (Jvm.Cond.eq (Jvm.Term.elem (Jvm.Term.field (Jvm.Term.string "DrawingHouse$Styler" (40 : Nat)) "java/lang/String" "value" "[B") (Jvm.Term.int (14 : Int32))) (Jvm.Term.int (101 : Int32))), (Jvm.Cond.eq (Jvm.Term.elem (Jvm.Term.field (Jvm.Term.string "DrawingHouse$Styler" (40 : Nat)) "java/lang/String" "value" "[B") (Jvm.Term.int (15 : Int32))) (Jvm.Term.int (32 : Int32))), (Jvm.Cond.eq (Jvm.Term.elem (Jvm.Term.field (Jvm.Term.string "DrawingHouse$Styler" (40 : Nat)) "java/lang/String" "value" "[B") (Jvm.Term.int (16 : Int32))) (Jvm.Term.int (103 : Int32))), (Jvm.Cond.eq (Jvm.Term.elem (Jvm.Term.field (Jvm.Term.string "DrawingHouse$Styler" (40 : Nat)) "java/lang/String" "value" "[B") (Jvm.Term.int (17 : Int32))) (Jvm.Term.int (114 : Int32))), (Jvm.Cond.eq (Jvm.Term.elem (Jvm.Term.field (Jvm.Term.string "DrawingHouse$Styler" (40 : Nat)) "java/lang/String" "value" "[B") (Jvm.Term.int (18 : Int32))) (Jvm.Term.int (111 : Int32))), (Jvm.Cond.eq (Jvm.Term.elem (Jvm.Term.field (Jvm.Term.string "DrawingHouse$Styler" (40 : Nat)) "java/lang/String" "value" "[B") (Jvm.Term.int (19 : Int32))) (Jvm.Term.int (117 : Int32))), (Jvm.Cond.eq (Jvm.Term.elem (Jvm.Term.field (Jvm.Term.string "DrawingHouse$Styler" (40 : Nat)) "java/lang/String" "value" "[B") (Jvm.Term.int (20 : Int32))) (Jvm.Term.int (112 : Int32))), (Jvm.Cond.eq (Jvm.Term.elem (Jvm.Term.field (Jvm.Term.string "DrawingHouse$Styler" (40 : Nat)) "java/lang/String" "value" "[B") (Jvm.Term.int (21 : Int32))) (Jvm.Term.int (32 : Int32))), (Jvm.Cond.eq (Jvm.Term.elem (Jvm.Term.field (Jvm.Term.string "DrawingHouse$Styler" (40 : Nat)) "java/lang/String" "value" "[B") (Jvm.Term.int (22 : Int32))) (Jvm.Term.int (102 : Int32))), (Jvm.Cond.eq (Jvm.Term.elem (Jvm.Term.field (Jvm.Term.string "DrawingHouse$Styler" (40 : Nat)) "java/lang/String" "value" "[B") (Jvm.Term.int (23 : Int32))) (Jvm.Term.int (97 : Int32))), (Jvm.Cond.eq (Jvm.Term.elem (Jvm.Term.field (Jvm.Term.string "DrawingHouse$Styler" (40 : Nat)) "java/lang/String" "value" "[B") (Jvm.Term.int (24 : Int32))) (Jvm.Term.int (114 : Int32))), (Jvm.Cond.eq (Jvm.Term.elem (Jvm.Term.field (Jvm.Term.string "DrawingHouse$Styler" (40 : Nat)) "java/lang/String" "value" "[B") (Jvm.Term.int (25 : Int32))) (Jvm.Term.int (32 : Int32))), (Jvm.Cond.eq (Jvm.Term.elem (Jvm.Term.field (Jvm.Term.string "DrawingHouse$Styler" (40 : Nat)) "java/lang/String" "value" "[B") (Jvm.Term.int (26 : Int32))) (Jvm.Term.int (99 : Int32))), (Jvm.Cond.eq (Jvm.Term.elem (Jvm.Term.field (Jvm.Term.string "DrawingHouse$Styler" (40 : Nat)) "java/lang/String" "value" "[B") (Jvm.Term.int (27 : Int32))) (Jvm.Term.int (111 : Int32))), (Jvm.Cond.eq (Jvm.Term.elem (Jvm.Term.field (Jvm.Term.string "DrawingHouse$Styler" (40 : Nat)) "java/lang/String" "value" "[B") (Jvm.Term.int (28 : Int32))) (Jvm.Term.int (114 : Int32))), (Jvm.Cond.eq (Jvm.Term.elem (Jvm.Term.field (Jvm.Term.string "DrawingHouse$Styler" (40 : Nat)) "java/lang/String" "value" "[B") (Jvm.Term.int (29 : Int32))) (Jvm.Term.int (101 : Int32))), (Jvm.Cond.eq (Jvm.Term.elem (Jvm.Term.field (Jvm.Term.string "DrawingHouse$Styler" (40 : Nat)) "java/lang/String" "value" "[B") (Jvm.Term.int (30 : Int32))) (Jvm.Term.int (32 : Int32))), (Jvm.Cond.eq (Jvm.Term.elem (Jvm.Term.field (Jvm.Term.string "DrawingHouse$Styler" (40 : Nat)) "java/lang/String" "value" "[B") (Jvm.Term.int (31 : Int32))) (Jvm.Term.int (99 : Int32))), (Jvm.Cond.eq (Jvm.Term.elem (Jvm.Term.field (Jvm.Term.string "DrawingHouse$Styler" (40 : Nat)) "java/lang/String" "value" "[B") (Jvm.Term.int (32 : Int32))) (Jvm.Term.int (117 : Int32))), (Jvm.Cond.eq (Jvm.Term.elem (Jvm.Term.field (Jvm.Term.string "DrawingHouse$Styler" (40 : Nat)) "java/lang/String" "value" "[B") (Jvm.Term.int (33 : Int32))) (Jvm.Term.int (116 : Int32))), (Jvm.Cond.eq (Jvm.Term.elem (Jvm.Term.field (Jvm.Term.string "DrawingHouse$Styler" (40 : Nat)) "java/lang/String" "value" "[B") (Jvm.Term.int (34 : Int32))) (Jvm.Term.int (32 : Int32))), (Jvm.Cond.eq (Jvm.Term.elem (Jvm.Term.field (Jvm.Term.string "DrawingHouse$Styler" (40 : Nat)) "java/lang/String" "value" "[B") (Jvm.Term.int (35 : Int32))) (Jvm.Term.int (120 : Int32))), (Jvm.Cond.eq (Jvm.Term.elem (Jvm.Term.field (Jvm.Term.string "DrawingHouse$Styler" (40 : Nat)) "java/lang/String" "value" "[B") (Jvm.Term.int (36 : Int32))) (Jvm.Term.int (32 : Int32))), (Jvm.Cond.eq (Jvm.Term.elem (Jvm.Term.field (Jvm.Term.string "DrawingHouse$Styler" (40 : Nat)) "java/lang/String" "value" "[B") (Jvm.Term.int (37 : Int32))) (Jvm.Term.int (121 : Int32))), (Jvm.Cond.eq (Jvm.Term.elem (Jvm.Term.field (Jvm.Term.string "DrawingHouse$Styler" (40 : Nat)) "java/lang/String" "value" "[B") (Jvm.Term.int (38 : Int32))) (Jvm.Term.int (32 : Int32))), (Jvm.Cond.exactly (Jvm.Term.string "DrawingHouse$Styler" (92 : Nat)) "java/lang/String"), (Jvm.Cond.eq (Jvm.Term.field (Jvm.Term.string "DrawingHouse$Styler" (92 : Nat)) "java/lang/String" "coder" "B") (Jvm.Term.int (0 : Int32))), (Jvm.Cond.arrayOf (Jvm.Term.field (Jvm.Term.string "DrawingHouse$Styler" (92 : Nat)) "java/lang/String" "value" "[B") Jvm.ClassFile.FieldType.byte), (Jvm.Cond.eq (Jvm.Term.length (Jvm.Term.field (Jvm.Term.string "DrawingHouse$Styler" (92 : Nat)) "java/lang/String" "value" "[B")) (Jvm.Term.int (14 : Int32))), (Jvm.Cond.eq (Jvm.Term.elem (Jvm.Term.field (Jvm.Term.string "DrawingHouse$Styler" (92 : Nat)) "java/lang/String" "value" "[B") (Jvm.Term.int (0 : Int32))) (Jvm.Term.int (58 : Int32))), (Jvm.Cond.eq (Jvm.Term.elem (Jvm.Term.field (Jvm.Term.string "DrawingHouse$Styler" (92 : Nat)) "java/lang/String" "value" "[B") (Jvm.Term.int (1 : Int32))) (Jvm.Term.int (61 : Int32))), (Jvm.Cond.eq (Jvm.Term.elem (Jvm.Term.field (Jvm.Term.string "DrawingHouse$Styler" (92 : Nat)) "java/lang/String" "value" "[B") (Jvm.Term.int (2 : Int32))) (Jvm.Term.int (44 : Int32))), (Jvm.Cond.eq (Jvm.Term.elem (Jvm.Term.field (Jvm.Term.string "DrawingHouse$Styler" (92 : Nat)) "java/lang/String" "value" "[B") (Jvm.Term.int (3 : Int32))) (Jvm.Term.int (59 : Int32))), (Jvm.Cond.eq (Jvm.Term.elem (Jvm.Term.field (Jvm.Term.string "DrawingHouse$Styler" (92 : Nat)) "java/lang/String" "value" "[B") (Jvm.Term.int (4 : Int32))) (Jvm.Term.int (123 : Int32))), (Jvm.Cond.eq (Jvm.Term.elem (Jvm.Term.field (Jvm.Term.string "DrawingHouse$Styler" (92 : Nat)) "java/lang/String" "value" "[B") (Jvm.Term.int (5 : Int32))) (Jvm.Term.int (125 : Int32))), (Jvm.Cond.eq (Jvm.Term.elem (Jvm.Term.field (Jvm.Term.string "DrawingHouse$Styler" (92 : Nat)) "java/lang/String" "value" "[B") (Jvm.Term.int (6 : Int32))) (Jvm.Term.int (60 : Int32))), (Jvm.Cond.eq (Jvm.Term.elem (Jvm.Term.field (Jvm.Term.string "DrawingHouse$Styler" (92 : Nat)) "java/lang/String" "value" "[B") (Jvm.Term.int (7 : Int32))) (Jvm.Term.int (62 : Int32))), (Jvm.Cond.eq (Jvm.Term.elem (Jvm.Term.field (Jvm.Term.string "DrawingHouse$Styler" (92 : Nat)) "java/lang/String" "value" "[B") (Jvm.Term.int (8 : Int32))) (Jvm.Term.int (43 : Int32))), (Jvm.Cond.eq (Jvm.Term.elem (Jvm.Term.field (Jvm.Term.string "DrawingHouse$Styler" (92 : Nat)) "java/lang/String" "value" "[B") (Jvm.Term.int (9 : Int32))) (Jvm.Term.int (45 : Int32))), (Jvm.Cond.eq (Jvm.Term.elem (Jvm.Term.field (Jvm.Term.string "DrawingHouse$Styler" (92 : Nat)) "java/lang/String" "value" "[B") (Jvm.Term.int (10 : Int32))) (Jvm.Term.int (42 : Int32))), (Jvm.Cond.eq (Jvm.Term.elem (Jvm.Term.field (Jvm.Term.string "DrawingHouse$Styler" (92 : Nat)) "java/lang/String" "value" "[B") (Jvm.Term.int (11 : Int32))) (Jvm.Term.int (47 : Int32))), (Jvm.Cond.eq (Jvm.Term.elem (Jvm.Term.field (Jvm.Term.string "DrawingHouse$Styler" (92 : Nat)) "java/lang/String" "value" "[B") (Jvm.Term.int (12 : Int32))) (Jvm.Term.int (40 : Int32))), (Jvm.Cond.eq (Jvm.Term.elem (Jvm.Term.field (Jvm.Term.string "DrawingHouse$Styler" (92 : Nat)) "java/lang/String" "value" "[B") (Jvm.Term.int (13 : Int32))) (Jvm.Term.int (41 : Int32))), (Jvm.Cond.exactly (Jvm.Term.string "DrawingHouse$Styler" (112 : Nat)) "java/lang/String"), (Jvm.Cond.eq (Jvm.Term.field (Jvm.Term.string "DrawingHouse$Styler" (112 : Nat)) "java/lang/String" "coder" "B") (Jvm.Term.int (0 : Int32))), (Jvm.Cond.arrayOf (Jvm.Term.field (Jvm.Term.string "DrawingHouse$Styler" (112 : Nat)) "java/lang/String" "value" "[B") Jvm.ClassFile.FieldType.byte)]
def nw_2 : List Cond := [(Jvm.Cond.eq (Jvm.Term.length (Jvm.Term.field (Jvm.Term.string "DrawingHouse$Styler" (112 : Nat)) "java/lang/String" "value" "[B")) (Jvm.Term.int (10 : Int32))), (Jvm.Cond.eq (Jvm.Term.elem (Jvm.Term.field (Jvm.Term.string "DrawingHouse$Styler" (112 : Nat)) "java/lang/String" "value" "[B") (Jvm.Term.int (0 : Int32))) (Jvm.Term.int (110 : Int32))), (Jvm.Cond.eq (Jvm.Term.elem (Jvm.Term.field (Jvm.Term.string "DrawingHouse$Styler" (112 : Nat)) "java/lang/String" "value" "[B") (Jvm.Term.int (1 : Int32))) (Jvm.Term.int (111 : Int32))), (Jvm.Cond.eq (Jvm.Term.elem (Jvm.Term.field (Jvm.Term.string "DrawingHouse$Styler" (112 : Nat)) "java/lang/String" "value" "[B") (Jvm.Term.int (2 : Int32))) (Jvm.Term.int (100 : Int32))), (Jvm.Cond.eq (Jvm.Term.elem (Jvm.Term.field (Jvm.Term.string "DrawingHouse$Styler" (112 : Nat)) "java/lang/String" "value" "[B") (Jvm.Term.int (3 : Int32))) (Jvm.Term.int (101 : Int32))), (Jvm.Cond.eq (Jvm.Term.elem (Jvm.Term.field (Jvm.Term.string "DrawingHouse$Styler" (112 : Nat)) "java/lang/String" "value" "[B") (Jvm.Term.int (4 : Int32))) (Jvm.Term.int (32 : Int32))), (Jvm.Cond.eq (Jvm.Term.elem (Jvm.Term.field (Jvm.Term.string "DrawingHouse$Styler" (112 : Nat)) "java/lang/String" "value" "[B") (Jvm.Term.int (5 : Int32))) (Jvm.Term.int (101 : Int32))), (Jvm.Cond.eq (Jvm.Term.elem (Jvm.Term.field (Jvm.Term.string "DrawingHouse$Styler" (112 : Nat)) "java/lang/String" "value" "[B") (Jvm.Term.int (6 : Int32))) (Jvm.Term.int (100 : Int32))), (Jvm.Cond.eq (Jvm.Term.elem (Jvm.Term.field (Jvm.Term.string "DrawingHouse$Styler" (112 : Nat)) "java/lang/String" "value" "[B") (Jvm.Term.int (7 : Int32))) (Jvm.Term.int (103 : Int32))), (Jvm.Cond.eq (Jvm.Term.elem (Jvm.Term.field (Jvm.Term.string "DrawingHouse$Styler" (112 : Nat)) "java/lang/String" "value" "[B") (Jvm.Term.int (8 : Int32))) (Jvm.Term.int (101 : Int32))), (Jvm.Cond.eq (Jvm.Term.elem (Jvm.Term.field (Jvm.Term.string "DrawingHouse$Styler" (112 : Nat)) "java/lang/String" "value" "[B") (Jvm.Term.int (9 : Int32))) (Jvm.Term.int (32 : Int32))), (Jvm.Cond.exactly (Jvm.Term.string "DrawingHouse$Styler" (121 : Nat)) "java/lang/String"), (Jvm.Cond.eq (Jvm.Term.field (Jvm.Term.string "DrawingHouse$Styler" (121 : Nat)) "java/lang/String" "coder" "B") (Jvm.Term.int (0 : Int32))), (Jvm.Cond.arrayOf (Jvm.Term.field (Jvm.Term.string "DrawingHouse$Styler" (121 : Nat)) "java/lang/String" "value" "[B") Jvm.ClassFile.FieldType.byte), (Jvm.Cond.eq (Jvm.Term.length (Jvm.Term.field (Jvm.Term.string "DrawingHouse$Styler" (121 : Nat)) "java/lang/String" "value" "[B")) (Jvm.Term.int (44 : Int32))), (Jvm.Cond.eq (Jvm.Term.elem (Jvm.Term.field (Jvm.Term.string "DrawingHouse$Styler" (121 : Nat)) "java/lang/String" "value" "[B") (Jvm.Term.int (0 : Int32))) (Jvm.Term.int (119 : Int32))), (Jvm.Cond.eq (Jvm.Term.elem (Jvm.Term.field (Jvm.Term.string "DrawingHouse$Styler" (121 : Nat)) "java/lang/String" "value" "[B") (Jvm.Term.int (1 : Int32))) (Jvm.Term.int (101 : Int32))), (Jvm.Cond.eq (Jvm.Term.elem (Jvm.Term.field (Jvm.Term.string "DrawingHouse$Styler" (121 : Nat)) "java/lang/String" "value" "[B") (Jvm.Term.int (2 : Int32))) (Jvm.Term.int (105 : Int32))), (Jvm.Cond.eq (Jvm.Term.elem (Jvm.Term.field (Jvm.Term.string "DrawingHouse$Styler" (121 : Nat)) "java/lang/String" "value" "[B") (Jvm.Term.int (3 : Int32))) (Jvm.Term.int (103 : Int32))), (Jvm.Cond.eq (Jvm.Term.elem (Jvm.Term.field (Jvm.Term.string "DrawingHouse$Styler" (121 : Nat)) "java/lang/String" "value" "[B") (Jvm.Term.int (4 : Int32))) (Jvm.Term.int (104 : Int32))), (Jvm.Cond.eq (Jvm.Term.elem (Jvm.Term.field (Jvm.Term.string "DrawingHouse$Styler" (121 : Nat)) "java/lang/String" "value" "[B") (Jvm.Term.int (5 : Int32))) (Jvm.Term.int (116 : Int32))), (Jvm.Cond.eq (Jvm.Term.elem (Jvm.Term.field (Jvm.Term.string "DrawingHouse$Styler" (121 : Nat)) "java/lang/String" "value" "[B") (Jvm.Term.int (6 : Int32))) (Jvm.Term.int (32 : Int32))), (Jvm.Cond.eq (Jvm.Term.elem (Jvm.Term.field (Jvm.Term.string "DrawingHouse$Styler" (121 : Nat)) "java/lang/String" "value" "[B") (Jvm.Term.int (7 : Int32))) (Jvm.Term.int (116 : Int32))), (Jvm.Cond.eq (Jvm.Term.elem (Jvm.Term.field (Jvm.Term.string "DrawingHouse$Styler" (121 : Nat)) "java/lang/String" "value" "[B") (Jvm.Term.int (8 : Int32))) (Jvm.Term.int (117 : Int32))), (Jvm.Cond.eq (Jvm.Term.elem (Jvm.Term.field (Jvm.Term.string "DrawingHouse$Styler" (121 : Nat)) "java/lang/String" "value" "[B") (Jvm.Term.int (9 : Int32))) (Jvm.Term.int (114 : Int32))), (Jvm.Cond.eq (Jvm.Term.elem (Jvm.Term.field (Jvm.Term.string "DrawingHouse$Styler" (121 : Nat)) "java/lang/String" "value" "[B") (Jvm.Term.int (10 : Int32))) (Jvm.Term.int (110 : Int32))), (Jvm.Cond.eq (Jvm.Term.elem (Jvm.Term.field (Jvm.Term.string "DrawingHouse$Styler" (121 : Nat)) "java/lang/String" "value" "[B") (Jvm.Term.int (11 : Int32))) (Jvm.Term.int (101 : Int32))), (Jvm.Cond.eq (Jvm.Term.elem (Jvm.Term.field (Jvm.Term.string "DrawingHouse$Styler" (121 : Nat)) "java/lang/String" "value" "[B") (Jvm.Term.int (12 : Int32))) (Jvm.Term.int (100 : Int32))), (Jvm.Cond.eq (Jvm.Term.elem (Jvm.Term.field (Jvm.Term.string "DrawingHouse$Styler" (121 : Nat)) "java/lang/String" "value" "[B") (Jvm.Term.int (13 : Int32))) (Jvm.Term.int (32 : Int32))), (Jvm.Cond.eq (Jvm.Term.elem (Jvm.Term.field (Jvm.Term.string "DrawingHouse$Styler" (121 : Nat)) "java/lang/String" "value" "[B") (Jvm.Term.int (14 : Int32))) (Jvm.Term.int (98 : Int32))), (Jvm.Cond.eq (Jvm.Term.elem (Jvm.Term.field (Jvm.Term.string "DrawingHouse$Styler" (121 : Nat)) "java/lang/String" "value" "[B") (Jvm.Term.int (15 : Int32))) (Jvm.Term.int (114 : Int32))), (Jvm.Cond.eq (Jvm.Term.elem (Jvm.Term.field (Jvm.Term.string "DrawingHouse$Styler" (121 : Nat)) "java/lang/String" "value" "[B") (Jvm.Term.int (16 : Int32))) (Jvm.Term.int (105 : Int32))), (Jvm.Cond.eq (Jvm.Term.elem (Jvm.Term.field (Jvm.Term.string "DrawingHouse$Styler" (121 : Nat)) "java/lang/String" "value" "[B") (Jvm.Term.int (17 : Int32))) (Jvm.Term.int (100 : Int32))), (Jvm.Cond.eq (Jvm.Term.elem (Jvm.Term.field (Jvm.Term.string "DrawingHouse$Styler" (121 : Nat)) "java/lang/String" "value" "[B") (Jvm.Term.int (18 : Int32))) (Jvm.Term.int (103 : Int32))), (Jvm.Cond.eq (Jvm.Term.elem (Jvm.Term.field (Jvm.Term.string "DrawingHouse$Styler" (121 : Nat)) "java/lang/String" "value" "[B") (Jvm.Term.int (19 : Int32))) (Jvm.Term.int (101 : Int32))), (Jvm.Cond.eq (Jvm.Term.elem (Jvm.Term.field (Jvm.Term.string "DrawingHouse$Styler" (121 : Nat)) "java/lang/String" "value" "[B") (Jvm.Term.int (20 : Int32))) (Jvm.Term.int (32 : Int32))), (Jvm.Cond.eq (Jvm.Term.elem (Jvm.Term.field (Jvm.Term.string "DrawingHouse$Styler" (121 : Nat)) "java/lang/String" "value" "[B") (Jvm.Term.int (21 : Int32))) (Jvm.Term.int (102 : Int32))), (Jvm.Cond.eq (Jvm.Term.elem (Jvm.Term.field (Jvm.Term.string "DrawingHouse$Styler" (121 : Nat)) "java/lang/String" "value" "[B") (Jvm.Term.int (22 : Int32))) (Jvm.Term.int (114 : Int32))), (Jvm.Cond.eq (Jvm.Term.elem (Jvm.Term.field (Jvm.Term.string "DrawingHouse$Styler" (121 : Nat)) "java/lang/String" "value" "[B") (Jvm.Term.int (23 : Int32))) (Jvm.Term.int (111 : Int32))), (Jvm.Cond.eq (Jvm.Term.elem (Jvm.Term.field (Jvm.Term.string "DrawingHouse$Styler" (121 : Nat)) "java/lang/String" "value" "[B") (Jvm.Term.int (24 : Int32))) (Jvm.Term.int (109 : Int32))), (Jvm.Cond.eq (Jvm.Term.elem (Jvm.Term.field (Jvm.Term.string "DrawingHouse$Styler" (121 : Nat)) "java/lang/String" "value" "[B") (Jvm.Term.int (25 : Int32))) (Jvm.Term.int (32 : Int32))), (Jvm.Cond.eq (Jvm.Term.elem (Jvm.Term.field (Jvm.Term.string "DrawingHouse$Styler" (121 : Nat)) "java/lang/String" "value" "[B") (Jvm.Term.int (26 : Int32))) (Jvm.Term.int (116 : Int32))), (Jvm.Cond.eq (Jvm.Term.elem (Jvm.Term.field (Jvm.Term.string "DrawingHouse$Styler" (121 : Nat)) "java/lang/String" "value" "[B") (Jvm.Term.int (27 : Int32))) (Jvm.Term.int (111 : Int32))), (Jvm.Cond.eq (Jvm.Term.elem (Jvm.Term.field (Jvm.Term.string "DrawingHouse$Styler" (121 : Nat)) "java/lang/String" "value" "[B") (Jvm.Term.int (28 : Int32))) (Jvm.Term.int (32 : Int32))), (Jvm.Cond.eq (Jvm.Term.elem (Jvm.Term.field (Jvm.Term.string "DrawingHouse$Styler" (121 : Nat)) "java/lang/String" "value" "[B") (Jvm.Term.int (29 : Int32))) (Jvm.Term.int (98 : Int32))), (Jvm.Cond.eq (Jvm.Term.elem (Jvm.Term.field (Jvm.Term.string "DrawingHouse$Styler" (121 : Nat)) "java/lang/String" "value" "[B") (Jvm.Term.int (30 : Int32))) (Jvm.Term.int (108 : Int32))), (Jvm.Cond.eq (Jvm.Term.elem (Jvm.Term.field (Jvm.Term.string "DrawingHouse$Styler" (121 : Nat)) "java/lang/String" "value" "[B") (Jvm.Term.int (31 : Int32))) (Jvm.Term.int (111 : Int32))), (Jvm.Cond.eq (Jvm.Term.elem (Jvm.Term.field (Jvm.Term.string "DrawingHouse$Styler" (121 : Nat)) "java/lang/String" "value" "[B") (Jvm.Term.int (32 : Int32))) (Jvm.Term.int (99 : Int32))), (Jvm.Cond.eq (Jvm.Term.elem (Jvm.Term.field (Jvm.Term.string "DrawingHouse$Styler" (121 : Nat)) "java/lang/String" "value" "[B") (Jvm.Term.int (33 : Int32))) (Jvm.Term.int (107 : Int32))), (Jvm.Cond.eq (Jvm.Term.elem (Jvm.Term.field (Jvm.Term.string "DrawingHouse$Styler" (121 : Nat)) "java/lang/String" "value" "[B") (Jvm.Term.int (34 : Int32))) (Jvm.Term.int (32 : Int32))), (Jvm.Cond.eq (Jvm.Term.elem (Jvm.Term.field (Jvm.Term.string "DrawingHouse$Styler" (121 : Nat)) "java/lang/String" "value" "[B") (Jvm.Term.int (35 : Int32))) (Jvm.Term.int (108 : Int32))), (Jvm.Cond.eq (Jvm.Term.elem (Jvm.Term.field (Jvm.Term.string "DrawingHouse$Styler" (121 : Nat)) "java/lang/String" "value" "[B") (Jvm.Term.int (36 : Int32))) (Jvm.Term.int (111 : Int32))), (Jvm.Cond.eq (Jvm.Term.elem (Jvm.Term.field (Jvm.Term.string "DrawingHouse$Styler" (121 : Nat)) "java/lang/String" "value" "[B") (Jvm.Term.int (37 : Int32))) (Jvm.Term.int (110 : Int32))), (Jvm.Cond.eq (Jvm.Term.elem (Jvm.Term.field (Jvm.Term.string "DrawingHouse$Styler" (121 : Nat)) "java/lang/String" "value" "[B") (Jvm.Term.int (38 : Int32))) (Jvm.Term.int (103 : Int32))), (Jvm.Cond.eq (Jvm.Term.elem (Jvm.Term.field (Jvm.Term.string "DrawingHouse$Styler" (121 : Nat)) "java/lang/String" "value" "[B") (Jvm.Term.int (39 : Int32))) (Jvm.Term.int (32 : Int32))), (Jvm.Cond.eq (Jvm.Term.elem (Jvm.Term.field (Jvm.Term.string "DrawingHouse$Styler" (121 : Nat)) "java/lang/String" "value" "[B") (Jvm.Term.int (40 : Int32))) (Jvm.Term.int (111 : Int32))), (Jvm.Cond.eq (Jvm.Term.elem (Jvm.Term.field (Jvm.Term.string "DrawingHouse$Styler" (121 : Nat)) "java/lang/String" "value" "[B") (Jvm.Term.int (41 : Int32))) (Jvm.Term.int (110 : Int32))), (Jvm.Cond.eq (Jvm.Term.elem (Jvm.Term.field (Jvm.Term.string "DrawingHouse$Styler" (121 : Nat)) "java/lang/String" "value" "[B") (Jvm.Term.int (42 : Int32))) (Jvm.Term.int (101 : Int32))), (Jvm.Cond.eq (Jvm.Term.elem (Jvm.Term.field (Jvm.Term.string "DrawingHouse$Styler" (121 : Nat)) "java/lang/String" "value" "[B") (Jvm.Term.int (43 : Int32))) (Jvm.Term.int (32 : Int32))), (Jvm.Cond.exactly (Jvm.Term.string "DrawingHouse$Styler" (123 : Nat)) "java/lang/String"), (Jvm.Cond.eq (Jvm.Term.field (Jvm.Term.string "DrawingHouse$Styler" (123 : Nat)) "java/lang/String" "coder" "B") (Jvm.Term.int (0 : Int32))), (Jvm.Cond.arrayOf (Jvm.Term.field (Jvm.Term.string "DrawingHouse$Styler" (123 : Nat)) "java/lang/String" "value" "[B") Jvm.ClassFile.FieldType.byte), (Jvm.Cond.eq (Jvm.Term.length (Jvm.Term.field (Jvm.Term.string "DrawingHouse$Styler" (123 : Nat)) "java/lang/String" "value" "[B")) (Jvm.Term.int (3 : Int32))), (Jvm.Cond.eq (Jvm.Term.elem (Jvm.Term.field (Jvm.Term.string "DrawingHouse$Styler" (123 : Nat)) "java/lang/String" "value" "[B") (Jvm.Term.int (0 : Int32))) (Jvm.Term.int (105 : Int32)))]
def nw_3 : List Cond := [(Jvm.Cond.eq (Jvm.Term.elem (Jvm.Term.field (Jvm.Term.string "DrawingHouse$Styler" (123 : Nat)) "java/lang/String" "value" "[B") (Jvm.Term.int (1 : Int32))) (Jvm.Term.int (102 : Int32))), (Jvm.Cond.eq (Jvm.Term.elem (Jvm.Term.field (Jvm.Term.string "DrawingHouse$Styler" (123 : Nat)) "java/lang/String" "value" "[B") (Jvm.Term.int (2 : Int32))) (Jvm.Term.int (32 : Int32))), (Jvm.Cond.exactly (Jvm.Term.string "DrawingHouse$Styler" (150 : Nat)) "java/lang/String"), (Jvm.Cond.eq (Jvm.Term.field (Jvm.Term.string "DrawingHouse$Styler" (150 : Nat)) "java/lang/String" "coder" "B") (Jvm.Term.int (0 : Int32))), (Jvm.Cond.arrayOf (Jvm.Term.field (Jvm.Term.string "DrawingHouse$Styler" (150 : Nat)) "java/lang/String" "value" "[B") Jvm.ClassFile.FieldType.byte), (Jvm.Cond.eq (Jvm.Term.length (Jvm.Term.field (Jvm.Term.string "DrawingHouse$Styler" (150 : Nat)) "java/lang/String" "value" "[B")) (Jvm.Term.int (4 : Int32))), (Jvm.Cond.eq (Jvm.Term.elem (Jvm.Term.field (Jvm.Term.string "DrawingHouse$Styler" (150 : Nat)) "java/lang/String" "value" "[B") (Jvm.Term.int (0 : Int32))) (Jvm.Term.int (110 : Int32))), (Jvm.Cond.eq (Jvm.Term.elem (Jvm.Term.field (Jvm.Term.string "DrawingHouse$Styler" (150 : Nat)) "java/lang/String" "value" "[B") (Jvm.Term.int (1 : Int32))) (Jvm.Term.int (111 : Int32))), (Jvm.Cond.eq (Jvm.Term.elem (Jvm.Term.field (Jvm.Term.string "DrawingHouse$Styler" (150 : Nat)) "java/lang/String" "value" "[B") (Jvm.Term.int (2 : Int32))) (Jvm.Term.int (116 : Int32))), (Jvm.Cond.eq (Jvm.Term.elem (Jvm.Term.field (Jvm.Term.string "DrawingHouse$Styler" (150 : Nat)) "java/lang/String" "value" "[B") (Jvm.Term.int (3 : Int32))) (Jvm.Term.int (32 : Int32))), (Jvm.Cond.exactly (Jvm.Term.string "DrawingHouse$Styler" (148 : Nat)) "java/lang/String"), (Jvm.Cond.eq (Jvm.Term.field (Jvm.Term.string "DrawingHouse$Styler" (148 : Nat)) "java/lang/String" "coder" "B") (Jvm.Term.int (0 : Int32))), (Jvm.Cond.arrayOf (Jvm.Term.field (Jvm.Term.string "DrawingHouse$Styler" (148 : Nat)) "java/lang/String" "value" "[B") Jvm.ClassFile.FieldType.byte), (Jvm.Cond.eq (Jvm.Term.length (Jvm.Term.field (Jvm.Term.string "DrawingHouse$Styler" (148 : Nat)) "java/lang/String" "value" "[B")) (Jvm.Term.int (4 : Int32))), (Jvm.Cond.eq (Jvm.Term.elem (Jvm.Term.field (Jvm.Term.string "DrawingHouse$Styler" (148 : Nat)) "java/lang/String" "value" "[B") (Jvm.Term.int (0 : Int32))) (Jvm.Term.int (97 : Int32))), (Jvm.Cond.eq (Jvm.Term.elem (Jvm.Term.field (Jvm.Term.string "DrawingHouse$Styler" (148 : Nat)) "java/lang/String" "value" "[B") (Jvm.Term.int (1 : Int32))) (Jvm.Term.int (110 : Int32))), (Jvm.Cond.eq (Jvm.Term.elem (Jvm.Term.field (Jvm.Term.string "DrawingHouse$Styler" (148 : Nat)) "java/lang/String" "value" "[B") (Jvm.Term.int (2 : Int32))) (Jvm.Term.int (100 : Int32))), (Jvm.Cond.eq (Jvm.Term.elem (Jvm.Term.field (Jvm.Term.string "DrawingHouse$Styler" (148 : Nat)) "java/lang/String" "value" "[B") (Jvm.Term.int (3 : Int32))) (Jvm.Term.int (32 : Int32))), (Jvm.Cond.exactly (Jvm.Term.string "DrawingHouse$Styler" (143 : Nat)) "java/lang/String"), (Jvm.Cond.eq (Jvm.Term.field (Jvm.Term.string "DrawingHouse$Styler" (143 : Nat)) "java/lang/String" "coder" "B") (Jvm.Term.int (0 : Int32))), (Jvm.Cond.arrayOf (Jvm.Term.field (Jvm.Term.string "DrawingHouse$Styler" (143 : Nat)) "java/lang/String" "value" "[B") Jvm.ClassFile.FieldType.byte), (Jvm.Cond.eq (Jvm.Term.length (Jvm.Term.field (Jvm.Term.string "DrawingHouse$Styler" (143 : Nat)) "java/lang/String" "value" "[B")) (Jvm.Term.int (3 : Int32))), (Jvm.Cond.eq (Jvm.Term.elem (Jvm.Term.field (Jvm.Term.string "DrawingHouse$Styler" (143 : Nat)) "java/lang/String" "value" "[B") (Jvm.Term.int (0 : Int32))) (Jvm.Term.int (111 : Int32))), (Jvm.Cond.eq (Jvm.Term.elem (Jvm.Term.field (Jvm.Term.string "DrawingHouse$Styler" (143 : Nat)) "java/lang/String" "value" "[B") (Jvm.Term.int (1 : Int32))) (Jvm.Term.int (114 : Int32))), (Jvm.Cond.eq (Jvm.Term.elem (Jvm.Term.field (Jvm.Term.string "DrawingHouse$Styler" (143 : Nat)) "java/lang/String" "value" "[B") (Jvm.Term.int (2 : Int32))) (Jvm.Term.int (32 : Int32))), (Jvm.Cond.exactly (Jvm.Term.string "DrawingHouse$Styler" (135 : Nat)) "java/lang/String"), (Jvm.Cond.eq (Jvm.Term.field (Jvm.Term.string "DrawingHouse$Styler" (135 : Nat)) "java/lang/String" "coder" "B") (Jvm.Term.int (0 : Int32))), (Jvm.Cond.arrayOf (Jvm.Term.field (Jvm.Term.string "DrawingHouse$Styler" (135 : Nat)) "java/lang/String" "value" "[B") Jvm.ClassFile.FieldType.byte), (Jvm.Cond.eq (Jvm.Term.length (Jvm.Term.field (Jvm.Term.string "DrawingHouse$Styler" (135 : Nat)) "java/lang/String" "value" "[B")) (Jvm.Term.int (17 : Int32))), (Jvm.Cond.eq (Jvm.Term.elem (Jvm.Term.field (Jvm.Term.string "DrawingHouse$Styler" (135 : Nat)) "java/lang/String" "value" "[B") (Jvm.Term.int (0 : Int32))) (Jvm.Term.int (99 : Int32))), (Jvm.Cond.eq (Jvm.Term.elem (Jvm.Term.field (Jvm.Term.string "DrawingHouse$Styler" (135 : Nat)) "java/lang/String" "value" "[B") (Jvm.Term.int (1 : Int32))) (Jvm.Term.int (111 : Int32))), (Jvm.Cond.eq (Jvm.Term.elem (Jvm.Term.field (Jvm.Term.string "DrawingHouse$Styler" (135 : Nat)) "java/lang/String" "value" "[B") (Jvm.Term.int (2 : Int32))) (Jvm.Term.int (108 : Int32))), (Jvm.Cond.eq (Jvm.Term.elem (Jvm.Term.field (Jvm.Term.string "DrawingHouse$Styler" (135 : Nat)) "java/lang/String" "value" "[B") (Jvm.Term.int (3 : Int32))) (Jvm.Term.int (111 : Int32))), (Jvm.Cond.eq (Jvm.Term.elem (Jvm.Term.field (Jvm.Term.string "DrawingHouse$Styler" (135 : Nat)) "java/lang/String" "value" "[B") (Jvm.Term.int (4 : Int32))) (Jvm.Term.int (114 : Int32))), (Jvm.Cond.eq (Jvm.Term.elem (Jvm.Term.field (Jvm.Term.string "DrawingHouse$Styler" (135 : Nat)) "java/lang/String" "value" "[B") (Jvm.Term.int (5 : Int32))) (Jvm.Term.int (32 : Int32))), (Jvm.Cond.eq (Jvm.Term.elem (Jvm.Term.field (Jvm.Term.string "DrawingHouse$Styler" (135 : Nat)) "java/lang/String" "value" "[B") (Jvm.Term.int (6 : Int32))) (Jvm.Term.int (119 : Int32))), (Jvm.Cond.eq (Jvm.Term.elem (Jvm.Term.field (Jvm.Term.string "DrawingHouse$Styler" (135 : Nat)) "java/lang/String" "value" "[B") (Jvm.Term.int (7 : Int32))) (Jvm.Term.int (105 : Int32))), (Jvm.Cond.eq (Jvm.Term.elem (Jvm.Term.field (Jvm.Term.string "DrawingHouse$Styler" (135 : Nat)) "java/lang/String" "value" "[B") (Jvm.Term.int (8 : Int32))) (Jvm.Term.int (100 : Int32))), (Jvm.Cond.eq (Jvm.Term.elem (Jvm.Term.field (Jvm.Term.string "DrawingHouse$Styler" (135 : Nat)) "java/lang/String" "value" "[B") (Jvm.Term.int (9 : Int32))) (Jvm.Term.int (116 : Int32))), (Jvm.Cond.eq (Jvm.Term.elem (Jvm.Term.field (Jvm.Term.string "DrawingHouse$Styler" (135 : Nat)) "java/lang/String" "value" "[B") (Jvm.Term.int (10 : Int32))) (Jvm.Term.int (104 : Int32))), (Jvm.Cond.eq (Jvm.Term.elem (Jvm.Term.field (Jvm.Term.string "DrawingHouse$Styler" (135 : Nat)) "java/lang/String" "value" "[B") (Jvm.Term.int (11 : Int32))) (Jvm.Term.int (32 : Int32))), (Jvm.Cond.eq (Jvm.Term.elem (Jvm.Term.field (Jvm.Term.string "DrawingHouse$Styler" (135 : Nat)) "java/lang/String" "value" "[B") (Jvm.Term.int (12 : Int32))) (Jvm.Term.int (102 : Int32))), (Jvm.Cond.eq (Jvm.Term.elem (Jvm.Term.field (Jvm.Term.string "DrawingHouse$Styler" (135 : Nat)) "java/lang/String" "value" "[B") (Jvm.Term.int (13 : Int32))) (Jvm.Term.int (111 : Int32))), (Jvm.Cond.eq (Jvm.Term.elem (Jvm.Term.field (Jvm.Term.string "DrawingHouse$Styler" (135 : Nat)) "java/lang/String" "value" "[B") (Jvm.Term.int (14 : Int32))) (Jvm.Term.int (114 : Int32))), (Jvm.Cond.eq (Jvm.Term.elem (Jvm.Term.field (Jvm.Term.string "DrawingHouse$Styler" (135 : Nat)) "java/lang/String" "value" "[B") (Jvm.Term.int (15 : Int32))) (Jvm.Term.int (109 : Int32))), (Jvm.Cond.eq (Jvm.Term.elem (Jvm.Term.field (Jvm.Term.string "DrawingHouse$Styler" (135 : Nat)) "java/lang/String" "value" "[B") (Jvm.Term.int (16 : Int32))) (Jvm.Term.int (32 : Int32))), (Jvm.Cond.exactly (Jvm.Term.string "DrawingHouse" (459 : Nat)) "java/lang/String"), (Jvm.Cond.eq (Jvm.Term.field (Jvm.Term.string "DrawingHouse" (459 : Nat)) "java/lang/String" "coder" "B") (Jvm.Term.int (0 : Int32))), (Jvm.Cond.arrayOf (Jvm.Term.field (Jvm.Term.string "DrawingHouse" (459 : Nat)) "java/lang/String" "value" "[B") Jvm.ClassFile.FieldType.byte), (Jvm.Cond.eq (Jvm.Term.length (Jvm.Term.field (Jvm.Term.string "DrawingHouse" (459 : Nat)) "java/lang/String" "value" "[B")) (Jvm.Term.int (5 : Int32))), (Jvm.Cond.eq (Jvm.Term.elem (Jvm.Term.field (Jvm.Term.string "DrawingHouse" (459 : Nat)) "java/lang/String" "value" "[B") (Jvm.Term.int (0 : Int32))) (Jvm.Term.int (110 : Int32))), (Jvm.Cond.eq (Jvm.Term.elem (Jvm.Term.field (Jvm.Term.string "DrawingHouse" (459 : Nat)) "java/lang/String" "value" "[B") (Jvm.Term.int (1 : Int32))) (Jvm.Term.int (111 : Int32))), (Jvm.Cond.eq (Jvm.Term.elem (Jvm.Term.field (Jvm.Term.string "DrawingHouse" (459 : Nat)) "java/lang/String" "value" "[B") (Jvm.Term.int (2 : Int32))) (Jvm.Term.int (100 : Int32))), (Jvm.Cond.eq (Jvm.Term.elem (Jvm.Term.field (Jvm.Term.string "DrawingHouse" (459 : Nat)) "java/lang/String" "value" "[B") (Jvm.Term.int (3 : Int32))) (Jvm.Term.int (101 : Int32))), (Jvm.Cond.eq (Jvm.Term.elem (Jvm.Term.field (Jvm.Term.string "DrawingHouse" (459 : Nat)) "java/lang/String" "value" "[B") (Jvm.Term.int (4 : Int32))) (Jvm.Term.int (32 : Int32))), (Jvm.Cond.exactly (Jvm.Term.string "DrawingHouse" (469 : Nat)) "java/lang/String"), (Jvm.Cond.eq (Jvm.Term.field (Jvm.Term.string "DrawingHouse" (469 : Nat)) "java/lang/String" "coder" "B") (Jvm.Term.int (0 : Int32))), (Jvm.Cond.arrayOf (Jvm.Term.field (Jvm.Term.string "DrawingHouse" (469 : Nat)) "java/lang/String" "value" "[B") Jvm.ClassFile.FieldType.byte), (Jvm.Cond.eq (Jvm.Term.length (Jvm.Term.field (Jvm.Term.string "DrawingHouse" (469 : Nat)) "java/lang/String" "value" "[B")) (Jvm.Term.int (7 : Int32))), (Jvm.Cond.eq (Jvm.Term.elem (Jvm.Term.field (Jvm.Term.string "DrawingHouse" (469 : Nat)) "java/lang/String" "value" "[B") (Jvm.Term.int (0 : Int32))) (Jvm.Term.int (32 : Int32))), (Jvm.Cond.eq (Jvm.Term.elem (Jvm.Term.field (Jvm.Term.string "DrawingHouse" (469 : Nat)) "java/lang/String" "value" "[B") (Jvm.Term.int (1 : Int32))) (Jvm.Term.int (91 : Int32))), (Jvm.Cond.eq (Jvm.Term.elem (Jvm.Term.field (Jvm.Term.string "DrawingHouse" (469 : Nat)) "java/lang/String" "value" "[B") (Jvm.Term.int (2 : Int32))) (Jvm.Term.int (115 : Int32))), (Jvm.Cond.eq (Jvm.Term.elem (Jvm.Term.field (Jvm.Term.string "DrawingHouse" (469 : Nat)) "java/lang/String" "value" "[B") (Jvm.Term.int (3 : Int32))) (Jvm.Term.int (105 : Int32))), (Jvm.Cond.eq (Jvm.Term.elem (Jvm.Term.field (Jvm.Term.string "DrawingHouse" (469 : Nat)) "java/lang/String" "value" "[B") (Jvm.Term.int (4 : Int32))) (Jvm.Term.int (122 : Int32)))]
def nw_4 : List Cond := [(Jvm.Cond.eq (Jvm.Term.elem (Jvm.Term.field (Jvm.Term.string "DrawingHouse" (469 : Nat)) "java/lang/String" "value" "[B") (Jvm.Term.int (5 : Int32))) (Jvm.Term.int (101 : Int32))), (Jvm.Cond.eq (Jvm.Term.elem (Jvm.Term.field (Jvm.Term.string "DrawingHouse" (469 : Nat)) "java/lang/String" "value" "[B") (Jvm.Term.int (6 : Int32))) (Jvm.Term.int (61 : Int32))), (Jvm.Cond.exactly (Jvm.Term.string "DrawingHouse" (474 : Nat)) "java/lang/String"), (Jvm.Cond.eq (Jvm.Term.field (Jvm.Term.string "DrawingHouse" (474 : Nat)) "java/lang/String" "coder" "B") (Jvm.Term.int (0 : Int32))), (Jvm.Cond.arrayOf (Jvm.Term.field (Jvm.Term.string "DrawingHouse" (474 : Nat)) "java/lang/String" "value" "[B") Jvm.ClassFile.FieldType.byte), (Jvm.Cond.eq (Jvm.Term.length (Jvm.Term.field (Jvm.Term.string "DrawingHouse" (474 : Nat)) "java/lang/String" "value" "[B")) (Jvm.Term.int (2 : Int32))), (Jvm.Cond.eq (Jvm.Term.elem (Jvm.Term.field (Jvm.Term.string "DrawingHouse" (474 : Nat)) "java/lang/String" "value" "[B") (Jvm.Term.int (0 : Int32))) (Jvm.Term.int (59 : Int32))), (Jvm.Cond.eq (Jvm.Term.elem (Jvm.Term.field (Jvm.Term.string "DrawingHouse" (474 : Nat)) "java/lang/String" "value" "[B") (Jvm.Term.int (1 : Int32))) (Jvm.Term.int (10 : Int32))), (Jvm.Cond.exactly (Jvm.Term.string "DrawingHouse" (476 : Nat)) "java/lang/String"), (Jvm.Cond.eq (Jvm.Term.field (Jvm.Term.string "DrawingHouse" (476 : Nat)) "java/lang/String" "coder" "B") (Jvm.Term.int (0 : Int32))), (Jvm.Cond.arrayOf (Jvm.Term.field (Jvm.Term.string "DrawingHouse" (476 : Nat)) "java/lang/String" "value" "[B") Jvm.ClassFile.FieldType.byte), (Jvm.Cond.eq (Jvm.Term.length (Jvm.Term.field (Jvm.Term.string "DrawingHouse" (476 : Nat)) "java/lang/String" "value" "[B")) (Jvm.Term.int (6 : Int32))), (Jvm.Cond.eq (Jvm.Term.elem (Jvm.Term.field (Jvm.Term.string "DrawingHouse" (476 : Nat)) "java/lang/String" "value" "[B") (Jvm.Term.int (0 : Int32))) (Jvm.Term.int (103 : Int32))), (Jvm.Cond.eq (Jvm.Term.elem (Jvm.Term.field (Jvm.Term.string "DrawingHouse" (476 : Nat)) "java/lang/String" "value" "[B") (Jvm.Term.int (1 : Int32))) (Jvm.Term.int (114 : Int32))), (Jvm.Cond.eq (Jvm.Term.elem (Jvm.Term.field (Jvm.Term.string "DrawingHouse" (476 : Nat)) "java/lang/String" "value" "[B") (Jvm.Term.int (2 : Int32))) (Jvm.Term.int (111 : Int32))), (Jvm.Cond.eq (Jvm.Term.elem (Jvm.Term.field (Jvm.Term.string "DrawingHouse" (476 : Nat)) "java/lang/String" "value" "[B") (Jvm.Term.int (3 : Int32))) (Jvm.Term.int (117 : Int32))), (Jvm.Cond.eq (Jvm.Term.elem (Jvm.Term.field (Jvm.Term.string "DrawingHouse" (476 : Nat)) "java/lang/String" "value" "[B") (Jvm.Term.int (4 : Int32))) (Jvm.Term.int (112 : Int32))), (Jvm.Cond.eq (Jvm.Term.elem (Jvm.Term.field (Jvm.Term.string "DrawingHouse" (476 : Nat)) "java/lang/String" "value" "[B") (Jvm.Term.int (5 : Int32))) (Jvm.Term.int (32 : Int32))), (Jvm.Cond.exactly (Jvm.Term.string "DrawingHouse" (478 : Nat)) "java/lang/String"), (Jvm.Cond.eq (Jvm.Term.field (Jvm.Term.string "DrawingHouse" (478 : Nat)) "java/lang/String" "coder" "B") (Jvm.Term.int (0 : Int32))), (Jvm.Cond.arrayOf (Jvm.Term.field (Jvm.Term.string "DrawingHouse" (478 : Nat)) "java/lang/String" "value" "[B") Jvm.ClassFile.FieldType.byte), (Jvm.Cond.eq (Jvm.Term.length (Jvm.Term.field (Jvm.Term.string "DrawingHouse" (478 : Nat)) "java/lang/String" "value" "[B")) (Jvm.Term.int (3 : Int32))), (Jvm.Cond.eq (Jvm.Term.elem (Jvm.Term.field (Jvm.Term.string "DrawingHouse" (478 : Nat)) "java/lang/String" "value" "[B") (Jvm.Term.int (0 : Int32))) (Jvm.Term.int (32 : Int32))), (Jvm.Cond.eq (Jvm.Term.elem (Jvm.Term.field (Jvm.Term.string "DrawingHouse" (478 : Nat)) "java/lang/String" "value" "[B") (Jvm.Term.int (1 : Int32))) (Jvm.Term.int (123 : Int32))), (Jvm.Cond.eq (Jvm.Term.elem (Jvm.Term.field (Jvm.Term.string "DrawingHouse" (478 : Nat)) "java/lang/String" "value" "[B") (Jvm.Term.int (2 : Int32))) (Jvm.Term.int (10 : Int32))), (Jvm.Cond.exactly (Jvm.Term.string "DrawingHouse" (480 : Nat)) "java/lang/String"), (Jvm.Cond.eq (Jvm.Term.field (Jvm.Term.string "DrawingHouse" (480 : Nat)) "java/lang/String" "coder" "B") (Jvm.Term.int (0 : Int32))), (Jvm.Cond.arrayOf (Jvm.Term.field (Jvm.Term.string "DrawingHouse" (480 : Nat)) "java/lang/String" "value" "[B") Jvm.ClassFile.FieldType.byte), (Jvm.Cond.eq (Jvm.Term.length (Jvm.Term.field (Jvm.Term.string "DrawingHouse" (480 : Nat)) "java/lang/String" "value" "[B")) (Jvm.Term.int (2 : Int32))), (Jvm.Cond.eq (Jvm.Term.elem (Jvm.Term.field (Jvm.Term.string "DrawingHouse" (480 : Nat)) "java/lang/String" "value" "[B") (Jvm.Term.int (0 : Int32))) (Jvm.Term.int (125 : Int32))), (Jvm.Cond.eq (Jvm.Term.elem (Jvm.Term.field (Jvm.Term.string "DrawingHouse" (480 : Nat)) "java/lang/String" "value" "[B") (Jvm.Term.int (1 : Int32))) (Jvm.Term.int (10 : Int32))), (Jvm.Cond.exactly (Jvm.Term.string "DrawingHouse" (482 : Nat)) "java/lang/String"), (Jvm.Cond.eq (Jvm.Term.field (Jvm.Term.string "DrawingHouse" (482 : Nat)) "java/lang/String" "coder" "B") (Jvm.Term.int (0 : Int32))), (Jvm.Cond.arrayOf (Jvm.Term.field (Jvm.Term.string "DrawingHouse" (482 : Nat)) "java/lang/String" "value" "[B") Jvm.ClassFile.FieldType.byte), (Jvm.Cond.eq (Jvm.Term.length (Jvm.Term.field (Jvm.Term.string "DrawingHouse" (482 : Nat)) "java/lang/String" "value" "[B")) (Jvm.Term.int (3 : Int32))), (Jvm.Cond.eq (Jvm.Term.elem (Jvm.Term.field (Jvm.Term.string "DrawingHouse" (482 : Nat)) "java/lang/String" "value" "[B") (Jvm.Term.int (0 : Int32))) (Jvm.Term.int (32 : Int32))), (Jvm.Cond.eq (Jvm.Term.elem (Jvm.Term.field (Jvm.Term.string "DrawingHouse" (482 : Nat)) "java/lang/String" "value" "[B") (Jvm.Term.int (1 : Int32))) (Jvm.Term.int (62 : Int32))), (Jvm.Cond.eq (Jvm.Term.elem (Jvm.Term.field (Jvm.Term.string "DrawingHouse" (482 : Nat)) "java/lang/String" "value" "[B") (Jvm.Term.int (2 : Int32))) (Jvm.Term.int (32 : Int32))), (Jvm.Cond.exactly (Jvm.Term.string "DrawingHouse" (484 : Nat)) "java/lang/String"), (Jvm.Cond.eq (Jvm.Term.field (Jvm.Term.string "DrawingHouse" (484 : Nat)) "java/lang/String" "coder" "B") (Jvm.Term.int (0 : Int32))), (Jvm.Cond.arrayOf (Jvm.Term.field (Jvm.Term.string "DrawingHouse" (484 : Nat)) "java/lang/String" "value" "[B") Jvm.ClassFile.FieldType.byte), (Jvm.Cond.eq (Jvm.Term.length (Jvm.Term.field (Jvm.Term.string "DrawingHouse" (484 : Nat)) "java/lang/String" "value" "[B")) (Jvm.Term.int (3 : Int32))), (Jvm.Cond.eq (Jvm.Term.elem (Jvm.Term.field (Jvm.Term.string "DrawingHouse" (484 : Nat)) "java/lang/String" "value" "[B") (Jvm.Term.int (0 : Int32))) (Jvm.Term.int (32 : Int32))), (Jvm.Cond.eq (Jvm.Term.elem (Jvm.Term.field (Jvm.Term.string "DrawingHouse" (484 : Nat)) "java/lang/String" "value" "[B") (Jvm.Term.int (1 : Int32))) (Jvm.Term.int (45 : Int32))), (Jvm.Cond.eq (Jvm.Term.elem (Jvm.Term.field (Jvm.Term.string "DrawingHouse" (484 : Nat)) "java/lang/String" "value" "[B") (Jvm.Term.int (2 : Int32))) (Jvm.Term.int (32 : Int32))), (Jvm.Cond.exactly (Jvm.Term.string "DrawingHouse" (486 : Nat)) "java/lang/String"), (Jvm.Cond.eq (Jvm.Term.field (Jvm.Term.string "DrawingHouse" (486 : Nat)) "java/lang/String" "coder" "B") (Jvm.Term.int (0 : Int32))), (Jvm.Cond.arrayOf (Jvm.Term.field (Jvm.Term.string "DrawingHouse" (486 : Nat)) "java/lang/String" "value" "[B") Jvm.ClassFile.FieldType.byte), (Jvm.Cond.eq (Jvm.Term.length (Jvm.Term.field (Jvm.Term.string "DrawingHouse" (486 : Nat)) "java/lang/String" "value" "[B")) (Jvm.Term.int (9 : Int32))), (Jvm.Cond.eq (Jvm.Term.elem (Jvm.Term.field (Jvm.Term.string "DrawingHouse" (486 : Nat)) "java/lang/String" "value" "[B") (Jvm.Term.int (0 : Int32))) (Jvm.Term.int (32 : Int32))), (Jvm.Cond.eq (Jvm.Term.elem (Jvm.Term.field (Jvm.Term.string "DrawingHouse" (486 : Nat)) "java/lang/String" "value" "[B") (Jvm.Term.int (1 : Int32))) (Jvm.Term.int (91 : Int32))), (Jvm.Cond.eq (Jvm.Term.elem (Jvm.Term.field (Jvm.Term.string "DrawingHouse" (486 : Nat)) "java/lang/String" "value" "[B") (Jvm.Term.int (2 : Int32))) (Jvm.Term.int (119 : Int32))), (Jvm.Cond.eq (Jvm.Term.elem (Jvm.Term.field (Jvm.Term.string "DrawingHouse" (486 : Nat)) "java/lang/String" "value" "[B") (Jvm.Term.int (3 : Int32))) (Jvm.Term.int (101 : Int32))), (Jvm.Cond.eq (Jvm.Term.elem (Jvm.Term.field (Jvm.Term.string "DrawingHouse" (486 : Nat)) "java/lang/String" "value" "[B") (Jvm.Term.int (4 : Int32))) (Jvm.Term.int (105 : Int32))), (Jvm.Cond.eq (Jvm.Term.elem (Jvm.Term.field (Jvm.Term.string "DrawingHouse" (486 : Nat)) "java/lang/String" "value" "[B") (Jvm.Term.int (5 : Int32))) (Jvm.Term.int (103 : Int32))), (Jvm.Cond.eq (Jvm.Term.elem (Jvm.Term.field (Jvm.Term.string "DrawingHouse" (486 : Nat)) "java/lang/String" "value" "[B") (Jvm.Term.int (6 : Int32))) (Jvm.Term.int (104 : Int32))), (Jvm.Cond.eq (Jvm.Term.elem (Jvm.Term.field (Jvm.Term.string "DrawingHouse" (486 : Nat)) "java/lang/String" "value" "[B") (Jvm.Term.int (7 : Int32))) (Jvm.Term.int (116 : Int32))), (Jvm.Cond.eq (Jvm.Term.elem (Jvm.Term.field (Jvm.Term.string "DrawingHouse" (486 : Nat)) "java/lang/String" "value" "[B") (Jvm.Term.int (8 : Int32))) (Jvm.Term.int (61 : Int32))), (Jvm.Cond.exactly (Jvm.Term.string "DrawingHouseModel" (467 : Nat)) "java/lang/String"), (Jvm.Cond.eq (Jvm.Term.field (Jvm.Term.string "DrawingHouseModel" (467 : Nat)) "java/lang/String" "coder" "B") (Jvm.Term.int (0 : Int32))), (Jvm.Cond.arrayOf (Jvm.Term.field (Jvm.Term.string "DrawingHouseModel" (467 : Nat)) "java/lang/String" "value" "[B") Jvm.ClassFile.FieldType.byte), (Jvm.Cond.eq (Jvm.Term.length (Jvm.Term.field (Jvm.Term.string "DrawingHouseModel" (467 : Nat)) "java/lang/String" "value" "[B")) (Jvm.Term.int (4 : Int32))), (Jvm.Cond.eq (Jvm.Term.elem (Jvm.Term.field (Jvm.Term.string "DrawingHouseModel" (467 : Nat)) "java/lang/String" "value" "[B") (Jvm.Term.int (0 : Int32))) (Jvm.Term.int (110 : Int32))), (Jvm.Cond.eq (Jvm.Term.elem (Jvm.Term.field (Jvm.Term.string "DrawingHouseModel" (467 : Nat)) "java/lang/String" "value" "[B") (Jvm.Term.int (1 : Int32))) (Jvm.Term.int (111 : Int32)))]
def nw_5 : List Cond := [(Jvm.Cond.eq (Jvm.Term.elem (Jvm.Term.field (Jvm.Term.string "DrawingHouseModel" (467 : Nat)) "java/lang/String" "value" "[B") (Jvm.Term.int (2 : Int32))) (Jvm.Term.int (100 : Int32))), (Jvm.Cond.eq (Jvm.Term.elem (Jvm.Term.field (Jvm.Term.string "DrawingHouseModel" (467 : Nat)) "java/lang/String" "value" "[B") (Jvm.Term.int (3 : Int32))) (Jvm.Term.int (101 : Int32))), (Jvm.Cond.eq (Jvm.Term.string "DrawingHouse$Reader" (93 : Nat)) (Jvm.Term.string "DrawingHouseModel" (467 : Nat))), (Jvm.Cond.exactly (Jvm.Term.string "DrawingHouseModel" (473 : Nat)) "java/lang/String"), (Jvm.Cond.eq (Jvm.Term.field (Jvm.Term.string "DrawingHouseModel" (473 : Nat)) "java/lang/String" "coder" "B") (Jvm.Term.int (0 : Int32))), (Jvm.Cond.arrayOf (Jvm.Term.field (Jvm.Term.string "DrawingHouseModel" (473 : Nat)) "java/lang/String" "value" "[B") Jvm.ClassFile.FieldType.byte), (Jvm.Cond.eq (Jvm.Term.length (Jvm.Term.field (Jvm.Term.string "DrawingHouseModel" (473 : Nat)) "java/lang/String" "value" "[B")) (Jvm.Term.int (5 : Int32))), (Jvm.Cond.eq (Jvm.Term.elem (Jvm.Term.field (Jvm.Term.string "DrawingHouseModel" (473 : Nat)) "java/lang/String" "value" "[B") (Jvm.Term.int (0 : Int32))) (Jvm.Term.int (103 : Int32))), (Jvm.Cond.eq (Jvm.Term.elem (Jvm.Term.field (Jvm.Term.string "DrawingHouseModel" (473 : Nat)) "java/lang/String" "value" "[B") (Jvm.Term.int (1 : Int32))) (Jvm.Term.int (114 : Int32))), (Jvm.Cond.eq (Jvm.Term.elem (Jvm.Term.field (Jvm.Term.string "DrawingHouseModel" (473 : Nat)) "java/lang/String" "value" "[B") (Jvm.Term.int (2 : Int32))) (Jvm.Term.int (111 : Int32))), (Jvm.Cond.eq (Jvm.Term.elem (Jvm.Term.field (Jvm.Term.string "DrawingHouseModel" (473 : Nat)) "java/lang/String" "value" "[B") (Jvm.Term.int (3 : Int32))) (Jvm.Term.int (117 : Int32))), (Jvm.Cond.eq (Jvm.Term.elem (Jvm.Term.field (Jvm.Term.string "DrawingHouseModel" (473 : Nat)) "java/lang/String" "value" "[B") (Jvm.Term.int (4 : Int32))) (Jvm.Term.int (112 : Int32))), (Jvm.Cond.eq (Jvm.Term.string "DrawingHouse$Reader" (99 : Nat)) (Jvm.Term.string "DrawingHouseModel" (473 : Nat))), (Jvm.Cond.exactly (Jvm.Term.string "DrawingHouseModel" (497 : Nat)) "java/lang/String"), (Jvm.Cond.eq (Jvm.Term.field (Jvm.Term.string "DrawingHouseModel" (497 : Nat)) "java/lang/String" "coder" "B") (Jvm.Term.int (0 : Int32))), (Jvm.Cond.arrayOf (Jvm.Term.field (Jvm.Term.string "DrawingHouseModel" (497 : Nat)) "java/lang/String" "value" "[B") Jvm.ClassFile.FieldType.byte), (Jvm.Cond.eq (Jvm.Term.length (Jvm.Term.field (Jvm.Term.string "DrawingHouseModel" (497 : Nat)) "java/lang/String" "value" "[B")) (Jvm.Term.int (4 : Int32))), (Jvm.Cond.eq (Jvm.Term.elem (Jvm.Term.field (Jvm.Term.string "DrawingHouseModel" (497 : Nat)) "java/lang/String" "value" "[B") (Jvm.Term.int (0 : Int32))) (Jvm.Term.int (115 : Int32))), (Jvm.Cond.eq (Jvm.Term.elem (Jvm.Term.field (Jvm.Term.string "DrawingHouseModel" (497 : Nat)) "java/lang/String" "value" "[B") (Jvm.Term.int (1 : Int32))) (Jvm.Term.int (105 : Int32))), (Jvm.Cond.eq (Jvm.Term.elem (Jvm.Term.field (Jvm.Term.string "DrawingHouseModel" (497 : Nat)) "java/lang/String" "value" "[B") (Jvm.Term.int (2 : Int32))) (Jvm.Term.int (122 : Int32))), (Jvm.Cond.eq (Jvm.Term.elem (Jvm.Term.field (Jvm.Term.string "DrawingHouseModel" (497 : Nat)) "java/lang/String" "value" "[B") (Jvm.Term.int (3 : Int32))) (Jvm.Term.int (101 : Int32))), (Jvm.Cond.eq (Jvm.Term.string "DrawingHouse$Reader" (130 : Nat)) (Jvm.Term.string "DrawingHouseModel" (497 : Nat))), (Jvm.Cond.exactly (Jvm.Term.string "DrawingHouseModel" (519 : Nat)) "java/lang/String"), (Jvm.Cond.eq (Jvm.Term.field (Jvm.Term.string "DrawingHouseModel" (519 : Nat)) "java/lang/String" "coder" "B") (Jvm.Term.int (0 : Int32))), (Jvm.Cond.arrayOf (Jvm.Term.field (Jvm.Term.string "DrawingHouseModel" (519 : Nat)) "java/lang/String" "value" "[B") Jvm.ClassFile.FieldType.byte), (Jvm.Cond.eq (Jvm.Term.length (Jvm.Term.field (Jvm.Term.string "DrawingHouseModel" (519 : Nat)) "java/lang/String" "value" "[B")) (Jvm.Term.int (6 : Int32))), (Jvm.Cond.eq (Jvm.Term.elem (Jvm.Term.field (Jvm.Term.string "DrawingHouseModel" (519 : Nat)) "java/lang/String" "value" "[B") (Jvm.Term.int (0 : Int32))) (Jvm.Term.int (119 : Int32))), (Jvm.Cond.eq (Jvm.Term.elem (Jvm.Term.field (Jvm.Term.string "DrawingHouseModel" (519 : Nat)) "java/lang/String" "value" "[B") (Jvm.Term.int (1 : Int32))) (Jvm.Term.int (101 : Int32))), (Jvm.Cond.eq (Jvm.Term.elem (Jvm.Term.field (Jvm.Term.string "DrawingHouseModel" (519 : Nat)) "java/lang/String" "value" "[B") (Jvm.Term.int (2 : Int32))) (Jvm.Term.int (105 : Int32))), (Jvm.Cond.eq (Jvm.Term.elem (Jvm.Term.field (Jvm.Term.string "DrawingHouseModel" (519 : Nat)) "java/lang/String" "value" "[B") (Jvm.Term.int (3 : Int32))) (Jvm.Term.int (103 : Int32))), (Jvm.Cond.eq (Jvm.Term.elem (Jvm.Term.field (Jvm.Term.string "DrawingHouseModel" (519 : Nat)) "java/lang/String" "value" "[B") (Jvm.Term.int (4 : Int32))) (Jvm.Term.int (104 : Int32))), (Jvm.Cond.eq (Jvm.Term.elem (Jvm.Term.field (Jvm.Term.string "DrawingHouseModel" (519 : Nat)) "java/lang/String" "value" "[B") (Jvm.Term.int (5 : Int32))) (Jvm.Term.int (116 : Int32))), (Jvm.Cond.eq (Jvm.Term.string "DrawingHouse$Reader" (166 : Nat)) (Jvm.Term.string "DrawingHouseModel" (519 : Nat))), (Jvm.Cond.exactly (Jvm.Term.string "DrawingHouseModel" (1193 : Nat)) "java/lang/String"), (Jvm.Cond.eq (Jvm.Term.field (Jvm.Term.string "DrawingHouseModel" (1193 : Nat)) "java/lang/String" "coder" "B") (Jvm.Term.int (0 : Int32))), (Jvm.Cond.arrayOf (Jvm.Term.field (Jvm.Term.string "DrawingHouseModel" (1193 : Nat)) "java/lang/String" "value" "[B") Jvm.ClassFile.FieldType.byte), (Jvm.Cond.eq (Jvm.Term.length (Jvm.Term.field (Jvm.Term.string "DrawingHouseModel" (1193 : Nat)) "java/lang/String" "value" "[B")) (Jvm.Term.int (4 : Int32))), (Jvm.Cond.eq (Jvm.Term.elem (Jvm.Term.field (Jvm.Term.string "DrawingHouseModel" (1193 : Nat)) "java/lang/String" "value" "[B") (Jvm.Term.int (0 : Int32))) (Jvm.Term.int (101 : Int32))), (Jvm.Cond.eq (Jvm.Term.elem (Jvm.Term.field (Jvm.Term.string "DrawingHouseModel" (1193 : Nat)) "java/lang/String" "value" "[B") (Jvm.Term.int (1 : Int32))) (Jvm.Term.int (100 : Int32))), (Jvm.Cond.eq (Jvm.Term.elem (Jvm.Term.field (Jvm.Term.string "DrawingHouseModel" (1193 : Nat)) "java/lang/String" "value" "[B") (Jvm.Term.int (2 : Int32))) (Jvm.Term.int (103 : Int32))), (Jvm.Cond.eq (Jvm.Term.elem (Jvm.Term.field (Jvm.Term.string "DrawingHouseModel" (1193 : Nat)) "java/lang/String" "value" "[B") (Jvm.Term.int (3 : Int32))) (Jvm.Term.int (101 : Int32))), (Jvm.Cond.exactly (Jvm.Term.string "DrawingHouseModel" (1198 : Nat)) "java/lang/String"), (Jvm.Cond.eq (Jvm.Term.field (Jvm.Term.string "DrawingHouseModel" (1198 : Nat)) "java/lang/String" "coder" "B") (Jvm.Term.int (0 : Int32))), (Jvm.Cond.arrayOf (Jvm.Term.field (Jvm.Term.string "DrawingHouseModel" (1198 : Nat)) "java/lang/String" "value" "[B") Jvm.ClassFile.FieldType.byte), (Jvm.Cond.eq (Jvm.Term.length (Jvm.Term.field (Jvm.Term.string "DrawingHouseModel" (1198 : Nat)) "java/lang/String" "value" "[B")) (Jvm.Term.int (2 : Int32))), (Jvm.Cond.eq (Jvm.Term.elem (Jvm.Term.field (Jvm.Term.string "DrawingHouseModel" (1198 : Nat)) "java/lang/String" "value" "[B") (Jvm.Term.int (0 : Int32))) (Jvm.Term.int (105 : Int32))), (Jvm.Cond.eq (Jvm.Term.elem (Jvm.Term.field (Jvm.Term.string "DrawingHouseModel" (1198 : Nat)) "java/lang/String" "value" "[B") (Jvm.Term.int (1 : Int32))) (Jvm.Term.int (102 : Int32))), (Jvm.Cond.exactly (Jvm.Term.string "DrawingHouseModel" (1230 : Nat)) "java/lang/String"), (Jvm.Cond.eq (Jvm.Term.field (Jvm.Term.string "DrawingHouseModel" (1230 : Nat)) "java/lang/String" "coder" "B") (Jvm.Term.int (0 : Int32))), (Jvm.Cond.arrayOf (Jvm.Term.field (Jvm.Term.string "DrawingHouseModel" (1230 : Nat)) "java/lang/String" "value" "[B") Jvm.ClassFile.FieldType.byte), (Jvm.Cond.eq (Jvm.Term.length (Jvm.Term.field (Jvm.Term.string "DrawingHouseModel" (1230 : Nat)) "java/lang/String" "value" "[B")) (Jvm.Term.int (3 : Int32))), (Jvm.Cond.eq (Jvm.Term.elem (Jvm.Term.field (Jvm.Term.string "DrawingHouseModel" (1230 : Nat)) "java/lang/String" "value" "[B") (Jvm.Term.int (0 : Int32))) (Jvm.Term.int (110 : Int32))), (Jvm.Cond.eq (Jvm.Term.elem (Jvm.Term.field (Jvm.Term.string "DrawingHouseModel" (1230 : Nat)) "java/lang/String" "value" "[B") (Jvm.Term.int (1 : Int32))) (Jvm.Term.int (111 : Int32))), (Jvm.Cond.eq (Jvm.Term.elem (Jvm.Term.field (Jvm.Term.string "DrawingHouseModel" (1230 : Nat)) "java/lang/String" "value" "[B") (Jvm.Term.int (2 : Int32))) (Jvm.Term.int (116 : Int32))), (Jvm.Cond.exactly (Jvm.Term.string "DrawingHouseModel" (1254 : Nat)) "java/lang/String"), (Jvm.Cond.eq (Jvm.Term.field (Jvm.Term.string "DrawingHouseModel" (1254 : Nat)) "java/lang/String" "coder" "B") (Jvm.Term.int (0 : Int32))), (Jvm.Cond.arrayOf (Jvm.Term.field (Jvm.Term.string "DrawingHouseModel" (1254 : Nat)) "java/lang/String" "value" "[B") Jvm.ClassFile.FieldType.byte), (Jvm.Cond.eq (Jvm.Term.length (Jvm.Term.field (Jvm.Term.string "DrawingHouseModel" (1254 : Nat)) "java/lang/String" "value" "[B")) (Jvm.Term.int (3 : Int32))), (Jvm.Cond.eq (Jvm.Term.elem (Jvm.Term.field (Jvm.Term.string "DrawingHouseModel" (1254 : Nat)) "java/lang/String" "value" "[B") (Jvm.Term.int (0 : Int32))) (Jvm.Term.int (100 : Int32))), (Jvm.Cond.eq (Jvm.Term.elem (Jvm.Term.field (Jvm.Term.string "DrawingHouseModel" (1254 : Nat)) "java/lang/String" "value" "[B") (Jvm.Term.int (1 : Int32))) (Jvm.Term.int (101 : Int32))), (Jvm.Cond.eq (Jvm.Term.elem (Jvm.Term.field (Jvm.Term.string "DrawingHouseModel" (1254 : Nat)) "java/lang/String" "value" "[B") (Jvm.Term.int (2 : Int32))) (Jvm.Term.int (103 : Int32))), (Jvm.Cond.exactly (Jvm.Term.string "DrawingHouseModel" (1256 : Nat)) "java/lang/String"), (Jvm.Cond.eq (Jvm.Term.field (Jvm.Term.string "DrawingHouseModel" (1256 : Nat)) "java/lang/String" "coder" "B") (Jvm.Term.int (0 : Int32))), (Jvm.Cond.arrayOf (Jvm.Term.field (Jvm.Term.string "DrawingHouseModel" (1256 : Nat)) "java/lang/String" "value" "[B") Jvm.ClassFile.FieldType.byte)]
def nw_6 : List Cond := [(Jvm.Cond.eq (Jvm.Term.length (Jvm.Term.field (Jvm.Term.string "DrawingHouseModel" (1256 : Nat)) "java/lang/String" "value" "[B")) (Jvm.Term.int (2 : Int32))), (Jvm.Cond.eq (Jvm.Term.elem (Jvm.Term.field (Jvm.Term.string "DrawingHouseModel" (1256 : Nat)) "java/lang/String" "value" "[B") (Jvm.Term.int (0 : Int32))) (Jvm.Term.int (105 : Int32))), (Jvm.Cond.eq (Jvm.Term.elem (Jvm.Term.field (Jvm.Term.string "DrawingHouseModel" (1256 : Nat)) "java/lang/String" "value" "[B") (Jvm.Term.int (1 : Int32))) (Jvm.Term.int (110 : Int32))), (Jvm.Cond.exactly (Jvm.Term.string "DrawingHouseModel" (1257 : Nat)) "java/lang/String"), (Jvm.Cond.eq (Jvm.Term.field (Jvm.Term.string "DrawingHouseModel" (1257 : Nat)) "java/lang/String" "coder" "B") (Jvm.Term.int (0 : Int32))), (Jvm.Cond.arrayOf (Jvm.Term.field (Jvm.Term.string "DrawingHouseModel" (1257 : Nat)) "java/lang/String" "value" "[B") Jvm.ClassFile.FieldType.byte), (Jvm.Cond.eq (Jvm.Term.length (Jvm.Term.field (Jvm.Term.string "DrawingHouseModel" (1257 : Nat)) "java/lang/String" "value" "[B")) (Jvm.Term.int (3 : Int32))), (Jvm.Cond.eq (Jvm.Term.elem (Jvm.Term.field (Jvm.Term.string "DrawingHouseModel" (1257 : Nat)) "java/lang/String" "value" "[B") (Jvm.Term.int (0 : Int32))) (Jvm.Term.int (111 : Int32))), (Jvm.Cond.eq (Jvm.Term.elem (Jvm.Term.field (Jvm.Term.string "DrawingHouseModel" (1257 : Nat)) "java/lang/String" "value" "[B") (Jvm.Term.int (1 : Int32))) (Jvm.Term.int (117 : Int32))), (Jvm.Cond.eq (Jvm.Term.elem (Jvm.Term.field (Jvm.Term.string "DrawingHouseModel" (1257 : Nat)) "java/lang/String" "value" "[B") (Jvm.Term.int (2 : Int32))) (Jvm.Term.int (116 : Int32))), (Jvm.Cond.exactly (Jvm.Term.string "DrawingHouseModel" (1259 : Nat)) "java/lang/String"), (Jvm.Cond.eq (Jvm.Term.field (Jvm.Term.string "DrawingHouseModel" (1259 : Nat)) "java/lang/String" "coder" "B") (Jvm.Term.int (0 : Int32))), (Jvm.Cond.arrayOf (Jvm.Term.field (Jvm.Term.string "DrawingHouseModel" (1259 : Nat)) "java/lang/String" "value" "[B") Jvm.ClassFile.FieldType.byte), (Jvm.Cond.eq (Jvm.Term.length (Jvm.Term.field (Jvm.Term.string "DrawingHouseModel" (1259 : Nat)) "java/lang/String" "value" "[B")) (Jvm.Term.int (3 : Int32))), (Jvm.Cond.eq (Jvm.Term.elem (Jvm.Term.field (Jvm.Term.string "DrawingHouseModel" (1259 : Nat)) "java/lang/String" "value" "[B") (Jvm.Term.int (0 : Int32))) (Jvm.Term.int (102 : Int32))), (Jvm.Cond.eq (Jvm.Term.elem (Jvm.Term.field (Jvm.Term.string "DrawingHouseModel" (1259 : Nat)) "java/lang/String" "value" "[B") (Jvm.Term.int (1 : Int32))) (Jvm.Term.int (97 : Int32))), (Jvm.Cond.eq (Jvm.Term.elem (Jvm.Term.field (Jvm.Term.string "DrawingHouseModel" (1259 : Nat)) "java/lang/String" "value" "[B") (Jvm.Term.int (2 : Int32))) (Jvm.Term.int (114 : Int32))), (Jvm.Cond.exactly (Jvm.Term.string "DrawingHouseModel" (1261 : Nat)) "java/lang/String"), (Jvm.Cond.eq (Jvm.Term.field (Jvm.Term.string "DrawingHouseModel" (1261 : Nat)) "java/lang/String" "coder" "B") (Jvm.Term.int (0 : Int32))), (Jvm.Cond.arrayOf (Jvm.Term.field (Jvm.Term.string "DrawingHouseModel" (1261 : Nat)) "java/lang/String" "value" "[B") Jvm.ClassFile.FieldType.byte), (Jvm.Cond.eq (Jvm.Term.length (Jvm.Term.field (Jvm.Term.string "DrawingHouseModel" (1261 : Nat)) "java/lang/String" "value" "[B")) (Jvm.Term.int (4 : Int32))), (Jvm.Cond.eq (Jvm.Term.elem (Jvm.Term.field (Jvm.Term.string "DrawingHouseModel" (1261 : Nat)) "java/lang/String" "value" "[B") (Jvm.Term.int (0 : Int32))) (Jvm.Term.int (99 : Int32))), (Jvm.Cond.eq (Jvm.Term.elem (Jvm.Term.field (Jvm.Term.string "DrawingHouseModel" (1261 : Nat)) "java/lang/String" "value" "[B") (Jvm.Term.int (1 : Int32))) (Jvm.Term.int (111 : Int32))), (Jvm.Cond.eq (Jvm.Term.elem (Jvm.Term.field (Jvm.Term.string "DrawingHouseModel" (1261 : Nat)) "java/lang/String" "value" "[B") (Jvm.Term.int (2 : Int32))) (Jvm.Term.int (114 : Int32))), (Jvm.Cond.eq (Jvm.Term.elem (Jvm.Term.field (Jvm.Term.string "DrawingHouseModel" (1261 : Nat)) "java/lang/String" "value" "[B") (Jvm.Term.int (3 : Int32))) (Jvm.Term.int (101 : Int32))), (Jvm.Cond.exactly (Jvm.Term.string "DrawingHouseModel" (1262 : Nat)) "java/lang/String"), (Jvm.Cond.eq (Jvm.Term.field (Jvm.Term.string "DrawingHouseModel" (1262 : Nat)) "java/lang/String" "coder" "B") (Jvm.Term.int (0 : Int32))), (Jvm.Cond.arrayOf (Jvm.Term.field (Jvm.Term.string "DrawingHouseModel" (1262 : Nat)) "java/lang/String" "value" "[B") Jvm.ClassFile.FieldType.byte), (Jvm.Cond.eq (Jvm.Term.length (Jvm.Term.field (Jvm.Term.string "DrawingHouseModel" (1262 : Nat)) "java/lang/String" "value" "[B")) (Jvm.Term.int (3 : Int32))), (Jvm.Cond.eq (Jvm.Term.elem (Jvm.Term.field (Jvm.Term.string "DrawingHouseModel" (1262 : Nat)) "java/lang/String" "value" "[B") (Jvm.Term.int (0 : Int32))) (Jvm.Term.int (99 : Int32))), (Jvm.Cond.eq (Jvm.Term.elem (Jvm.Term.field (Jvm.Term.string "DrawingHouseModel" (1262 : Nat)) "java/lang/String" "value" "[B") (Jvm.Term.int (1 : Int32))) (Jvm.Term.int (117 : Int32))), (Jvm.Cond.eq (Jvm.Term.elem (Jvm.Term.field (Jvm.Term.string "DrawingHouseModel" (1262 : Nat)) "java/lang/String" "value" "[B") (Jvm.Term.int (2 : Int32))) (Jvm.Term.int (116 : Int32))), (Jvm.Cond.exactly (Jvm.Term.string "DrawingHouseModel" (1263 : Nat)) "java/lang/String"), (Jvm.Cond.eq (Jvm.Term.field (Jvm.Term.string "DrawingHouseModel" (1263 : Nat)) "java/lang/String" "coder" "B") (Jvm.Term.int (0 : Int32))), (Jvm.Cond.arrayOf (Jvm.Term.field (Jvm.Term.string "DrawingHouseModel" (1263 : Nat)) "java/lang/String" "value" "[B") Jvm.ClassFile.FieldType.byte), (Jvm.Cond.eq (Jvm.Term.length (Jvm.Term.field (Jvm.Term.string "DrawingHouseModel" (1263 : Nat)) "java/lang/String" "value" "[B")) (Jvm.Term.int (1 : Int32))), (Jvm.Cond.eq (Jvm.Term.elem (Jvm.Term.field (Jvm.Term.string "DrawingHouseModel" (1263 : Nat)) "java/lang/String" "value" "[B") (Jvm.Term.int (0 : Int32))) (Jvm.Term.int (120 : Int32))), (Jvm.Cond.exactly (Jvm.Term.string "DrawingHouseModel" (1265 : Nat)) "java/lang/String"), (Jvm.Cond.eq (Jvm.Term.field (Jvm.Term.string "DrawingHouseModel" (1265 : Nat)) "java/lang/String" "coder" "B") (Jvm.Term.int (0 : Int32))), (Jvm.Cond.arrayOf (Jvm.Term.field (Jvm.Term.string "DrawingHouseModel" (1265 : Nat)) "java/lang/String" "value" "[B") Jvm.ClassFile.FieldType.byte), (Jvm.Cond.eq (Jvm.Term.length (Jvm.Term.field (Jvm.Term.string "DrawingHouseModel" (1265 : Nat)) "java/lang/String" "value" "[B")) (Jvm.Term.int (1 : Int32))), (Jvm.Cond.eq (Jvm.Term.elem (Jvm.Term.field (Jvm.Term.string "DrawingHouseModel" (1265 : Nat)) "java/lang/String" "value" "[B") (Jvm.Term.int (0 : Int32))) (Jvm.Term.int (121 : Int32))), (Jvm.Cond.exactly (Jvm.Term.string "DrawingHouseModel" (1267 : Nat)) "java/lang/String"), (Jvm.Cond.eq (Jvm.Term.field (Jvm.Term.string "DrawingHouseModel" (1267 : Nat)) "java/lang/String" "coder" "B") (Jvm.Term.int (0 : Int32))), (Jvm.Cond.arrayOf (Jvm.Term.field (Jvm.Term.string "DrawingHouseModel" (1267 : Nat)) "java/lang/String" "value" "[B") Jvm.ClassFile.FieldType.byte), (Jvm.Cond.eq (Jvm.Term.length (Jvm.Term.field (Jvm.Term.string "DrawingHouseModel" (1267 : Nat)) "java/lang/String" "value" "[B")) (Jvm.Term.int (6 : Int32))), (Jvm.Cond.eq (Jvm.Term.elem (Jvm.Term.field (Jvm.Term.string "DrawingHouseModel" (1267 : Nat)) "java/lang/String" "value" "[B") (Jvm.Term.int (0 : Int32))) (Jvm.Term.int (116 : Int32))), (Jvm.Cond.eq (Jvm.Term.elem (Jvm.Term.field (Jvm.Term.string "DrawingHouseModel" (1267 : Nat)) "java/lang/String" "value" "[B") (Jvm.Term.int (1 : Int32))) (Jvm.Term.int (117 : Int32))), (Jvm.Cond.eq (Jvm.Term.elem (Jvm.Term.field (Jvm.Term.string "DrawingHouseModel" (1267 : Nat)) "java/lang/String" "value" "[B") (Jvm.Term.int (2 : Int32))) (Jvm.Term.int (114 : Int32))), (Jvm.Cond.eq (Jvm.Term.elem (Jvm.Term.field (Jvm.Term.string "DrawingHouseModel" (1267 : Nat)) "java/lang/String" "value" "[B") (Jvm.Term.int (3 : Int32))) (Jvm.Term.int (110 : Int32))), (Jvm.Cond.eq (Jvm.Term.elem (Jvm.Term.field (Jvm.Term.string "DrawingHouseModel" (1267 : Nat)) "java/lang/String" "value" "[B") (Jvm.Term.int (4 : Int32))) (Jvm.Term.int (101 : Int32))), (Jvm.Cond.eq (Jvm.Term.elem (Jvm.Term.field (Jvm.Term.string "DrawingHouseModel" (1267 : Nat)) "java/lang/String" "value" "[B") (Jvm.Term.int (5 : Int32))) (Jvm.Term.int (100 : Int32))), (Jvm.Cond.exactly (Jvm.Term.string "DrawingHouseModel" (1268 : Nat)) "java/lang/String"), (Jvm.Cond.eq (Jvm.Term.field (Jvm.Term.string "DrawingHouseModel" (1268 : Nat)) "java/lang/String" "coder" "B") (Jvm.Term.int (0 : Int32))), (Jvm.Cond.arrayOf (Jvm.Term.field (Jvm.Term.string "DrawingHouseModel" (1268 : Nat)) "java/lang/String" "value" "[B") Jvm.ClassFile.FieldType.byte), (Jvm.Cond.eq (Jvm.Term.length (Jvm.Term.field (Jvm.Term.string "DrawingHouseModel" (1268 : Nat)) "java/lang/String" "value" "[B")) (Jvm.Term.int (6 : Int32))), (Jvm.Cond.eq (Jvm.Term.elem (Jvm.Term.field (Jvm.Term.string "DrawingHouseModel" (1268 : Nat)) "java/lang/String" "value" "[B") (Jvm.Term.int (0 : Int32))) (Jvm.Term.int (98 : Int32))), (Jvm.Cond.eq (Jvm.Term.elem (Jvm.Term.field (Jvm.Term.string "DrawingHouseModel" (1268 : Nat)) "java/lang/String" "value" "[B") (Jvm.Term.int (1 : Int32))) (Jvm.Term.int (114 : Int32))), (Jvm.Cond.eq (Jvm.Term.elem (Jvm.Term.field (Jvm.Term.string "DrawingHouseModel" (1268 : Nat)) "java/lang/String" "value" "[B") (Jvm.Term.int (2 : Int32))) (Jvm.Term.int (105 : Int32))), (Jvm.Cond.eq (Jvm.Term.elem (Jvm.Term.field (Jvm.Term.string "DrawingHouseModel" (1268 : Nat)) "java/lang/String" "value" "[B") (Jvm.Term.int (3 : Int32))) (Jvm.Term.int (100 : Int32))), (Jvm.Cond.eq (Jvm.Term.elem (Jvm.Term.field (Jvm.Term.string "DrawingHouseModel" (1268 : Nat)) "java/lang/String" "value" "[B") (Jvm.Term.int (4 : Int32))) (Jvm.Term.int (103 : Int32))), (Jvm.Cond.eq (Jvm.Term.elem (Jvm.Term.field (Jvm.Term.string "DrawingHouseModel" (1268 : Nat)) "java/lang/String" "value" "[B") (Jvm.Term.int (5 : Int32))) (Jvm.Term.int (101 : Int32))), (Jvm.Cond.exactly (Jvm.Term.string "DrawingHouseModel" (1270 : Nat)) "java/lang/String"), (Jvm.Cond.eq (Jvm.Term.field (Jvm.Term.string "DrawingHouseModel" (1270 : Nat)) "java/lang/String" "coder" "B") (Jvm.Term.int (0 : Int32)))]
def nw_7 : List Cond := [(Jvm.Cond.arrayOf (Jvm.Term.field (Jvm.Term.string "DrawingHouseModel" (1270 : Nat)) "java/lang/String" "value" "[B") Jvm.ClassFile.FieldType.byte), (Jvm.Cond.eq (Jvm.Term.length (Jvm.Term.field (Jvm.Term.string "DrawingHouseModel" (1270 : Nat)) "java/lang/String" "value" "[B")) (Jvm.Term.int (4 : Int32))), (Jvm.Cond.eq (Jvm.Term.elem (Jvm.Term.field (Jvm.Term.string "DrawingHouseModel" (1270 : Nat)) "java/lang/String" "value" "[B") (Jvm.Term.int (0 : Int32))) (Jvm.Term.int (102 : Int32))), (Jvm.Cond.eq (Jvm.Term.elem (Jvm.Term.field (Jvm.Term.string "DrawingHouseModel" (1270 : Nat)) "java/lang/String" "value" "[B") (Jvm.Term.int (1 : Int32))) (Jvm.Term.int (114 : Int32))), (Jvm.Cond.eq (Jvm.Term.elem (Jvm.Term.field (Jvm.Term.string "DrawingHouseModel" (1270 : Nat)) "java/lang/String" "value" "[B") (Jvm.Term.int (2 : Int32))) (Jvm.Term.int (111 : Int32))), (Jvm.Cond.eq (Jvm.Term.elem (Jvm.Term.field (Jvm.Term.string "DrawingHouseModel" (1270 : Nat)) "java/lang/String" "value" "[B") (Jvm.Term.int (3 : Int32))) (Jvm.Term.int (109 : Int32))), (Jvm.Cond.exactly (Jvm.Term.string "DrawingHouseModel" (1271 : Nat)) "java/lang/String"), (Jvm.Cond.eq (Jvm.Term.field (Jvm.Term.string "DrawingHouseModel" (1271 : Nat)) "java/lang/String" "coder" "B") (Jvm.Term.int (0 : Int32))), (Jvm.Cond.arrayOf (Jvm.Term.field (Jvm.Term.string "DrawingHouseModel" (1271 : Nat)) "java/lang/String" "value" "[B") Jvm.ClassFile.FieldType.byte), (Jvm.Cond.eq (Jvm.Term.length (Jvm.Term.field (Jvm.Term.string "DrawingHouseModel" (1271 : Nat)) "java/lang/String" "value" "[B")) (Jvm.Term.int (2 : Int32))), (Jvm.Cond.eq (Jvm.Term.elem (Jvm.Term.field (Jvm.Term.string "DrawingHouseModel" (1271 : Nat)) "java/lang/String" "value" "[B") (Jvm.Term.int (0 : Int32))) (Jvm.Term.int (116 : Int32))), (Jvm.Cond.eq (Jvm.Term.elem (Jvm.Term.field (Jvm.Term.string "DrawingHouseModel" (1271 : Nat)) "java/lang/String" "value" "[B") (Jvm.Term.int (1 : Int32))) (Jvm.Term.int (111 : Int32))), (Jvm.Cond.exactly (Jvm.Term.string "DrawingHouseModel" (1272 : Nat)) "java/lang/String"), (Jvm.Cond.eq (Jvm.Term.field (Jvm.Term.string "DrawingHouseModel" (1272 : Nat)) "java/lang/String" "coder" "B") (Jvm.Term.int (0 : Int32))), (Jvm.Cond.arrayOf (Jvm.Term.field (Jvm.Term.string "DrawingHouseModel" (1272 : Nat)) "java/lang/String" "value" "[B") Jvm.ClassFile.FieldType.byte), (Jvm.Cond.eq (Jvm.Term.length (Jvm.Term.field (Jvm.Term.string "DrawingHouseModel" (1272 : Nat)) "java/lang/String" "value" "[B")) (Jvm.Term.int (5 : Int32))), (Jvm.Cond.eq (Jvm.Term.elem (Jvm.Term.field (Jvm.Term.string "DrawingHouseModel" (1272 : Nat)) "java/lang/String" "value" "[B") (Jvm.Term.int (0 : Int32))) (Jvm.Term.int (98 : Int32))), (Jvm.Cond.eq (Jvm.Term.elem (Jvm.Term.field (Jvm.Term.string "DrawingHouseModel" (1272 : Nat)) "java/lang/String" "value" "[B") (Jvm.Term.int (1 : Int32))) (Jvm.Term.int (108 : Int32))), (Jvm.Cond.eq (Jvm.Term.elem (Jvm.Term.field (Jvm.Term.string "DrawingHouseModel" (1272 : Nat)) "java/lang/String" "value" "[B") (Jvm.Term.int (2 : Int32))) (Jvm.Term.int (111 : Int32))), (Jvm.Cond.eq (Jvm.Term.elem (Jvm.Term.field (Jvm.Term.string "DrawingHouseModel" (1272 : Nat)) "java/lang/String" "value" "[B") (Jvm.Term.int (3 : Int32))) (Jvm.Term.int (99 : Int32))), (Jvm.Cond.eq (Jvm.Term.elem (Jvm.Term.field (Jvm.Term.string "DrawingHouseModel" (1272 : Nat)) "java/lang/String" "value" "[B") (Jvm.Term.int (4 : Int32))) (Jvm.Term.int (107 : Int32))), (Jvm.Cond.exactly (Jvm.Term.string "DrawingHouseModel" (1274 : Nat)) "java/lang/String"), (Jvm.Cond.eq (Jvm.Term.field (Jvm.Term.string "DrawingHouseModel" (1274 : Nat)) "java/lang/String" "coder" "B") (Jvm.Term.int (0 : Int32))), (Jvm.Cond.arrayOf (Jvm.Term.field (Jvm.Term.string "DrawingHouseModel" (1274 : Nat)) "java/lang/String" "value" "[B") Jvm.ClassFile.FieldType.byte), (Jvm.Cond.eq (Jvm.Term.length (Jvm.Term.field (Jvm.Term.string "DrawingHouseModel" (1274 : Nat)) "java/lang/String" "value" "[B")) (Jvm.Term.int (4 : Int32))), (Jvm.Cond.eq (Jvm.Term.elem (Jvm.Term.field (Jvm.Term.string "DrawingHouseModel" (1274 : Nat)) "java/lang/String" "value" "[B") (Jvm.Term.int (0 : Int32))) (Jvm.Term.int (108 : Int32))), (Jvm.Cond.eq (Jvm.Term.elem (Jvm.Term.field (Jvm.Term.string "DrawingHouseModel" (1274 : Nat)) "java/lang/String" "value" "[B") (Jvm.Term.int (1 : Int32))) (Jvm.Term.int (111 : Int32))), (Jvm.Cond.eq (Jvm.Term.elem (Jvm.Term.field (Jvm.Term.string "DrawingHouseModel" (1274 : Nat)) "java/lang/String" "value" "[B") (Jvm.Term.int (2 : Int32))) (Jvm.Term.int (110 : Int32))), (Jvm.Cond.eq (Jvm.Term.elem (Jvm.Term.field (Jvm.Term.string "DrawingHouseModel" (1274 : Nat)) "java/lang/String" "value" "[B") (Jvm.Term.int (3 : Int32))) (Jvm.Term.int (103 : Int32))), (Jvm.Cond.exactly (Jvm.Term.string "DrawingHouseModel" (1276 : Nat)) "java/lang/String"), (Jvm.Cond.eq (Jvm.Term.field (Jvm.Term.string "DrawingHouseModel" (1276 : Nat)) "java/lang/String" "coder" "B") (Jvm.Term.int (0 : Int32))), (Jvm.Cond.arrayOf (Jvm.Term.field (Jvm.Term.string "DrawingHouseModel" (1276 : Nat)) "java/lang/String" "value" "[B") Jvm.ClassFile.FieldType.byte), (Jvm.Cond.eq (Jvm.Term.length (Jvm.Term.field (Jvm.Term.string "DrawingHouseModel" (1276 : Nat)) "java/lang/String" "value" "[B")) (Jvm.Term.int (3 : Int32))), (Jvm.Cond.eq (Jvm.Term.elem (Jvm.Term.field (Jvm.Term.string "DrawingHouseModel" (1276 : Nat)) "java/lang/String" "value" "[B") (Jvm.Term.int (0 : Int32))) (Jvm.Term.int (111 : Int32))), (Jvm.Cond.eq (Jvm.Term.elem (Jvm.Term.field (Jvm.Term.string "DrawingHouseModel" (1276 : Nat)) "java/lang/String" "value" "[B") (Jvm.Term.int (1 : Int32))) (Jvm.Term.int (110 : Int32))), (Jvm.Cond.eq (Jvm.Term.elem (Jvm.Term.field (Jvm.Term.string "DrawingHouseModel" (1276 : Nat)) "java/lang/String" "value" "[B") (Jvm.Term.int (2 : Int32))) (Jvm.Term.int (101 : Int32))), (Jvm.Cond.exactly (Jvm.Term.string "DrawingHouseModel" (1228 : Nat)) "java/lang/String"), (Jvm.Cond.eq (Jvm.Term.field (Jvm.Term.string "DrawingHouseModel" (1228 : Nat)) "java/lang/String" "coder" "B") (Jvm.Term.int (0 : Int32))), (Jvm.Cond.arrayOf (Jvm.Term.field (Jvm.Term.string "DrawingHouseModel" (1228 : Nat)) "java/lang/String" "value" "[B") Jvm.ClassFile.FieldType.byte), (Jvm.Cond.eq (Jvm.Term.length (Jvm.Term.field (Jvm.Term.string "DrawingHouseModel" (1228 : Nat)) "java/lang/String" "value" "[B")) (Jvm.Term.int (3 : Int32))), (Jvm.Cond.eq (Jvm.Term.elem (Jvm.Term.field (Jvm.Term.string "DrawingHouseModel" (1228 : Nat)) "java/lang/String" "value" "[B") (Jvm.Term.int (0 : Int32))) (Jvm.Term.int (97 : Int32))), (Jvm.Cond.eq (Jvm.Term.elem (Jvm.Term.field (Jvm.Term.string "DrawingHouseModel" (1228 : Nat)) "java/lang/String" "value" "[B") (Jvm.Term.int (1 : Int32))) (Jvm.Term.int (110 : Int32))), (Jvm.Cond.eq (Jvm.Term.elem (Jvm.Term.field (Jvm.Term.string "DrawingHouseModel" (1228 : Nat)) "java/lang/String" "value" "[B") (Jvm.Term.int (2 : Int32))) (Jvm.Term.int (100 : Int32))), (Jvm.Cond.exactly (Jvm.Term.string "DrawingHouseModel" (1223 : Nat)) "java/lang/String"), (Jvm.Cond.eq (Jvm.Term.field (Jvm.Term.string "DrawingHouseModel" (1223 : Nat)) "java/lang/String" "coder" "B") (Jvm.Term.int (0 : Int32))), (Jvm.Cond.arrayOf (Jvm.Term.field (Jvm.Term.string "DrawingHouseModel" (1223 : Nat)) "java/lang/String" "value" "[B") Jvm.ClassFile.FieldType.byte), (Jvm.Cond.eq (Jvm.Term.length (Jvm.Term.field (Jvm.Term.string "DrawingHouseModel" (1223 : Nat)) "java/lang/String" "value" "[B")) (Jvm.Term.int (2 : Int32))), (Jvm.Cond.eq (Jvm.Term.elem (Jvm.Term.field (Jvm.Term.string "DrawingHouseModel" (1223 : Nat)) "java/lang/String" "value" "[B") (Jvm.Term.int (0 : Int32))) (Jvm.Term.int (111 : Int32))), (Jvm.Cond.eq (Jvm.Term.elem (Jvm.Term.field (Jvm.Term.string "DrawingHouseModel" (1223 : Nat)) "java/lang/String" "value" "[B") (Jvm.Term.int (1 : Int32))) (Jvm.Term.int (114 : Int32))), (Jvm.Cond.exactly (Jvm.Term.string "DrawingHouseModel" (1206 : Nat)) "java/lang/String"), (Jvm.Cond.eq (Jvm.Term.field (Jvm.Term.string "DrawingHouseModel" (1206 : Nat)) "java/lang/String" "coder" "B") (Jvm.Term.int (0 : Int32))), (Jvm.Cond.arrayOf (Jvm.Term.field (Jvm.Term.string "DrawingHouseModel" (1206 : Nat)) "java/lang/String" "value" "[B") Jvm.ClassFile.FieldType.byte), (Jvm.Cond.eq (Jvm.Term.length (Jvm.Term.field (Jvm.Term.string "DrawingHouseModel" (1206 : Nat)) "java/lang/String" "value" "[B")) (Jvm.Term.int (5 : Int32))), (Jvm.Cond.eq (Jvm.Term.elem (Jvm.Term.field (Jvm.Term.string "DrawingHouseModel" (1206 : Nat)) "java/lang/String" "value" "[B") (Jvm.Term.int (0 : Int32))) (Jvm.Term.int (99 : Int32))), (Jvm.Cond.eq (Jvm.Term.elem (Jvm.Term.field (Jvm.Term.string "DrawingHouseModel" (1206 : Nat)) "java/lang/String" "value" "[B") (Jvm.Term.int (1 : Int32))) (Jvm.Term.int (111 : Int32))), (Jvm.Cond.eq (Jvm.Term.elem (Jvm.Term.field (Jvm.Term.string "DrawingHouseModel" (1206 : Nat)) "java/lang/String" "value" "[B") (Jvm.Term.int (2 : Int32))) (Jvm.Term.int (108 : Int32))), (Jvm.Cond.eq (Jvm.Term.elem (Jvm.Term.field (Jvm.Term.string "DrawingHouseModel" (1206 : Nat)) "java/lang/String" "value" "[B") (Jvm.Term.int (3 : Int32))) (Jvm.Term.int (111 : Int32))), (Jvm.Cond.eq (Jvm.Term.elem (Jvm.Term.field (Jvm.Term.string "DrawingHouseModel" (1206 : Nat)) "java/lang/String" "value" "[B") (Jvm.Term.int (4 : Int32))) (Jvm.Term.int (114 : Int32))), (Jvm.Cond.exactly (Jvm.Term.string "DrawingHouseModel" (1208 : Nat)) "java/lang/String"), (Jvm.Cond.eq (Jvm.Term.field (Jvm.Term.string "DrawingHouseModel" (1208 : Nat)) "java/lang/String" "coder" "B") (Jvm.Term.int (0 : Int32))), (Jvm.Cond.arrayOf (Jvm.Term.field (Jvm.Term.string "DrawingHouseModel" (1208 : Nat)) "java/lang/String" "value" "[B") Jvm.ClassFile.FieldType.byte), (Jvm.Cond.eq (Jvm.Term.length (Jvm.Term.field (Jvm.Term.string "DrawingHouseModel" (1208 : Nat)) "java/lang/String" "value" "[B")) (Jvm.Term.int (5 : Int32))), (Jvm.Cond.eq (Jvm.Term.elem (Jvm.Term.field (Jvm.Term.string "DrawingHouseModel" (1208 : Nat)) "java/lang/String" "value" "[B") (Jvm.Term.int (0 : Int32))) (Jvm.Term.int (119 : Int32))), (Jvm.Cond.eq (Jvm.Term.elem (Jvm.Term.field (Jvm.Term.string "DrawingHouseModel" (1208 : Nat)) "java/lang/String" "value" "[B") (Jvm.Term.int (1 : Int32))) (Jvm.Term.int (105 : Int32)))]
def nw_8 : List Cond := [(Jvm.Cond.eq (Jvm.Term.elem (Jvm.Term.field (Jvm.Term.string "DrawingHouseModel" (1208 : Nat)) "java/lang/String" "value" "[B") (Jvm.Term.int (2 : Int32))) (Jvm.Term.int (100 : Int32))), (Jvm.Cond.eq (Jvm.Term.elem (Jvm.Term.field (Jvm.Term.string "DrawingHouseModel" (1208 : Nat)) "java/lang/String" "value" "[B") (Jvm.Term.int (3 : Int32))) (Jvm.Term.int (116 : Int32))), (Jvm.Cond.eq (Jvm.Term.elem (Jvm.Term.field (Jvm.Term.string "DrawingHouseModel" (1208 : Nat)) "java/lang/String" "value" "[B") (Jvm.Term.int (4 : Int32))) (Jvm.Term.int (104 : Int32))), (Jvm.Cond.exactly (Jvm.Term.string "DrawingHouseModel" (1210 : Nat)) "java/lang/String"), (Jvm.Cond.eq (Jvm.Term.field (Jvm.Term.string "DrawingHouseModel" (1210 : Nat)) "java/lang/String" "coder" "B") (Jvm.Term.int (0 : Int32))), (Jvm.Cond.arrayOf (Jvm.Term.field (Jvm.Term.string "DrawingHouseModel" (1210 : Nat)) "java/lang/String" "value" "[B") Jvm.ClassFile.FieldType.byte), (Jvm.Cond.eq (Jvm.Term.length (Jvm.Term.field (Jvm.Term.string "DrawingHouseModel" (1210 : Nat)) "java/lang/String" "value" "[B")) (Jvm.Term.int (4 : Int32))), (Jvm.Cond.eq (Jvm.Term.elem (Jvm.Term.field (Jvm.Term.string "DrawingHouseModel" (1210 : Nat)) "java/lang/String" "value" "[B") (Jvm.Term.int (0 : Int32))) (Jvm.Term.int (102 : Int32))), (Jvm.Cond.eq (Jvm.Term.elem (Jvm.Term.field (Jvm.Term.string "DrawingHouseModel" (1210 : Nat)) "java/lang/String" "value" "[B") (Jvm.Term.int (1 : Int32))) (Jvm.Term.int (111 : Int32))), (Jvm.Cond.eq (Jvm.Term.elem (Jvm.Term.field (Jvm.Term.string "DrawingHouseModel" (1210 : Nat)) "java/lang/String" "value" "[B") (Jvm.Term.int (2 : Int32))) (Jvm.Term.int (114 : Int32))), (Jvm.Cond.eq (Jvm.Term.elem (Jvm.Term.field (Jvm.Term.string "DrawingHouseModel" (1210 : Nat)) "java/lang/String" "value" "[B") (Jvm.Term.int (3 : Int32))) (Jvm.Term.int (109 : Int32))), (Jvm.Cond.exactly (Jvm.Term.string "DrawingHouseModel" (1288 : Nat)) "java/lang/String"), (Jvm.Cond.eq (Jvm.Term.field (Jvm.Term.string "DrawingHouseModel" (1288 : Nat)) "java/lang/String" "coder" "B") (Jvm.Term.int (0 : Int32))), (Jvm.Cond.arrayOf (Jvm.Term.field (Jvm.Term.string "DrawingHouseModel" (1288 : Nat)) "java/lang/String" "value" "[B") Jvm.ClassFile.FieldType.byte), (Jvm.Cond.eq (Jvm.Term.length (Jvm.Term.field (Jvm.Term.string "DrawingHouseModel" (1288 : Nat)) "java/lang/String" "value" "[B")) (Jvm.Term.int (5 : Int32))), (Jvm.Cond.eq (Jvm.Term.elem (Jvm.Term.field (Jvm.Term.string "DrawingHouseModel" (1288 : Nat)) "java/lang/String" "value" "[B") (Jvm.Term.int (0 : Int32))) (Jvm.Term.int (110 : Int32))), (Jvm.Cond.eq (Jvm.Term.elem (Jvm.Term.field (Jvm.Term.string "DrawingHouseModel" (1288 : Nat)) "java/lang/String" "value" "[B") (Jvm.Term.int (1 : Int32))) (Jvm.Term.int (111 : Int32))), (Jvm.Cond.eq (Jvm.Term.elem (Jvm.Term.field (Jvm.Term.string "DrawingHouseModel" (1288 : Nat)) "java/lang/String" "value" "[B") (Jvm.Term.int (2 : Int32))) (Jvm.Term.int (100 : Int32))), (Jvm.Cond.eq (Jvm.Term.elem (Jvm.Term.field (Jvm.Term.string "DrawingHouseModel" (1288 : Nat)) "java/lang/String" "value" "[B") (Jvm.Term.int (3 : Int32))) (Jvm.Term.int (101 : Int32))), (Jvm.Cond.eq (Jvm.Term.elem (Jvm.Term.field (Jvm.Term.string "DrawingHouseModel" (1288 : Nat)) "java/lang/String" "value" "[B") (Jvm.Term.int (4 : Int32))) (Jvm.Term.int (32 : Int32))), (Jvm.Cond.eq (Jvm.Term.string "DrawingHouse" (459 : Nat)) (Jvm.Term.string "DrawingHouseModel" (1288 : Nat))), (Jvm.Cond.exactly (Jvm.Term.string "DrawingHouseModel" (1296 : Nat)) "java/lang/String"), (Jvm.Cond.eq (Jvm.Term.field (Jvm.Term.string "DrawingHouseModel" (1296 : Nat)) "java/lang/String" "coder" "B") (Jvm.Term.int (0 : Int32))), (Jvm.Cond.arrayOf (Jvm.Term.field (Jvm.Term.string "DrawingHouseModel" (1296 : Nat)) "java/lang/String" "value" "[B") Jvm.ClassFile.FieldType.byte), (Jvm.Cond.eq (Jvm.Term.length (Jvm.Term.field (Jvm.Term.string "DrawingHouseModel" (1296 : Nat)) "java/lang/String" "value" "[B")) (Jvm.Term.int (7 : Int32))), (Jvm.Cond.eq (Jvm.Term.elem (Jvm.Term.field (Jvm.Term.string "DrawingHouseModel" (1296 : Nat)) "java/lang/String" "value" "[B") (Jvm.Term.int (0 : Int32))) (Jvm.Term.int (32 : Int32))), (Jvm.Cond.eq (Jvm.Term.elem (Jvm.Term.field (Jvm.Term.string "DrawingHouseModel" (1296 : Nat)) "java/lang/String" "value" "[B") (Jvm.Term.int (1 : Int32))) (Jvm.Term.int (91 : Int32))), (Jvm.Cond.eq (Jvm.Term.elem (Jvm.Term.field (Jvm.Term.string "DrawingHouseModel" (1296 : Nat)) "java/lang/String" "value" "[B") (Jvm.Term.int (2 : Int32))) (Jvm.Term.int (115 : Int32))), (Jvm.Cond.eq (Jvm.Term.elem (Jvm.Term.field (Jvm.Term.string "DrawingHouseModel" (1296 : Nat)) "java/lang/String" "value" "[B") (Jvm.Term.int (3 : Int32))) (Jvm.Term.int (105 : Int32))), (Jvm.Cond.eq (Jvm.Term.elem (Jvm.Term.field (Jvm.Term.string "DrawingHouseModel" (1296 : Nat)) "java/lang/String" "value" "[B") (Jvm.Term.int (4 : Int32))) (Jvm.Term.int (122 : Int32))), (Jvm.Cond.eq (Jvm.Term.elem (Jvm.Term.field (Jvm.Term.string "DrawingHouseModel" (1296 : Nat)) "java/lang/String" "value" "[B") (Jvm.Term.int (5 : Int32))) (Jvm.Term.int (101 : Int32))), (Jvm.Cond.eq (Jvm.Term.elem (Jvm.Term.field (Jvm.Term.string "DrawingHouseModel" (1296 : Nat)) "java/lang/String" "value" "[B") (Jvm.Term.int (6 : Int32))) (Jvm.Term.int (61 : Int32))), (Jvm.Cond.eq (Jvm.Term.string "DrawingHouse" (469 : Nat)) (Jvm.Term.string "DrawingHouseModel" (1296 : Nat))), (Jvm.Cond.exactly (Jvm.Term.string "DrawingHouseModel" (1301 : Nat)) "java/lang/String"), (Jvm.Cond.eq (Jvm.Term.field (Jvm.Term.string "DrawingHouseModel" (1301 : Nat)) "java/lang/String" "coder" "B") (Jvm.Term.int (0 : Int32))), (Jvm.Cond.arrayOf (Jvm.Term.field (Jvm.Term.string "DrawingHouseModel" (1301 : Nat)) "java/lang/String" "value" "[B") Jvm.ClassFile.FieldType.byte), (Jvm.Cond.eq (Jvm.Term.length (Jvm.Term.field (Jvm.Term.string "DrawingHouseModel" (1301 : Nat)) "java/lang/String" "value" "[B")) (Jvm.Term.int (1 : Int32))), (Jvm.Cond.eq (Jvm.Term.elem (Jvm.Term.field (Jvm.Term.string "DrawingHouseModel" (1301 : Nat)) "java/lang/String" "value" "[B") (Jvm.Term.int (0 : Int32))) (Jvm.Term.int (93 : Int32))), (Jvm.Cond.exactly (Jvm.Term.string "DrawingHouseModel" (1303 : Nat)) "java/lang/String"), (Jvm.Cond.eq (Jvm.Term.field (Jvm.Term.string "DrawingHouseModel" (1303 : Nat)) "java/lang/String" "coder" "B") (Jvm.Term.int (0 : Int32))), (Jvm.Cond.arrayOf (Jvm.Term.field (Jvm.Term.string "DrawingHouseModel" (1303 : Nat)) "java/lang/String" "value" "[B") Jvm.ClassFile.FieldType.byte), (Jvm.Cond.eq (Jvm.Term.length (Jvm.Term.field (Jvm.Term.string "DrawingHouseModel" (1303 : Nat)) "java/lang/String" "value" "[B")) (Jvm.Term.int (2 : Int32))), (Jvm.Cond.eq (Jvm.Term.elem (Jvm.Term.field (Jvm.Term.string "DrawingHouseModel" (1303 : Nat)) "java/lang/String" "value" "[B") (Jvm.Term.int (0 : Int32))) (Jvm.Term.int (59 : Int32))), (Jvm.Cond.eq (Jvm.Term.elem (Jvm.Term.field (Jvm.Term.string "DrawingHouseModel" (1303 : Nat)) "java/lang/String" "value" "[B") (Jvm.Term.int (1 : Int32))) (Jvm.Term.int (10 : Int32))), (Jvm.Cond.eq (Jvm.Term.string "DrawingHouse" (474 : Nat)) (Jvm.Term.string "DrawingHouseModel" (1303 : Nat))), (Jvm.Cond.exactly (Jvm.Term.string "DrawingHouseModel" (1305 : Nat)) "java/lang/String"), (Jvm.Cond.eq (Jvm.Term.field (Jvm.Term.string "DrawingHouseModel" (1305 : Nat)) "java/lang/String" "coder" "B") (Jvm.Term.int (0 : Int32))), (Jvm.Cond.arrayOf (Jvm.Term.field (Jvm.Term.string "DrawingHouseModel" (1305 : Nat)) "java/lang/String" "value" "[B") Jvm.ClassFile.FieldType.byte), (Jvm.Cond.eq (Jvm.Term.length (Jvm.Term.field (Jvm.Term.string "DrawingHouseModel" (1305 : Nat)) "java/lang/String" "value" "[B")) (Jvm.Term.int (6 : Int32))), (Jvm.Cond.eq (Jvm.Term.elem (Jvm.Term.field (Jvm.Term.string "DrawingHouseModel" (1305 : Nat)) "java/lang/String" "value" "[B") (Jvm.Term.int (0 : Int32))) (Jvm.Term.int (103 : Int32))), (Jvm.Cond.eq (Jvm.Term.elem (Jvm.Term.field (Jvm.Term.string "DrawingHouseModel" (1305 : Nat)) "java/lang/String" "value" "[B") (Jvm.Term.int (1 : Int32))) (Jvm.Term.int (114 : Int32))), (Jvm.Cond.eq (Jvm.Term.elem (Jvm.Term.field (Jvm.Term.string "DrawingHouseModel" (1305 : Nat)) "java/lang/String" "value" "[B") (Jvm.Term.int (2 : Int32))) (Jvm.Term.int (111 : Int32))), (Jvm.Cond.eq (Jvm.Term.elem (Jvm.Term.field (Jvm.Term.string "DrawingHouseModel" (1305 : Nat)) "java/lang/String" "value" "[B") (Jvm.Term.int (3 : Int32))) (Jvm.Term.int (117 : Int32))), (Jvm.Cond.eq (Jvm.Term.elem (Jvm.Term.field (Jvm.Term.string "DrawingHouseModel" (1305 : Nat)) "java/lang/String" "value" "[B") (Jvm.Term.int (4 : Int32))) (Jvm.Term.int (112 : Int32))), (Jvm.Cond.eq (Jvm.Term.elem (Jvm.Term.field (Jvm.Term.string "DrawingHouseModel" (1305 : Nat)) "java/lang/String" "value" "[B") (Jvm.Term.int (5 : Int32))) (Jvm.Term.int (32 : Int32))), (Jvm.Cond.eq (Jvm.Term.string "DrawingHouse" (476 : Nat)) (Jvm.Term.string "DrawingHouseModel" (1305 : Nat))), (Jvm.Cond.exactly (Jvm.Term.string "DrawingHouseModel" (1307 : Nat)) "java/lang/String"), (Jvm.Cond.eq (Jvm.Term.field (Jvm.Term.string "DrawingHouseModel" (1307 : Nat)) "java/lang/String" "coder" "B") (Jvm.Term.int (0 : Int32))), (Jvm.Cond.arrayOf (Jvm.Term.field (Jvm.Term.string "DrawingHouseModel" (1307 : Nat)) "java/lang/String" "value" "[B") Jvm.ClassFile.FieldType.byte), (Jvm.Cond.eq (Jvm.Term.length (Jvm.Term.field (Jvm.Term.string "DrawingHouseModel" (1307 : Nat)) "java/lang/String" "value" "[B")) (Jvm.Term.int (3 : Int32))), (Jvm.Cond.eq (Jvm.Term.elem (Jvm.Term.field (Jvm.Term.string "DrawingHouseModel" (1307 : Nat)) "java/lang/String" "value" "[B") (Jvm.Term.int (0 : Int32))) (Jvm.Term.int (32 : Int32))), (Jvm.Cond.eq (Jvm.Term.elem (Jvm.Term.field (Jvm.Term.string "DrawingHouseModel" (1307 : Nat)) "java/lang/String" "value" "[B") (Jvm.Term.int (1 : Int32))) (Jvm.Term.int (123 : Int32))), (Jvm.Cond.eq (Jvm.Term.elem (Jvm.Term.field (Jvm.Term.string "DrawingHouseModel" (1307 : Nat)) "java/lang/String" "value" "[B") (Jvm.Term.int (2 : Int32))) (Jvm.Term.int (10 : Int32))), (Jvm.Cond.eq (Jvm.Term.string "DrawingHouse" (478 : Nat)) (Jvm.Term.string "DrawingHouseModel" (1307 : Nat)))]
def nw_9 : List Cond := [(Jvm.Cond.exactly (Jvm.Term.string "DrawingHouseModel" (1312 : Nat)) "java/lang/String"), (Jvm.Cond.eq (Jvm.Term.field (Jvm.Term.string "DrawingHouseModel" (1312 : Nat)) "java/lang/String" "coder" "B") (Jvm.Term.int (0 : Int32))), (Jvm.Cond.arrayOf (Jvm.Term.field (Jvm.Term.string "DrawingHouseModel" (1312 : Nat)) "java/lang/String" "value" "[B") Jvm.ClassFile.FieldType.byte), (Jvm.Cond.eq (Jvm.Term.length (Jvm.Term.field (Jvm.Term.string "DrawingHouseModel" (1312 : Nat)) "java/lang/String" "value" "[B")) (Jvm.Term.int (2 : Int32))), (Jvm.Cond.eq (Jvm.Term.elem (Jvm.Term.field (Jvm.Term.string "DrawingHouseModel" (1312 : Nat)) "java/lang/String" "value" "[B") (Jvm.Term.int (0 : Int32))) (Jvm.Term.int (125 : Int32))), (Jvm.Cond.eq (Jvm.Term.elem (Jvm.Term.field (Jvm.Term.string "DrawingHouseModel" (1312 : Nat)) "java/lang/String" "value" "[B") (Jvm.Term.int (1 : Int32))) (Jvm.Term.int (10 : Int32))), (Jvm.Cond.eq (Jvm.Term.string "DrawingHouse" (480 : Nat)) (Jvm.Term.string "DrawingHouseModel" (1312 : Nat))), (Jvm.Cond.exactly (Jvm.Term.string "DrawingHouseModel" (1314 : Nat)) "java/lang/String"), (Jvm.Cond.eq (Jvm.Term.field (Jvm.Term.string "DrawingHouseModel" (1314 : Nat)) "java/lang/String" "coder" "B") (Jvm.Term.int (0 : Int32))), (Jvm.Cond.arrayOf (Jvm.Term.field (Jvm.Term.string "DrawingHouseModel" (1314 : Nat)) "java/lang/String" "value" "[B") Jvm.ClassFile.FieldType.byte), (Jvm.Cond.eq (Jvm.Term.length (Jvm.Term.field (Jvm.Term.string "DrawingHouseModel" (1314 : Nat)) "java/lang/String" "value" "[B")) (Jvm.Term.int (3 : Int32))), (Jvm.Cond.eq (Jvm.Term.elem (Jvm.Term.field (Jvm.Term.string "DrawingHouseModel" (1314 : Nat)) "java/lang/String" "value" "[B") (Jvm.Term.int (0 : Int32))) (Jvm.Term.int (32 : Int32))), (Jvm.Cond.eq (Jvm.Term.elem (Jvm.Term.field (Jvm.Term.string "DrawingHouseModel" (1314 : Nat)) "java/lang/String" "value" "[B") (Jvm.Term.int (1 : Int32))) (Jvm.Term.int (62 : Int32))), (Jvm.Cond.eq (Jvm.Term.elem (Jvm.Term.field (Jvm.Term.string "DrawingHouseModel" (1314 : Nat)) "java/lang/String" "value" "[B") (Jvm.Term.int (2 : Int32))) (Jvm.Term.int (32 : Int32))), (Jvm.Cond.eq (Jvm.Term.string "DrawingHouse" (482 : Nat)) (Jvm.Term.string "DrawingHouseModel" (1314 : Nat))), (Jvm.Cond.exactly (Jvm.Term.string "DrawingHouseModel" (1316 : Nat)) "java/lang/String"), (Jvm.Cond.eq (Jvm.Term.field (Jvm.Term.string "DrawingHouseModel" (1316 : Nat)) "java/lang/String" "coder" "B") (Jvm.Term.int (0 : Int32))), (Jvm.Cond.arrayOf (Jvm.Term.field (Jvm.Term.string "DrawingHouseModel" (1316 : Nat)) "java/lang/String" "value" "[B") Jvm.ClassFile.FieldType.byte), (Jvm.Cond.eq (Jvm.Term.length (Jvm.Term.field (Jvm.Term.string "DrawingHouseModel" (1316 : Nat)) "java/lang/String" "value" "[B")) (Jvm.Term.int (3 : Int32))), (Jvm.Cond.eq (Jvm.Term.elem (Jvm.Term.field (Jvm.Term.string "DrawingHouseModel" (1316 : Nat)) "java/lang/String" "value" "[B") (Jvm.Term.int (0 : Int32))) (Jvm.Term.int (32 : Int32))), (Jvm.Cond.eq (Jvm.Term.elem (Jvm.Term.field (Jvm.Term.string "DrawingHouseModel" (1316 : Nat)) "java/lang/String" "value" "[B") (Jvm.Term.int (1 : Int32))) (Jvm.Term.int (45 : Int32))), (Jvm.Cond.eq (Jvm.Term.elem (Jvm.Term.field (Jvm.Term.string "DrawingHouseModel" (1316 : Nat)) "java/lang/String" "value" "[B") (Jvm.Term.int (2 : Int32))) (Jvm.Term.int (32 : Int32))), (Jvm.Cond.eq (Jvm.Term.string "DrawingHouse" (484 : Nat)) (Jvm.Term.string "DrawingHouseModel" (1316 : Nat))), (Jvm.Cond.exactly (Jvm.Term.string "DrawingHouseModel" (1318 : Nat)) "java/lang/String"), (Jvm.Cond.eq (Jvm.Term.field (Jvm.Term.string "DrawingHouseModel" (1318 : Nat)) "java/lang/String" "coder" "B") (Jvm.Term.int (0 : Int32))), (Jvm.Cond.arrayOf (Jvm.Term.field (Jvm.Term.string "DrawingHouseModel" (1318 : Nat)) "java/lang/String" "value" "[B") Jvm.ClassFile.FieldType.byte), (Jvm.Cond.eq (Jvm.Term.length (Jvm.Term.field (Jvm.Term.string "DrawingHouseModel" (1318 : Nat)) "java/lang/String" "value" "[B")) (Jvm.Term.int (9 : Int32))), (Jvm.Cond.eq (Jvm.Term.elem (Jvm.Term.field (Jvm.Term.string "DrawingHouseModel" (1318 : Nat)) "java/lang/String" "value" "[B") (Jvm.Term.int (0 : Int32))) (Jvm.Term.int (32 : Int32))), (Jvm.Cond.eq (Jvm.Term.elem (Jvm.Term.field (Jvm.Term.string "DrawingHouseModel" (1318 : Nat)) "java/lang/String" "value" "[B") (Jvm.Term.int (1 : Int32))) (Jvm.Term.int (91 : Int32))), (Jvm.Cond.eq (Jvm.Term.elem (Jvm.Term.field (Jvm.Term.string "DrawingHouseModel" (1318 : Nat)) "java/lang/String" "value" "[B") (Jvm.Term.int (2 : Int32))) (Jvm.Term.int (119 : Int32))), (Jvm.Cond.eq (Jvm.Term.elem (Jvm.Term.field (Jvm.Term.string "DrawingHouseModel" (1318 : Nat)) "java/lang/String" "value" "[B") (Jvm.Term.int (3 : Int32))) (Jvm.Term.int (101 : Int32))), (Jvm.Cond.eq (Jvm.Term.elem (Jvm.Term.field (Jvm.Term.string "DrawingHouseModel" (1318 : Nat)) "java/lang/String" "value" "[B") (Jvm.Term.int (4 : Int32))) (Jvm.Term.int (105 : Int32))), (Jvm.Cond.eq (Jvm.Term.elem (Jvm.Term.field (Jvm.Term.string "DrawingHouseModel" (1318 : Nat)) "java/lang/String" "value" "[B") (Jvm.Term.int (5 : Int32))) (Jvm.Term.int (103 : Int32))), (Jvm.Cond.eq (Jvm.Term.elem (Jvm.Term.field (Jvm.Term.string "DrawingHouseModel" (1318 : Nat)) "java/lang/String" "value" "[B") (Jvm.Term.int (6 : Int32))) (Jvm.Term.int (104 : Int32))), (Jvm.Cond.eq (Jvm.Term.elem (Jvm.Term.field (Jvm.Term.string "DrawingHouseModel" (1318 : Nat)) "java/lang/String" "value" "[B") (Jvm.Term.int (7 : Int32))) (Jvm.Term.int (116 : Int32))), (Jvm.Cond.eq (Jvm.Term.elem (Jvm.Term.field (Jvm.Term.string "DrawingHouseModel" (1318 : Nat)) "java/lang/String" "value" "[B") (Jvm.Term.int (8 : Int32))) (Jvm.Term.int (61 : Int32))), (Jvm.Cond.eq (Jvm.Term.string "DrawingHouse" (486 : Nat)) (Jvm.Term.string "DrawingHouseModel" (1318 : Nat)))]
set_option maxRecDepth 100000 in
theorem nw_eq : flatC (Jvm.Cond.and given_1 narrow_1) = nw_0 ++ (nw_1 ++ (nw_2 ++ (nw_3 ++ (nw_4 ++ (nw_5 ++ (nw_6 ++ (nw_7 ++ (nw_8 ++ (nw_9))))))))) := by decide +kernel
theorem nw_c0 {w : Cond} (h : w ∈ nw_0) : w ∈ flatC (Jvm.Cond.and given_1 narrow_1) := by
  rw [nw_eq]
  exact List.mem_append_left _ h
theorem nw_c1 {w : Cond} (h : w ∈ nw_1) : w ∈ flatC (Jvm.Cond.and given_1 narrow_1) := by
  rw [nw_eq]
  exact List.mem_append_right _ (List.mem_append_left _ h)
theorem nw_c2 {w : Cond} (h : w ∈ nw_2) : w ∈ flatC (Jvm.Cond.and given_1 narrow_1) := by
  rw [nw_eq]
  exact List.mem_append_right _ (List.mem_append_right _ (List.mem_append_left _ h))
theorem nw_c3 {w : Cond} (h : w ∈ nw_3) : w ∈ flatC (Jvm.Cond.and given_1 narrow_1) := by
  rw [nw_eq]
  exact List.mem_append_right _ (List.mem_append_right _ (List.mem_append_right _ (List.mem_append_left _ h)))
theorem nw_c4 {w : Cond} (h : w ∈ nw_4) : w ∈ flatC (Jvm.Cond.and given_1 narrow_1) := by
  rw [nw_eq]
  exact List.mem_append_right _ (List.mem_append_right _ (List.mem_append_right _ (List.mem_append_right _ (List.mem_append_left _ h))))
theorem nw_c5 {w : Cond} (h : w ∈ nw_5) : w ∈ flatC (Jvm.Cond.and given_1 narrow_1) := by
  rw [nw_eq]
  exact List.mem_append_right _ (List.mem_append_right _ (List.mem_append_right _ (List.mem_append_right _ (List.mem_append_right _ (List.mem_append_left _ h)))))
theorem nw_c6 {w : Cond} (h : w ∈ nw_6) : w ∈ flatC (Jvm.Cond.and given_1 narrow_1) := by
  rw [nw_eq]
  exact List.mem_append_right _ (List.mem_append_right _ (List.mem_append_right _ (List.mem_append_right _ (List.mem_append_right _ (List.mem_append_right _ (List.mem_append_left _ h))))))
theorem nw_c7 {w : Cond} (h : w ∈ nw_7) : w ∈ flatC (Jvm.Cond.and given_1 narrow_1) := by
  rw [nw_eq]
  exact List.mem_append_right _ (List.mem_append_right _ (List.mem_append_right _ (List.mem_append_right _ (List.mem_append_right _ (List.mem_append_right _ (List.mem_append_right _ (List.mem_append_left _ h)))))))
theorem nw_c8 {w : Cond} (h : w ∈ nw_8) : w ∈ flatC (Jvm.Cond.and given_1 narrow_1) := by
  rw [nw_eq]
  exact List.mem_append_right _ (List.mem_append_right _ (List.mem_append_right _ (List.mem_append_right _ (List.mem_append_right _ (List.mem_append_right _ (List.mem_append_right _ (List.mem_append_right _ (List.mem_append_left _ h))))))))
theorem nw_c9 {w : Cond} (h : w ∈ nw_9) : w ∈ flatC (Jvm.Cond.and given_1 narrow_1) := by
  rw [nw_eq]
  exact List.mem_append_right _ (List.mem_append_right _ (List.mem_append_right _ (List.mem_append_right _ (List.mem_append_right _ (List.mem_append_right _ (List.mem_append_right _ (List.mem_append_right _ (List.mem_append_right _ (h)))))))))
theorem st_ev {own tx : String} {k a : Nat} {args : Array Value} {s : State} (h : va_Nw (.stringRef own k tx) s) (h2 : (Term.string own k).eval args s none [] s = some (.ref a)) : vk_R own k tx a s := by
  obtain ⟨z, hz⟩ := str_R h
  have e : (Term.string own k).eval #[] s none [] s = some (.ref a) := h2
  exact ⟨hz.1, e⟩
theorem not_A {s : State} : ∀ a : Nat, a < s.heap.size → ¬ (fun q : Nat => s.heap.size ≤ q) a := fun a h => by show ¬ s.heap.size ≤ a; omega
set_option maxRecDepth 100000 in
theorem rs_0 {args : Array Value} {s : State} (hs : ∀ w ∈ flatC (Jvm.Cond.and given_1 narrow_1), w.before args s = true) (hN : nst s) : ∃ a v : Nat, (va_O "java/lang/String" a (fun q : Nat => s.heap.size ≤ q) s s.heap ∧ va_OF "java/lang/String" "coder" "B" (.int 0) a (fun q : Nat => s.heap.size ≤ q) s s.heap ∧ va_OF "java/lang/String" "value" "[B" (.ref v) a (fun q : Nat => s.heap.size ≤ q) s s.heap ∧ va_T .byte v 4 (fun j => .int (([110, 111, 100, 101] : List Int32).getD j 0)) (fun q : Nat => s.heap.size ≤ q) s s.heap) ∧ vk_R "DrawingHouse$Reader" 93 "node" a s ∧ vk_R "DrawingHouseModel" 467 "node" a s := by
  obtain ⟨adK, adV, h, h2⟩ := vk_Sof (args := args) (s := s) (N := 1) (tm := fun _ => .string "DrawingHouse$Reader" 93) (len := [4]) (byt := [[110, 111, 100, 101]]) (A := fun q : Nat => s.heap.size ≤ q) (fun i hi => by match i, hi with | 0, _ => decide) (fun _ _ => hs _ (nw_c0 (List.mem_of_getElem? (i := 29) rfl))) (fun _ _ => hs _ (nw_c0 (List.mem_of_getElem? (i := 30) rfl))) (fun _ _ => hs _ (nw_c0 (List.mem_of_getElem? (i := 31) rfl))) (fun i hi => by match i, hi with | 0, _ => exact hs _ (nw_c0 (List.mem_of_getElem? (i := 32) rfl))) (fun i hi j hj => by
    match i, hi, j, hj with
    | 0, _, 0, _ => exact hs _ (nw_c0 (List.mem_of_getElem? (i := 33) rfl))
    | 0, _, 1, _ => exact hs _ (nw_c0 (List.mem_of_getElem? (i := 34) rfl))
    | 0, _, 2, _ => exact hs _ (nw_c0 (List.mem_of_getElem? (i := 35) rfl))
    | 0, _, 3, _ => exact hs _ (nw_c0 (List.mem_of_getElem? (i := 36) rfl))
    | 0, _, j + 4, hj => exact absurd hj (by show ¬ j + 4 < 4; omega)) (fun i j hi hj hne => absurd (by omega) hne) not_A
  have e0 := h2 0 (by decide)
  have e1 : (Term.string "DrawingHouseModel" 467).eval args s none [] s = some (.ref (adK 0)) := by
    obtain ⟨y, z1, z2⟩ := Cond.eq_one (show (Cond.eq (.string "DrawingHouse$Reader" 93) (.string "DrawingHouseModel" 467)).holds args s none s [] = true from hs _ (nw_c5 (List.mem_of_getElem? (i := 2) rfl)))
    rw [e0] at z1; rw [← Option.some.inj z1] at z2; exact z2
  exact ⟨adK 0, adV 0, h.1 0 (by decide), ⟨st_ev (hN _ wn_666) e0, st_ev (hN _ wn_2998) e1⟩⟩
set_option maxRecDepth 100000 in
theorem rs_1 {args : Array Value} {s : State} (hs : ∀ w ∈ flatC (Jvm.Cond.and given_1 narrow_1), w.before args s = true) (hN : nst s) : ∃ a v : Nat, (va_O "java/lang/String" a (fun q : Nat => s.heap.size ≤ q) s s.heap ∧ va_OF "java/lang/String" "coder" "B" (.int 0) a (fun q : Nat => s.heap.size ≤ q) s s.heap ∧ va_OF "java/lang/String" "value" "[B" (.ref v) a (fun q : Nat => s.heap.size ≤ q) s s.heap ∧ va_T .byte v 5 (fun j => .int (([103, 114, 111, 117, 112] : List Int32).getD j 0)) (fun q : Nat => s.heap.size ≤ q) s s.heap) ∧ vk_R "DrawingHouse$Reader" 99 "group" a s ∧ vk_R "DrawingHouseModel" 473 "group" a s := by
  obtain ⟨adK, adV, h, h2⟩ := vk_Sof (args := args) (s := s) (N := 1) (tm := fun _ => .string "DrawingHouse$Reader" 99) (len := [5]) (byt := [[103, 114, 111, 117, 112]]) (A := fun q : Nat => s.heap.size ≤ q) (fun i hi => by match i, hi with | 0, _ => decide) (fun _ _ => hs _ (nw_c0 (List.mem_of_getElem? (i := 37) rfl))) (fun _ _ => hs _ (nw_c0 (List.mem_of_getElem? (i := 38) rfl))) (fun _ _ => hs _ (nw_c0 (List.mem_of_getElem? (i := 39) rfl))) (fun i hi => by match i, hi with | 0, _ => exact hs _ (nw_c0 (List.mem_of_getElem? (i := 40) rfl))) (fun i hi j hj => by
    match i, hi, j, hj with
    | 0, _, 0, _ => exact hs _ (nw_c0 (List.mem_of_getElem? (i := 41) rfl))
    | 0, _, 1, _ => exact hs _ (nw_c0 (List.mem_of_getElem? (i := 42) rfl))
    | 0, _, 2, _ => exact hs _ (nw_c0 (List.mem_of_getElem? (i := 43) rfl))
    | 0, _, 3, _ => exact hs _ (nw_c0 (List.mem_of_getElem? (i := 44) rfl))
    | 0, _, 4, _ => exact hs _ (nw_c0 (List.mem_of_getElem? (i := 45) rfl))
    | 0, _, j + 5, hj => exact absurd hj (by show ¬ j + 5 < 5; omega)) (fun i j hi hj hne => absurd (by omega) hne) not_A
  have e0 := h2 0 (by decide)
  have e1 : (Term.string "DrawingHouseModel" 473).eval args s none [] s = some (.ref (adK 0)) := by
    obtain ⟨y, z1, z2⟩ := Cond.eq_one (show (Cond.eq (.string "DrawingHouse$Reader" 99) (.string "DrawingHouseModel" 473)).holds args s none s [] = true from hs _ (nw_c5 (List.mem_of_getElem? (i := 12) rfl)))
    rw [e0] at z1; rw [← Option.some.inj z1] at z2; exact z2
  exact ⟨adK 0, adV 0, h.1 0 (by decide), ⟨st_ev (hN _ wn_727) e0, st_ev (hN _ wn_3013) e1⟩⟩
set_option maxRecDepth 100000 in
theorem rs_2 {args : Array Value} {s : State} (hs : ∀ w ∈ flatC (Jvm.Cond.and given_1 narrow_1), w.before args s = true) (hN : nst s) : ∃ a v : Nat, (va_O "java/lang/String" a (fun q : Nat => s.heap.size ≤ q) s s.heap ∧ va_OF "java/lang/String" "coder" "B" (.int 0) a (fun q : Nat => s.heap.size ≤ q) s s.heap ∧ va_OF "java/lang/String" "value" "[B" (.ref v) a (fun q : Nat => s.heap.size ≤ q) s s.heap ∧ va_T .byte v 4 (fun j => .int (([115, 105, 122, 101] : List Int32).getD j 0)) (fun q : Nat => s.heap.size ≤ q) s s.heap) ∧ vk_R "DrawingHouse$Reader" 130 "size" a s ∧ vk_R "DrawingHouseModel" 497 "size" a s := by
  obtain ⟨adK, adV, h, h2⟩ := vk_Sof (args := args) (s := s) (N := 1) (tm := fun _ => .string "DrawingHouse$Reader" 130) (len := [4]) (byt := [[115, 105, 122, 101]]) (A := fun q : Nat => s.heap.size ≤ q) (fun i hi => by match i, hi with | 0, _ => decide) (fun _ _ => hs _ (nw_c0 (List.mem_of_getElem? (i := 46) rfl))) (fun _ _ => hs _ (nw_c0 (List.mem_of_getElem? (i := 47) rfl))) (fun _ _ => hs _ (nw_c0 (List.mem_of_getElem? (i := 48) rfl))) (fun i hi => by match i, hi with | 0, _ => exact hs _ (nw_c0 (List.mem_of_getElem? (i := 49) rfl))) (fun i hi j hj => by
    match i, hi, j, hj with
    | 0, _, 0, _ => exact hs _ (nw_c0 (List.mem_of_getElem? (i := 50) rfl))
    | 0, _, 1, _ => exact hs _ (nw_c0 (List.mem_of_getElem? (i := 51) rfl))
    | 0, _, 2, _ => exact hs _ (nw_c0 (List.mem_of_getElem? (i := 52) rfl))
    | 0, _, 3, _ => exact hs _ (nw_c0 (List.mem_of_getElem? (i := 53) rfl))
    | 0, _, j + 4, hj => exact absurd hj (by show ¬ j + 4 < 4; omega)) (fun i j hi hj hne => absurd (by omega) hne) not_A
  have e0 := h2 0 (by decide)
  have e1 : (Term.string "DrawingHouseModel" 497).eval args s none [] s = some (.ref (adK 0)) := by
    obtain ⟨y, z1, z2⟩ := Cond.eq_one (show (Cond.eq (.string "DrawingHouse$Reader" 130) (.string "DrawingHouseModel" 497)).holds args s none s [] = true from hs _ (nw_c5 (List.mem_of_getElem? (i := 21) rfl)))
    rw [e0] at z1; rw [← Option.some.inj z1] at z2; exact z2
  exact ⟨adK 0, adV 0, h.1 0 (by decide), ⟨st_ev (hN _ wn_751) e0, st_ev (hN _ wn_3050) e1⟩⟩
set_option maxRecDepth 100000 in
theorem rs_3 {args : Array Value} {s : State} (hs : ∀ w ∈ flatC (Jvm.Cond.and given_1 narrow_1), w.before args s = true) (hN : nst s) : ∃ a v : Nat, (va_O "java/lang/String" a (fun q : Nat => s.heap.size ≤ q) s s.heap ∧ va_OF "java/lang/String" "coder" "B" (.int 0) a (fun q : Nat => s.heap.size ≤ q) s s.heap ∧ va_OF "java/lang/String" "value" "[B" (.ref v) a (fun q : Nat => s.heap.size ≤ q) s s.heap ∧ va_T .byte v 6 (fun j => .int (([119, 101, 105, 103, 104, 116] : List Int32).getD j 0)) (fun q : Nat => s.heap.size ≤ q) s s.heap) ∧ vk_R "DrawingHouse$Reader" 166 "weight" a s ∧ vk_R "DrawingHouseModel" 519 "weight" a s := by
  obtain ⟨adK, adV, h, h2⟩ := vk_Sof (args := args) (s := s) (N := 1) (tm := fun _ => .string "DrawingHouse$Reader" 166) (len := [6]) (byt := [[119, 101, 105, 103, 104, 116]]) (A := fun q : Nat => s.heap.size ≤ q) (fun i hi => by match i, hi with | 0, _ => decide) (fun _ _ => hs _ (nw_c0 (List.mem_of_getElem? (i := 54) rfl))) (fun _ _ => hs _ (nw_c0 (List.mem_of_getElem? (i := 55) rfl))) (fun _ _ => hs _ (nw_c0 (List.mem_of_getElem? (i := 56) rfl))) (fun i hi => by match i, hi with | 0, _ => exact hs _ (nw_c0 (List.mem_of_getElem? (i := 57) rfl))) (fun i hi j hj => by
    match i, hi, j, hj with
    | 0, _, 0, _ => exact hs _ (nw_c0 (List.mem_of_getElem? (i := 58) rfl))
    | 0, _, 1, _ => exact hs _ (nw_c0 (List.mem_of_getElem? (i := 59) rfl))
    | 0, _, 2, _ => exact hs _ (nw_c0 (List.mem_of_getElem? (i := 60) rfl))
    | 0, _, 3, _ => exact hs _ (nw_c0 (List.mem_of_getElem? (i := 61) rfl))
    | 0, _, 4, _ => exact hs _ (nw_c0 (List.mem_of_getElem? (i := 62) rfl))
    | 0, _, 5, _ => exact hs _ (nw_c0 (List.mem_of_getElem? (i := 63) rfl))
    | 0, _, j + 6, hj => exact absurd hj (by show ¬ j + 6 < 6; omega)) (fun i j hi hj hne => absurd (by omega) hne) not_A
  have e0 := h2 0 (by decide)
  have e1 : (Term.string "DrawingHouseModel" 519).eval args s none [] s = some (.ref (adK 0)) := by
    obtain ⟨y, z1, z2⟩ := Cond.eq_one (show (Cond.eq (.string "DrawingHouse$Reader" 166) (.string "DrawingHouseModel" 519)).holds args s none s [] = true from hs _ (nw_c5 (List.mem_of_getElem? (i := 32) rfl)))
    rw [e0] at z1; rw [← Option.some.inj z1] at z2; exact z2
  exact ⟨adK 0, adV 0, h.1 0 (by decide), ⟨st_ev (hN _ wn_777) e0, st_ev (hN _ wn_3079) e1⟩⟩
set_option maxRecDepth 100000 in
theorem rs_4 {args : Array Value} {s : State} (hs : ∀ w ∈ flatC (Jvm.Cond.and given_1 narrow_1), w.before args s = true) (hN : nst s) : ∃ a v : Nat, (va_O "java/lang/String" a (fun q : Nat => s.heap.size ≤ q) s s.heap ∧ va_OF "java/lang/String" "coder" "B" (.int 0) a (fun q : Nat => s.heap.size ≤ q) s s.heap ∧ va_OF "java/lang/String" "value" "[B" (.ref v) a (fun q : Nat => s.heap.size ≤ q) s s.heap ∧ va_T .byte v 39 (fun j => .int (([100, 101, 103, 32, 105, 110, 32, 111, 117, 116, 32, 115, 105, 122, 101, 32, 103, 114, 111, 117, 112, 32, 102, 97, 114, 32, 99, 111, 114, 101, 32, 99, 117, 116, 32, 120, 32, 121, 32] : List Int32).getD j 0)) (fun q : Nat => s.heap.size ≤ q) s s.heap) ∧ vk_R "DrawingHouse$Styler" 40 "deg in out size group far core cut x y " a s := by
  obtain ⟨adK, adV, h, h2⟩ := vk_Sof (args := args) (s := s) (N := 1) (tm := fun _ => .string "DrawingHouse$Styler" 40) (len := [39]) (byt := [[100, 101, 103, 32, 105, 110, 32, 111, 117, 116, 32, 115, 105, 122, 101, 32, 103, 114, 111, 117, 112, 32, 102, 97, 114, 32, 99, 111, 114, 101, 32, 99, 117, 116, 32, 120, 32, 121, 32]]) (A := fun q : Nat => s.heap.size ≤ q) (fun i hi => by match i, hi with | 0, _ => decide) (fun _ _ => hs _ (nw_c1 (List.mem_of_getElem? (i := 0) rfl))) (fun _ _ => hs _ (nw_c1 (List.mem_of_getElem? (i := 1) rfl))) (fun _ _ => hs _ (nw_c1 (List.mem_of_getElem? (i := 2) rfl))) (fun i hi => by match i, hi with | 0, _ => exact hs _ (nw_c1 (List.mem_of_getElem? (i := 3) rfl))) (fun i hi j hj => by
    match i, hi, j, hj with
    | 0, _, 0, _ => exact hs _ (nw_c1 (List.mem_of_getElem? (i := 4) rfl))
    | 0, _, 1, _ => exact hs _ (nw_c1 (List.mem_of_getElem? (i := 5) rfl))
    | 0, _, 2, _ => exact hs _ (nw_c1 (List.mem_of_getElem? (i := 6) rfl))
    | 0, _, 3, _ => exact hs _ (nw_c1 (List.mem_of_getElem? (i := 7) rfl))
    | 0, _, 4, _ => exact hs _ (nw_c1 (List.mem_of_getElem? (i := 8) rfl))
    | 0, _, 5, _ => exact hs _ (nw_c1 (List.mem_of_getElem? (i := 9) rfl))
    | 0, _, 6, _ => exact hs _ (nw_c1 (List.mem_of_getElem? (i := 10) rfl))
    | 0, _, 7, _ => exact hs _ (nw_c1 (List.mem_of_getElem? (i := 11) rfl))
    | 0, _, 8, _ => exact hs _ (nw_c1 (List.mem_of_getElem? (i := 12) rfl))
    | 0, _, 9, _ => exact hs _ (nw_c1 (List.mem_of_getElem? (i := 13) rfl))
    | 0, _, 10, _ => exact hs _ (nw_c1 (List.mem_of_getElem? (i := 14) rfl))
    | 0, _, 11, _ => exact hs _ (nw_c1 (List.mem_of_getElem? (i := 15) rfl))
    | 0, _, 12, _ => exact hs _ (nw_c1 (List.mem_of_getElem? (i := 16) rfl))
    | 0, _, 13, _ => exact hs _ (nw_c1 (List.mem_of_getElem? (i := 17) rfl))
    | 0, _, 14, _ => exact hs _ (nw_c1 (List.mem_of_getElem? (i := 18) rfl))
    | 0, _, 15, _ => exact hs _ (nw_c1 (List.mem_of_getElem? (i := 19) rfl))
    | 0, _, 16, _ => exact hs _ (nw_c1 (List.mem_of_getElem? (i := 20) rfl))
    | 0, _, 17, _ => exact hs _ (nw_c1 (List.mem_of_getElem? (i := 21) rfl))
    | 0, _, 18, _ => exact hs _ (nw_c1 (List.mem_of_getElem? (i := 22) rfl))
    | 0, _, 19, _ => exact hs _ (nw_c1 (List.mem_of_getElem? (i := 23) rfl))
    | 0, _, 20, _ => exact hs _ (nw_c1 (List.mem_of_getElem? (i := 24) rfl))
    | 0, _, 21, _ => exact hs _ (nw_c1 (List.mem_of_getElem? (i := 25) rfl))
    | 0, _, 22, _ => exact hs _ (nw_c1 (List.mem_of_getElem? (i := 26) rfl))
    | 0, _, 23, _ => exact hs _ (nw_c1 (List.mem_of_getElem? (i := 27) rfl))
    | 0, _, 24, _ => exact hs _ (nw_c1 (List.mem_of_getElem? (i := 28) rfl))
    | 0, _, 25, _ => exact hs _ (nw_c1 (List.mem_of_getElem? (i := 29) rfl))
    | 0, _, 26, _ => exact hs _ (nw_c1 (List.mem_of_getElem? (i := 30) rfl))
    | 0, _, 27, _ => exact hs _ (nw_c1 (List.mem_of_getElem? (i := 31) rfl))
    | 0, _, 28, _ => exact hs _ (nw_c1 (List.mem_of_getElem? (i := 32) rfl))
    | 0, _, 29, _ => exact hs _ (nw_c1 (List.mem_of_getElem? (i := 33) rfl))
    | 0, _, 30, _ => exact hs _ (nw_c1 (List.mem_of_getElem? (i := 34) rfl))
    | 0, _, 31, _ => exact hs _ (nw_c1 (List.mem_of_getElem? (i := 35) rfl))
    | 0, _, 32, _ => exact hs _ (nw_c1 (List.mem_of_getElem? (i := 36) rfl))
    | 0, _, 33, _ => exact hs _ (nw_c1 (List.mem_of_getElem? (i := 37) rfl))
    | 0, _, 34, _ => exact hs _ (nw_c1 (List.mem_of_getElem? (i := 38) rfl))
    | 0, _, 35, _ => exact hs _ (nw_c1 (List.mem_of_getElem? (i := 39) rfl))
    | 0, _, 36, _ => exact hs _ (nw_c1 (List.mem_of_getElem? (i := 40) rfl))
    | 0, _, 37, _ => exact hs _ (nw_c1 (List.mem_of_getElem? (i := 41) rfl))
    | 0, _, 38, _ => exact hs _ (nw_c1 (List.mem_of_getElem? (i := 42) rfl))
    | 0, _, j + 39, hj => exact absurd hj (by show ¬ j + 39 < 39; omega)) (fun i j hi hj hne => absurd (by omega) hne) not_A
  have e0 := h2 0 (by decide)
  exact ⟨adK 0, adV 0, h.1 0 (by decide), st_ev (hN _ wn_2095) e0⟩
set_option maxRecDepth 100000 in
theorem rs_5 {args : Array Value} {s : State} (hs : ∀ w ∈ flatC (Jvm.Cond.and given_1 narrow_1), w.before args s = true) (hN : nst s) : ∃ a v : Nat, (va_O "java/lang/String" a (fun q : Nat => s.heap.size ≤ q) s s.heap ∧ va_OF "java/lang/String" "coder" "B" (.int 0) a (fun q : Nat => s.heap.size ≤ q) s s.heap ∧ va_OF "java/lang/String" "value" "[B" (.ref v) a (fun q : Nat => s.heap.size ≤ q) s s.heap ∧ va_T .byte v 14 (fun j => .int (([58, 61, 44, 59, 123, 125, 60, 62, 43, 45, 42, 47, 40, 41] : List Int32).getD j 0)) (fun q : Nat => s.heap.size ≤ q) s s.heap) ∧ vk_R "DrawingHouse$Styler" 92 ":=,;{}<>+-*/()" a s := by
  obtain ⟨adK, adV, h, h2⟩ := vk_Sof (args := args) (s := s) (N := 1) (tm := fun _ => .string "DrawingHouse$Styler" 92) (len := [14]) (byt := [[58, 61, 44, 59, 123, 125, 60, 62, 43, 45, 42, 47, 40, 41]]) (A := fun q : Nat => s.heap.size ≤ q) (fun i hi => by match i, hi with | 0, _ => decide) (fun _ _ => hs _ (nw_c1 (List.mem_of_getElem? (i := 43) rfl))) (fun _ _ => hs _ (nw_c1 (List.mem_of_getElem? (i := 44) rfl))) (fun _ _ => hs _ (nw_c1 (List.mem_of_getElem? (i := 45) rfl))) (fun i hi => by match i, hi with | 0, _ => exact hs _ (nw_c1 (List.mem_of_getElem? (i := 46) rfl))) (fun i hi j hj => by
    match i, hi, j, hj with
    | 0, _, 0, _ => exact hs _ (nw_c1 (List.mem_of_getElem? (i := 47) rfl))
    | 0, _, 1, _ => exact hs _ (nw_c1 (List.mem_of_getElem? (i := 48) rfl))
    | 0, _, 2, _ => exact hs _ (nw_c1 (List.mem_of_getElem? (i := 49) rfl))
    | 0, _, 3, _ => exact hs _ (nw_c1 (List.mem_of_getElem? (i := 50) rfl))
    | 0, _, 4, _ => exact hs _ (nw_c1 (List.mem_of_getElem? (i := 51) rfl))
    | 0, _, 5, _ => exact hs _ (nw_c1 (List.mem_of_getElem? (i := 52) rfl))
    | 0, _, 6, _ => exact hs _ (nw_c1 (List.mem_of_getElem? (i := 53) rfl))
    | 0, _, 7, _ => exact hs _ (nw_c1 (List.mem_of_getElem? (i := 54) rfl))
    | 0, _, 8, _ => exact hs _ (nw_c1 (List.mem_of_getElem? (i := 55) rfl))
    | 0, _, 9, _ => exact hs _ (nw_c1 (List.mem_of_getElem? (i := 56) rfl))
    | 0, _, 10, _ => exact hs _ (nw_c1 (List.mem_of_getElem? (i := 57) rfl))
    | 0, _, 11, _ => exact hs _ (nw_c1 (List.mem_of_getElem? (i := 58) rfl))
    | 0, _, 12, _ => exact hs _ (nw_c1 (List.mem_of_getElem? (i := 59) rfl))
    | 0, _, 13, _ => exact hs _ (nw_c1 (List.mem_of_getElem? (i := 60) rfl))
    | 0, _, j + 14, hj => exact absurd hj (by show ¬ j + 14 < 14; omega)) (fun i j hi hj hne => absurd (by omega) hne) not_A
  have e0 := h2 0 (by decide)
  exact ⟨adK 0, adV 0, h.1 0 (by decide), st_ev (hN _ wn_2165) e0⟩
set_option maxRecDepth 100000 in
theorem rs_6 {args : Array Value} {s : State} (hs : ∀ w ∈ flatC (Jvm.Cond.and given_1 narrow_1), w.before args s = true) (hN : nst s) : ∃ a v : Nat, (va_O "java/lang/String" a (fun q : Nat => s.heap.size ≤ q) s s.heap ∧ va_OF "java/lang/String" "coder" "B" (.int 0) a (fun q : Nat => s.heap.size ≤ q) s s.heap ∧ va_OF "java/lang/String" "value" "[B" (.ref v) a (fun q : Nat => s.heap.size ≤ q) s s.heap ∧ va_T .byte v 10 (fun j => .int (([110, 111, 100, 101, 32, 101, 100, 103, 101, 32] : List Int32).getD j 0)) (fun q : Nat => s.heap.size ≤ q) s s.heap) ∧ vk_R "DrawingHouse$Styler" 112 "node edge " a s := by
  obtain ⟨adK, adV, h, h2⟩ := vk_Sof (args := args) (s := s) (N := 1) (tm := fun _ => .string "DrawingHouse$Styler" 112) (len := [10]) (byt := [[110, 111, 100, 101, 32, 101, 100, 103, 101, 32]]) (A := fun q : Nat => s.heap.size ≤ q) (fun i hi => by match i, hi with | 0, _ => decide) (fun _ _ => hs _ (nw_c1 (List.mem_of_getElem? (i := 61) rfl))) (fun _ _ => hs _ (nw_c1 (List.mem_of_getElem? (i := 62) rfl))) (fun _ _ => hs _ (nw_c1 (List.mem_of_getElem? (i := 63) rfl))) (fun i hi => by match i, hi with | 0, _ => exact hs _ (nw_c2 (List.mem_of_getElem? (i := 0) rfl))) (fun i hi j hj => by
    match i, hi, j, hj with
    | 0, _, 0, _ => exact hs _ (nw_c2 (List.mem_of_getElem? (i := 1) rfl))
    | 0, _, 1, _ => exact hs _ (nw_c2 (List.mem_of_getElem? (i := 2) rfl))
    | 0, _, 2, _ => exact hs _ (nw_c2 (List.mem_of_getElem? (i := 3) rfl))
    | 0, _, 3, _ => exact hs _ (nw_c2 (List.mem_of_getElem? (i := 4) rfl))
    | 0, _, 4, _ => exact hs _ (nw_c2 (List.mem_of_getElem? (i := 5) rfl))
    | 0, _, 5, _ => exact hs _ (nw_c2 (List.mem_of_getElem? (i := 6) rfl))
    | 0, _, 6, _ => exact hs _ (nw_c2 (List.mem_of_getElem? (i := 7) rfl))
    | 0, _, 7, _ => exact hs _ (nw_c2 (List.mem_of_getElem? (i := 8) rfl))
    | 0, _, 8, _ => exact hs _ (nw_c2 (List.mem_of_getElem? (i := 9) rfl))
    | 0, _, 9, _ => exact hs _ (nw_c2 (List.mem_of_getElem? (i := 10) rfl))
    | 0, _, j + 10, hj => exact absurd hj (by show ¬ j + 10 < 10; omega)) (fun i j hi hj hne => absurd (by omega) hne) not_A
  have e0 := h2 0 (by decide)
  exact ⟨adK 0, adV 0, h.1 0 (by decide), st_ev (hN _ wn_2225) e0⟩
set_option maxRecDepth 100000 in
theorem rs_7 {args : Array Value} {s : State} (hs : ∀ w ∈ flatC (Jvm.Cond.and given_1 narrow_1), w.before args s = true) (hN : nst s) : ∃ a v : Nat, (va_O "java/lang/String" a (fun q : Nat => s.heap.size ≤ q) s s.heap ∧ va_OF "java/lang/String" "coder" "B" (.int 0) a (fun q : Nat => s.heap.size ≤ q) s s.heap ∧ va_OF "java/lang/String" "value" "[B" (.ref v) a (fun q : Nat => s.heap.size ≤ q) s s.heap ∧ va_T .byte v 44 (fun j => .int (([119, 101, 105, 103, 104, 116, 32, 116, 117, 114, 110, 101, 100, 32, 98, 114, 105, 100, 103, 101, 32, 102, 114, 111, 109, 32, 116, 111, 32, 98, 108, 111, 99, 107, 32, 108, 111, 110, 103, 32, 111, 110, 101, 32] : List Int32).getD j 0)) (fun q : Nat => s.heap.size ≤ q) s s.heap) ∧ vk_R "DrawingHouse$Styler" 121 "weight turned bridge from to block long one " a s := by
  obtain ⟨adK, adV, h, h2⟩ := vk_Sof (args := args) (s := s) (N := 1) (tm := fun _ => .string "DrawingHouse$Styler" 121) (len := [44]) (byt := [[119, 101, 105, 103, 104, 116, 32, 116, 117, 114, 110, 101, 100, 32, 98, 114, 105, 100, 103, 101, 32, 102, 114, 111, 109, 32, 116, 111, 32, 98, 108, 111, 99, 107, 32, 108, 111, 110, 103, 32, 111, 110, 101, 32]]) (A := fun q : Nat => s.heap.size ≤ q) (fun i hi => by match i, hi with | 0, _ => decide) (fun _ _ => hs _ (nw_c2 (List.mem_of_getElem? (i := 11) rfl))) (fun _ _ => hs _ (nw_c2 (List.mem_of_getElem? (i := 12) rfl))) (fun _ _ => hs _ (nw_c2 (List.mem_of_getElem? (i := 13) rfl))) (fun i hi => by match i, hi with | 0, _ => exact hs _ (nw_c2 (List.mem_of_getElem? (i := 14) rfl))) (fun i hi j hj => by
    match i, hi, j, hj with
    | 0, _, 0, _ => exact hs _ (nw_c2 (List.mem_of_getElem? (i := 15) rfl))
    | 0, _, 1, _ => exact hs _ (nw_c2 (List.mem_of_getElem? (i := 16) rfl))
    | 0, _, 2, _ => exact hs _ (nw_c2 (List.mem_of_getElem? (i := 17) rfl))
    | 0, _, 3, _ => exact hs _ (nw_c2 (List.mem_of_getElem? (i := 18) rfl))
    | 0, _, 4, _ => exact hs _ (nw_c2 (List.mem_of_getElem? (i := 19) rfl))
    | 0, _, 5, _ => exact hs _ (nw_c2 (List.mem_of_getElem? (i := 20) rfl))
    | 0, _, 6, _ => exact hs _ (nw_c2 (List.mem_of_getElem? (i := 21) rfl))
    | 0, _, 7, _ => exact hs _ (nw_c2 (List.mem_of_getElem? (i := 22) rfl))
    | 0, _, 8, _ => exact hs _ (nw_c2 (List.mem_of_getElem? (i := 23) rfl))
    | 0, _, 9, _ => exact hs _ (nw_c2 (List.mem_of_getElem? (i := 24) rfl))
    | 0, _, 10, _ => exact hs _ (nw_c2 (List.mem_of_getElem? (i := 25) rfl))
    | 0, _, 11, _ => exact hs _ (nw_c2 (List.mem_of_getElem? (i := 26) rfl))
    | 0, _, 12, _ => exact hs _ (nw_c2 (List.mem_of_getElem? (i := 27) rfl))
    | 0, _, 13, _ => exact hs _ (nw_c2 (List.mem_of_getElem? (i := 28) rfl))
    | 0, _, 14, _ => exact hs _ (nw_c2 (List.mem_of_getElem? (i := 29) rfl))
    | 0, _, 15, _ => exact hs _ (nw_c2 (List.mem_of_getElem? (i := 30) rfl))
    | 0, _, 16, _ => exact hs _ (nw_c2 (List.mem_of_getElem? (i := 31) rfl))
    | 0, _, 17, _ => exact hs _ (nw_c2 (List.mem_of_getElem? (i := 32) rfl))
    | 0, _, 18, _ => exact hs _ (nw_c2 (List.mem_of_getElem? (i := 33) rfl))
    | 0, _, 19, _ => exact hs _ (nw_c2 (List.mem_of_getElem? (i := 34) rfl))
    | 0, _, 20, _ => exact hs _ (nw_c2 (List.mem_of_getElem? (i := 35) rfl))
    | 0, _, 21, _ => exact hs _ (nw_c2 (List.mem_of_getElem? (i := 36) rfl))
    | 0, _, 22, _ => exact hs _ (nw_c2 (List.mem_of_getElem? (i := 37) rfl))
    | 0, _, 23, _ => exact hs _ (nw_c2 (List.mem_of_getElem? (i := 38) rfl))
    | 0, _, 24, _ => exact hs _ (nw_c2 (List.mem_of_getElem? (i := 39) rfl))
    | 0, _, 25, _ => exact hs _ (nw_c2 (List.mem_of_getElem? (i := 40) rfl))
    | 0, _, 26, _ => exact hs _ (nw_c2 (List.mem_of_getElem? (i := 41) rfl))
    | 0, _, 27, _ => exact hs _ (nw_c2 (List.mem_of_getElem? (i := 42) rfl))
    | 0, _, 28, _ => exact hs _ (nw_c2 (List.mem_of_getElem? (i := 43) rfl))
    | 0, _, 29, _ => exact hs _ (nw_c2 (List.mem_of_getElem? (i := 44) rfl))
    | 0, _, 30, _ => exact hs _ (nw_c2 (List.mem_of_getElem? (i := 45) rfl))
    | 0, _, 31, _ => exact hs _ (nw_c2 (List.mem_of_getElem? (i := 46) rfl))
    | 0, _, 32, _ => exact hs _ (nw_c2 (List.mem_of_getElem? (i := 47) rfl))
    | 0, _, 33, _ => exact hs _ (nw_c2 (List.mem_of_getElem? (i := 48) rfl))
    | 0, _, 34, _ => exact hs _ (nw_c2 (List.mem_of_getElem? (i := 49) rfl))
    | 0, _, 35, _ => exact hs _ (nw_c2 (List.mem_of_getElem? (i := 50) rfl))
    | 0, _, 36, _ => exact hs _ (nw_c2 (List.mem_of_getElem? (i := 51) rfl))
    | 0, _, 37, _ => exact hs _ (nw_c2 (List.mem_of_getElem? (i := 52) rfl))
    | 0, _, 38, _ => exact hs _ (nw_c2 (List.mem_of_getElem? (i := 53) rfl))
    | 0, _, 39, _ => exact hs _ (nw_c2 (List.mem_of_getElem? (i := 54) rfl))
    | 0, _, 40, _ => exact hs _ (nw_c2 (List.mem_of_getElem? (i := 55) rfl))
    | 0, _, 41, _ => exact hs _ (nw_c2 (List.mem_of_getElem? (i := 56) rfl))
    | 0, _, 42, _ => exact hs _ (nw_c2 (List.mem_of_getElem? (i := 57) rfl))
    | 0, _, 43, _ => exact hs _ (nw_c2 (List.mem_of_getElem? (i := 58) rfl))
    | 0, _, j + 44, hj => exact absurd hj (by show ¬ j + 44 < 44; omega)) (fun i j hi hj hne => absurd (by omega) hne) not_A
  have e0 := h2 0 (by decide)
  exact ⟨adK 0, adV 0, h.1 0 (by decide), st_ev (hN _ wn_2240) e0⟩
set_option maxRecDepth 100000 in
theorem rs_8 {args : Array Value} {s : State} (hs : ∀ w ∈ flatC (Jvm.Cond.and given_1 narrow_1), w.before args s = true) (hN : nst s) : ∃ a v : Nat, (va_O "java/lang/String" a (fun q : Nat => s.heap.size ≤ q) s s.heap ∧ va_OF "java/lang/String" "coder" "B" (.int 0) a (fun q : Nat => s.heap.size ≤ q) s s.heap ∧ va_OF "java/lang/String" "value" "[B" (.ref v) a (fun q : Nat => s.heap.size ≤ q) s s.heap ∧ va_T .byte v 3 (fun j => .int (([105, 102, 32] : List Int32).getD j 0)) (fun q : Nat => s.heap.size ≤ q) s s.heap) ∧ vk_R "DrawingHouse$Styler" 123 "if " a s := by
  obtain ⟨adK, adV, h, h2⟩ := vk_Sof (args := args) (s := s) (N := 1) (tm := fun _ => .string "DrawingHouse$Styler" 123) (len := [3]) (byt := [[105, 102, 32]]) (A := fun q : Nat => s.heap.size ≤ q) (fun i hi => by match i, hi with | 0, _ => decide) (fun _ _ => hs _ (nw_c2 (List.mem_of_getElem? (i := 59) rfl))) (fun _ _ => hs _ (nw_c2 (List.mem_of_getElem? (i := 60) rfl))) (fun _ _ => hs _ (nw_c2 (List.mem_of_getElem? (i := 61) rfl))) (fun i hi => by match i, hi with | 0, _ => exact hs _ (nw_c2 (List.mem_of_getElem? (i := 62) rfl))) (fun i hi j hj => by
    match i, hi, j, hj with
    | 0, _, 0, _ => exact hs _ (nw_c2 (List.mem_of_getElem? (i := 63) rfl))
    | 0, _, 1, _ => exact hs _ (nw_c3 (List.mem_of_getElem? (i := 0) rfl))
    | 0, _, 2, _ => exact hs _ (nw_c3 (List.mem_of_getElem? (i := 1) rfl))
    | 0, _, j + 3, hj => exact absurd hj (by show ¬ j + 3 < 3; omega)) (fun i j hi hj hne => absurd (by omega) hne) not_A
  have e0 := h2 0 (by decide)
  exact ⟨adK 0, adV 0, h.1 0 (by decide), st_ev (hN _ wn_2241) e0⟩
set_option maxRecDepth 100000 in
theorem rs_9 {args : Array Value} {s : State} (hs : ∀ w ∈ flatC (Jvm.Cond.and given_1 narrow_1), w.before args s = true) (hN : nst s) : ∃ a v : Nat, (va_O "java/lang/String" a (fun q : Nat => s.heap.size ≤ q) s s.heap ∧ va_OF "java/lang/String" "coder" "B" (.int 0) a (fun q : Nat => s.heap.size ≤ q) s s.heap ∧ va_OF "java/lang/String" "value" "[B" (.ref v) a (fun q : Nat => s.heap.size ≤ q) s s.heap ∧ va_T .byte v 4 (fun j => .int (([110, 111, 116, 32] : List Int32).getD j 0)) (fun q : Nat => s.heap.size ≤ q) s s.heap) ∧ vk_R "DrawingHouse$Styler" 150 "not " a s := by
  obtain ⟨adK, adV, h, h2⟩ := vk_Sof (args := args) (s := s) (N := 1) (tm := fun _ => .string "DrawingHouse$Styler" 150) (len := [4]) (byt := [[110, 111, 116, 32]]) (A := fun q : Nat => s.heap.size ≤ q) (fun i hi => by match i, hi with | 0, _ => decide) (fun _ _ => hs _ (nw_c3 (List.mem_of_getElem? (i := 2) rfl))) (fun _ _ => hs _ (nw_c3 (List.mem_of_getElem? (i := 3) rfl))) (fun _ _ => hs _ (nw_c3 (List.mem_of_getElem? (i := 4) rfl))) (fun i hi => by match i, hi with | 0, _ => exact hs _ (nw_c3 (List.mem_of_getElem? (i := 5) rfl))) (fun i hi j hj => by
    match i, hi, j, hj with
    | 0, _, 0, _ => exact hs _ (nw_c3 (List.mem_of_getElem? (i := 6) rfl))
    | 0, _, 1, _ => exact hs _ (nw_c3 (List.mem_of_getElem? (i := 7) rfl))
    | 0, _, 2, _ => exact hs _ (nw_c3 (List.mem_of_getElem? (i := 8) rfl))
    | 0, _, 3, _ => exact hs _ (nw_c3 (List.mem_of_getElem? (i := 9) rfl))
    | 0, _, j + 4, hj => exact absurd hj (by show ¬ j + 4 < 4; omega)) (fun i j hi hj hne => absurd (by omega) hne) not_A
  have e0 := h2 0 (by decide)
  exact ⟨adK 0, adV 0, h.1 0 (by decide), st_ev (hN _ wn_2254) e0⟩
set_option maxRecDepth 100000 in
theorem rs_10 {args : Array Value} {s : State} (hs : ∀ w ∈ flatC (Jvm.Cond.and given_1 narrow_1), w.before args s = true) (hN : nst s) : ∃ a v : Nat, (va_O "java/lang/String" a (fun q : Nat => s.heap.size ≤ q) s s.heap ∧ va_OF "java/lang/String" "coder" "B" (.int 0) a (fun q : Nat => s.heap.size ≤ q) s s.heap ∧ va_OF "java/lang/String" "value" "[B" (.ref v) a (fun q : Nat => s.heap.size ≤ q) s s.heap ∧ va_T .byte v 4 (fun j => .int (([97, 110, 100, 32] : List Int32).getD j 0)) (fun q : Nat => s.heap.size ≤ q) s s.heap) ∧ vk_R "DrawingHouse$Styler" 148 "and " a s := by
  obtain ⟨adK, adV, h, h2⟩ := vk_Sof (args := args) (s := s) (N := 1) (tm := fun _ => .string "DrawingHouse$Styler" 148) (len := [4]) (byt := [[97, 110, 100, 32]]) (A := fun q : Nat => s.heap.size ≤ q) (fun i hi => by match i, hi with | 0, _ => decide) (fun _ _ => hs _ (nw_c3 (List.mem_of_getElem? (i := 10) rfl))) (fun _ _ => hs _ (nw_c3 (List.mem_of_getElem? (i := 11) rfl))) (fun _ _ => hs _ (nw_c3 (List.mem_of_getElem? (i := 12) rfl))) (fun i hi => by match i, hi with | 0, _ => exact hs _ (nw_c3 (List.mem_of_getElem? (i := 13) rfl))) (fun i hi j hj => by
    match i, hi, j, hj with
    | 0, _, 0, _ => exact hs _ (nw_c3 (List.mem_of_getElem? (i := 14) rfl))
    | 0, _, 1, _ => exact hs _ (nw_c3 (List.mem_of_getElem? (i := 15) rfl))
    | 0, _, 2, _ => exact hs _ (nw_c3 (List.mem_of_getElem? (i := 16) rfl))
    | 0, _, 3, _ => exact hs _ (nw_c3 (List.mem_of_getElem? (i := 17) rfl))
    | 0, _, j + 4, hj => exact absurd hj (by show ¬ j + 4 < 4; omega)) (fun i j hi hj hne => absurd (by omega) hne) not_A
  have e0 := h2 0 (by decide)
  exact ⟨adK 0, adV 0, h.1 0 (by decide), st_ev (hN _ wn_2275) e0⟩
set_option maxRecDepth 100000 in
theorem rs_11 {args : Array Value} {s : State} (hs : ∀ w ∈ flatC (Jvm.Cond.and given_1 narrow_1), w.before args s = true) (hN : nst s) : ∃ a v : Nat, (va_O "java/lang/String" a (fun q : Nat => s.heap.size ≤ q) s s.heap ∧ va_OF "java/lang/String" "coder" "B" (.int 0) a (fun q : Nat => s.heap.size ≤ q) s s.heap ∧ va_OF "java/lang/String" "value" "[B" (.ref v) a (fun q : Nat => s.heap.size ≤ q) s s.heap ∧ va_T .byte v 3 (fun j => .int (([111, 114, 32] : List Int32).getD j 0)) (fun q : Nat => s.heap.size ≤ q) s s.heap) ∧ vk_R "DrawingHouse$Styler" 143 "or " a s := by
  obtain ⟨adK, adV, h, h2⟩ := vk_Sof (args := args) (s := s) (N := 1) (tm := fun _ => .string "DrawingHouse$Styler" 143) (len := [3]) (byt := [[111, 114, 32]]) (A := fun q : Nat => s.heap.size ≤ q) (fun i hi => by match i, hi with | 0, _ => decide) (fun _ _ => hs _ (nw_c3 (List.mem_of_getElem? (i := 18) rfl))) (fun _ _ => hs _ (nw_c3 (List.mem_of_getElem? (i := 19) rfl))) (fun _ _ => hs _ (nw_c3 (List.mem_of_getElem? (i := 20) rfl))) (fun i hi => by match i, hi with | 0, _ => exact hs _ (nw_c3 (List.mem_of_getElem? (i := 21) rfl))) (fun i hi j hj => by
    match i, hi, j, hj with
    | 0, _, 0, _ => exact hs _ (nw_c3 (List.mem_of_getElem? (i := 22) rfl))
    | 0, _, 1, _ => exact hs _ (nw_c3 (List.mem_of_getElem? (i := 23) rfl))
    | 0, _, 2, _ => exact hs _ (nw_c3 (List.mem_of_getElem? (i := 24) rfl))
    | 0, _, j + 3, hj => exact absurd hj (by show ¬ j + 3 < 3; omega)) (fun i j hi hj hne => absurd (by omega) hne) not_A
  have e0 := h2 0 (by decide)
  exact ⟨adK 0, adV 0, h.1 0 (by decide), st_ev (hN _ wn_2276) e0⟩
set_option maxRecDepth 100000 in
theorem rs_12 {args : Array Value} {s : State} (hs : ∀ w ∈ flatC (Jvm.Cond.and given_1 narrow_1), w.before args s = true) (hN : nst s) : ∃ a v : Nat, (va_O "java/lang/String" a (fun q : Nat => s.heap.size ≤ q) s s.heap ∧ va_OF "java/lang/String" "coder" "B" (.int 0) a (fun q : Nat => s.heap.size ≤ q) s s.heap ∧ va_OF "java/lang/String" "value" "[B" (.ref v) a (fun q : Nat => s.heap.size ≤ q) s s.heap ∧ va_T .byte v 17 (fun j => .int (([99, 111, 108, 111, 114, 32, 119, 105, 100, 116, 104, 32, 102, 111, 114, 109, 32] : List Int32).getD j 0)) (fun q : Nat => s.heap.size ≤ q) s s.heap) ∧ vk_R "DrawingHouse$Styler" 135 "color width form " a s := by
  obtain ⟨adK, adV, h, h2⟩ := vk_Sof (args := args) (s := s) (N := 1) (tm := fun _ => .string "DrawingHouse$Styler" 135) (len := [17]) (byt := [[99, 111, 108, 111, 114, 32, 119, 105, 100, 116, 104, 32, 102, 111, 114, 109, 32]]) (A := fun q : Nat => s.heap.size ≤ q) (fun i hi => by match i, hi with | 0, _ => decide) (fun _ _ => hs _ (nw_c3 (List.mem_of_getElem? (i := 25) rfl))) (fun _ _ => hs _ (nw_c3 (List.mem_of_getElem? (i := 26) rfl))) (fun _ _ => hs _ (nw_c3 (List.mem_of_getElem? (i := 27) rfl))) (fun i hi => by match i, hi with | 0, _ => exact hs _ (nw_c3 (List.mem_of_getElem? (i := 28) rfl))) (fun i hi j hj => by
    match i, hi, j, hj with
    | 0, _, 0, _ => exact hs _ (nw_c3 (List.mem_of_getElem? (i := 29) rfl))
    | 0, _, 1, _ => exact hs _ (nw_c3 (List.mem_of_getElem? (i := 30) rfl))
    | 0, _, 2, _ => exact hs _ (nw_c3 (List.mem_of_getElem? (i := 31) rfl))
    | 0, _, 3, _ => exact hs _ (nw_c3 (List.mem_of_getElem? (i := 32) rfl))
    | 0, _, 4, _ => exact hs _ (nw_c3 (List.mem_of_getElem? (i := 33) rfl))
    | 0, _, 5, _ => exact hs _ (nw_c3 (List.mem_of_getElem? (i := 34) rfl))
    | 0, _, 6, _ => exact hs _ (nw_c3 (List.mem_of_getElem? (i := 35) rfl))
    | 0, _, 7, _ => exact hs _ (nw_c3 (List.mem_of_getElem? (i := 36) rfl))
    | 0, _, 8, _ => exact hs _ (nw_c3 (List.mem_of_getElem? (i := 37) rfl))
    | 0, _, 9, _ => exact hs _ (nw_c3 (List.mem_of_getElem? (i := 38) rfl))
    | 0, _, 10, _ => exact hs _ (nw_c3 (List.mem_of_getElem? (i := 39) rfl))
    | 0, _, 11, _ => exact hs _ (nw_c3 (List.mem_of_getElem? (i := 40) rfl))
    | 0, _, 12, _ => exact hs _ (nw_c3 (List.mem_of_getElem? (i := 41) rfl))
    | 0, _, 13, _ => exact hs _ (nw_c3 (List.mem_of_getElem? (i := 42) rfl))
    | 0, _, 14, _ => exact hs _ (nw_c3 (List.mem_of_getElem? (i := 43) rfl))
    | 0, _, 15, _ => exact hs _ (nw_c3 (List.mem_of_getElem? (i := 44) rfl))
    | 0, _, 16, _ => exact hs _ (nw_c3 (List.mem_of_getElem? (i := 45) rfl))
    | 0, _, j + 17, hj => exact absurd hj (by show ¬ j + 17 < 17; omega)) (fun i j hi hj hne => absurd (by omega) hne) not_A
  have e0 := h2 0 (by decide)
  exact ⟨adK 0, adV 0, h.1 0 (by decide), st_ev (hN _ wn_2281) e0⟩
set_option maxRecDepth 100000 in
theorem rs_13 {args : Array Value} {s : State} (hs : ∀ w ∈ flatC (Jvm.Cond.and given_1 narrow_1), w.before args s = true) (hN : nst s) : ∃ a v : Nat, (va_O "java/lang/String" a (fun q : Nat => s.heap.size ≤ q) s s.heap ∧ va_OF "java/lang/String" "coder" "B" (.int 0) a (fun q : Nat => s.heap.size ≤ q) s s.heap ∧ va_OF "java/lang/String" "value" "[B" (.ref v) a (fun q : Nat => s.heap.size ≤ q) s s.heap ∧ va_T .byte v 5 (fun j => .int (([110, 111, 100, 101, 32] : List Int32).getD j 0)) (fun q : Nat => s.heap.size ≤ q) s s.heap) ∧ vk_R "DrawingHouse" 459 "node " a s ∧ vk_R "DrawingHouseModel" 1288 "node " a s := by
  obtain ⟨adK, adV, h, h2⟩ := vk_Sof (args := args) (s := s) (N := 1) (tm := fun _ => .string "DrawingHouse" 459) (len := [5]) (byt := [[110, 111, 100, 101, 32]]) (A := fun q : Nat => s.heap.size ≤ q) (fun i hi => by match i, hi with | 0, _ => decide) (fun _ _ => hs _ (nw_c3 (List.mem_of_getElem? (i := 46) rfl))) (fun _ _ => hs _ (nw_c3 (List.mem_of_getElem? (i := 47) rfl))) (fun _ _ => hs _ (nw_c3 (List.mem_of_getElem? (i := 48) rfl))) (fun i hi => by match i, hi with | 0, _ => exact hs _ (nw_c3 (List.mem_of_getElem? (i := 49) rfl))) (fun i hi j hj => by
    match i, hi, j, hj with
    | 0, _, 0, _ => exact hs _ (nw_c3 (List.mem_of_getElem? (i := 50) rfl))
    | 0, _, 1, _ => exact hs _ (nw_c3 (List.mem_of_getElem? (i := 51) rfl))
    | 0, _, 2, _ => exact hs _ (nw_c3 (List.mem_of_getElem? (i := 52) rfl))
    | 0, _, 3, _ => exact hs _ (nw_c3 (List.mem_of_getElem? (i := 53) rfl))
    | 0, _, 4, _ => exact hs _ (nw_c3 (List.mem_of_getElem? (i := 54) rfl))
    | 0, _, j + 5, hj => exact absurd hj (by show ¬ j + 5 < 5; omega)) (fun i j hi hj hne => absurd (by omega) hne) not_A
  have e0 := h2 0 (by decide)
  have e1 : (Term.string "DrawingHouseModel" 1288).eval args s none [] s = some (.ref (adK 0)) := by
    obtain ⟨y, z1, z2⟩ := Cond.eq_one (show (Cond.eq (.string "DrawingHouse" 459) (.string "DrawingHouseModel" 1288)).holds args s none s [] = true from hs _ (nw_c8 (List.mem_of_getElem? (i := 20) rfl)))
    rw [e0] at z1; rw [← Option.some.inj z1] at z2; exact z2
  exact ⟨adK 0, adV 0, h.1 0 (by decide), ⟨st_ev (hN _ wn_2335) e0, st_ev (hN _ wn_3906) e1⟩⟩
set_option maxRecDepth 100000 in
theorem rs_14 {args : Array Value} {s : State} (hs : ∀ w ∈ flatC (Jvm.Cond.and given_1 narrow_1), w.before args s = true) (hN : nst s) : ∃ a v : Nat, (va_O "java/lang/String" a (fun q : Nat => s.heap.size ≤ q) s s.heap ∧ va_OF "java/lang/String" "coder" "B" (.int 0) a (fun q : Nat => s.heap.size ≤ q) s s.heap ∧ va_OF "java/lang/String" "value" "[B" (.ref v) a (fun q : Nat => s.heap.size ≤ q) s s.heap ∧ va_T .byte v 7 (fun j => .int (([32, 91, 115, 105, 122, 101, 61] : List Int32).getD j 0)) (fun q : Nat => s.heap.size ≤ q) s s.heap) ∧ vk_R "DrawingHouse" 469 " [size=" a s ∧ vk_R "DrawingHouseModel" 1296 " [size=" a s := by
  obtain ⟨adK, adV, h, h2⟩ := vk_Sof (args := args) (s := s) (N := 1) (tm := fun _ => .string "DrawingHouse" 469) (len := [7]) (byt := [[32, 91, 115, 105, 122, 101, 61]]) (A := fun q : Nat => s.heap.size ≤ q) (fun i hi => by match i, hi with | 0, _ => decide) (fun _ _ => hs _ (nw_c3 (List.mem_of_getElem? (i := 55) rfl))) (fun _ _ => hs _ (nw_c3 (List.mem_of_getElem? (i := 56) rfl))) (fun _ _ => hs _ (nw_c3 (List.mem_of_getElem? (i := 57) rfl))) (fun i hi => by match i, hi with | 0, _ => exact hs _ (nw_c3 (List.mem_of_getElem? (i := 58) rfl))) (fun i hi j hj => by
    match i, hi, j, hj with
    | 0, _, 0, _ => exact hs _ (nw_c3 (List.mem_of_getElem? (i := 59) rfl))
    | 0, _, 1, _ => exact hs _ (nw_c3 (List.mem_of_getElem? (i := 60) rfl))
    | 0, _, 2, _ => exact hs _ (nw_c3 (List.mem_of_getElem? (i := 61) rfl))
    | 0, _, 3, _ => exact hs _ (nw_c3 (List.mem_of_getElem? (i := 62) rfl))
    | 0, _, 4, _ => exact hs _ (nw_c3 (List.mem_of_getElem? (i := 63) rfl))
    | 0, _, 5, _ => exact hs _ (nw_c4 (List.mem_of_getElem? (i := 0) rfl))
    | 0, _, 6, _ => exact hs _ (nw_c4 (List.mem_of_getElem? (i := 1) rfl))
    | 0, _, j + 7, hj => exact absurd hj (by show ¬ j + 7 < 7; omega)) (fun i j hi hj hne => absurd (by omega) hne) not_A
  have e0 := h2 0 (by decide)
  have e1 : (Term.string "DrawingHouseModel" 1296).eval args s none [] s = some (.ref (adK 0)) := by
    obtain ⟨y, z1, z2⟩ := Cond.eq_one (show (Cond.eq (.string "DrawingHouse" 469) (.string "DrawingHouseModel" 1296)).holds args s none s [] = true from hs _ (nw_c8 (List.mem_of_getElem? (i := 32) rfl)))
    rw [e0] at z1; rw [← Option.some.inj z1] at z2; exact z2
  exact ⟨adK 0, adV 0, h.1 0 (by decide), ⟨st_ev (hN _ wn_2350) e0, st_ev (hN _ wn_3923) e1⟩⟩
set_option maxRecDepth 100000 in
theorem rs_15 {args : Array Value} {s : State} (hs : ∀ w ∈ flatC (Jvm.Cond.and given_1 narrow_1), w.before args s = true) (hN : nst s) : ∃ a v : Nat, (va_O "java/lang/String" a (fun q : Nat => s.heap.size ≤ q) s s.heap ∧ va_OF "java/lang/String" "coder" "B" (.int 0) a (fun q : Nat => s.heap.size ≤ q) s s.heap ∧ va_OF "java/lang/String" "value" "[B" (.ref v) a (fun q : Nat => s.heap.size ≤ q) s s.heap ∧ va_T .byte v 2 (fun j => .int (([59, 10] : List Int32).getD j 0)) (fun q : Nat => s.heap.size ≤ q) s s.heap) ∧ vk_R "DrawingHouse" 474 ";\n" a s ∧ vk_R "DrawingHouseModel" 1303 ";\n" a s := by
  obtain ⟨adK, adV, h, h2⟩ := vk_Sof (args := args) (s := s) (N := 1) (tm := fun _ => .string "DrawingHouse" 474) (len := [2]) (byt := [[59, 10]]) (A := fun q : Nat => s.heap.size ≤ q) (fun i hi => by match i, hi with | 0, _ => decide) (fun _ _ => hs _ (nw_c4 (List.mem_of_getElem? (i := 2) rfl))) (fun _ _ => hs _ (nw_c4 (List.mem_of_getElem? (i := 3) rfl))) (fun _ _ => hs _ (nw_c4 (List.mem_of_getElem? (i := 4) rfl))) (fun i hi => by match i, hi with | 0, _ => exact hs _ (nw_c4 (List.mem_of_getElem? (i := 5) rfl))) (fun i hi j hj => by
    match i, hi, j, hj with
    | 0, _, 0, _ => exact hs _ (nw_c4 (List.mem_of_getElem? (i := 6) rfl))
    | 0, _, 1, _ => exact hs _ (nw_c4 (List.mem_of_getElem? (i := 7) rfl))
    | 0, _, j + 2, hj => exact absurd hj (by show ¬ j + 2 < 2; omega)) (fun i j hi hj hne => absurd (by omega) hne) not_A
  have e0 := h2 0 (by decide)
  have e1 : (Term.string "DrawingHouseModel" 1303).eval args s none [] s = some (.ref (adK 0)) := by
    obtain ⟨y, z1, z2⟩ := Cond.eq_one (show (Cond.eq (.string "DrawingHouse" 474) (.string "DrawingHouseModel" 1303)).holds args s none s [] = true from hs _ (nw_c8 (List.mem_of_getElem? (i := 44) rfl)))
    rw [e0] at z1; rw [← Option.some.inj z1] at z2; exact z2
  exact ⟨adK 0, adV 0, h.1 0 (by decide), ⟨st_ev (hN _ wn_2358) e0, st_ev (hN _ wn_3930) e1⟩⟩
set_option maxRecDepth 100000 in
theorem rs_16 {args : Array Value} {s : State} (hs : ∀ w ∈ flatC (Jvm.Cond.and given_1 narrow_1), w.before args s = true) (hN : nst s) : ∃ a v : Nat, (va_O "java/lang/String" a (fun q : Nat => s.heap.size ≤ q) s s.heap ∧ va_OF "java/lang/String" "coder" "B" (.int 0) a (fun q : Nat => s.heap.size ≤ q) s s.heap ∧ va_OF "java/lang/String" "value" "[B" (.ref v) a (fun q : Nat => s.heap.size ≤ q) s s.heap ∧ va_T .byte v 6 (fun j => .int (([103, 114, 111, 117, 112, 32] : List Int32).getD j 0)) (fun q : Nat => s.heap.size ≤ q) s s.heap) ∧ vk_R "DrawingHouse" 476 "group " a s ∧ vk_R "DrawingHouseModel" 1305 "group " a s := by
  obtain ⟨adK, adV, h, h2⟩ := vk_Sof (args := args) (s := s) (N := 1) (tm := fun _ => .string "DrawingHouse" 476) (len := [6]) (byt := [[103, 114, 111, 117, 112, 32]]) (A := fun q : Nat => s.heap.size ≤ q) (fun i hi => by match i, hi with | 0, _ => decide) (fun _ _ => hs _ (nw_c4 (List.mem_of_getElem? (i := 8) rfl))) (fun _ _ => hs _ (nw_c4 (List.mem_of_getElem? (i := 9) rfl))) (fun _ _ => hs _ (nw_c4 (List.mem_of_getElem? (i := 10) rfl))) (fun i hi => by match i, hi with | 0, _ => exact hs _ (nw_c4 (List.mem_of_getElem? (i := 11) rfl))) (fun i hi j hj => by
    match i, hi, j, hj with
    | 0, _, 0, _ => exact hs _ (nw_c4 (List.mem_of_getElem? (i := 12) rfl))
    | 0, _, 1, _ => exact hs _ (nw_c4 (List.mem_of_getElem? (i := 13) rfl))
    | 0, _, 2, _ => exact hs _ (nw_c4 (List.mem_of_getElem? (i := 14) rfl))
    | 0, _, 3, _ => exact hs _ (nw_c4 (List.mem_of_getElem? (i := 15) rfl))
    | 0, _, 4, _ => exact hs _ (nw_c4 (List.mem_of_getElem? (i := 16) rfl))
    | 0, _, 5, _ => exact hs _ (nw_c4 (List.mem_of_getElem? (i := 17) rfl))
    | 0, _, j + 6, hj => exact absurd hj (by show ¬ j + 6 < 6; omega)) (fun i j hi hj hne => absurd (by omega) hne) not_A
  have e0 := h2 0 (by decide)
  have e1 : (Term.string "DrawingHouseModel" 1305).eval args s none [] s = some (.ref (adK 0)) := by
    obtain ⟨y, z1, z2⟩ := Cond.eq_one (show (Cond.eq (.string "DrawingHouse" 476) (.string "DrawingHouseModel" 1305)).holds args s none s [] = true from hs _ (nw_c8 (List.mem_of_getElem? (i := 55) rfl)))
    rw [e0] at z1; rw [← Option.some.inj z1] at z2; exact z2
  exact ⟨adK 0, adV 0, h.1 0 (by decide), ⟨st_ev (hN _ wn_2359) e0, st_ev (hN _ wn_3931) e1⟩⟩
set_option maxRecDepth 100000 in
theorem rs_17 {args : Array Value} {s : State} (hs : ∀ w ∈ flatC (Jvm.Cond.and given_1 narrow_1), w.before args s = true) (hN : nst s) : ∃ a v : Nat, (va_O "java/lang/String" a (fun q : Nat => s.heap.size ≤ q) s s.heap ∧ va_OF "java/lang/String" "coder" "B" (.int 0) a (fun q : Nat => s.heap.size ≤ q) s s.heap ∧ va_OF "java/lang/String" "value" "[B" (.ref v) a (fun q : Nat => s.heap.size ≤ q) s s.heap ∧ va_T .byte v 3 (fun j => .int (([32, 123, 10] : List Int32).getD j 0)) (fun q : Nat => s.heap.size ≤ q) s s.heap) ∧ vk_R "DrawingHouse" 478 " {\n" a s ∧ vk_R "DrawingHouseModel" 1307 " {\n" a s := by
  obtain ⟨adK, adV, h, h2⟩ := vk_Sof (args := args) (s := s) (N := 1) (tm := fun _ => .string "DrawingHouse" 478) (len := [3]) (byt := [[32, 123, 10]]) (A := fun q : Nat => s.heap.size ≤ q) (fun i hi => by match i, hi with | 0, _ => decide) (fun _ _ => hs _ (nw_c4 (List.mem_of_getElem? (i := 18) rfl))) (fun _ _ => hs _ (nw_c4 (List.mem_of_getElem? (i := 19) rfl))) (fun _ _ => hs _ (nw_c4 (List.mem_of_getElem? (i := 20) rfl))) (fun i hi => by match i, hi with | 0, _ => exact hs _ (nw_c4 (List.mem_of_getElem? (i := 21) rfl))) (fun i hi j hj => by
    match i, hi, j, hj with
    | 0, _, 0, _ => exact hs _ (nw_c4 (List.mem_of_getElem? (i := 22) rfl))
    | 0, _, 1, _ => exact hs _ (nw_c4 (List.mem_of_getElem? (i := 23) rfl))
    | 0, _, 2, _ => exact hs _ (nw_c4 (List.mem_of_getElem? (i := 24) rfl))
    | 0, _, j + 3, hj => exact absurd hj (by show ¬ j + 3 < 3; omega)) (fun i j hi hj hne => absurd (by omega) hne) not_A
  have e0 := h2 0 (by decide)
  have e1 : (Term.string "DrawingHouseModel" 1307).eval args s none [] s = some (.ref (adK 0)) := by
    obtain ⟨y, z1, z2⟩ := Cond.eq_one (show (Cond.eq (.string "DrawingHouse" 478) (.string "DrawingHouseModel" 1307)).holds args s none s [] = true from hs _ (nw_c8 (List.mem_of_getElem? (i := 63) rfl)))
    rw [e0] at z1; rw [← Option.some.inj z1] at z2; exact z2
  exact ⟨adK 0, adV 0, h.1 0 (by decide), ⟨st_ev (hN _ wn_2360) e0, st_ev (hN _ wn_3932) e1⟩⟩
set_option maxRecDepth 100000 in
theorem rs_18 {args : Array Value} {s : State} (hs : ∀ w ∈ flatC (Jvm.Cond.and given_1 narrow_1), w.before args s = true) (hN : nst s) : ∃ a v : Nat, (va_O "java/lang/String" a (fun q : Nat => s.heap.size ≤ q) s s.heap ∧ va_OF "java/lang/String" "coder" "B" (.int 0) a (fun q : Nat => s.heap.size ≤ q) s s.heap ∧ va_OF "java/lang/String" "value" "[B" (.ref v) a (fun q : Nat => s.heap.size ≤ q) s s.heap ∧ va_T .byte v 2 (fun j => .int (([125, 10] : List Int32).getD j 0)) (fun q : Nat => s.heap.size ≤ q) s s.heap) ∧ vk_R "DrawingHouse" 480 "}\n" a s ∧ vk_R "DrawingHouseModel" 1312 "}\n" a s := by
  obtain ⟨adK, adV, h, h2⟩ := vk_Sof (args := args) (s := s) (N := 1) (tm := fun _ => .string "DrawingHouse" 480) (len := [2]) (byt := [[125, 10]]) (A := fun q : Nat => s.heap.size ≤ q) (fun i hi => by match i, hi with | 0, _ => decide) (fun _ _ => hs _ (nw_c4 (List.mem_of_getElem? (i := 25) rfl))) (fun _ _ => hs _ (nw_c4 (List.mem_of_getElem? (i := 26) rfl))) (fun _ _ => hs _ (nw_c4 (List.mem_of_getElem? (i := 27) rfl))) (fun i hi => by match i, hi with | 0, _ => exact hs _ (nw_c4 (List.mem_of_getElem? (i := 28) rfl))) (fun i hi j hj => by
    match i, hi, j, hj with
    | 0, _, 0, _ => exact hs _ (nw_c4 (List.mem_of_getElem? (i := 29) rfl))
    | 0, _, 1, _ => exact hs _ (nw_c4 (List.mem_of_getElem? (i := 30) rfl))
    | 0, _, j + 2, hj => exact absurd hj (by show ¬ j + 2 < 2; omega)) (fun i j hi hj hne => absurd (by omega) hne) not_A
  have e0 := h2 0 (by decide)
  have e1 : (Term.string "DrawingHouseModel" 1312).eval args s none [] s = some (.ref (adK 0)) := by
    obtain ⟨y, z1, z2⟩ := Cond.eq_one (show (Cond.eq (.string "DrawingHouse" 480) (.string "DrawingHouseModel" 1312)).holds args s none s [] = true from hs _ (nw_c9 (List.mem_of_getElem? (i := 6) rfl)))
    rw [e0] at z1; rw [← Option.some.inj z1] at z2; exact z2
  exact ⟨adK 0, adV 0, h.1 0 (by decide), ⟨st_ev (hN _ wn_2361) e0, st_ev (hN _ wn_3933) e1⟩⟩
set_option maxRecDepth 100000 in
theorem rs_19 {args : Array Value} {s : State} (hs : ∀ w ∈ flatC (Jvm.Cond.and given_1 narrow_1), w.before args s = true) (hN : nst s) : ∃ a v : Nat, (va_O "java/lang/String" a (fun q : Nat => s.heap.size ≤ q) s s.heap ∧ va_OF "java/lang/String" "coder" "B" (.int 0) a (fun q : Nat => s.heap.size ≤ q) s s.heap ∧ va_OF "java/lang/String" "value" "[B" (.ref v) a (fun q : Nat => s.heap.size ≤ q) s s.heap ∧ va_T .byte v 3 (fun j => .int (([32, 62, 32] : List Int32).getD j 0)) (fun q : Nat => s.heap.size ≤ q) s s.heap) ∧ vk_R "DrawingHouse" 482 " > " a s ∧ vk_R "DrawingHouseModel" 1314 " > " a s := by
  obtain ⟨adK, adV, h, h2⟩ := vk_Sof (args := args) (s := s) (N := 1) (tm := fun _ => .string "DrawingHouse" 482) (len := [3]) (byt := [[32, 62, 32]]) (A := fun q : Nat => s.heap.size ≤ q) (fun i hi => by match i, hi with | 0, _ => decide) (fun _ _ => hs _ (nw_c4 (List.mem_of_getElem? (i := 31) rfl))) (fun _ _ => hs _ (nw_c4 (List.mem_of_getElem? (i := 32) rfl))) (fun _ _ => hs _ (nw_c4 (List.mem_of_getElem? (i := 33) rfl))) (fun i hi => by match i, hi with | 0, _ => exact hs _ (nw_c4 (List.mem_of_getElem? (i := 34) rfl))) (fun i hi j hj => by
    match i, hi, j, hj with
    | 0, _, 0, _ => exact hs _ (nw_c4 (List.mem_of_getElem? (i := 35) rfl))
    | 0, _, 1, _ => exact hs _ (nw_c4 (List.mem_of_getElem? (i := 36) rfl))
    | 0, _, 2, _ => exact hs _ (nw_c4 (List.mem_of_getElem? (i := 37) rfl))
    | 0, _, j + 3, hj => exact absurd hj (by show ¬ j + 3 < 3; omega)) (fun i j hi hj hne => absurd (by omega) hne) not_A
  have e0 := h2 0 (by decide)
  have e1 : (Term.string "DrawingHouseModel" 1314).eval args s none [] s = some (.ref (adK 0)) := by
    obtain ⟨y, z1, z2⟩ := Cond.eq_one (show (Cond.eq (.string "DrawingHouse" 482) (.string "DrawingHouseModel" 1314)).holds args s none s [] = true from hs _ (nw_c9 (List.mem_of_getElem? (i := 14) rfl)))
    rw [e0] at z1; rw [← Option.some.inj z1] at z2; exact z2
  exact ⟨adK 0, adV 0, h.1 0 (by decide), ⟨st_ev (hN _ wn_2366) e0, st_ev (hN _ wn_3938) e1⟩⟩
set_option maxRecDepth 100000 in
theorem rs_20 {args : Array Value} {s : State} (hs : ∀ w ∈ flatC (Jvm.Cond.and given_1 narrow_1), w.before args s = true) (hN : nst s) : ∃ a v : Nat, (va_O "java/lang/String" a (fun q : Nat => s.heap.size ≤ q) s s.heap ∧ va_OF "java/lang/String" "coder" "B" (.int 0) a (fun q : Nat => s.heap.size ≤ q) s s.heap ∧ va_OF "java/lang/String" "value" "[B" (.ref v) a (fun q : Nat => s.heap.size ≤ q) s s.heap ∧ va_T .byte v 3 (fun j => .int (([32, 45, 32] : List Int32).getD j 0)) (fun q : Nat => s.heap.size ≤ q) s s.heap) ∧ vk_R "DrawingHouse" 484 " - " a s ∧ vk_R "DrawingHouseModel" 1316 " - " a s := by
  obtain ⟨adK, adV, h, h2⟩ := vk_Sof (args := args) (s := s) (N := 1) (tm := fun _ => .string "DrawingHouse" 484) (len := [3]) (byt := [[32, 45, 32]]) (A := fun q : Nat => s.heap.size ≤ q) (fun i hi => by match i, hi with | 0, _ => decide) (fun _ _ => hs _ (nw_c4 (List.mem_of_getElem? (i := 38) rfl))) (fun _ _ => hs _ (nw_c4 (List.mem_of_getElem? (i := 39) rfl))) (fun _ _ => hs _ (nw_c4 (List.mem_of_getElem? (i := 40) rfl))) (fun i hi => by match i, hi with | 0, _ => exact hs _ (nw_c4 (List.mem_of_getElem? (i := 41) rfl))) (fun i hi j hj => by
    match i, hi, j, hj with
    | 0, _, 0, _ => exact hs _ (nw_c4 (List.mem_of_getElem? (i := 42) rfl))
    | 0, _, 1, _ => exact hs _ (nw_c4 (List.mem_of_getElem? (i := 43) rfl))
    | 0, _, 2, _ => exact hs _ (nw_c4 (List.mem_of_getElem? (i := 44) rfl))
    | 0, _, j + 3, hj => exact absurd hj (by show ¬ j + 3 < 3; omega)) (fun i j hi hj hne => absurd (by omega) hne) not_A
  have e0 := h2 0 (by decide)
  have e1 : (Term.string "DrawingHouseModel" 1316).eval args s none [] s = some (.ref (adK 0)) := by
    obtain ⟨y, z1, z2⟩ := Cond.eq_one (show (Cond.eq (.string "DrawingHouse" 484) (.string "DrawingHouseModel" 1316)).holds args s none s [] = true from hs _ (nw_c9 (List.mem_of_getElem? (i := 22) rfl)))
    rw [e0] at z1; rw [← Option.some.inj z1] at z2; exact z2
  exact ⟨adK 0, adV 0, h.1 0 (by decide), ⟨st_ev (hN _ wn_2367) e0, st_ev (hN _ wn_3939) e1⟩⟩
set_option maxRecDepth 100000 in
theorem rs_21 {args : Array Value} {s : State} (hs : ∀ w ∈ flatC (Jvm.Cond.and given_1 narrow_1), w.before args s = true) (hN : nst s) : ∃ a v : Nat, (va_O "java/lang/String" a (fun q : Nat => s.heap.size ≤ q) s s.heap ∧ va_OF "java/lang/String" "coder" "B" (.int 0) a (fun q : Nat => s.heap.size ≤ q) s s.heap ∧ va_OF "java/lang/String" "value" "[B" (.ref v) a (fun q : Nat => s.heap.size ≤ q) s s.heap ∧ va_T .byte v 9 (fun j => .int (([32, 91, 119, 101, 105, 103, 104, 116, 61] : List Int32).getD j 0)) (fun q : Nat => s.heap.size ≤ q) s s.heap) ∧ vk_R "DrawingHouse" 486 " [weight=" a s ∧ vk_R "DrawingHouseModel" 1318 " [weight=" a s := by
  obtain ⟨adK, adV, h, h2⟩ := vk_Sof (args := args) (s := s) (N := 1) (tm := fun _ => .string "DrawingHouse" 486) (len := [9]) (byt := [[32, 91, 119, 101, 105, 103, 104, 116, 61]]) (A := fun q : Nat => s.heap.size ≤ q) (fun i hi => by match i, hi with | 0, _ => decide) (fun _ _ => hs _ (nw_c4 (List.mem_of_getElem? (i := 45) rfl))) (fun _ _ => hs _ (nw_c4 (List.mem_of_getElem? (i := 46) rfl))) (fun _ _ => hs _ (nw_c4 (List.mem_of_getElem? (i := 47) rfl))) (fun i hi => by match i, hi with | 0, _ => exact hs _ (nw_c4 (List.mem_of_getElem? (i := 48) rfl))) (fun i hi j hj => by
    match i, hi, j, hj with
    | 0, _, 0, _ => exact hs _ (nw_c4 (List.mem_of_getElem? (i := 49) rfl))
    | 0, _, 1, _ => exact hs _ (nw_c4 (List.mem_of_getElem? (i := 50) rfl))
    | 0, _, 2, _ => exact hs _ (nw_c4 (List.mem_of_getElem? (i := 51) rfl))
    | 0, _, 3, _ => exact hs _ (nw_c4 (List.mem_of_getElem? (i := 52) rfl))
    | 0, _, 4, _ => exact hs _ (nw_c4 (List.mem_of_getElem? (i := 53) rfl))
    | 0, _, 5, _ => exact hs _ (nw_c4 (List.mem_of_getElem? (i := 54) rfl))
    | 0, _, 6, _ => exact hs _ (nw_c4 (List.mem_of_getElem? (i := 55) rfl))
    | 0, _, 7, _ => exact hs _ (nw_c4 (List.mem_of_getElem? (i := 56) rfl))
    | 0, _, 8, _ => exact hs _ (nw_c4 (List.mem_of_getElem? (i := 57) rfl))
    | 0, _, j + 9, hj => exact absurd hj (by show ¬ j + 9 < 9; omega)) (fun i j hi hj hne => absurd (by omega) hne) not_A
  have e0 := h2 0 (by decide)
  have e1 : (Term.string "DrawingHouseModel" 1318).eval args s none [] s = some (.ref (adK 0)) := by
    obtain ⟨y, z1, z2⟩ := Cond.eq_one (show (Cond.eq (.string "DrawingHouse" 486) (.string "DrawingHouseModel" 1318)).holds args s none s [] = true from hs _ (nw_c9 (List.mem_of_getElem? (i := 36) rfl)))
    rw [e0] at z1; rw [← Option.some.inj z1] at z2; exact z2
  exact ⟨adK 0, adV 0, h.1 0 (by decide), ⟨st_ev (hN _ wn_2368) e0, st_ev (hN _ wn_3940) e1⟩⟩
set_option maxRecDepth 100000 in
theorem rs_22 {args : Array Value} {s : State} (hs : ∀ w ∈ flatC (Jvm.Cond.and given_1 narrow_1), w.before args s = true) (hN : nst s) : ∃ a v : Nat, (va_O "java/lang/String" a (fun q : Nat => s.heap.size ≤ q) s s.heap ∧ va_OF "java/lang/String" "coder" "B" (.int 0) a (fun q : Nat => s.heap.size ≤ q) s s.heap ∧ va_OF "java/lang/String" "value" "[B" (.ref v) a (fun q : Nat => s.heap.size ≤ q) s s.heap ∧ va_T .byte v 4 (fun j => .int (([101, 100, 103, 101] : List Int32).getD j 0)) (fun q : Nat => s.heap.size ≤ q) s s.heap) ∧ vk_R "DrawingHouseModel" 1193 "edge" a s := by
  obtain ⟨adK, adV, h, h2⟩ := vk_Sof (args := args) (s := s) (N := 1) (tm := fun _ => .string "DrawingHouseModel" 1193) (len := [4]) (byt := [[101, 100, 103, 101]]) (A := fun q : Nat => s.heap.size ≤ q) (fun i hi => by match i, hi with | 0, _ => decide) (fun _ _ => hs _ (nw_c5 (List.mem_of_getElem? (i := 33) rfl))) (fun _ _ => hs _ (nw_c5 (List.mem_of_getElem? (i := 34) rfl))) (fun _ _ => hs _ (nw_c5 (List.mem_of_getElem? (i := 35) rfl))) (fun i hi => by match i, hi with | 0, _ => exact hs _ (nw_c5 (List.mem_of_getElem? (i := 36) rfl))) (fun i hi j hj => by
    match i, hi, j, hj with
    | 0, _, 0, _ => exact hs _ (nw_c5 (List.mem_of_getElem? (i := 37) rfl))
    | 0, _, 1, _ => exact hs _ (nw_c5 (List.mem_of_getElem? (i := 38) rfl))
    | 0, _, 2, _ => exact hs _ (nw_c5 (List.mem_of_getElem? (i := 39) rfl))
    | 0, _, 3, _ => exact hs _ (nw_c5 (List.mem_of_getElem? (i := 40) rfl))
    | 0, _, j + 4, hj => exact absurd hj (by show ¬ j + 4 < 4; omega)) (fun i j hi hj hne => absurd (by omega) hne) not_A
  have e0 := h2 0 (by decide)
  exact ⟨adK 0, adV 0, h.1 0 (by decide), st_ev (hN _ wn_3810) e0⟩
set_option maxRecDepth 100000 in
theorem rs_23 {args : Array Value} {s : State} (hs : ∀ w ∈ flatC (Jvm.Cond.and given_1 narrow_1), w.before args s = true) (hN : nst s) : ∃ a v : Nat, (va_O "java/lang/String" a (fun q : Nat => s.heap.size ≤ q) s s.heap ∧ va_OF "java/lang/String" "coder" "B" (.int 0) a (fun q : Nat => s.heap.size ≤ q) s s.heap ∧ va_OF "java/lang/String" "value" "[B" (.ref v) a (fun q : Nat => s.heap.size ≤ q) s s.heap ∧ va_T .byte v 2 (fun j => .int (([105, 102] : List Int32).getD j 0)) (fun q : Nat => s.heap.size ≤ q) s s.heap) ∧ vk_R "DrawingHouseModel" 1198 "if" a s := by
  obtain ⟨adK, adV, h, h2⟩ := vk_Sof (args := args) (s := s) (N := 1) (tm := fun _ => .string "DrawingHouseModel" 1198) (len := [2]) (byt := [[105, 102]]) (A := fun q : Nat => s.heap.size ≤ q) (fun i hi => by match i, hi with | 0, _ => decide) (fun _ _ => hs _ (nw_c5 (List.mem_of_getElem? (i := 41) rfl))) (fun _ _ => hs _ (nw_c5 (List.mem_of_getElem? (i := 42) rfl))) (fun _ _ => hs _ (nw_c5 (List.mem_of_getElem? (i := 43) rfl))) (fun i hi => by match i, hi with | 0, _ => exact hs _ (nw_c5 (List.mem_of_getElem? (i := 44) rfl))) (fun i hi j hj => by
    match i, hi, j, hj with
    | 0, _, 0, _ => exact hs _ (nw_c5 (List.mem_of_getElem? (i := 45) rfl))
    | 0, _, 1, _ => exact hs _ (nw_c5 (List.mem_of_getElem? (i := 46) rfl))
    | 0, _, j + 2, hj => exact absurd hj (by show ¬ j + 2 < 2; omega)) (fun i j hi hj hne => absurd (by omega) hne) not_A
  have e0 := h2 0 (by decide)
  exact ⟨adK 0, adV 0, h.1 0 (by decide), st_ev (hN _ wn_3811) e0⟩
set_option maxRecDepth 100000 in
theorem rs_24 {args : Array Value} {s : State} (hs : ∀ w ∈ flatC (Jvm.Cond.and given_1 narrow_1), w.before args s = true) (hN : nst s) : ∃ a v : Nat, (va_O "java/lang/String" a (fun q : Nat => s.heap.size ≤ q) s s.heap ∧ va_OF "java/lang/String" "coder" "B" (.int 0) a (fun q : Nat => s.heap.size ≤ q) s s.heap ∧ va_OF "java/lang/String" "value" "[B" (.ref v) a (fun q : Nat => s.heap.size ≤ q) s s.heap ∧ va_T .byte v 3 (fun j => .int (([110, 111, 116] : List Int32).getD j 0)) (fun q : Nat => s.heap.size ≤ q) s s.heap) ∧ vk_R "DrawingHouseModel" 1230 "not" a s := by
  obtain ⟨adK, adV, h, h2⟩ := vk_Sof (args := args) (s := s) (N := 1) (tm := fun _ => .string "DrawingHouseModel" 1230) (len := [3]) (byt := [[110, 111, 116]]) (A := fun q : Nat => s.heap.size ≤ q) (fun i hi => by match i, hi with | 0, _ => decide) (fun _ _ => hs _ (nw_c5 (List.mem_of_getElem? (i := 47) rfl))) (fun _ _ => hs _ (nw_c5 (List.mem_of_getElem? (i := 48) rfl))) (fun _ _ => hs _ (nw_c5 (List.mem_of_getElem? (i := 49) rfl))) (fun i hi => by match i, hi with | 0, _ => exact hs _ (nw_c5 (List.mem_of_getElem? (i := 50) rfl))) (fun i hi j hj => by
    match i, hi, j, hj with
    | 0, _, 0, _ => exact hs _ (nw_c5 (List.mem_of_getElem? (i := 51) rfl))
    | 0, _, 1, _ => exact hs _ (nw_c5 (List.mem_of_getElem? (i := 52) rfl))
    | 0, _, 2, _ => exact hs _ (nw_c5 (List.mem_of_getElem? (i := 53) rfl))
    | 0, _, j + 3, hj => exact absurd hj (by show ¬ j + 3 < 3; omega)) (fun i j hi hj hne => absurd (by omega) hne) not_A
  have e0 := h2 0 (by decide)
  exact ⟨adK 0, adV 0, h.1 0 (by decide), st_ev (hN _ wn_3824) e0⟩
set_option maxRecDepth 100000 in
theorem rs_25 {args : Array Value} {s : State} (hs : ∀ w ∈ flatC (Jvm.Cond.and given_1 narrow_1), w.before args s = true) (hN : nst s) : ∃ a v : Nat, (va_O "java/lang/String" a (fun q : Nat => s.heap.size ≤ q) s s.heap ∧ va_OF "java/lang/String" "coder" "B" (.int 0) a (fun q : Nat => s.heap.size ≤ q) s s.heap ∧ va_OF "java/lang/String" "value" "[B" (.ref v) a (fun q : Nat => s.heap.size ≤ q) s s.heap ∧ va_T .byte v 3 (fun j => .int (([100, 101, 103] : List Int32).getD j 0)) (fun q : Nat => s.heap.size ≤ q) s s.heap) ∧ vk_R "DrawingHouseModel" 1254 "deg" a s := by
  obtain ⟨adK, adV, h, h2⟩ := vk_Sof (args := args) (s := s) (N := 1) (tm := fun _ => .string "DrawingHouseModel" 1254) (len := [3]) (byt := [[100, 101, 103]]) (A := fun q : Nat => s.heap.size ≤ q) (fun i hi => by match i, hi with | 0, _ => decide) (fun _ _ => hs _ (nw_c5 (List.mem_of_getElem? (i := 54) rfl))) (fun _ _ => hs _ (nw_c5 (List.mem_of_getElem? (i := 55) rfl))) (fun _ _ => hs _ (nw_c5 (List.mem_of_getElem? (i := 56) rfl))) (fun i hi => by match i, hi with | 0, _ => exact hs _ (nw_c5 (List.mem_of_getElem? (i := 57) rfl))) (fun i hi j hj => by
    match i, hi, j, hj with
    | 0, _, 0, _ => exact hs _ (nw_c5 (List.mem_of_getElem? (i := 58) rfl))
    | 0, _, 1, _ => exact hs _ (nw_c5 (List.mem_of_getElem? (i := 59) rfl))
    | 0, _, 2, _ => exact hs _ (nw_c5 (List.mem_of_getElem? (i := 60) rfl))
    | 0, _, j + 3, hj => exact absurd hj (by show ¬ j + 3 < 3; omega)) (fun i j hi hj hne => absurd (by omega) hne) not_A
  have e0 := h2 0 (by decide)
  exact ⟨adK 0, adV 0, h.1 0 (by decide), st_ev (hN _ wn_3853) e0⟩
set_option maxRecDepth 100000 in
theorem rs_26 {args : Array Value} {s : State} (hs : ∀ w ∈ flatC (Jvm.Cond.and given_1 narrow_1), w.before args s = true) (hN : nst s) : ∃ a v : Nat, (va_O "java/lang/String" a (fun q : Nat => s.heap.size ≤ q) s s.heap ∧ va_OF "java/lang/String" "coder" "B" (.int 0) a (fun q : Nat => s.heap.size ≤ q) s s.heap ∧ va_OF "java/lang/String" "value" "[B" (.ref v) a (fun q : Nat => s.heap.size ≤ q) s s.heap ∧ va_T .byte v 2 (fun j => .int (([105, 110] : List Int32).getD j 0)) (fun q : Nat => s.heap.size ≤ q) s s.heap) ∧ vk_R "DrawingHouseModel" 1256 "in" a s := by
  obtain ⟨adK, adV, h, h2⟩ := vk_Sof (args := args) (s := s) (N := 1) (tm := fun _ => .string "DrawingHouseModel" 1256) (len := [2]) (byt := [[105, 110]]) (A := fun q : Nat => s.heap.size ≤ q) (fun i hi => by match i, hi with | 0, _ => decide) (fun _ _ => hs _ (nw_c5 (List.mem_of_getElem? (i := 61) rfl))) (fun _ _ => hs _ (nw_c5 (List.mem_of_getElem? (i := 62) rfl))) (fun _ _ => hs _ (nw_c5 (List.mem_of_getElem? (i := 63) rfl))) (fun i hi => by match i, hi with | 0, _ => exact hs _ (nw_c6 (List.mem_of_getElem? (i := 0) rfl))) (fun i hi j hj => by
    match i, hi, j, hj with
    | 0, _, 0, _ => exact hs _ (nw_c6 (List.mem_of_getElem? (i := 1) rfl))
    | 0, _, 1, _ => exact hs _ (nw_c6 (List.mem_of_getElem? (i := 2) rfl))
    | 0, _, j + 2, hj => exact absurd hj (by show ¬ j + 2 < 2; omega)) (fun i j hi hj hne => absurd (by omega) hne) not_A
  have e0 := h2 0 (by decide)
  exact ⟨adK 0, adV 0, h.1 0 (by decide), st_ev (hN _ wn_3854) e0⟩
set_option maxRecDepth 100000 in
theorem rs_27 {args : Array Value} {s : State} (hs : ∀ w ∈ flatC (Jvm.Cond.and given_1 narrow_1), w.before args s = true) (hN : nst s) : ∃ a v : Nat, (va_O "java/lang/String" a (fun q : Nat => s.heap.size ≤ q) s s.heap ∧ va_OF "java/lang/String" "coder" "B" (.int 0) a (fun q : Nat => s.heap.size ≤ q) s s.heap ∧ va_OF "java/lang/String" "value" "[B" (.ref v) a (fun q : Nat => s.heap.size ≤ q) s s.heap ∧ va_T .byte v 3 (fun j => .int (([111, 117, 116] : List Int32).getD j 0)) (fun q : Nat => s.heap.size ≤ q) s s.heap) ∧ vk_R "DrawingHouseModel" 1257 "out" a s := by
  obtain ⟨adK, adV, h, h2⟩ := vk_Sof (args := args) (s := s) (N := 1) (tm := fun _ => .string "DrawingHouseModel" 1257) (len := [3]) (byt := [[111, 117, 116]]) (A := fun q : Nat => s.heap.size ≤ q) (fun i hi => by match i, hi with | 0, _ => decide) (fun _ _ => hs _ (nw_c6 (List.mem_of_getElem? (i := 3) rfl))) (fun _ _ => hs _ (nw_c6 (List.mem_of_getElem? (i := 4) rfl))) (fun _ _ => hs _ (nw_c6 (List.mem_of_getElem? (i := 5) rfl))) (fun i hi => by match i, hi with | 0, _ => exact hs _ (nw_c6 (List.mem_of_getElem? (i := 6) rfl))) (fun i hi j hj => by
    match i, hi, j, hj with
    | 0, _, 0, _ => exact hs _ (nw_c6 (List.mem_of_getElem? (i := 7) rfl))
    | 0, _, 1, _ => exact hs _ (nw_c6 (List.mem_of_getElem? (i := 8) rfl))
    | 0, _, 2, _ => exact hs _ (nw_c6 (List.mem_of_getElem? (i := 9) rfl))
    | 0, _, j + 3, hj => exact absurd hj (by show ¬ j + 3 < 3; omega)) (fun i j hi hj hne => absurd (by omega) hne) not_A
  have e0 := h2 0 (by decide)
  exact ⟨adK 0, adV 0, h.1 0 (by decide), st_ev (hN _ wn_3855) e0⟩
set_option maxRecDepth 100000 in
theorem rs_28 {args : Array Value} {s : State} (hs : ∀ w ∈ flatC (Jvm.Cond.and given_1 narrow_1), w.before args s = true) (hN : nst s) : ∃ a v : Nat, (va_O "java/lang/String" a (fun q : Nat => s.heap.size ≤ q) s s.heap ∧ va_OF "java/lang/String" "coder" "B" (.int 0) a (fun q : Nat => s.heap.size ≤ q) s s.heap ∧ va_OF "java/lang/String" "value" "[B" (.ref v) a (fun q : Nat => s.heap.size ≤ q) s s.heap ∧ va_T .byte v 3 (fun j => .int (([102, 97, 114] : List Int32).getD j 0)) (fun q : Nat => s.heap.size ≤ q) s s.heap) ∧ vk_R "DrawingHouseModel" 1259 "far" a s := by
  obtain ⟨adK, adV, h, h2⟩ := vk_Sof (args := args) (s := s) (N := 1) (tm := fun _ => .string "DrawingHouseModel" 1259) (len := [3]) (byt := [[102, 97, 114]]) (A := fun q : Nat => s.heap.size ≤ q) (fun i hi => by match i, hi with | 0, _ => decide) (fun _ _ => hs _ (nw_c6 (List.mem_of_getElem? (i := 10) rfl))) (fun _ _ => hs _ (nw_c6 (List.mem_of_getElem? (i := 11) rfl))) (fun _ _ => hs _ (nw_c6 (List.mem_of_getElem? (i := 12) rfl))) (fun i hi => by match i, hi with | 0, _ => exact hs _ (nw_c6 (List.mem_of_getElem? (i := 13) rfl))) (fun i hi j hj => by
    match i, hi, j, hj with
    | 0, _, 0, _ => exact hs _ (nw_c6 (List.mem_of_getElem? (i := 14) rfl))
    | 0, _, 1, _ => exact hs _ (nw_c6 (List.mem_of_getElem? (i := 15) rfl))
    | 0, _, 2, _ => exact hs _ (nw_c6 (List.mem_of_getElem? (i := 16) rfl))
    | 0, _, j + 3, hj => exact absurd hj (by show ¬ j + 3 < 3; omega)) (fun i j hi hj hne => absurd (by omega) hne) not_A
  have e0 := h2 0 (by decide)
  exact ⟨adK 0, adV 0, h.1 0 (by decide), st_ev (hN _ wn_3856) e0⟩
set_option maxRecDepth 100000 in
theorem rs_29 {args : Array Value} {s : State} (hs : ∀ w ∈ flatC (Jvm.Cond.and given_1 narrow_1), w.before args s = true) (hN : nst s) : ∃ a v : Nat, (va_O "java/lang/String" a (fun q : Nat => s.heap.size ≤ q) s s.heap ∧ va_OF "java/lang/String" "coder" "B" (.int 0) a (fun q : Nat => s.heap.size ≤ q) s s.heap ∧ va_OF "java/lang/String" "value" "[B" (.ref v) a (fun q : Nat => s.heap.size ≤ q) s s.heap ∧ va_T .byte v 4 (fun j => .int (([99, 111, 114, 101] : List Int32).getD j 0)) (fun q : Nat => s.heap.size ≤ q) s s.heap) ∧ vk_R "DrawingHouseModel" 1261 "core" a s := by
  obtain ⟨adK, adV, h, h2⟩ := vk_Sof (args := args) (s := s) (N := 1) (tm := fun _ => .string "DrawingHouseModel" 1261) (len := [4]) (byt := [[99, 111, 114, 101]]) (A := fun q : Nat => s.heap.size ≤ q) (fun i hi => by match i, hi with | 0, _ => decide) (fun _ _ => hs _ (nw_c6 (List.mem_of_getElem? (i := 17) rfl))) (fun _ _ => hs _ (nw_c6 (List.mem_of_getElem? (i := 18) rfl))) (fun _ _ => hs _ (nw_c6 (List.mem_of_getElem? (i := 19) rfl))) (fun i hi => by match i, hi with | 0, _ => exact hs _ (nw_c6 (List.mem_of_getElem? (i := 20) rfl))) (fun i hi j hj => by
    match i, hi, j, hj with
    | 0, _, 0, _ => exact hs _ (nw_c6 (List.mem_of_getElem? (i := 21) rfl))
    | 0, _, 1, _ => exact hs _ (nw_c6 (List.mem_of_getElem? (i := 22) rfl))
    | 0, _, 2, _ => exact hs _ (nw_c6 (List.mem_of_getElem? (i := 23) rfl))
    | 0, _, 3, _ => exact hs _ (nw_c6 (List.mem_of_getElem? (i := 24) rfl))
    | 0, _, j + 4, hj => exact absurd hj (by show ¬ j + 4 < 4; omega)) (fun i j hi hj hne => absurd (by omega) hne) not_A
  have e0 := h2 0 (by decide)
  exact ⟨adK 0, adV 0, h.1 0 (by decide), st_ev (hN _ wn_3857) e0⟩
set_option maxRecDepth 100000 in
theorem rs_30 {args : Array Value} {s : State} (hs : ∀ w ∈ flatC (Jvm.Cond.and given_1 narrow_1), w.before args s = true) (hN : nst s) : ∃ a v : Nat, (va_O "java/lang/String" a (fun q : Nat => s.heap.size ≤ q) s s.heap ∧ va_OF "java/lang/String" "coder" "B" (.int 0) a (fun q : Nat => s.heap.size ≤ q) s s.heap ∧ va_OF "java/lang/String" "value" "[B" (.ref v) a (fun q : Nat => s.heap.size ≤ q) s s.heap ∧ va_T .byte v 3 (fun j => .int (([99, 117, 116] : List Int32).getD j 0)) (fun q : Nat => s.heap.size ≤ q) s s.heap) ∧ vk_R "DrawingHouseModel" 1262 "cut" a s := by
  obtain ⟨adK, adV, h, h2⟩ := vk_Sof (args := args) (s := s) (N := 1) (tm := fun _ => .string "DrawingHouseModel" 1262) (len := [3]) (byt := [[99, 117, 116]]) (A := fun q : Nat => s.heap.size ≤ q) (fun i hi => by match i, hi with | 0, _ => decide) (fun _ _ => hs _ (nw_c6 (List.mem_of_getElem? (i := 25) rfl))) (fun _ _ => hs _ (nw_c6 (List.mem_of_getElem? (i := 26) rfl))) (fun _ _ => hs _ (nw_c6 (List.mem_of_getElem? (i := 27) rfl))) (fun i hi => by match i, hi with | 0, _ => exact hs _ (nw_c6 (List.mem_of_getElem? (i := 28) rfl))) (fun i hi j hj => by
    match i, hi, j, hj with
    | 0, _, 0, _ => exact hs _ (nw_c6 (List.mem_of_getElem? (i := 29) rfl))
    | 0, _, 1, _ => exact hs _ (nw_c6 (List.mem_of_getElem? (i := 30) rfl))
    | 0, _, 2, _ => exact hs _ (nw_c6 (List.mem_of_getElem? (i := 31) rfl))
    | 0, _, j + 3, hj => exact absurd hj (by show ¬ j + 3 < 3; omega)) (fun i j hi hj hne => absurd (by omega) hne) not_A
  have e0 := h2 0 (by decide)
  exact ⟨adK 0, adV 0, h.1 0 (by decide), st_ev (hN _ wn_3858) e0⟩
set_option maxRecDepth 100000 in
theorem rs_31 {args : Array Value} {s : State} (hs : ∀ w ∈ flatC (Jvm.Cond.and given_1 narrow_1), w.before args s = true) (hN : nst s) : ∃ a v : Nat, (va_O "java/lang/String" a (fun q : Nat => s.heap.size ≤ q) s s.heap ∧ va_OF "java/lang/String" "coder" "B" (.int 0) a (fun q : Nat => s.heap.size ≤ q) s s.heap ∧ va_OF "java/lang/String" "value" "[B" (.ref v) a (fun q : Nat => s.heap.size ≤ q) s s.heap ∧ va_T .byte v 1 (fun j => .int (([120] : List Int32).getD j 0)) (fun q : Nat => s.heap.size ≤ q) s s.heap) ∧ vk_R "DrawingHouseModel" 1263 "x" a s := by
  obtain ⟨adK, adV, h, h2⟩ := vk_Sof (args := args) (s := s) (N := 1) (tm := fun _ => .string "DrawingHouseModel" 1263) (len := [1]) (byt := [[120]]) (A := fun q : Nat => s.heap.size ≤ q) (fun i hi => by match i, hi with | 0, _ => decide) (fun _ _ => hs _ (nw_c6 (List.mem_of_getElem? (i := 32) rfl))) (fun _ _ => hs _ (nw_c6 (List.mem_of_getElem? (i := 33) rfl))) (fun _ _ => hs _ (nw_c6 (List.mem_of_getElem? (i := 34) rfl))) (fun i hi => by match i, hi with | 0, _ => exact hs _ (nw_c6 (List.mem_of_getElem? (i := 35) rfl))) (fun i hi j hj => by
    match i, hi, j, hj with
    | 0, _, 0, _ => exact hs _ (nw_c6 (List.mem_of_getElem? (i := 36) rfl))
    | 0, _, j + 1, hj => exact absurd hj (by show ¬ j + 1 < 1; omega)) (fun i j hi hj hne => absurd (by omega) hne) not_A
  have e0 := h2 0 (by decide)
  exact ⟨adK 0, adV 0, h.1 0 (by decide), st_ev (hN _ wn_3859) e0⟩
set_option maxRecDepth 100000 in
theorem rs_32 {args : Array Value} {s : State} (hs : ∀ w ∈ flatC (Jvm.Cond.and given_1 narrow_1), w.before args s = true) (hN : nst s) : ∃ a v : Nat, (va_O "java/lang/String" a (fun q : Nat => s.heap.size ≤ q) s s.heap ∧ va_OF "java/lang/String" "coder" "B" (.int 0) a (fun q : Nat => s.heap.size ≤ q) s s.heap ∧ va_OF "java/lang/String" "value" "[B" (.ref v) a (fun q : Nat => s.heap.size ≤ q) s s.heap ∧ va_T .byte v 1 (fun j => .int (([121] : List Int32).getD j 0)) (fun q : Nat => s.heap.size ≤ q) s s.heap) ∧ vk_R "DrawingHouseModel" 1265 "y" a s := by
  obtain ⟨adK, adV, h, h2⟩ := vk_Sof (args := args) (s := s) (N := 1) (tm := fun _ => .string "DrawingHouseModel" 1265) (len := [1]) (byt := [[121]]) (A := fun q : Nat => s.heap.size ≤ q) (fun i hi => by match i, hi with | 0, _ => decide) (fun _ _ => hs _ (nw_c6 (List.mem_of_getElem? (i := 37) rfl))) (fun _ _ => hs _ (nw_c6 (List.mem_of_getElem? (i := 38) rfl))) (fun _ _ => hs _ (nw_c6 (List.mem_of_getElem? (i := 39) rfl))) (fun i hi => by match i, hi with | 0, _ => exact hs _ (nw_c6 (List.mem_of_getElem? (i := 40) rfl))) (fun i hi j hj => by
    match i, hi, j, hj with
    | 0, _, 0, _ => exact hs _ (nw_c6 (List.mem_of_getElem? (i := 41) rfl))
    | 0, _, j + 1, hj => exact absurd hj (by show ¬ j + 1 < 1; omega)) (fun i j hi hj hne => absurd (by omega) hne) not_A
  have e0 := h2 0 (by decide)
  exact ⟨adK 0, adV 0, h.1 0 (by decide), st_ev (hN _ wn_3860) e0⟩
set_option maxRecDepth 100000 in
theorem rs_33 {args : Array Value} {s : State} (hs : ∀ w ∈ flatC (Jvm.Cond.and given_1 narrow_1), w.before args s = true) (hN : nst s) : ∃ a v : Nat, (va_O "java/lang/String" a (fun q : Nat => s.heap.size ≤ q) s s.heap ∧ va_OF "java/lang/String" "coder" "B" (.int 0) a (fun q : Nat => s.heap.size ≤ q) s s.heap ∧ va_OF "java/lang/String" "value" "[B" (.ref v) a (fun q : Nat => s.heap.size ≤ q) s s.heap ∧ va_T .byte v 6 (fun j => .int (([116, 117, 114, 110, 101, 100] : List Int32).getD j 0)) (fun q : Nat => s.heap.size ≤ q) s s.heap) ∧ vk_R "DrawingHouseModel" 1267 "turned" a s := by
  obtain ⟨adK, adV, h, h2⟩ := vk_Sof (args := args) (s := s) (N := 1) (tm := fun _ => .string "DrawingHouseModel" 1267) (len := [6]) (byt := [[116, 117, 114, 110, 101, 100]]) (A := fun q : Nat => s.heap.size ≤ q) (fun i hi => by match i, hi with | 0, _ => decide) (fun _ _ => hs _ (nw_c6 (List.mem_of_getElem? (i := 42) rfl))) (fun _ _ => hs _ (nw_c6 (List.mem_of_getElem? (i := 43) rfl))) (fun _ _ => hs _ (nw_c6 (List.mem_of_getElem? (i := 44) rfl))) (fun i hi => by match i, hi with | 0, _ => exact hs _ (nw_c6 (List.mem_of_getElem? (i := 45) rfl))) (fun i hi j hj => by
    match i, hi, j, hj with
    | 0, _, 0, _ => exact hs _ (nw_c6 (List.mem_of_getElem? (i := 46) rfl))
    | 0, _, 1, _ => exact hs _ (nw_c6 (List.mem_of_getElem? (i := 47) rfl))
    | 0, _, 2, _ => exact hs _ (nw_c6 (List.mem_of_getElem? (i := 48) rfl))
    | 0, _, 3, _ => exact hs _ (nw_c6 (List.mem_of_getElem? (i := 49) rfl))
    | 0, _, 4, _ => exact hs _ (nw_c6 (List.mem_of_getElem? (i := 50) rfl))
    | 0, _, 5, _ => exact hs _ (nw_c6 (List.mem_of_getElem? (i := 51) rfl))
    | 0, _, j + 6, hj => exact absurd hj (by show ¬ j + 6 < 6; omega)) (fun i j hi hj hne => absurd (by omega) hne) not_A
  have e0 := h2 0 (by decide)
  exact ⟨adK 0, adV 0, h.1 0 (by decide), st_ev (hN _ wn_3865) e0⟩
set_option maxRecDepth 100000 in
theorem rs_34 {args : Array Value} {s : State} (hs : ∀ w ∈ flatC (Jvm.Cond.and given_1 narrow_1), w.before args s = true) (hN : nst s) : ∃ a v : Nat, (va_O "java/lang/String" a (fun q : Nat => s.heap.size ≤ q) s s.heap ∧ va_OF "java/lang/String" "coder" "B" (.int 0) a (fun q : Nat => s.heap.size ≤ q) s s.heap ∧ va_OF "java/lang/String" "value" "[B" (.ref v) a (fun q : Nat => s.heap.size ≤ q) s s.heap ∧ va_T .byte v 6 (fun j => .int (([98, 114, 105, 100, 103, 101] : List Int32).getD j 0)) (fun q : Nat => s.heap.size ≤ q) s s.heap) ∧ vk_R "DrawingHouseModel" 1268 "bridge" a s := by
  obtain ⟨adK, adV, h, h2⟩ := vk_Sof (args := args) (s := s) (N := 1) (tm := fun _ => .string "DrawingHouseModel" 1268) (len := [6]) (byt := [[98, 114, 105, 100, 103, 101]]) (A := fun q : Nat => s.heap.size ≤ q) (fun i hi => by match i, hi with | 0, _ => decide) (fun _ _ => hs _ (nw_c6 (List.mem_of_getElem? (i := 52) rfl))) (fun _ _ => hs _ (nw_c6 (List.mem_of_getElem? (i := 53) rfl))) (fun _ _ => hs _ (nw_c6 (List.mem_of_getElem? (i := 54) rfl))) (fun i hi => by match i, hi with | 0, _ => exact hs _ (nw_c6 (List.mem_of_getElem? (i := 55) rfl))) (fun i hi j hj => by
    match i, hi, j, hj with
    | 0, _, 0, _ => exact hs _ (nw_c6 (List.mem_of_getElem? (i := 56) rfl))
    | 0, _, 1, _ => exact hs _ (nw_c6 (List.mem_of_getElem? (i := 57) rfl))
    | 0, _, 2, _ => exact hs _ (nw_c6 (List.mem_of_getElem? (i := 58) rfl))
    | 0, _, 3, _ => exact hs _ (nw_c6 (List.mem_of_getElem? (i := 59) rfl))
    | 0, _, 4, _ => exact hs _ (nw_c6 (List.mem_of_getElem? (i := 60) rfl))
    | 0, _, 5, _ => exact hs _ (nw_c6 (List.mem_of_getElem? (i := 61) rfl))
    | 0, _, j + 6, hj => exact absurd hj (by show ¬ j + 6 < 6; omega)) (fun i j hi hj hne => absurd (by omega) hne) not_A
  have e0 := h2 0 (by decide)
  exact ⟨adK 0, adV 0, h.1 0 (by decide), st_ev (hN _ wn_3866) e0⟩
set_option maxRecDepth 100000 in
theorem rs_35 {args : Array Value} {s : State} (hs : ∀ w ∈ flatC (Jvm.Cond.and given_1 narrow_1), w.before args s = true) (hN : nst s) : ∃ a v : Nat, (va_O "java/lang/String" a (fun q : Nat => s.heap.size ≤ q) s s.heap ∧ va_OF "java/lang/String" "coder" "B" (.int 0) a (fun q : Nat => s.heap.size ≤ q) s s.heap ∧ va_OF "java/lang/String" "value" "[B" (.ref v) a (fun q : Nat => s.heap.size ≤ q) s s.heap ∧ va_T .byte v 4 (fun j => .int (([102, 114, 111, 109] : List Int32).getD j 0)) (fun q : Nat => s.heap.size ≤ q) s s.heap) ∧ vk_R "DrawingHouseModel" 1270 "from" a s := by
  obtain ⟨adK, adV, h, h2⟩ := vk_Sof (args := args) (s := s) (N := 1) (tm := fun _ => .string "DrawingHouseModel" 1270) (len := [4]) (byt := [[102, 114, 111, 109]]) (A := fun q : Nat => s.heap.size ≤ q) (fun i hi => by match i, hi with | 0, _ => decide) (fun _ _ => hs _ (nw_c6 (List.mem_of_getElem? (i := 62) rfl))) (fun _ _ => hs _ (nw_c6 (List.mem_of_getElem? (i := 63) rfl))) (fun _ _ => hs _ (nw_c7 (List.mem_of_getElem? (i := 0) rfl))) (fun i hi => by match i, hi with | 0, _ => exact hs _ (nw_c7 (List.mem_of_getElem? (i := 1) rfl))) (fun i hi j hj => by
    match i, hi, j, hj with
    | 0, _, 0, _ => exact hs _ (nw_c7 (List.mem_of_getElem? (i := 2) rfl))
    | 0, _, 1, _ => exact hs _ (nw_c7 (List.mem_of_getElem? (i := 3) rfl))
    | 0, _, 2, _ => exact hs _ (nw_c7 (List.mem_of_getElem? (i := 4) rfl))
    | 0, _, 3, _ => exact hs _ (nw_c7 (List.mem_of_getElem? (i := 5) rfl))
    | 0, _, j + 4, hj => exact absurd hj (by show ¬ j + 4 < 4; omega)) (fun i j hi hj hne => absurd (by omega) hne) not_A
  have e0 := h2 0 (by decide)
  exact ⟨adK 0, adV 0, h.1 0 (by decide), st_ev (hN _ wn_3867) e0⟩
set_option maxRecDepth 100000 in
theorem rs_36 {args : Array Value} {s : State} (hs : ∀ w ∈ flatC (Jvm.Cond.and given_1 narrow_1), w.before args s = true) (hN : nst s) : ∃ a v : Nat, (va_O "java/lang/String" a (fun q : Nat => s.heap.size ≤ q) s s.heap ∧ va_OF "java/lang/String" "coder" "B" (.int 0) a (fun q : Nat => s.heap.size ≤ q) s s.heap ∧ va_OF "java/lang/String" "value" "[B" (.ref v) a (fun q : Nat => s.heap.size ≤ q) s s.heap ∧ va_T .byte v 2 (fun j => .int (([116, 111] : List Int32).getD j 0)) (fun q : Nat => s.heap.size ≤ q) s s.heap) ∧ vk_R "DrawingHouseModel" 1271 "to" a s := by
  obtain ⟨adK, adV, h, h2⟩ := vk_Sof (args := args) (s := s) (N := 1) (tm := fun _ => .string "DrawingHouseModel" 1271) (len := [2]) (byt := [[116, 111]]) (A := fun q : Nat => s.heap.size ≤ q) (fun i hi => by match i, hi with | 0, _ => decide) (fun _ _ => hs _ (nw_c7 (List.mem_of_getElem? (i := 6) rfl))) (fun _ _ => hs _ (nw_c7 (List.mem_of_getElem? (i := 7) rfl))) (fun _ _ => hs _ (nw_c7 (List.mem_of_getElem? (i := 8) rfl))) (fun i hi => by match i, hi with | 0, _ => exact hs _ (nw_c7 (List.mem_of_getElem? (i := 9) rfl))) (fun i hi j hj => by
    match i, hi, j, hj with
    | 0, _, 0, _ => exact hs _ (nw_c7 (List.mem_of_getElem? (i := 10) rfl))
    | 0, _, 1, _ => exact hs _ (nw_c7 (List.mem_of_getElem? (i := 11) rfl))
    | 0, _, j + 2, hj => exact absurd hj (by show ¬ j + 2 < 2; omega)) (fun i j hi hj hne => absurd (by omega) hne) not_A
  have e0 := h2 0 (by decide)
  exact ⟨adK 0, adV 0, h.1 0 (by decide), st_ev (hN _ wn_3868) e0⟩
set_option maxRecDepth 100000 in
theorem rs_37 {args : Array Value} {s : State} (hs : ∀ w ∈ flatC (Jvm.Cond.and given_1 narrow_1), w.before args s = true) (hN : nst s) : ∃ a v : Nat, (va_O "java/lang/String" a (fun q : Nat => s.heap.size ≤ q) s s.heap ∧ va_OF "java/lang/String" "coder" "B" (.int 0) a (fun q : Nat => s.heap.size ≤ q) s s.heap ∧ va_OF "java/lang/String" "value" "[B" (.ref v) a (fun q : Nat => s.heap.size ≤ q) s s.heap ∧ va_T .byte v 5 (fun j => .int (([98, 108, 111, 99, 107] : List Int32).getD j 0)) (fun q : Nat => s.heap.size ≤ q) s s.heap) ∧ vk_R "DrawingHouseModel" 1272 "block" a s := by
  obtain ⟨adK, adV, h, h2⟩ := vk_Sof (args := args) (s := s) (N := 1) (tm := fun _ => .string "DrawingHouseModel" 1272) (len := [5]) (byt := [[98, 108, 111, 99, 107]]) (A := fun q : Nat => s.heap.size ≤ q) (fun i hi => by match i, hi with | 0, _ => decide) (fun _ _ => hs _ (nw_c7 (List.mem_of_getElem? (i := 12) rfl))) (fun _ _ => hs _ (nw_c7 (List.mem_of_getElem? (i := 13) rfl))) (fun _ _ => hs _ (nw_c7 (List.mem_of_getElem? (i := 14) rfl))) (fun i hi => by match i, hi with | 0, _ => exact hs _ (nw_c7 (List.mem_of_getElem? (i := 15) rfl))) (fun i hi j hj => by
    match i, hi, j, hj with
    | 0, _, 0, _ => exact hs _ (nw_c7 (List.mem_of_getElem? (i := 16) rfl))
    | 0, _, 1, _ => exact hs _ (nw_c7 (List.mem_of_getElem? (i := 17) rfl))
    | 0, _, 2, _ => exact hs _ (nw_c7 (List.mem_of_getElem? (i := 18) rfl))
    | 0, _, 3, _ => exact hs _ (nw_c7 (List.mem_of_getElem? (i := 19) rfl))
    | 0, _, 4, _ => exact hs _ (nw_c7 (List.mem_of_getElem? (i := 20) rfl))
    | 0, _, j + 5, hj => exact absurd hj (by show ¬ j + 5 < 5; omega)) (fun i j hi hj hne => absurd (by omega) hne) not_A
  have e0 := h2 0 (by decide)
  exact ⟨adK 0, adV 0, h.1 0 (by decide), st_ev (hN _ wn_3869) e0⟩
set_option maxRecDepth 100000 in
theorem rs_38 {args : Array Value} {s : State} (hs : ∀ w ∈ flatC (Jvm.Cond.and given_1 narrow_1), w.before args s = true) (hN : nst s) : ∃ a v : Nat, (va_O "java/lang/String" a (fun q : Nat => s.heap.size ≤ q) s s.heap ∧ va_OF "java/lang/String" "coder" "B" (.int 0) a (fun q : Nat => s.heap.size ≤ q) s s.heap ∧ va_OF "java/lang/String" "value" "[B" (.ref v) a (fun q : Nat => s.heap.size ≤ q) s s.heap ∧ va_T .byte v 4 (fun j => .int (([108, 111, 110, 103] : List Int32).getD j 0)) (fun q : Nat => s.heap.size ≤ q) s s.heap) ∧ vk_R "DrawingHouseModel" 1274 "long" a s := by
  obtain ⟨adK, adV, h, h2⟩ := vk_Sof (args := args) (s := s) (N := 1) (tm := fun _ => .string "DrawingHouseModel" 1274) (len := [4]) (byt := [[108, 111, 110, 103]]) (A := fun q : Nat => s.heap.size ≤ q) (fun i hi => by match i, hi with | 0, _ => decide) (fun _ _ => hs _ (nw_c7 (List.mem_of_getElem? (i := 21) rfl))) (fun _ _ => hs _ (nw_c7 (List.mem_of_getElem? (i := 22) rfl))) (fun _ _ => hs _ (nw_c7 (List.mem_of_getElem? (i := 23) rfl))) (fun i hi => by match i, hi with | 0, _ => exact hs _ (nw_c7 (List.mem_of_getElem? (i := 24) rfl))) (fun i hi j hj => by
    match i, hi, j, hj with
    | 0, _, 0, _ => exact hs _ (nw_c7 (List.mem_of_getElem? (i := 25) rfl))
    | 0, _, 1, _ => exact hs _ (nw_c7 (List.mem_of_getElem? (i := 26) rfl))
    | 0, _, 2, _ => exact hs _ (nw_c7 (List.mem_of_getElem? (i := 27) rfl))
    | 0, _, 3, _ => exact hs _ (nw_c7 (List.mem_of_getElem? (i := 28) rfl))
    | 0, _, j + 4, hj => exact absurd hj (by show ¬ j + 4 < 4; omega)) (fun i j hi hj hne => absurd (by omega) hne) not_A
  have e0 := h2 0 (by decide)
  exact ⟨adK 0, adV 0, h.1 0 (by decide), st_ev (hN _ wn_3870) e0⟩
set_option maxRecDepth 100000 in
theorem rs_39 {args : Array Value} {s : State} (hs : ∀ w ∈ flatC (Jvm.Cond.and given_1 narrow_1), w.before args s = true) (hN : nst s) : ∃ a v : Nat, (va_O "java/lang/String" a (fun q : Nat => s.heap.size ≤ q) s s.heap ∧ va_OF "java/lang/String" "coder" "B" (.int 0) a (fun q : Nat => s.heap.size ≤ q) s s.heap ∧ va_OF "java/lang/String" "value" "[B" (.ref v) a (fun q : Nat => s.heap.size ≤ q) s s.heap ∧ va_T .byte v 3 (fun j => .int (([111, 110, 101] : List Int32).getD j 0)) (fun q : Nat => s.heap.size ≤ q) s s.heap) ∧ vk_R "DrawingHouseModel" 1276 "one" a s := by
  obtain ⟨adK, adV, h, h2⟩ := vk_Sof (args := args) (s := s) (N := 1) (tm := fun _ => .string "DrawingHouseModel" 1276) (len := [3]) (byt := [[111, 110, 101]]) (A := fun q : Nat => s.heap.size ≤ q) (fun i hi => by match i, hi with | 0, _ => decide) (fun _ _ => hs _ (nw_c7 (List.mem_of_getElem? (i := 29) rfl))) (fun _ _ => hs _ (nw_c7 (List.mem_of_getElem? (i := 30) rfl))) (fun _ _ => hs _ (nw_c7 (List.mem_of_getElem? (i := 31) rfl))) (fun i hi => by match i, hi with | 0, _ => exact hs _ (nw_c7 (List.mem_of_getElem? (i := 32) rfl))) (fun i hi j hj => by
    match i, hi, j, hj with
    | 0, _, 0, _ => exact hs _ (nw_c7 (List.mem_of_getElem? (i := 33) rfl))
    | 0, _, 1, _ => exact hs _ (nw_c7 (List.mem_of_getElem? (i := 34) rfl))
    | 0, _, 2, _ => exact hs _ (nw_c7 (List.mem_of_getElem? (i := 35) rfl))
    | 0, _, j + 3, hj => exact absurd hj (by show ¬ j + 3 < 3; omega)) (fun i j hi hj hne => absurd (by omega) hne) not_A
  have e0 := h2 0 (by decide)
  exact ⟨adK 0, adV 0, h.1 0 (by decide), st_ev (hN _ wn_3871) e0⟩
set_option maxRecDepth 100000 in
theorem rs_40 {args : Array Value} {s : State} (hs : ∀ w ∈ flatC (Jvm.Cond.and given_1 narrow_1), w.before args s = true) (hN : nst s) : ∃ a v : Nat, (va_O "java/lang/String" a (fun q : Nat => s.heap.size ≤ q) s s.heap ∧ va_OF "java/lang/String" "coder" "B" (.int 0) a (fun q : Nat => s.heap.size ≤ q) s s.heap ∧ va_OF "java/lang/String" "value" "[B" (.ref v) a (fun q : Nat => s.heap.size ≤ q) s s.heap ∧ va_T .byte v 3 (fun j => .int (([97, 110, 100] : List Int32).getD j 0)) (fun q : Nat => s.heap.size ≤ q) s s.heap) ∧ vk_R "DrawingHouseModel" 1228 "and" a s := by
  obtain ⟨adK, adV, h, h2⟩ := vk_Sof (args := args) (s := s) (N := 1) (tm := fun _ => .string "DrawingHouseModel" 1228) (len := [3]) (byt := [[97, 110, 100]]) (A := fun q : Nat => s.heap.size ≤ q) (fun i hi => by match i, hi with | 0, _ => decide) (fun _ _ => hs _ (nw_c7 (List.mem_of_getElem? (i := 36) rfl))) (fun _ _ => hs _ (nw_c7 (List.mem_of_getElem? (i := 37) rfl))) (fun _ _ => hs _ (nw_c7 (List.mem_of_getElem? (i := 38) rfl))) (fun i hi => by match i, hi with | 0, _ => exact hs _ (nw_c7 (List.mem_of_getElem? (i := 39) rfl))) (fun i hi j hj => by
    match i, hi, j, hj with
    | 0, _, 0, _ => exact hs _ (nw_c7 (List.mem_of_getElem? (i := 40) rfl))
    | 0, _, 1, _ => exact hs _ (nw_c7 (List.mem_of_getElem? (i := 41) rfl))
    | 0, _, 2, _ => exact hs _ (nw_c7 (List.mem_of_getElem? (i := 42) rfl))
    | 0, _, j + 3, hj => exact absurd hj (by show ¬ j + 3 < 3; omega)) (fun i j hi hj hne => absurd (by omega) hne) not_A
  have e0 := h2 0 (by decide)
  exact ⟨adK 0, adV 0, h.1 0 (by decide), st_ev (hN _ wn_3880) e0⟩
set_option maxRecDepth 100000 in
theorem rs_41 {args : Array Value} {s : State} (hs : ∀ w ∈ flatC (Jvm.Cond.and given_1 narrow_1), w.before args s = true) (hN : nst s) : ∃ a v : Nat, (va_O "java/lang/String" a (fun q : Nat => s.heap.size ≤ q) s s.heap ∧ va_OF "java/lang/String" "coder" "B" (.int 0) a (fun q : Nat => s.heap.size ≤ q) s s.heap ∧ va_OF "java/lang/String" "value" "[B" (.ref v) a (fun q : Nat => s.heap.size ≤ q) s s.heap ∧ va_T .byte v 2 (fun j => .int (([111, 114] : List Int32).getD j 0)) (fun q : Nat => s.heap.size ≤ q) s s.heap) ∧ vk_R "DrawingHouseModel" 1223 "or" a s := by
  obtain ⟨adK, adV, h, h2⟩ := vk_Sof (args := args) (s := s) (N := 1) (tm := fun _ => .string "DrawingHouseModel" 1223) (len := [2]) (byt := [[111, 114]]) (A := fun q : Nat => s.heap.size ≤ q) (fun i hi => by match i, hi with | 0, _ => decide) (fun _ _ => hs _ (nw_c7 (List.mem_of_getElem? (i := 43) rfl))) (fun _ _ => hs _ (nw_c7 (List.mem_of_getElem? (i := 44) rfl))) (fun _ _ => hs _ (nw_c7 (List.mem_of_getElem? (i := 45) rfl))) (fun i hi => by match i, hi with | 0, _ => exact hs _ (nw_c7 (List.mem_of_getElem? (i := 46) rfl))) (fun i hi j hj => by
    match i, hi, j, hj with
    | 0, _, 0, _ => exact hs _ (nw_c7 (List.mem_of_getElem? (i := 47) rfl))
    | 0, _, 1, _ => exact hs _ (nw_c7 (List.mem_of_getElem? (i := 48) rfl))
    | 0, _, j + 2, hj => exact absurd hj (by show ¬ j + 2 < 2; omega)) (fun i j hi hj hne => absurd (by omega) hne) not_A
  have e0 := h2 0 (by decide)
  exact ⟨adK 0, adV 0, h.1 0 (by decide), st_ev (hN _ wn_3881) e0⟩
set_option maxRecDepth 100000 in
theorem rs_42 {args : Array Value} {s : State} (hs : ∀ w ∈ flatC (Jvm.Cond.and given_1 narrow_1), w.before args s = true) (hN : nst s) : ∃ a v : Nat, (va_O "java/lang/String" a (fun q : Nat => s.heap.size ≤ q) s s.heap ∧ va_OF "java/lang/String" "coder" "B" (.int 0) a (fun q : Nat => s.heap.size ≤ q) s s.heap ∧ va_OF "java/lang/String" "value" "[B" (.ref v) a (fun q : Nat => s.heap.size ≤ q) s s.heap ∧ va_T .byte v 5 (fun j => .int (([99, 111, 108, 111, 114] : List Int32).getD j 0)) (fun q : Nat => s.heap.size ≤ q) s s.heap) ∧ vk_R "DrawingHouseModel" 1206 "color" a s := by
  obtain ⟨adK, adV, h, h2⟩ := vk_Sof (args := args) (s := s) (N := 1) (tm := fun _ => .string "DrawingHouseModel" 1206) (len := [5]) (byt := [[99, 111, 108, 111, 114]]) (A := fun q : Nat => s.heap.size ≤ q) (fun i hi => by match i, hi with | 0, _ => decide) (fun _ _ => hs _ (nw_c7 (List.mem_of_getElem? (i := 49) rfl))) (fun _ _ => hs _ (nw_c7 (List.mem_of_getElem? (i := 50) rfl))) (fun _ _ => hs _ (nw_c7 (List.mem_of_getElem? (i := 51) rfl))) (fun i hi => by match i, hi with | 0, _ => exact hs _ (nw_c7 (List.mem_of_getElem? (i := 52) rfl))) (fun i hi j hj => by
    match i, hi, j, hj with
    | 0, _, 0, _ => exact hs _ (nw_c7 (List.mem_of_getElem? (i := 53) rfl))
    | 0, _, 1, _ => exact hs _ (nw_c7 (List.mem_of_getElem? (i := 54) rfl))
    | 0, _, 2, _ => exact hs _ (nw_c7 (List.mem_of_getElem? (i := 55) rfl))
    | 0, _, 3, _ => exact hs _ (nw_c7 (List.mem_of_getElem? (i := 56) rfl))
    | 0, _, 4, _ => exact hs _ (nw_c7 (List.mem_of_getElem? (i := 57) rfl))
    | 0, _, j + 5, hj => exact absurd hj (by show ¬ j + 5 < 5; omega)) (fun i j hi hj hne => absurd (by omega) hne) not_A
  have e0 := h2 0 (by decide)
  exact ⟨adK 0, adV 0, h.1 0 (by decide), st_ev (hN _ wn_3882) e0⟩
set_option maxRecDepth 100000 in
theorem rs_43 {args : Array Value} {s : State} (hs : ∀ w ∈ flatC (Jvm.Cond.and given_1 narrow_1), w.before args s = true) (hN : nst s) : ∃ a v : Nat, (va_O "java/lang/String" a (fun q : Nat => s.heap.size ≤ q) s s.heap ∧ va_OF "java/lang/String" "coder" "B" (.int 0) a (fun q : Nat => s.heap.size ≤ q) s s.heap ∧ va_OF "java/lang/String" "value" "[B" (.ref v) a (fun q : Nat => s.heap.size ≤ q) s s.heap ∧ va_T .byte v 5 (fun j => .int (([119, 105, 100, 116, 104] : List Int32).getD j 0)) (fun q : Nat => s.heap.size ≤ q) s s.heap) ∧ vk_R "DrawingHouseModel" 1208 "width" a s := by
  obtain ⟨adK, adV, h, h2⟩ := vk_Sof (args := args) (s := s) (N := 1) (tm := fun _ => .string "DrawingHouseModel" 1208) (len := [5]) (byt := [[119, 105, 100, 116, 104]]) (A := fun q : Nat => s.heap.size ≤ q) (fun i hi => by match i, hi with | 0, _ => decide) (fun _ _ => hs _ (nw_c7 (List.mem_of_getElem? (i := 58) rfl))) (fun _ _ => hs _ (nw_c7 (List.mem_of_getElem? (i := 59) rfl))) (fun _ _ => hs _ (nw_c7 (List.mem_of_getElem? (i := 60) rfl))) (fun i hi => by match i, hi with | 0, _ => exact hs _ (nw_c7 (List.mem_of_getElem? (i := 61) rfl))) (fun i hi j hj => by
    match i, hi, j, hj with
    | 0, _, 0, _ => exact hs _ (nw_c7 (List.mem_of_getElem? (i := 62) rfl))
    | 0, _, 1, _ => exact hs _ (nw_c7 (List.mem_of_getElem? (i := 63) rfl))
    | 0, _, 2, _ => exact hs _ (nw_c8 (List.mem_of_getElem? (i := 0) rfl))
    | 0, _, 3, _ => exact hs _ (nw_c8 (List.mem_of_getElem? (i := 1) rfl))
    | 0, _, 4, _ => exact hs _ (nw_c8 (List.mem_of_getElem? (i := 2) rfl))
    | 0, _, j + 5, hj => exact absurd hj (by show ¬ j + 5 < 5; omega)) (fun i j hi hj hne => absurd (by omega) hne) not_A
  have e0 := h2 0 (by decide)
  exact ⟨adK 0, adV 0, h.1 0 (by decide), st_ev (hN _ wn_3883) e0⟩
set_option maxRecDepth 100000 in
theorem rs_44 {args : Array Value} {s : State} (hs : ∀ w ∈ flatC (Jvm.Cond.and given_1 narrow_1), w.before args s = true) (hN : nst s) : ∃ a v : Nat, (va_O "java/lang/String" a (fun q : Nat => s.heap.size ≤ q) s s.heap ∧ va_OF "java/lang/String" "coder" "B" (.int 0) a (fun q : Nat => s.heap.size ≤ q) s s.heap ∧ va_OF "java/lang/String" "value" "[B" (.ref v) a (fun q : Nat => s.heap.size ≤ q) s s.heap ∧ va_T .byte v 4 (fun j => .int (([102, 111, 114, 109] : List Int32).getD j 0)) (fun q : Nat => s.heap.size ≤ q) s s.heap) ∧ vk_R "DrawingHouseModel" 1210 "form" a s := by
  obtain ⟨adK, adV, h, h2⟩ := vk_Sof (args := args) (s := s) (N := 1) (tm := fun _ => .string "DrawingHouseModel" 1210) (len := [4]) (byt := [[102, 111, 114, 109]]) (A := fun q : Nat => s.heap.size ≤ q) (fun i hi => by match i, hi with | 0, _ => decide) (fun _ _ => hs _ (nw_c8 (List.mem_of_getElem? (i := 3) rfl))) (fun _ _ => hs _ (nw_c8 (List.mem_of_getElem? (i := 4) rfl))) (fun _ _ => hs _ (nw_c8 (List.mem_of_getElem? (i := 5) rfl))) (fun i hi => by match i, hi with | 0, _ => exact hs _ (nw_c8 (List.mem_of_getElem? (i := 6) rfl))) (fun i hi j hj => by
    match i, hi, j, hj with
    | 0, _, 0, _ => exact hs _ (nw_c8 (List.mem_of_getElem? (i := 7) rfl))
    | 0, _, 1, _ => exact hs _ (nw_c8 (List.mem_of_getElem? (i := 8) rfl))
    | 0, _, 2, _ => exact hs _ (nw_c8 (List.mem_of_getElem? (i := 9) rfl))
    | 0, _, 3, _ => exact hs _ (nw_c8 (List.mem_of_getElem? (i := 10) rfl))
    | 0, _, j + 4, hj => exact absurd hj (by show ¬ j + 4 < 4; omega)) (fun i j hi hj hne => absurd (by omega) hne) not_A
  have e0 := h2 0 (by decide)
  exact ⟨adK 0, adV 0, h.1 0 (by decide), st_ev (hN _ wn_3884) e0⟩
set_option maxRecDepth 100000 in
theorem rs_45 {args : Array Value} {s : State} (hs : ∀ w ∈ flatC (Jvm.Cond.and given_1 narrow_1), w.before args s = true) (hN : nst s) : ∃ a v : Nat, (va_O "java/lang/String" a (fun q : Nat => s.heap.size ≤ q) s s.heap ∧ va_OF "java/lang/String" "coder" "B" (.int 0) a (fun q : Nat => s.heap.size ≤ q) s s.heap ∧ va_OF "java/lang/String" "value" "[B" (.ref v) a (fun q : Nat => s.heap.size ≤ q) s s.heap ∧ va_T .byte v 1 (fun j => .int (([93] : List Int32).getD j 0)) (fun q : Nat => s.heap.size ≤ q) s s.heap) ∧ vk_R "DrawingHouseModel" 1301 "]" a s := by
  obtain ⟨adK, adV, h, h2⟩ := vk_Sof (args := args) (s := s) (N := 1) (tm := fun _ => .string "DrawingHouseModel" 1301) (len := [1]) (byt := [[93]]) (A := fun q : Nat => s.heap.size ≤ q) (fun i hi => by match i, hi with | 0, _ => decide) (fun _ _ => hs _ (nw_c8 (List.mem_of_getElem? (i := 33) rfl))) (fun _ _ => hs _ (nw_c8 (List.mem_of_getElem? (i := 34) rfl))) (fun _ _ => hs _ (nw_c8 (List.mem_of_getElem? (i := 35) rfl))) (fun i hi => by match i, hi with | 0, _ => exact hs _ (nw_c8 (List.mem_of_getElem? (i := 36) rfl))) (fun i hi j hj => by
    match i, hi, j, hj with
    | 0, _, 0, _ => exact hs _ (nw_c8 (List.mem_of_getElem? (i := 37) rfl))
    | 0, _, j + 1, hj => exact absurd hj (by show ¬ j + 1 < 1; omega)) (fun i j hi hj hne => absurd (by omega) hne) not_A
  have e0 := h2 0 (by decide)
  exact ⟨adK 0, adV 0, h.1 0 (by decide), st_ev (hN _ wn_3929) e0⟩
end
section
theorem so_ne {s : State} {A : Nat → Prop} {a b n v : Nat} {ty : FieldType} {o nm d : String} {f : Nat → Value} (hty : fits ty (.ref v) = false) (hfit : heapFits s = true) (h1 : va_OF o nm d (.ref v) a A s s.heap) (h2 : va_T ty b n f A s s.heap) : a ≠ b := by
  intro e
  subst e
  obtain ⟨cf, k, i, fl, cell, _, _, hc, hv, hs, _⟩ := h1
  obtain ⟨cell2, hc2, ⟨hns, k2, hk2, comp, hkind⟩, _⟩ := h2
  rw [hc] at hc2
  obtain rfl := Option.some.inj hc2
  unfold heapFits at hfit
  rw [Array.all_eq_true] at hfit
  obtain ⟨hlt, he⟩ := Array.getElem?_eq_some_iff.mp hc
  have h3 := hfit a hlt
  rw [he] at h3
  unfold cellFits at h3
  obtain ⟨hl2, _⟩ := Array.getElem?_eq_some_iff.mp hs
  have h4 := List.all_eq_true.mp h3 fl.slot (List.mem_range.mpr hl2)
  rw [hs] at h4
  have h5 : s.fitsSlot cell.cls cell.vm fl.slot (.ref v) = true := h4
  have h6 : s.slotType? cell.cls cell.vm fl.slot = some ty := by
    unfold State.slotType?
    rw [hk2]
    cases hd : cell.vm with
    | statics k => exact absurd hd (hns k)
    | _ => simp [hkind]
  unfold State.fitsSlot at h5
  rw [h6] at h5
  have h5 : fits ty (.ref v) = true := h5
  rw [hty] at h5
  cases h5
theorem vT_inj {s : State} {A : Nat → Prop} {a n n_zq : Nat} {ty ty_zq : FieldType} {f f_zq : Nat → Value} (hn : n < 2147483648) (hn_zq : n_zq < 2147483648) (h1 : va_T ty a n f A s s.heap) (h2 : va_T ty_zq a n_zq f_zq A s s.heap) : ty = ty_zq ∧ n = n_zq ∧ ∀ j, j < n → f j = f_zq j := by
  obtain ⟨c, hc, ⟨_, k, hk, comp, hkind⟩, _, hN, hsz, hel, _⟩ := h1
  obtain ⟨c2, hc2, ⟨_, k2, hk2, comp2, hkind2⟩, _, hN2, hsz2, hel2, _⟩ := h2
  rw [hc] at hc2
  obtain rfl := Option.some.inj hc2
  rw [hk] at hk2
  obtain rfl := Option.some.inj hk2
  have e := congrArg Int32.toInt (hsz.symm.trans hsz2)
  rw [show (Int32.ofNat n).toInt = (n : Int) from nI_toInt (by omega), show (Int32.ofNat n_zq).toInt = (n_zq : Int) from nI_toInt (by omega)] at e
  refine ⟨?_, by omega, fun j hj => ?_⟩
  · rw [hkind] at hkind2
    injection hkind2
  · have h3 := hel j hj
    rw [hel2 j (by omega)] at h3
    exact (Option.some.inj h3).symm
theorem vOF_fn {s : State} {A : Nat → Prop} {a : Nat} {o nm d : String} {v v_zq : Value} (h1 : va_OF o nm d v a A s s.heap) (h2 : va_OF o nm d v_zq a A s s.heap) : v = v_zq := by
  obtain ⟨cf, k, i, fl, cell, e1, _, hc, _, hs, _⟩ := h1
  obtain ⟨cf2, k2, i2, fl2, cell2, e2, _, hc2, _, hs2, _⟩ := h2
  rw [e1] at e2
  cases e2
  rw [hc] at hc2
  obtain rfl := Option.some.inj hc2
  rw [hs] at hs2
  exact Option.some.inj hs2
theorem tx_len : ∀ i, i < ro_N → (ro_txt.getD i []).length < 100 := by decide +kernel
theorem tx_inj : ∀ i, i < ro_N → ∀ j, j < ro_N → ro_txt.getD i [] = ro_txt.getD j [] → i = j := by decide +kernel
theorem tx_eq {l m : List Int32} (h : l.length = m.length) (he : ∀ j, j < l.length → l.getD j 0 = m.getD j 0) : l = m := by
  refine List.ext_getElem h (fun j h1 h2 => ?_)
  have := he j h1
  rw [List.getD_eq_getElem?_getD, List.getD_eq_getElem?_getD, List.getElem?_eq_getElem h1, List.getElem?_eq_getElem h2] at this
  exact this
theorem ro_cls {r : Nat} (h : ro_id r = true) (h5 : r < 5500) : (∃ i, i < ro_N ∧ r = 5000 + i) ∨ (∃ i, i < ro_N ∧ r = 5200 + i) ∨ r = 5400 ∨ r = 5401 := by
  have := ro_ids_mem h
  unfold ro_ids at this
  simp only [List.mem_append, List.mem_map, List.mem_range, List.mem_cons, List.not_mem_nil, or_false] at this
  rcases this with (⟨i, a, b⟩ | ⟨i, a, b⟩) | q | q | q | q
  · exact Or.inl ⟨i, a, b.symm⟩
  · exact Or.inr (Or.inl ⟨i, a, b.symm⟩)
  · exact Or.inr (Or.inr (Or.inl q))
  · exact Or.inr (Or.inr (Or.inr q))
  · omega
  · omega
theorem ro_RI {kB : Nat → ClassId} {A : Nat → Prop} {s : State} (hfit : heapFits s = true) (h : ro kB A s) : ∀ r r_zq, ro_id r = true → ro_id r_zq = true → r < 5500 → r_zq < 5500 → kB r = kB r_zq → r = r_zq := by
  obtain ⟨_, hS, _, _, ⟨_, hc⟩, _, hst, _⟩ := h
  have bb : ∀ i j, i < ro_N → j < ro_N → kB (5200 + i) = kB (5200 + j) → i = j := fun i j hi hj e => by
    have h1 := (hS i hi).2.2.2
    have h2 := (hS j hj).2.2.2
    rw [← e] at h2
    have li := tx_len i hi
    have lj := tx_len j hj
    obtain ⟨_, e1, e2⟩ := vT_inj (by omega) (by omega) h1 h2
    refine tx_inj i hi j hj (tx_eq e1 (fun q hq => ?_))
    have := e2 q hq
    exact Value.int.inj this
  have ss : ∀ i j, i < ro_N → j < ro_N → kB (5000 + i) = kB (5000 + j) → i = j := fun i j hi hj e => by
    have h1 := (hS i hi).2.2.1
    have h2 := (hS j hj).2.2.1
    rw [← e] at h2
    have z := vOF_fn h1 h2
    injection z with z
    exact bb i j hi hj z
  have sb : ∀ i j, i < ro_N → j < ro_N → kB (5000 + i) ≠ kB (5200 + j) := fun i j hi hj => so_ne rfl hfit (hS i hi).2.2.1 (hS j hj).2.2.2
  have sc : ∀ i, i < ro_N → kB (5000 + i) ≠ kB 5400 := fun i hi => so_ne rfl hfit (hS i hi).2.2.1 hc
  have st : ∀ i, i < ro_N → kB (5000 + i) ≠ kB 5401 := fun i hi => so_ne rfl hfit (hS i hi).2.2.1 hst
  have bc : ∀ i, i < ro_N → kB (5200 + i) ≠ kB 5400 := fun i hi e => by
    have h1 := (hS i hi).2.2.2
    rw [e] at h1
    have := tx_len i hi
    exact absurd (vT_inj (by omega) (by decide) h1 hc).1 (by decide)
  have bt : ∀ i, i < ro_N → kB (5200 + i) ≠ kB 5401 := fun i hi e => by
    have h1 := (hS i hi).2.2.2
    rw [e] at h1
    have := tx_len i hi
    exact absurd (vT_inj (by omega) (by decide) h1 hst).1 (by decide)
  have ct : kB 5400 ≠ kB 5401 := fun e => by
    have h1 := hc
    rw [e] at h1
    have := (vT_inj (by decide) (by decide) h1 hst).2.2 0 (by decide)
    injection this with z
    exact absurd z (by decide)
  intro r r_zq h1 h2 l1 l2 e
  rcases ro_cls h1 l1 with ⟨i, hi, e1⟩ | ⟨i, hi, e1⟩ | e1 | e1 <;> rcases ro_cls h2 l2 with ⟨j, hj, e2⟩ | ⟨j, hj, e2⟩ | e2 | e2 <;> rw [e1, e2] at e ⊢
  · rw [ss i j hi hj e]
  · exact absurd e (sb i j hi hj)
  · exact absurd e (sc i hi)
  · exact absurd e (st i hi)
  · exact absurd e.symm (sb j i hj hi)
  · rw [bb i j hi hj e]
  · exact absurd e (bc i hi)
  · exact absurd e (bt i hi)
  · exact absurd e.symm (sc j hj)
  · exact absurd e.symm (bc j hj)
  · exact absurd e ct
  · exact absurd e.symm (st j hj)
  · exact absurd e.symm (bt j hj)
  · exact absurd e.symm ct
theorem wl_680 : (Cond.laysStatic "java/lang/String" "COMPACT_STRINGS" "Z" : Cond) ∈ lw_tbl := lw_c3 (List.mem_of_getElem? (i := 200) rfl)
theorem wl_696 : (Cond.laysStatic "jdk/internal/util/Preconditions" "SIOOBE_FORMATTER" "Ljava/util/function/BiFunction;" : Cond) ∈ lw_tbl := lw_c3 (List.mem_of_getElem? (i := 216) rfl)
theorem wl_1235 : (Cond.laysStatic "DrawingHouse" "ORDER_COUNTS" "[I" : Cond) ∈ lw_tbl := lw_c6 (List.mem_of_getElem? (i := 35) rfl)
theorem wl_1398 : (Cond.laysStatic "DrawingHouse" "ORDER_STARTS" "[I" : Cond) ∈ lw_tbl := lw_c6 (List.mem_of_getElem? (i := 198) rfl)
theorem lay_of {args : Array Value} {s : State} (hts : ∀ w ∈ lw_tbl, w.before args s = true) {w : Cond} (h : w ∈ lw_tbl) : w.before args s = true := hts w h
theorem vO_out {E : String} {t : Nat} {A : Nat → Prop} {U : State} {H : Heap} (h : va_O E t A U H) : ¬ A t := h.choose_spec.2.2.2
set_option maxRecDepth 100000 in
set_option maxHeartbeats 4000000 in
theorem ro_mk {args : Array Value} {s : State} (hts : ∀ w ∈ lw_tbl, w.before args s = true) (hs : ∀ w ∈ flatC (Jvm.Cond.and given_1 narrow_1), w.before args s = true) (hN : nst s) (kA : Nat → ClassId) : ∃ kB : Nat → ClassId, (∀ k, k < 8 → kB k = kA k) ∧ kB 5500 = kB 5000 ∧ kB 5999 = kB 5000 ∧ ro kB (fun q : Nat => s.heap.size ≤ q) s := by
  obtain ⟨a0, v0, hS0, hR0⟩ := rs_0 hs hN
  obtain ⟨a1, v1, hS1, hR1⟩ := rs_1 hs hN
  obtain ⟨a2, v2, hS2, hR2⟩ := rs_2 hs hN
  obtain ⟨a3, v3, hS3, hR3⟩ := rs_3 hs hN
  obtain ⟨a4, v4, hS4, hR4⟩ := rs_4 hs hN
  obtain ⟨a5, v5, hS5, hR5⟩ := rs_5 hs hN
  obtain ⟨a6, v6, hS6, hR6⟩ := rs_6 hs hN
  obtain ⟨a7, v7, hS7, hR7⟩ := rs_7 hs hN
  obtain ⟨a8, v8, hS8, hR8⟩ := rs_8 hs hN
  obtain ⟨a9, v9, hS9, hR9⟩ := rs_9 hs hN
  obtain ⟨a10, v10, hS10, hR10⟩ := rs_10 hs hN
  obtain ⟨a11, v11, hS11, hR11⟩ := rs_11 hs hN
  obtain ⟨a12, v12, hS12, hR12⟩ := rs_12 hs hN
  obtain ⟨a13, v13, hS13, hR13⟩ := rs_13 hs hN
  obtain ⟨a14, v14, hS14, hR14⟩ := rs_14 hs hN
  obtain ⟨a15, v15, hS15, hR15⟩ := rs_15 hs hN
  obtain ⟨a16, v16, hS16, hR16⟩ := rs_16 hs hN
  obtain ⟨a17, v17, hS17, hR17⟩ := rs_17 hs hN
  obtain ⟨a18, v18, hS18, hR18⟩ := rs_18 hs hN
  obtain ⟨a19, v19, hS19, hR19⟩ := rs_19 hs hN
  obtain ⟨a20, v20, hS20, hR20⟩ := rs_20 hs hN
  obtain ⟨a21, v21, hS21, hR21⟩ := rs_21 hs hN
  obtain ⟨a22, v22, hS22, hR22⟩ := rs_22 hs hN
  obtain ⟨a23, v23, hS23, hR23⟩ := rs_23 hs hN
  obtain ⟨a24, v24, hS24, hR24⟩ := rs_24 hs hN
  obtain ⟨a25, v25, hS25, hR25⟩ := rs_25 hs hN
  obtain ⟨a26, v26, hS26, hR26⟩ := rs_26 hs hN
  obtain ⟨a27, v27, hS27, hR27⟩ := rs_27 hs hN
  obtain ⟨a28, v28, hS28, hR28⟩ := rs_28 hs hN
  obtain ⟨a29, v29, hS29, hR29⟩ := rs_29 hs hN
  obtain ⟨a30, v30, hS30, hR30⟩ := rs_30 hs hN
  obtain ⟨a31, v31, hS31, hR31⟩ := rs_31 hs hN
  obtain ⟨a32, v32, hS32, hR32⟩ := rs_32 hs hN
  obtain ⟨a33, v33, hS33, hR33⟩ := rs_33 hs hN
  obtain ⟨a34, v34, hS34, hR34⟩ := rs_34 hs hN
  obtain ⟨a35, v35, hS35, hR35⟩ := rs_35 hs hN
  obtain ⟨a36, v36, hS36, hR36⟩ := rs_36 hs hN
  obtain ⟨a37, v37, hS37, hR37⟩ := rs_37 hs hN
  obtain ⟨a38, v38, hS38, hR38⟩ := rs_38 hs hN
  obtain ⟨a39, v39, hS39, hR39⟩ := rs_39 hs hN
  obtain ⟨a40, v40, hS40, hR40⟩ := rs_40 hs hN
  obtain ⟨a41, v41, hS41, hR41⟩ := rs_41 hs hN
  obtain ⟨a42, v42, hS42, hR42⟩ := rs_42 hs hN
  obtain ⟨a43, v43, hS43, hR43⟩ := rs_43 hs hN
  obtain ⟨a44, v44, hS44, hR44⟩ := rs_44 hs hN
  obtain ⟨a45, v45, hS45, hR45⟩ := rs_45 hs hN
  obtain ⟨aCn, evCn, hTCn⟩ := va_Tof (args := args) (s := s) (tm := (.static "DrawingHouse" "ORDER_COUNTS" "[I")) (ty := .int) (N := 7) (f := fun j => .int (ro_cnt.getD j 0)) (A := fun q : Nat => s.heap.size ≤ q) (by decide) (hs _ (nw_c0 (List.mem_of_getElem? (i := 10) rfl))) (va_eqt (hs _ (nw_c0 (List.mem_of_getElem? (i := 11) rfl)))) (fun j hj => by
    match j, hj with
    | 0, _ => exact va_eqt (hs _ (nw_c0 (List.mem_of_getElem? (i := 12) rfl)))
    | 1, _ => exact va_eqt (hs _ (nw_c0 (List.mem_of_getElem? (i := 13) rfl)))
    | 2, _ => exact va_eqt (hs _ (nw_c0 (List.mem_of_getElem? (i := 14) rfl)))
    | 3, _ => exact va_eqt (hs _ (nw_c0 (List.mem_of_getElem? (i := 15) rfl)))
    | 4, _ => exact va_eqt (hs _ (nw_c0 (List.mem_of_getElem? (i := 16) rfl)))
    | 5, _ => exact va_eqt (hs _ (nw_c0 (List.mem_of_getElem? (i := 17) rfl)))
    | 6, _ => exact va_eqt (hs _ (nw_c0 (List.mem_of_getElem? (i := 18) rfl)))
    | j + 7, hj => exact absurd hj (by omega)) not_A
  have hZCn := va_Zref (lay_of hts wl_1235) (hts _ (lw_gt wm_1)) evCn not_A
  obtain ⟨aSt, evSt, hTSt⟩ := va_Tof (args := args) (s := s) (tm := (.static "DrawingHouse" "ORDER_STARTS" "[I")) (ty := .int) (N := 7) (f := fun j => .int (ro_sta.getD j 0)) (A := fun q : Nat => s.heap.size ≤ q) (by decide) (hs _ (nw_c0 (List.mem_of_getElem? (i := 20) rfl))) (va_eqt (hs _ (nw_c0 (List.mem_of_getElem? (i := 21) rfl)))) (fun j hj => by
    match j, hj with
    | 0, _ => exact va_eqt (hs _ (nw_c0 (List.mem_of_getElem? (i := 22) rfl)))
    | 1, _ => exact va_eqt (hs _ (nw_c0 (List.mem_of_getElem? (i := 23) rfl)))
    | 2, _ => exact va_eqt (hs _ (nw_c0 (List.mem_of_getElem? (i := 24) rfl)))
    | 3, _ => exact va_eqt (hs _ (nw_c0 (List.mem_of_getElem? (i := 25) rfl)))
    | 4, _ => exact va_eqt (hs _ (nw_c0 (List.mem_of_getElem? (i := 26) rfl)))
    | 5, _ => exact va_eqt (hs _ (nw_c0 (List.mem_of_getElem? (i := 27) rfl)))
    | 6, _ => exact va_eqt (hs _ (nw_c0 (List.mem_of_getElem? (i := 28) rfl)))
    | j + 7, hj => exact absurd hj (by omega)) not_A
  have hZSt := va_Zref (lay_of hts wl_1398) (hts _ (lw_gt wm_1)) evSt not_A
  have hC := va_Zof (args := args) (s := s) (A := fun q : Nat => s.heap.size ≤ q) (hts _ wl_680) (hts _ (lw_gt wm_11)) (va_eqt (hs (Cond.eq (.static "java/lang/String" "COMPACT_STRINGS" "Z") (.int 1)) (by decide +kernel))) not_A
  have hF := va_Zqof (args := args) (s := s) (A := fun q : Nat => s.heap.size ≤ q) (hts _ wl_696) (hts _ (lw_gt wm_13)) (hs (Cond.isRef (.static "jdk/internal/util/Preconditions" "SIOOBE_FORMATTER" "Ljava/util/function/BiFunction;")) (by decide +kernel)) not_A
  obtain ⟨kB, hkB⟩ : ∃ kB : Nat → ClassId, kB = fun k => if k < 8 then kA k else if k < 5200 then ([a0, a1, a2, a3, a4, a5, a6, a7, a8, a9, a10, a11, a12, a13, a14, a15, a16, a17, a18, a19, a20, a21, a22, a23, a24, a25, a26, a27, a28, a29, a30, a31, a32, a33, a34, a35, a36, a37, a38, a39, a40, a41, a42, a43, a44, a45] : List Nat).getD (k - 5000) a0 else if k < 5400 then ([v0, v1, v2, v3, v4, v5, v6, v7, v8, v9, v10, v11, v12, v13, v14, v15, v16, v17, v18, v19, v20, v21, v22, v23, v24, v25, v26, v27, v28, v29, v30, v31, v32, v33, v34, v35, v36, v37, v38, v39, v40, v41, v42, v43, v44, v45] : List Nat).getD (k - 5200) v0 else if k = 5400 then aCn else if k = 5401 then aSt else a0 := ⟨_, rfl⟩
  have ea0 : kB (5000 + 0) = a0 := by rw [hkB]; rfl
  have eb0 : kB (5200 + 0) = v0 := by rw [hkB]; rfl
  have ea1 : kB (5000 + 1) = a1 := by rw [hkB]; rfl
  have eb1 : kB (5200 + 1) = v1 := by rw [hkB]; rfl
  have ea2 : kB (5000 + 2) = a2 := by rw [hkB]; rfl
  have eb2 : kB (5200 + 2) = v2 := by rw [hkB]; rfl
  have ea3 : kB (5000 + 3) = a3 := by rw [hkB]; rfl
  have eb3 : kB (5200 + 3) = v3 := by rw [hkB]; rfl
  have ea4 : kB (5000 + 4) = a4 := by rw [hkB]; rfl
  have eb4 : kB (5200 + 4) = v4 := by rw [hkB]; rfl
  have ea5 : kB (5000 + 5) = a5 := by rw [hkB]; rfl
  have eb5 : kB (5200 + 5) = v5 := by rw [hkB]; rfl
  have ea6 : kB (5000 + 6) = a6 := by rw [hkB]; rfl
  have eb6 : kB (5200 + 6) = v6 := by rw [hkB]; rfl
  have ea7 : kB (5000 + 7) = a7 := by rw [hkB]; rfl
  have eb7 : kB (5200 + 7) = v7 := by rw [hkB]; rfl
  have ea8 : kB (5000 + 8) = a8 := by rw [hkB]; rfl
  have eb8 : kB (5200 + 8) = v8 := by rw [hkB]; rfl
  have ea9 : kB (5000 + 9) = a9 := by rw [hkB]; rfl
  have eb9 : kB (5200 + 9) = v9 := by rw [hkB]; rfl
  have ea10 : kB (5000 + 10) = a10 := by rw [hkB]; rfl
  have eb10 : kB (5200 + 10) = v10 := by rw [hkB]; rfl
  have ea11 : kB (5000 + 11) = a11 := by rw [hkB]; rfl
  have eb11 : kB (5200 + 11) = v11 := by rw [hkB]; rfl
  have ea12 : kB (5000 + 12) = a12 := by rw [hkB]; rfl
  have eb12 : kB (5200 + 12) = v12 := by rw [hkB]; rfl
  have ea13 : kB (5000 + 13) = a13 := by rw [hkB]; rfl
  have eb13 : kB (5200 + 13) = v13 := by rw [hkB]; rfl
  have ea14 : kB (5000 + 14) = a14 := by rw [hkB]; rfl
  have eb14 : kB (5200 + 14) = v14 := by rw [hkB]; rfl
  have ea15 : kB (5000 + 15) = a15 := by rw [hkB]; rfl
  have eb15 : kB (5200 + 15) = v15 := by rw [hkB]; rfl
  have ea16 : kB (5000 + 16) = a16 := by rw [hkB]; rfl
  have eb16 : kB (5200 + 16) = v16 := by rw [hkB]; rfl
  have ea17 : kB (5000 + 17) = a17 := by rw [hkB]; rfl
  have eb17 : kB (5200 + 17) = v17 := by rw [hkB]; rfl
  have ea18 : kB (5000 + 18) = a18 := by rw [hkB]; rfl
  have eb18 : kB (5200 + 18) = v18 := by rw [hkB]; rfl
  have ea19 : kB (5000 + 19) = a19 := by rw [hkB]; rfl
  have eb19 : kB (5200 + 19) = v19 := by rw [hkB]; rfl
  have ea20 : kB (5000 + 20) = a20 := by rw [hkB]; rfl
  have eb20 : kB (5200 + 20) = v20 := by rw [hkB]; rfl
  have ea21 : kB (5000 + 21) = a21 := by rw [hkB]; rfl
  have eb21 : kB (5200 + 21) = v21 := by rw [hkB]; rfl
  have ea22 : kB (5000 + 22) = a22 := by rw [hkB]; rfl
  have eb22 : kB (5200 + 22) = v22 := by rw [hkB]; rfl
  have ea23 : kB (5000 + 23) = a23 := by rw [hkB]; rfl
  have eb23 : kB (5200 + 23) = v23 := by rw [hkB]; rfl
  have ea24 : kB (5000 + 24) = a24 := by rw [hkB]; rfl
  have eb24 : kB (5200 + 24) = v24 := by rw [hkB]; rfl
  have ea25 : kB (5000 + 25) = a25 := by rw [hkB]; rfl
  have eb25 : kB (5200 + 25) = v25 := by rw [hkB]; rfl
  have ea26 : kB (5000 + 26) = a26 := by rw [hkB]; rfl
  have eb26 : kB (5200 + 26) = v26 := by rw [hkB]; rfl
  have ea27 : kB (5000 + 27) = a27 := by rw [hkB]; rfl
  have eb27 : kB (5200 + 27) = v27 := by rw [hkB]; rfl
  have ea28 : kB (5000 + 28) = a28 := by rw [hkB]; rfl
  have eb28 : kB (5200 + 28) = v28 := by rw [hkB]; rfl
  have ea29 : kB (5000 + 29) = a29 := by rw [hkB]; rfl
  have eb29 : kB (5200 + 29) = v29 := by rw [hkB]; rfl
  have ea30 : kB (5000 + 30) = a30 := by rw [hkB]; rfl
  have eb30 : kB (5200 + 30) = v30 := by rw [hkB]; rfl
  have ea31 : kB (5000 + 31) = a31 := by rw [hkB]; rfl
  have eb31 : kB (5200 + 31) = v31 := by rw [hkB]; rfl
  have ea32 : kB (5000 + 32) = a32 := by rw [hkB]; rfl
  have eb32 : kB (5200 + 32) = v32 := by rw [hkB]; rfl
  have ea33 : kB (5000 + 33) = a33 := by rw [hkB]; rfl
  have eb33 : kB (5200 + 33) = v33 := by rw [hkB]; rfl
  have ea34 : kB (5000 + 34) = a34 := by rw [hkB]; rfl
  have eb34 : kB (5200 + 34) = v34 := by rw [hkB]; rfl
  have ea35 : kB (5000 + 35) = a35 := by rw [hkB]; rfl
  have eb35 : kB (5200 + 35) = v35 := by rw [hkB]; rfl
  have ea36 : kB (5000 + 36) = a36 := by rw [hkB]; rfl
  have eb36 : kB (5200 + 36) = v36 := by rw [hkB]; rfl
  have ea37 : kB (5000 + 37) = a37 := by rw [hkB]; rfl
  have eb37 : kB (5200 + 37) = v37 := by rw [hkB]; rfl
  have ea38 : kB (5000 + 38) = a38 := by rw [hkB]; rfl
  have eb38 : kB (5200 + 38) = v38 := by rw [hkB]; rfl
  have ea39 : kB (5000 + 39) = a39 := by rw [hkB]; rfl
  have eb39 : kB (5200 + 39) = v39 := by rw [hkB]; rfl
  have ea40 : kB (5000 + 40) = a40 := by rw [hkB]; rfl
  have eb40 : kB (5200 + 40) = v40 := by rw [hkB]; rfl
  have ea41 : kB (5000 + 41) = a41 := by rw [hkB]; rfl
  have eb41 : kB (5200 + 41) = v41 := by rw [hkB]; rfl
  have ea42 : kB (5000 + 42) = a42 := by rw [hkB]; rfl
  have eb42 : kB (5200 + 42) = v42 := by rw [hkB]; rfl
  have ea43 : kB (5000 + 43) = a43 := by rw [hkB]; rfl
  have eb43 : kB (5200 + 43) = v43 := by rw [hkB]; rfl
  have ea44 : kB (5000 + 44) = a44 := by rw [hkB]; rfl
  have eb44 : kB (5200 + 44) = v44 := by rw [hkB]; rfl
  have ea45 : kB (5000 + 45) = a45 := by rw [hkB]; rfl
  have eb45 : kB (5200 + 45) = v45 := by rw [hkB]; rfl
  have ec : kB 5400 = aCn := by rw [hkB]; rfl
  have et : kB 5401 = aSt := by rw [hkB]; rfl
  have e55 : kB 5500 = a0 := by rw [hkB]; rfl
  have e59 : kB 5999 = a0 := by rw [hkB]; rfl
  refine ⟨kB, fun k hk => by rw [hkB]; exact if_pos hk, by rw [e55]; exact ea0.symm, by rw [e59]; exact ea0.symm, fun r hr hA => ?_, fun i hi => ?_, ?_, hC, ⟨by rw [ec]; exact hZCn, by rw [ec]; exact hTCn⟩, by rw [et]; exact hZSt, by rw [et]; exact hTSt, ?_⟩
  · have hlo : ∀ r ∈ ro_ids, ¬ s.heap.size ≤ kB r := by
      refine List.forall_mem_append.mpr ⟨List.forall_mem_append.mpr ⟨fun r hr => ?_, fun r hr => ?_⟩, ?_⟩
      · obtain ⟨i, hi, e⟩ := List.mem_map.mp hr
        have hi := List.mem_range.mp hi
        rw [← e]
        match i, hi with
        | 0, _ => rw [ea0]; exact vO_out hS0.1
        | 1, _ => rw [ea1]; exact vO_out hS1.1
        | 2, _ => rw [ea2]; exact vO_out hS2.1
        | 3, _ => rw [ea3]; exact vO_out hS3.1
        | 4, _ => rw [ea4]; exact vO_out hS4.1
        | 5, _ => rw [ea5]; exact vO_out hS5.1
        | 6, _ => rw [ea6]; exact vO_out hS6.1
        | 7, _ => rw [ea7]; exact vO_out hS7.1
        | 8, _ => rw [ea8]; exact vO_out hS8.1
        | 9, _ => rw [ea9]; exact vO_out hS9.1
        | 10, _ => rw [ea10]; exact vO_out hS10.1
        | 11, _ => rw [ea11]; exact vO_out hS11.1
        | 12, _ => rw [ea12]; exact vO_out hS12.1
        | 13, _ => rw [ea13]; exact vO_out hS13.1
        | 14, _ => rw [ea14]; exact vO_out hS14.1
        | 15, _ => rw [ea15]; exact vO_out hS15.1
        | 16, _ => rw [ea16]; exact vO_out hS16.1
        | 17, _ => rw [ea17]; exact vO_out hS17.1
        | 18, _ => rw [ea18]; exact vO_out hS18.1
        | 19, _ => rw [ea19]; exact vO_out hS19.1
        | 20, _ => rw [ea20]; exact vO_out hS20.1
        | 21, _ => rw [ea21]; exact vO_out hS21.1
        | 22, _ => rw [ea22]; exact vO_out hS22.1
        | 23, _ => rw [ea23]; exact vO_out hS23.1
        | 24, _ => rw [ea24]; exact vO_out hS24.1
        | 25, _ => rw [ea25]; exact vO_out hS25.1
        | 26, _ => rw [ea26]; exact vO_out hS26.1
        | 27, _ => rw [ea27]; exact vO_out hS27.1
        | 28, _ => rw [ea28]; exact vO_out hS28.1
        | 29, _ => rw [ea29]; exact vO_out hS29.1
        | 30, _ => rw [ea30]; exact vO_out hS30.1
        | 31, _ => rw [ea31]; exact vO_out hS31.1
        | 32, _ => rw [ea32]; exact vO_out hS32.1
        | 33, _ => rw [ea33]; exact vO_out hS33.1
        | 34, _ => rw [ea34]; exact vO_out hS34.1
        | 35, _ => rw [ea35]; exact vO_out hS35.1
        | 36, _ => rw [ea36]; exact vO_out hS36.1
        | 37, _ => rw [ea37]; exact vO_out hS37.1
        | 38, _ => rw [ea38]; exact vO_out hS38.1
        | 39, _ => rw [ea39]; exact vO_out hS39.1
        | 40, _ => rw [ea40]; exact vO_out hS40.1
        | 41, _ => rw [ea41]; exact vO_out hS41.1
        | 42, _ => rw [ea42]; exact vO_out hS42.1
        | 43, _ => rw [ea43]; exact vO_out hS43.1
        | 44, _ => rw [ea44]; exact vO_out hS44.1
        | 45, _ => rw [ea45]; exact vO_out hS45.1
        | i + 46, hi => exact absurd hi (by unfold ro_N; omega)
      · obtain ⟨i, hi, e⟩ := List.mem_map.mp hr
        have hi := List.mem_range.mp hi
        rw [← e]
        match i, hi with
        | 0, _ => rw [eb0]; exact va_T.out hS0.2.2.2
        | 1, _ => rw [eb1]; exact va_T.out hS1.2.2.2
        | 2, _ => rw [eb2]; exact va_T.out hS2.2.2.2
        | 3, _ => rw [eb3]; exact va_T.out hS3.2.2.2
        | 4, _ => rw [eb4]; exact va_T.out hS4.2.2.2
        | 5, _ => rw [eb5]; exact va_T.out hS5.2.2.2
        | 6, _ => rw [eb6]; exact va_T.out hS6.2.2.2
        | 7, _ => rw [eb7]; exact va_T.out hS7.2.2.2
        | 8, _ => rw [eb8]; exact va_T.out hS8.2.2.2
        | 9, _ => rw [eb9]; exact va_T.out hS9.2.2.2
        | 10, _ => rw [eb10]; exact va_T.out hS10.2.2.2
        | 11, _ => rw [eb11]; exact va_T.out hS11.2.2.2
        | 12, _ => rw [eb12]; exact va_T.out hS12.2.2.2
        | 13, _ => rw [eb13]; exact va_T.out hS13.2.2.2
        | 14, _ => rw [eb14]; exact va_T.out hS14.2.2.2
        | 15, _ => rw [eb15]; exact va_T.out hS15.2.2.2
        | 16, _ => rw [eb16]; exact va_T.out hS16.2.2.2
        | 17, _ => rw [eb17]; exact va_T.out hS17.2.2.2
        | 18, _ => rw [eb18]; exact va_T.out hS18.2.2.2
        | 19, _ => rw [eb19]; exact va_T.out hS19.2.2.2
        | 20, _ => rw [eb20]; exact va_T.out hS20.2.2.2
        | 21, _ => rw [eb21]; exact va_T.out hS21.2.2.2
        | 22, _ => rw [eb22]; exact va_T.out hS22.2.2.2
        | 23, _ => rw [eb23]; exact va_T.out hS23.2.2.2
        | 24, _ => rw [eb24]; exact va_T.out hS24.2.2.2
        | 25, _ => rw [eb25]; exact va_T.out hS25.2.2.2
        | 26, _ => rw [eb26]; exact va_T.out hS26.2.2.2
        | 27, _ => rw [eb27]; exact va_T.out hS27.2.2.2
        | 28, _ => rw [eb28]; exact va_T.out hS28.2.2.2
        | 29, _ => rw [eb29]; exact va_T.out hS29.2.2.2
        | 30, _ => rw [eb30]; exact va_T.out hS30.2.2.2
        | 31, _ => rw [eb31]; exact va_T.out hS31.2.2.2
        | 32, _ => rw [eb32]; exact va_T.out hS32.2.2.2
        | 33, _ => rw [eb33]; exact va_T.out hS33.2.2.2
        | 34, _ => rw [eb34]; exact va_T.out hS34.2.2.2
        | 35, _ => rw [eb35]; exact va_T.out hS35.2.2.2
        | 36, _ => rw [eb36]; exact va_T.out hS36.2.2.2
        | 37, _ => rw [eb37]; exact va_T.out hS37.2.2.2
        | 38, _ => rw [eb38]; exact va_T.out hS38.2.2.2
        | 39, _ => rw [eb39]; exact va_T.out hS39.2.2.2
        | 40, _ => rw [eb40]; exact va_T.out hS40.2.2.2
        | 41, _ => rw [eb41]; exact va_T.out hS41.2.2.2
        | 42, _ => rw [eb42]; exact va_T.out hS42.2.2.2
        | 43, _ => rw [eb43]; exact va_T.out hS43.2.2.2
        | 44, _ => rw [eb44]; exact va_T.out hS44.2.2.2
        | 45, _ => rw [eb45]; exact va_T.out hS45.2.2.2
        | i + 46, hi => exact absurd hi (by unfold ro_N; omega)
      · exact List.forall_mem_cons.mpr ⟨by rw [ec]; exact va_T.out hTCn, List.forall_mem_cons.mpr ⟨by rw [et]; exact va_T.out hTSt, List.forall_mem_cons.mpr ⟨by rw [e55]; exact vO_out hS0.1, List.forall_mem_cons.mpr ⟨by rw [e59]; exact vO_out hS0.1, fun _ h => by cases h⟩⟩⟩⟩
    exact hlo r (ro_ids_mem hr) hA
  · match i, hi with
    | 0, _ => unfold ro_S; rw [ea0, eb0]; exact hS0
    | 1, _ => unfold ro_S; rw [ea1, eb1]; exact hS1
    | 2, _ => unfold ro_S; rw [ea2, eb2]; exact hS2
    | 3, _ => unfold ro_S; rw [ea3, eb3]; exact hS3
    | 4, _ => unfold ro_S; rw [ea4, eb4]; exact hS4
    | 5, _ => unfold ro_S; rw [ea5, eb5]; exact hS5
    | 6, _ => unfold ro_S; rw [ea6, eb6]; exact hS6
    | 7, _ => unfold ro_S; rw [ea7, eb7]; exact hS7
    | 8, _ => unfold ro_S; rw [ea8, eb8]; exact hS8
    | 9, _ => unfold ro_S; rw [ea9, eb9]; exact hS9
    | 10, _ => unfold ro_S; rw [ea10, eb10]; exact hS10
    | 11, _ => unfold ro_S; rw [ea11, eb11]; exact hS11
    | 12, _ => unfold ro_S; rw [ea12, eb12]; exact hS12
    | 13, _ => unfold ro_S; rw [ea13, eb13]; exact hS13
    | 14, _ => unfold ro_S; rw [ea14, eb14]; exact hS14
    | 15, _ => unfold ro_S; rw [ea15, eb15]; exact hS15
    | 16, _ => unfold ro_S; rw [ea16, eb16]; exact hS16
    | 17, _ => unfold ro_S; rw [ea17, eb17]; exact hS17
    | 18, _ => unfold ro_S; rw [ea18, eb18]; exact hS18
    | 19, _ => unfold ro_S; rw [ea19, eb19]; exact hS19
    | 20, _ => unfold ro_S; rw [ea20, eb20]; exact hS20
    | 21, _ => unfold ro_S; rw [ea21, eb21]; exact hS21
    | 22, _ => unfold ro_S; rw [ea22, eb22]; exact hS22
    | 23, _ => unfold ro_S; rw [ea23, eb23]; exact hS23
    | 24, _ => unfold ro_S; rw [ea24, eb24]; exact hS24
    | 25, _ => unfold ro_S; rw [ea25, eb25]; exact hS25
    | 26, _ => unfold ro_S; rw [ea26, eb26]; exact hS26
    | 27, _ => unfold ro_S; rw [ea27, eb27]; exact hS27
    | 28, _ => unfold ro_S; rw [ea28, eb28]; exact hS28
    | 29, _ => unfold ro_S; rw [ea29, eb29]; exact hS29
    | 30, _ => unfold ro_S; rw [ea30, eb30]; exact hS30
    | 31, _ => unfold ro_S; rw [ea31, eb31]; exact hS31
    | 32, _ => unfold ro_S; rw [ea32, eb32]; exact hS32
    | 33, _ => unfold ro_S; rw [ea33, eb33]; exact hS33
    | 34, _ => unfold ro_S; rw [ea34, eb34]; exact hS34
    | 35, _ => unfold ro_S; rw [ea35, eb35]; exact hS35
    | 36, _ => unfold ro_S; rw [ea36, eb36]; exact hS36
    | 37, _ => unfold ro_S; rw [ea37, eb37]; exact hS37
    | 38, _ => unfold ro_S; rw [ea38, eb38]; exact hS38
    | 39, _ => unfold ro_S; rw [ea39, eb39]; exact hS39
    | 40, _ => unfold ro_S; rw [ea40, eb40]; exact hS40
    | 41, _ => unfold ro_S; rw [ea41, eb41]; exact hS41
    | 42, _ => unfold ro_S; rw [ea42, eb42]; exact hS42
    | 43, _ => unfold ro_S; rw [ea43, eb43]; exact hS43
    | 44, _ => unfold ro_S; rw [ea44, eb44]; exact hS44
    | 45, _ => unfold ro_S; rw [ea45, eb45]; exact hS45
    | i + 46, hi => exact absurd hi (by unfold ro_N; omega)
  · exact List.forall_mem_cons.mpr ⟨(show vk_R "DrawingHouse$Reader" 93 "node" (kB (5000 + 0)) s by rw [ea0]; exact hR0.1), List.forall_mem_cons.mpr ⟨(show vk_R "DrawingHouse$Reader" 99 "group" (kB (5000 + 1)) s by rw [ea1]; exact hR1.1), List.forall_mem_cons.mpr ⟨(show vk_R "DrawingHouse$Reader" 130 "size" (kB (5000 + 2)) s by rw [ea2]; exact hR2.1), List.forall_mem_cons.mpr ⟨(show vk_R "DrawingHouse$Reader" 166 "weight" (kB (5000 + 3)) s by rw [ea3]; exact hR3.1), List.forall_mem_cons.mpr ⟨(show vk_R "DrawingHouse$Styler" 40 "deg in out size group far core cut x y " (kB (5000 + 4)) s by rw [ea4]; exact hR4), List.forall_mem_cons.mpr ⟨(show vk_R "DrawingHouse$Styler" 92 ":=,;{}<>+-*/()" (kB (5000 + 5)) s by rw [ea5]; exact hR5), List.forall_mem_cons.mpr ⟨(show vk_R "DrawingHouse$Styler" 112 "node edge " (kB (5000 + 6)) s by rw [ea6]; exact hR6), List.forall_mem_cons.mpr ⟨(show vk_R "DrawingHouse$Styler" 121 "weight turned bridge from to block long one " (kB (5000 + 7)) s by rw [ea7]; exact hR7), List.forall_mem_cons.mpr ⟨(show vk_R "DrawingHouse$Styler" 123 "if " (kB (5000 + 8)) s by rw [ea8]; exact hR8), List.forall_mem_cons.mpr ⟨(show vk_R "DrawingHouse$Styler" 150 "not " (kB (5000 + 9)) s by rw [ea9]; exact hR9), List.forall_mem_cons.mpr ⟨(show vk_R "DrawingHouse$Styler" 148 "and " (kB (5000 + 10)) s by rw [ea10]; exact hR10), List.forall_mem_cons.mpr ⟨(show vk_R "DrawingHouse$Styler" 143 "or " (kB (5000 + 11)) s by rw [ea11]; exact hR11), List.forall_mem_cons.mpr ⟨(show vk_R "DrawingHouse$Styler" 135 "color width form " (kB (5000 + 12)) s by rw [ea12]; exact hR12), List.forall_mem_cons.mpr ⟨(show vk_R "DrawingHouse" 459 "node " (kB (5000 + 13)) s by rw [ea13]; exact hR13.1), List.forall_mem_cons.mpr ⟨(show vk_R "DrawingHouse" 469 " [size=" (kB (5000 + 14)) s by rw [ea14]; exact hR14.1), List.forall_mem_cons.mpr ⟨(show vk_R "DrawingHouse" 474 ";\n" (kB (5000 + 15)) s by rw [ea15]; exact hR15.1), List.forall_mem_cons.mpr ⟨(show vk_R "DrawingHouse" 476 "group " (kB (5000 + 16)) s by rw [ea16]; exact hR16.1), List.forall_mem_cons.mpr ⟨(show vk_R "DrawingHouse" 478 " {\n" (kB (5000 + 17)) s by rw [ea17]; exact hR17.1), List.forall_mem_cons.mpr ⟨(show vk_R "DrawingHouse" 480 "}\n" (kB (5000 + 18)) s by rw [ea18]; exact hR18.1), List.forall_mem_cons.mpr ⟨(show vk_R "DrawingHouse" 482 " > " (kB (5000 + 19)) s by rw [ea19]; exact hR19.1), List.forall_mem_cons.mpr ⟨(show vk_R "DrawingHouse" 484 " - " (kB (5000 + 20)) s by rw [ea20]; exact hR20.1), List.forall_mem_cons.mpr ⟨(show vk_R "DrawingHouse" 486 " [weight=" (kB (5000 + 21)) s by rw [ea21]; exact hR21.1), List.forall_mem_cons.mpr ⟨(show vk_R "DrawingHouseModel" 467 "node" (kB (5000 + 0)) s by rw [ea0]; exact hR0.2), List.forall_mem_cons.mpr ⟨(show vk_R "DrawingHouseModel" 473 "group" (kB (5000 + 1)) s by rw [ea1]; exact hR1.2), List.forall_mem_cons.mpr ⟨(show vk_R "DrawingHouseModel" 497 "size" (kB (5000 + 2)) s by rw [ea2]; exact hR2.2), List.forall_mem_cons.mpr ⟨(show vk_R "DrawingHouseModel" 519 "weight" (kB (5000 + 3)) s by rw [ea3]; exact hR3.2), List.forall_mem_cons.mpr ⟨(show vk_R "DrawingHouseModel" 1193 "edge" (kB (5000 + 22)) s by rw [ea22]; exact hR22), List.forall_mem_cons.mpr ⟨(show vk_R "DrawingHouseModel" 1198 "if" (kB (5000 + 23)) s by rw [ea23]; exact hR23), List.forall_mem_cons.mpr ⟨(show vk_R "DrawingHouseModel" 1230 "not" (kB (5000 + 24)) s by rw [ea24]; exact hR24), List.forall_mem_cons.mpr ⟨(show vk_R "DrawingHouseModel" 1254 "deg" (kB (5000 + 25)) s by rw [ea25]; exact hR25), List.forall_mem_cons.mpr ⟨(show vk_R "DrawingHouseModel" 1256 "in" (kB (5000 + 26)) s by rw [ea26]; exact hR26), List.forall_mem_cons.mpr ⟨(show vk_R "DrawingHouseModel" 1257 "out" (kB (5000 + 27)) s by rw [ea27]; exact hR27), List.forall_mem_cons.mpr ⟨(show vk_R "DrawingHouseModel" 1259 "far" (kB (5000 + 28)) s by rw [ea28]; exact hR28), List.forall_mem_cons.mpr ⟨(show vk_R "DrawingHouseModel" 1261 "core" (kB (5000 + 29)) s by rw [ea29]; exact hR29), List.forall_mem_cons.mpr ⟨(show vk_R "DrawingHouseModel" 1262 "cut" (kB (5000 + 30)) s by rw [ea30]; exact hR30), List.forall_mem_cons.mpr ⟨(show vk_R "DrawingHouseModel" 1263 "x" (kB (5000 + 31)) s by rw [ea31]; exact hR31), List.forall_mem_cons.mpr ⟨(show vk_R "DrawingHouseModel" 1265 "y" (kB (5000 + 32)) s by rw [ea32]; exact hR32), List.forall_mem_cons.mpr ⟨(show vk_R "DrawingHouseModel" 1267 "turned" (kB (5000 + 33)) s by rw [ea33]; exact hR33), List.forall_mem_cons.mpr ⟨(show vk_R "DrawingHouseModel" 1268 "bridge" (kB (5000 + 34)) s by rw [ea34]; exact hR34), List.forall_mem_cons.mpr ⟨(show vk_R "DrawingHouseModel" 1270 "from" (kB (5000 + 35)) s by rw [ea35]; exact hR35), List.forall_mem_cons.mpr ⟨(show vk_R "DrawingHouseModel" 1271 "to" (kB (5000 + 36)) s by rw [ea36]; exact hR36), List.forall_mem_cons.mpr ⟨(show vk_R "DrawingHouseModel" 1272 "block" (kB (5000 + 37)) s by rw [ea37]; exact hR37), List.forall_mem_cons.mpr ⟨(show vk_R "DrawingHouseModel" 1274 "long" (kB (5000 + 38)) s by rw [ea38]; exact hR38), List.forall_mem_cons.mpr ⟨(show vk_R "DrawingHouseModel" 1276 "one" (kB (5000 + 39)) s by rw [ea39]; exact hR39), List.forall_mem_cons.mpr ⟨(show vk_R "DrawingHouseModel" 1228 "and" (kB (5000 + 40)) s by rw [ea40]; exact hR40), List.forall_mem_cons.mpr ⟨(show vk_R "DrawingHouseModel" 1223 "or" (kB (5000 + 41)) s by rw [ea41]; exact hR41), List.forall_mem_cons.mpr ⟨(show vk_R "DrawingHouseModel" 1206 "color" (kB (5000 + 42)) s by rw [ea42]; exact hR42), List.forall_mem_cons.mpr ⟨(show vk_R "DrawingHouseModel" 1208 "width" (kB (5000 + 43)) s by rw [ea43]; exact hR43), List.forall_mem_cons.mpr ⟨(show vk_R "DrawingHouseModel" 1210 "form" (kB (5000 + 44)) s by rw [ea44]; exact hR44), List.forall_mem_cons.mpr ⟨(show vk_R "DrawingHouseModel" 1288 "node " (kB (5000 + 13)) s by rw [ea13]; exact hR13.2), List.forall_mem_cons.mpr ⟨(show vk_R "DrawingHouseModel" 1296 " [size=" (kB (5000 + 14)) s by rw [ea14]; exact hR14.2), List.forall_mem_cons.mpr ⟨(show vk_R "DrawingHouseModel" 1301 "]" (kB (5000 + 45)) s by rw [ea45]; exact hR45), List.forall_mem_cons.mpr ⟨(show vk_R "DrawingHouseModel" 1303 ";\n" (kB (5000 + 15)) s by rw [ea15]; exact hR15.2), List.forall_mem_cons.mpr ⟨(show vk_R "DrawingHouseModel" 1305 "group " (kB (5000 + 16)) s by rw [ea16]; exact hR16.2), List.forall_mem_cons.mpr ⟨(show vk_R "DrawingHouseModel" 1307 " {\n" (kB (5000 + 17)) s by rw [ea17]; exact hR17.2), List.forall_mem_cons.mpr ⟨(show vk_R "DrawingHouseModel" 1312 "}\n" (kB (5000 + 18)) s by rw [ea18]; exact hR18.2), List.forall_mem_cons.mpr ⟨(show vk_R "DrawingHouseModel" 1314 " > " (kB (5000 + 19)) s by rw [ea19]; exact hR19.2), List.forall_mem_cons.mpr ⟨(show vk_R "DrawingHouseModel" 1316 " - " (kB (5000 + 20)) s by rw [ea20]; exact hR20.2), List.forall_mem_cons.mpr ⟨(show vk_R "DrawingHouseModel" 1318 " [weight=" (kB (5000 + 21)) s by rw [ea21]; exact hR21.2), fun _ h => by cases h⟩⟩⟩⟩⟩⟩⟩⟩⟩⟩⟩⟩⟩⟩⟩⟩⟩⟩⟩⟩⟩⟩⟩⟩⟩⟩⟩⟩⟩⟩⟩⟩⟩⟩⟩⟩⟩⟩⟩⟩⟩⟩⟩⟩⟩⟩⟩⟩⟩⟩⟩⟩⟩⟩⟩⟩⟩⟩⟩
  · rcases hF with hF | ⟨t, hF⟩
    · exact ⟨.null, Or.inl rfl, hF⟩
    · exact ⟨.ref t, Or.inr ⟨t, rfl⟩, hF⟩
end
