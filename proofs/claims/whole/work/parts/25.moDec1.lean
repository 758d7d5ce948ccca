theorem wm_2413 : (Cond.code ({ cls := "DrawingHouseModel", name := "<init>", desc := "()V" } : MethodName) prog_15_method_1_code (2 : Nat) (Option.none : Option ClassFile.FieldType) : Cond) ∈ lw_g := lw_gi (lw_c11 (List.mem_of_getElem? (i := 13) rfl)) rfl
theorem wm_2414 : (Cond.methodLink "DrawingHouseModel" (3 : Nat) ({ cls := "java/lang/Object", name := "<init>", desc := "()V" } : MethodName) : Cond) ∈ lw_g := lw_gi (lw_c11 (List.mem_of_getElem? (i := 14) rfl)) rfl
theorem wm_2415 : (Cond.constant "DrawingHouseModel" (15 : Nat) (66836 : Int32) : Cond) ∈ lw_g := lw_gi (lw_c11 (List.mem_of_getElem? (i := 15) rfl)) rfl
theorem wm_2416 : (Cond.constant "DrawingHouseModel" (252 : Nat) (54720 : Int32) : Cond) ∈ lw_g := lw_gi (lw_c11 (List.mem_of_getElem? (i := 16) rfl)) rfl
theorem wm_2417 : (Cond.constant "DrawingHouseModel" (320 : Nat) (96040 : Int32) : Cond) ∈ lw_g := lw_gi (lw_c11 (List.mem_of_getElem? (i := 17) rfl)) rfl
theorem wm_2418 : (Cond.methodLink "DrawingHouseModel" (372 : Nat) ({ cls := "DrawingHouseModel", name := "rowOf", desc := "(II)I" } : MethodName) : Cond) ∈ lw_g := lw_gi (lw_c11 (List.mem_of_getElem? (i := 18) rfl)) rfl
theorem wm_2419 : (Cond.static ({ cls := "DrawingHouseModel", name := "rowOf", desc := "(II)I" } : MethodName) : Cond) ∈ lw_g := lw_gi (lw_c11 (List.mem_of_getElem? (i := 19) rfl)) rfl
theorem wm_2421 : (Cond.methodLink "DrawingHouseModel" (376 : Nat) ({ cls := "DrawingHouseModel", name := "clear", desc := "(I)V" } : MethodName) : Cond) ∈ lw_g := lw_gi (lw_c11 (List.mem_of_getElem? (i := 21) rfl)) rfl
theorem wm_2423 : (Cond.instanceMethod ({ cls := "DrawingHouseModel", name := "clear", desc := "(I)V" } : MethodName) : Cond) ∈ lw_g := lw_gi (lw_c11 (List.mem_of_getElem? (i := 23) rfl)) rfl
theorem wm_2425 : (Cond.methodLink "DrawingHouseModel" (380 : Nat) ({ cls := "DrawingHouseModel", name := "permutations", desc := "()V" } : MethodName) : Cond) ∈ lw_g := lw_gi (lw_c11 (List.mem_of_getElem? (i := 25) rfl)) rfl
theorem wm_2427 : (Cond.instanceMethod ({ cls := "DrawingHouseModel", name := "permutations", desc := "()V" } : MethodName) : Cond) ∈ lw_g := lw_gi (lw_c11 (List.mem_of_getElem? (i := 27) rfl)) rfl
theorem wm_2434 : (Cond.fieldLink "DrawingHouseModel" (9 : Nat) "DrawingHouseModel" "tape" "[B" : Cond) ∈ lw_g := lw_gi (lw_c11 (List.mem_of_getElem? (i := 34) rfl)) rfl
theorem wm_2436 : (Cond.fieldLink "DrawingHouseModel" (20 : Nat) "DrawingHouseModel" "now" "[I" : Cond) ∈ lw_g := lw_gi (lw_c11 (List.mem_of_getElem? (i := 36) rfl)) rfl
theorem wm_2437 : (Cond.fieldLink "DrawingHouseModel" (23 : Nat) "DrawingHouseModel" "latest" "[I" : Cond) ∈ lw_g := lw_gi (lw_c11 (List.mem_of_getElem? (i := 37) rfl)) rfl
theorem wm_2439 : (Cond.fieldLink "DrawingHouseModel" (26 : Nat) "DrawingHouseModel" "fresh" "[I" : Cond) ∈ lw_g := lw_gi (lw_c11 (List.mem_of_getElem? (i := 39) rfl)) rfl
theorem wm_2449 : (Cond.fieldLink "DrawingHouseModel" (29 : Nat) "DrawingHouseModel" "partOf" "[I" : Cond) ∈ lw_g := lw_gi (lw_c11 (List.mem_of_getElem? (i := 49) rfl)) rfl
theorem wm_2450 : (Cond.fieldLink "DrawingHouseModel" (32 : Nat) "DrawingHouseModel" "blockOf" "[I" : Cond) ∈ lw_g := lw_gi (lw_c11 (List.mem_of_getElem? (i := 50) rfl)) rfl
theorem wm_2451 : (Cond.fieldLink "DrawingHouseModel" (35 : Nat) "DrawingHouseModel" "strongOf" "[I" : Cond) ∈ lw_g := lw_gi (lw_c11 (List.mem_of_getElem? (i := 51) rfl)) rfl
theorem wm_2452 : (Cond.fieldLink "DrawingHouseModel" (38 : Nat) "DrawingHouseModel" "farOf" "[I" : Cond) ∈ lw_g := lw_gi (lw_c11 (List.mem_of_getElem? (i := 52) rfl)) rfl
theorem wm_2453 : (Cond.fieldLink "DrawingHouseModel" (41 : Nat) "DrawingHouseModel" "line" "[I" : Cond) ∈ lw_g := lw_gi (lw_c11 (List.mem_of_getElem? (i := 53) rfl)) rfl
theorem wm_2454 : (Cond.fieldLink "DrawingHouseModel" (44 : Nat) "DrawingHouseModel" "reach" "[Z" : Cond) ∈ lw_g := lw_gi (lw_c11 (List.mem_of_getElem? (i := 54) rfl)) rfl
theorem wm_2455 : (Cond.fieldLink "DrawingHouseModel" (48 : Nat) "DrawingHouseModel" "left" "[Z" : Cond) ∈ lw_g := lw_gi (lw_c11 (List.mem_of_getElem? (i := 55) rfl)) rfl
theorem wm_2456 : (Cond.fieldLink "DrawingHouseModel" (51 : Nat) "DrawingHouseModel" "map" "[I" : Cond) ∈ lw_g := lw_gi (lw_c11 (List.mem_of_getElem? (i := 56) rfl)) rfl
theorem wm_2457 : (Cond.fieldLink "DrawingHouseModel" (54 : Nat) "DrawingHouseModel" "mapTried" "[I" : Cond) ∈ lw_g := lw_gi (lw_c11 (List.mem_of_getElem? (i := 57) rfl)) rfl
theorem wm_2466 : (Cond.fieldLink "DrawingHouseModel" (57 : Nat) "DrawingHouseModel" "pt" "[I" : Cond) ∈ lw_g := lw_gi (lw_c11 (List.mem_of_getElem? (i := 66) rfl)) rfl
theorem wm_2467 : (Cond.fieldLink "DrawingHouseModel" (60 : Nat) "DrawingHouseModel" "ph" "[I" : Cond) ∈ lw_g := lw_gi (lw_c11 (List.mem_of_getElem? (i := 67) rfl)) rfl
theorem wm_2468 : (Cond.fieldLink "DrawingHouseModel" (63 : Nat) "DrawingHouseModel" "alive" "[Z" : Cond) ∈ lw_g := lw_gi (lw_c11 (List.mem_of_getElem? (i := 68) rfl)) rfl
theorem wm_2469 : (Cond.fieldLink "DrawingHouseModel" (66 : Nat) "DrawingHouseModel" "rotMany" "[I" : Cond) ∈ lw_g := lw_gi (lw_c11 (List.mem_of_getElem? (i := 69) rfl)) rfl
theorem wm_2470 : (Cond.fieldLink "DrawingHouseModel" (69 : Nat) "DrawingHouseModel" "rot" "[I" : Cond) ∈ lw_g := lw_gi (lw_c11 (List.mem_of_getElem? (i := 70) rfl)) rfl
theorem wm_2471 : (Cond.fieldLink "DrawingHouseModel" (72 : Nat) "DrawingHouseModel" "seen" "[Z" : Cond) ∈ lw_g := lw_gi (lw_c11 (List.mem_of_getElem? (i := 71) rfl)) rfl
theorem wm_2473 : (Cond.fieldLink "DrawingHouseModel" (75 : Nat) "DrawingHouseModel" "faceMany" "[I" : Cond) ∈ lw_g := lw_gi (lw_c11 (List.mem_of_getElem? (i := 73) rfl)) rfl
theorem wm_2474 : (Cond.fieldLink "DrawingHouseModel" (78 : Nat) "DrawingHouseModel" "face" "[I" : Cond) ∈ lw_g := lw_gi (lw_c11 (List.mem_of_getElem? (i := 74) rfl)) rfl
theorem wm_2475 : (Cond.fieldLink "DrawingHouseModel" (81 : Nat) "DrawingHouseModel" "drawnNode" "[Z" : Cond) ∈ lw_g := lw_gi (lw_c11 (List.mem_of_getElem? (i := 75) rfl)) rfl
theorem wm_2476 : (Cond.fieldLink "DrawingHouseModel" (84 : Nat) "DrawingHouseModel" "drawnEdge" "[Z" : Cond) ∈ lw_g := lw_gi (lw_c11 (List.mem_of_getElem? (i := 76) rfl)) rfl
theorem wm_2477 : (Cond.fieldLink "DrawingHouseModel" (87 : Nat) "DrawingHouseModel" "pieceOf" "[I" : Cond) ∈ lw_g := lw_gi (lw_c11 (List.mem_of_getElem? (i := 77) rfl)) rfl
theorem wm_2479 : (Cond.fieldLink "DrawingHouseModel" (90 : Nat) "DrawingHouseModel" "way" "[I" : Cond) ∈ lw_g := lw_gi (lw_c11 (List.mem_of_getElem? (i := 79) rfl)) rfl
theorem wm_2480 : (Cond.fieldLink "DrawingHouseModel" (93 : Nat) "DrawingHouseModel" "toGoal" "[I" : Cond) ∈ lw_g := lw_gi (lw_c11 (List.mem_of_getElem? (i := 80) rfl)) rfl
theorem wm_2482 : (Cond.fieldLink "DrawingHouseModel" (96 : Nat) "DrawingHouseModel" "ends" "[I" : Cond) ∈ lw_g := lw_gi (lw_c11 (List.mem_of_getElem? (i := 82) rfl)) rfl
theorem wm_2483 : (Cond.fieldLink "DrawingHouseModel" (99 : Nat) "DrawingHouseModel" "faceNodes" "[I" : Cond) ∈ lw_g := lw_gi (lw_c11 (List.mem_of_getElem? (i := 83) rfl)) rfl
theorem wm_2484 : (Cond.fieldLink "DrawingHouseModel" (102 : Nat) "DrawingHouseModel" "bestWay" "[I" : Cond) ∈ lw_g := lw_gi (lw_c11 (List.mem_of_getElem? (i := 84) rfl)) rfl
theorem wm_2486 : (Cond.fieldLink "DrawingHouseModel" (105 : Nat) "DrawingHouseModel" "roundOf" "[I" : Cond) ∈ lw_g := lw_gi (lw_c11 (List.mem_of_getElem? (i := 86) rfl)) rfl
theorem wm_2487 : (Cond.fieldLink "DrawingHouseModel" (108 : Nat) "DrawingHouseModel" "dartAt" "[I" : Cond) ∈ lw_g := lw_gi (lw_c11 (List.mem_of_getElem? (i := 87) rfl)) rfl
theorem wm_2488 : (Cond.fieldLink "DrawingHouseModel" (111 : Nat) "DrawingHouseModel" "roundBegin" "[I" : Cond) ∈ lw_g := lw_gi (lw_c11 (List.mem_of_getElem? (i := 88) rfl)) rfl
theorem wm_2489 : (Cond.fieldLink "DrawingHouseModel" (114 : Nat) "DrawingHouseModel" "roundDart" "[I" : Cond) ∈ lw_g := lw_gi (lw_c11 (List.mem_of_getElem? (i := 89) rfl)) rfl
theorem wm_2492 : (Cond.fieldLink "DrawingHouseModel" (117 : Nat) "DrawingHouseModel" "barred" "[I" : Cond) ∈ lw_g := lw_gi (lw_c11 (List.mem_of_getElem? (i := 92) rfl)) rfl
theorem wm_2493 : (Cond.fieldLink "DrawingHouseModel" (120 : Nat) "DrawingHouseModel" "drawn" "[I" : Cond) ∈ lw_g := lw_gi (lw_c11 (List.mem_of_getElem? (i := 93) rfl)) rfl
theorem wm_2494 : (Cond.fieldLink "DrawingHouseModel" (123 : Nat) "DrawingHouseModel" "nodeX" "[I" : Cond) ∈ lw_g := lw_gi (lw_c11 (List.mem_of_getElem? (i := 94) rfl)) rfl
theorem wm_2495 : (Cond.fieldLink "DrawingHouseModel" (126 : Nat) "DrawingHouseModel" "nodeY" "[I" : Cond) ∈ lw_g := lw_gi (lw_c11 (List.mem_of_getElem? (i := 95) rfl)) rfl
theorem wm_2496 : (Cond.fieldLink "DrawingHouseModel" (129 : Nat) "DrawingHouseModel" "bendMany" "[I" : Cond) ∈ lw_g := lw_gi (lw_c11 (List.mem_of_getElem? (i := 96) rfl)) rfl
theorem wm_2497 : (Cond.fieldLink "DrawingHouseModel" (132 : Nat) "DrawingHouseModel" "bendX" "[I" : Cond) ∈ lw_g := lw_gi (lw_c11 (List.mem_of_getElem? (i := 97) rfl)) rfl
theorem wm_2498 : (Cond.fieldLink "DrawingHouseModel" (135 : Nat) "DrawingHouseModel" "bendY" "[I" : Cond) ∈ lw_g := lw_gi (lw_c11 (List.mem_of_getElem? (i := 98) rfl)) rfl
theorem wm_2499 : (Cond.fieldLink "DrawingHouseModel" (138 : Nat) "DrawingHouseModel" "toldCross" "[I" : Cond) ∈ lw_g := lw_gi (lw_c11 (List.mem_of_getElem? (i := 99) rfl)) rfl
theorem wm_2500 : (Cond.fieldLink "DrawingHouseModel" (141 : Nat) "DrawingHouseModel" "toldSum" "[I" : Cond) ∈ lw_g := lw_gi (lw_c11 (List.mem_of_getElem? (i := 100) rfl)) rfl
theorem wm_2501 : (Cond.fieldLink "DrawingHouseModel" (144 : Nat) "DrawingHouseModel" "toldLayer" "[I" : Cond) ∈ lw_g := lw_gi (lw_c11 (List.mem_of_getElem? (i := 101) rfl)) rfl
theorem wm_2502 : (Cond.fieldLink "DrawingHouseModel" (147 : Nat) "DrawingHouseModel" "toldTurned" "[I" : Cond) ∈ lw_g := lw_gi (lw_c11 (List.mem_of_getElem? (i := 102) rfl)) rfl
theorem wm_2503 : (Cond.fieldLink "DrawingHouseModel" (150 : Nat) "DrawingHouseModel" "toldArea" "[I" : Cond) ∈ lw_g := lw_gi (lw_c11 (List.mem_of_getElem? (i := 103) rfl)) rfl
theorem wm_2504 : (Cond.fieldLink "DrawingHouseModel" (153 : Nat) "DrawingHouseModel" "toldGroup" "[I" : Cond) ∈ lw_g := lw_gi (lw_c11 (List.mem_of_getElem? (i := 104) rfl)) rfl
theorem wm_2505 : (Cond.fieldLink "DrawingHouseModel" (156 : Nat) "DrawingHouseModel" "shades" "[I" : Cond) ∈ lw_g := lw_gi (lw_c11 (List.mem_of_getElem? (i := 105) rfl)) rfl
theorem wm_2506 : (Cond.fieldLink "DrawingHouseModel" (159 : Nat) "DrawingHouseModel" "nx" "[I" : Cond) ∈ lw_g := lw_gi (lw_c11 (List.mem_of_getElem? (i := 106) rfl)) rfl
theorem wm_2507 : (Cond.fieldLink "DrawingHouseModel" (162 : Nat) "DrawingHouseModel" "ny" "[I" : Cond) ∈ lw_g := lw_gi (lw_c11 (List.mem_of_getElem? (i := 107) rfl)) rfl
theorem wm_2508 : (Cond.fieldLink "DrawingHouseModel" (165 : Nat) "DrawingHouseModel" "bm" "[I" : Cond) ∈ lw_g := lw_gi (lw_c11 (List.mem_of_getElem? (i := 108) rfl)) rfl
theorem wm_2509 : (Cond.fieldLink "DrawingHouseModel" (168 : Nat) "DrawingHouseModel" "bx" "[I" : Cond) ∈ lw_g := lw_gi (lw_c11 (List.mem_of_getElem? (i := 109) rfl)) rfl
theorem wm_2510 : (Cond.fieldLink "DrawingHouseModel" (171 : Nat) "DrawingHouseModel" "by" "[I" : Cond) ∈ lw_g := lw_gi (lw_c11 (List.mem_of_getElem? (i := 110) rfl)) rfl
theorem wm_2514 : (Cond.fieldLink "DrawingHouseModel" (174 : Nat) "DrawingHouseModel" "spot" "[I" : Cond) ∈ lw_g := lw_gi (lw_c11 (List.mem_of_getElem? (i := 114) rfl)) rfl
theorem wm_2515 : (Cond.fieldLink "DrawingHouseModel" (177 : Nat) "DrawingHouseModel" "costA" "[I" : Cond) ∈ lw_g := lw_gi (lw_c11 (List.mem_of_getElem? (i := 115) rfl)) rfl
theorem wm_2516 : (Cond.fieldLink "DrawingHouseModel" (180 : Nat) "DrawingHouseModel" "costB" "[I" : Cond) ∈ lw_g := lw_gi (lw_c11 (List.mem_of_getElem? (i := 116) rfl)) rfl
theorem wm_2517 : (Cond.fieldLink "DrawingHouseModel" (183 : Nat) "DrawingHouseModel" "costW" "[I" : Cond) ∈ lw_g := lw_gi (lw_c11 (List.mem_of_getElem? (i := 117) rfl)) rfl
theorem wm_2518 : (Cond.fieldLink "DrawingHouseModel" (186 : Nat) "DrawingHouseModel" "costPlain" "[Z" : Cond) ∈ lw_g := lw_gi (lw_c11 (List.mem_of_getElem? (i := 118) rfl)) rfl
theorem wm_2519 : (Cond.fieldLink "DrawingHouseModel" (189 : Nat) "DrawingHouseModel" "apartA" "[I" : Cond) ∈ lw_g := lw_gi (lw_c11 (List.mem_of_getElem? (i := 119) rfl)) rfl
theorem wm_2520 : (Cond.fieldLink "DrawingHouseModel" (192 : Nat) "DrawingHouseModel" "apartB" "[I" : Cond) ∈ lw_g := lw_gi (lw_c11 (List.mem_of_getElem? (i := 120) rfl)) rfl
theorem wm_2521 : (Cond.fieldLink "DrawingHouseModel" (195 : Nat) "DrawingHouseModel" "apart" "[I" : Cond) ∈ lw_g := lw_gi (lw_c11 (List.mem_of_getElem? (i := 121) rfl)) rfl
theorem wm_2522 : (Cond.fieldLink "DrawingHouseModel" (198 : Nat) "DrawingHouseModel" "flow" "[I" : Cond) ∈ lw_g := lw_gi (lw_c11 (List.mem_of_getElem? (i := 122) rfl)) rfl
theorem wm_2523 : (Cond.fieldLink "DrawingHouseModel" (201 : Nat) "DrawingHouseModel" "cameBy" "[I" : Cond) ∈ lw_g := lw_gi (lw_c11 (List.mem_of_getElem? (i := 123) rfl)) rfl
theorem wm_2524 : (Cond.fieldLink "DrawingHouseModel" (204 : Nat) "DrawingHouseModel" "queue" "[I" : Cond) ∈ lw_g := lw_gi (lw_c11 (List.mem_of_getElem? (i := 124) rfl)) rfl
theorem wm_2525 : (Cond.fieldLink "DrawingHouseModel" (207 : Nat) "DrawingHouseModel" "goes" "[I" : Cond) ∈ lw_g := lw_gi (lw_c11 (List.mem_of_getElem? (i := 125) rfl)) rfl
theorem wm_2527 : (Cond.fieldLink "DrawingHouseModel" (210 : Nat) "DrawingHouseModel" "turned" "[Z" : Cond) ∈ lw_g := lw_gi (lw_c11 (List.mem_of_getElem? (i := 127) rfl)) rfl
theorem wm_2529 : (Cond.fieldLink "DrawingHouseModel" (216 : Nat) "DrawingHouseModel" "best" "[I" : Cond) ∈ lw_g := lw_gi (lw_c11 (List.mem_of_getElem? (i := 129) rfl)) rfl
theorem wm_2530 : (Cond.fieldLink "DrawingHouseModel" (219 : Nat) "DrawingHouseModel" "member" "[I" : Cond) ∈ lw_g := lw_gi (lw_c11 (List.mem_of_getElem? (i := 130) rfl)) rfl
theorem wm_2534 : (Cond.fieldLink "DrawingHouseModel" (222 : Nat) "DrawingHouseModel" "itemLayer" "[I" : Cond) ∈ lw_g := lw_gi (lw_c11 (List.mem_of_getElem? (i := 134) rfl)) rfl
theorem wm_2535 : (Cond.fieldLink "DrawingHouseModel" (225 : Nat) "DrawingHouseModel" "itemEdge" "[I" : Cond) ∈ lw_g := lw_gi (lw_c11 (List.mem_of_getElem? (i := 135) rfl)) rfl
theorem wm_2536 : (Cond.fieldLink "DrawingHouseModel" (228 : Nat) "DrawingHouseModel" "firstJoint" "[I" : Cond) ∈ lw_g := lw_gi (lw_c11 (List.mem_of_getElem? (i := 136) rfl)) rfl
theorem wm_2537 : (Cond.fieldLink "DrawingHouseModel" (231 : Nat) "DrawingHouseModel" "layerSize" "[I" : Cond) ∈ lw_g := lw_gi (lw_c11 (List.mem_of_getElem? (i := 137) rfl)) rfl
theorem wm_2538 : (Cond.fieldLink "DrawingHouseModel" (234 : Nat) "DrawingHouseModel" "layerItem" "[I" : Cond) ∈ lw_g := lw_gi (lw_c11 (List.mem_of_getElem? (i := 138) rfl)) rfl
theorem wm_2540 : (Cond.fieldLink "DrawingHouseModel" (237 : Nat) "DrawingHouseModel" "lineA" "[I" : Cond) ∈ lw_g := lw_gi (lw_c11 (List.mem_of_getElem? (i := 140) rfl)) rfl
theorem wm_2541 : (Cond.fieldLink "DrawingHouseModel" (240 : Nat) "DrawingHouseModel" "lineB" "[I" : Cond) ∈ lw_g := lw_gi (lw_c11 (List.mem_of_getElem? (i := 141) rfl)) rfl
theorem wm_2545 : (Cond.fieldLink "DrawingHouseModel" (253 : Nat) "DrawingHouseModel" "rest" "[I" : Cond) ∈ lw_g := lw_gi (lw_c11 (List.mem_of_getElem? (i := 145) rfl)) rfl
theorem wm_2546 : (Cond.fieldLink "DrawingHouseModel" (256 : Nat) "DrawingHouseModel" "worse" "[I" : Cond) ∈ lw_g := lw_gi (lw_c11 (List.mem_of_getElem? (i := 146) rfl)) rfl
theorem wm_2547 : (Cond.fieldLink "DrawingHouseModel" (259 : Nat) "DrawingHouseModel" "listed" "[I" : Cond) ∈ lw_g := lw_gi (lw_c11 (List.mem_of_getElem? (i := 147) rfl)) rfl
theorem wm_2548 : (Cond.fieldLink "DrawingHouseModel" (262 : Nat) "DrawingHouseModel" "inOrder" "[I" : Cond) ∈ lw_g := lw_gi (lw_c11 (List.mem_of_getElem? (i := 148) rfl)) rfl
theorem wm_2549 : (Cond.fieldLink "DrawingHouseModel" (265 : Nat) "DrawingHouseModel" "row" "[I" : Cond) ∈ lw_g := lw_gi (lw_c11 (List.mem_of_getElem? (i := 149) rfl)) rfl
theorem wm_2550 : (Cond.fieldLink "DrawingHouseModel" (268 : Nat) "DrawingHouseModel" "kept" "[I" : Cond) ∈ lw_g := lw_gi (lw_c11 (List.mem_of_getElem? (i := 150) rfl)) rfl
theorem wm_2551 : (Cond.fieldLink "DrawingHouseModel" (271 : Nat) "DrawingHouseModel" "meanA" "[J" : Cond) ∈ lw_g := lw_gi (lw_c11 (List.mem_of_getElem? (i := 151) rfl)) rfl
theorem wm_2552 : (Cond.fieldLink "DrawingHouseModel" (275 : Nat) "DrawingHouseModel" "meanB" "[J" : Cond) ∈ lw_g := lw_gi (lw_c11 (List.mem_of_getElem? (i := 152) rfl)) rfl
theorem wm_2554 : (Cond.fieldLink "DrawingHouseModel" (278 : Nat) "DrawingHouseModel" "upperNode" "[I" : Cond) ∈ lw_g := lw_gi (lw_c11 (List.mem_of_getElem? (i := 154) rfl)) rfl
theorem wm_2555 : (Cond.fieldLink "DrawingHouseModel" (281 : Nat) "DrawingHouseModel" "under" "[I" : Cond) ∈ lw_g := lw_gi (lw_c11 (List.mem_of_getElem? (i := 155) rfl)) rfl
theorem wm_2556 : (Cond.fieldLink "DrawingHouseModel" (284 : Nat) "DrawingHouseModel" "number" "[I" : Cond) ∈ lw_g := lw_gi (lw_c11 (List.mem_of_getElem? (i := 156) rfl)) rfl
theorem wm_2558 : (Cond.fieldLink "DrawingHouseModel" (287 : Nat) "DrawingHouseModel" "toldNumber" "[I" : Cond) ∈ lw_g := lw_gi (lw_c11 (List.mem_of_getElem? (i := 158) rfl)) rfl
theorem wm_2559 : (Cond.fieldLink "DrawingHouseModel" (290 : Nat) "DrawingHouseModel" "above" "[I" : Cond) ∈ lw_g := lw_gi (lw_c11 (List.mem_of_getElem? (i := 159) rfl)) rfl
theorem wm_2560 : (Cond.fieldLink "DrawingHouseModel" (293 : Nat) "DrawingHouseModel" "level" "[I" : Cond) ∈ lw_g := lw_gi (lw_c11 (List.mem_of_getElem? (i := 160) rfl)) rfl
theorem wm_2561 : (Cond.fieldLink "DrawingHouseModel" (296 : Nat) "DrawingHouseModel" "root" "[I" : Cond) ∈ lw_g := lw_gi (lw_c11 (List.mem_of_getElem? (i := 161) rfl)) rfl
theorem wm_2562 : (Cond.fieldLink "DrawingHouseModel" (299 : Nat) "DrawingHouseModel" "itemOf" "[I" : Cond) ∈ lw_g := lw_gi (lw_c11 (List.mem_of_getElem? (i := 162) rfl)) rfl
theorem wm_2563 : (Cond.fieldLink "DrawingHouseModel" (302 : Nat) "DrawingHouseModel" "itemSize" "[I" : Cond) ∈ lw_g := lw_gi (lw_c11 (List.mem_of_getElem? (i := 163) rfl)) rfl
theorem wm_2567 : (Cond.fieldLink "DrawingHouseModel" (305 : Nat) "DrawingHouseModel" "fx" "[J" : Cond) ∈ lw_g := lw_gi (lw_c11 (List.mem_of_getElem? (i := 167) rfl)) rfl
theorem wm_2568 : (Cond.fieldLink "DrawingHouseModel" (308 : Nat) "DrawingHouseModel" "fy" "[J" : Cond) ∈ lw_g := lw_gi (lw_c11 (List.mem_of_getElem? (i := 168) rfl)) rfl
theorem wm_2569 : (Cond.fieldLink "DrawingHouseModel" (311 : Nat) "DrawingHouseModel" "wx" "[J" : Cond) ∈ lw_g := lw_gi (lw_c11 (List.mem_of_getElem? (i := 169) rfl)) rfl
theorem wm_2570 : (Cond.fieldLink "DrawingHouseModel" (314 : Nat) "DrawingHouseModel" "wy" "[J" : Cond) ∈ lw_g := lw_gi (lw_c11 (List.mem_of_getElem? (i := 170) rfl)) rfl
theorem wm_2572 : (Cond.fieldLink "DrawingHouseModel" (317 : Nat) "DrawingHouseModel" "costOf" "[I" : Cond) ∈ lw_g := lw_gi (lw_c11 (List.mem_of_getElem? (i := 172) rfl)) rfl
theorem wm_2573 : (Cond.fieldLink "DrawingHouseModel" (321 : Nat) "DrawingHouseModel" "bucket" "[I" : Cond) ∈ lw_g := lw_gi (lw_c11 (List.mem_of_getElem? (i := 173) rfl)) rfl
theorem wm_2574 : (Cond.fieldLink "DrawingHouseModel" (324 : Nat) "DrawingHouseModel" "bucketMany" "[I" : Cond) ∈ lw_g := lw_gi (lw_c11 (List.mem_of_getElem? (i := 174) rfl)) rfl
theorem wm_2575 : (Cond.fieldLink "DrawingHouseModel" (327 : Nat) "DrawingHouseModel" "barredPoint" "[Z" : Cond) ∈ lw_g := lw_gi (lw_c11 (List.mem_of_getElem? (i := 175) rfl)) rfl
theorem wm_2580 : (Cond.fieldLink "DrawingHouseModel" (330 : Nat) "DrawingHouseModel" "turnX" "[I" : Cond) ∈ lw_g := lw_gi (lw_c11 (List.mem_of_getElem? (i := 180) rfl)) rfl
theorem wm_2581 : (Cond.fieldLink "DrawingHouseModel" (333 : Nat) "DrawingHouseModel" "turnY" "[I" : Cond) ∈ lw_g := lw_gi (lw_c11 (List.mem_of_getElem? (i := 181) rfl)) rfl
theorem wm_2583 : (Cond.fieldLink "DrawingHouseModel" (336 : Nat) "DrawingHouseModel" "labelX" "[I" : Cond) ∈ lw_g := lw_gi (lw_c11 (List.mem_of_getElem? (i := 183) rfl)) rfl
theorem wm_2584 : (Cond.fieldLink "DrawingHouseModel" (339 : Nat) "DrawingHouseModel" "labelY" "[I" : Cond) ∈ lw_g := lw_gi (lw_c11 (List.mem_of_getElem? (i := 184) rfl)) rfl
theorem wm_2592 : (Cond.fieldLink "DrawingHouseModel" (342 : Nat) "DrawingHouseModel" "tokenKind" "[I" : Cond) ∈ lw_g := lw_gi (lw_c11 (List.mem_of_getElem? (i := 192) rfl)) rfl
theorem wm_2593 : (Cond.fieldLink "DrawingHouseModel" (345 : Nat) "DrawingHouseModel" "tokenValue" "[J" : Cond) ∈ lw_g := lw_gi (lw_c11 (List.mem_of_getElem? (i := 193) rfl)) rfl
theorem wm_2594 : (Cond.fieldLink "DrawingHouseModel" (348 : Nat) "DrawingHouseModel" "tokenPlace" "[I" : Cond) ∈ lw_g := lw_gi (lw_c11 (List.mem_of_getElem? (i := 194) rfl)) rfl
theorem wm_2595 : (Cond.fieldLink "DrawingHouseModel" (351 : Nat) "DrawingHouseModel" "tokenEnd" "[I" : Cond) ∈ lw_g := lw_gi (lw_c11 (List.mem_of_getElem? (i := 195) rfl)) rfl
theorem wm_2598 : (Cond.fieldLink "DrawingHouseModel" (354 : Nat) "DrawingHouseModel" "partOfBlocks" "[I" : Cond) ∈ lw_g := lw_gi (lw_c11 (List.mem_of_getElem? (i := 198) rfl)) rfl
theorem wm_2599 : (Cond.fieldLink "DrawingHouseModel" (357 : Nat) "DrawingHouseModel" "coreOf" "[I" : Cond) ∈ lw_g := lw_gi (lw_c11 (List.mem_of_getElem? (i := 199) rfl)) rfl
theorem wm_2600 : (Cond.fieldLink "DrawingHouseModel" (360 : Nat) "DrawingHouseModel" "turnedNow" "[Z" : Cond) ∈ lw_g := lw_gi (lw_c11 (List.mem_of_getElem? (i := 200) rfl)) rfl
theorem wm_2603 : (Cond.fieldLink "DrawingHouseModel" (363 : Nat) "DrawingHouseModel" "octet" "[B" : Cond) ∈ lw_g := lw_gi (lw_c11 (List.mem_of_getElem? (i := 203) rfl)) rfl
theorem wm_2604 : (Cond.fieldLink "DrawingHouseModel" (366 : Nat) "DrawingHouseModel" "written" "[B" : Cond) ∈ lw_g := lw_gi (lw_c11 (List.mem_of_getElem? (i := 204) rfl)) rfl
theorem wm_2607 : (Cond.fieldLink "DrawingHouseModel" (369 : Nat) "DrawingHouseModel" "dots" "[I" : Cond) ∈ lw_g := lw_gi (lw_c11 (List.mem_of_getElem? (i := 207) rfl)) rfl
theorem wv_12_8 : (Cond.selects "DrawingHouseModel" ⟨"DrawingHouseModel", "clear", "(I)V"⟩ ⟨"DrawingHouseModel", "clear", "(I)V"⟩ : Cond) ∈ lw_g := lw_gi (List.mem_append_left _ (List.mem_map.mpr ⟨_, lw_v12 (List.mem_of_getElem? (i := 8) rfl), rfl⟩)) rfl
theorem wv_12_9 : (Cond.selects "DrawingHouseModel" ⟨"DrawingHouseModel", "permutations", "()V"⟩ ⟨"DrawingHouseModel", "permutations", "()V"⟩ : Cond) ∈ lw_g := lw_gi (List.mem_append_left _ (List.mem_map.mpr ⟨_, lw_v12 (List.mem_of_getElem? (i := 9) rfl), rfl⟩)) rfl
abbrev b_Mo_init : ByteArray := prog_15_method_1_code
def y_Mo_init : MethodName := ⟨"DrawingHouseModel", "<init>", "()V"⟩
abbrev z_Mo_init : List Cond := Cond.code y_Mo_init b_Mo_init 2 none :: lw_g
theorem d_Mo_init_0 : decode b_Mo_init 0 = .ok (.aload_n 0, 1) := by decide +kernel
theorem d_Mo_init_1 : decode b_Mo_init 1 = .ok (.invokespecial 3, 3) := by decide +kernel
theorem d_Mo_init_4 : decode b_Mo_init 4 = .ok (.aload_n 0, 1) := by decide +kernel
theorem d_Mo_init_5 : decode b_Mo_init 5 = .ok (.sipush 2000, 3) := by decide +kernel
theorem d_Mo_init_8 : decode b_Mo_init 8 = .ok (.newarray .byte, 2) := by decide +kernel
theorem d_Mo_init_10 : decode b_Mo_init 10 = .ok (.putfield 9, 3) := by decide +kernel
theorem d_Mo_init_13 : decode b_Mo_init 13 = .ok (.aload_n 0, 1) := by decide +kernel
theorem d_Mo_init_14 : decode b_Mo_init 14 = .ok (.ldc 15, 2) := by decide +kernel
theorem d_Mo_init_16 : decode b_Mo_init 16 = .ok (.newarray .int, 2) := by decide +kernel
theorem d_Mo_init_18 : decode b_Mo_init 18 = .ok (.putfield 16, 3) := by decide +kernel
theorem d_Mo_init_21 : decode b_Mo_init 21 = .ok (.aload_n 0, 1) := by decide +kernel
theorem d_Mo_init_22 : decode b_Mo_init 22 = .ok (.iconst 4, 1) := by decide +kernel
theorem d_Mo_init_23 : decode b_Mo_init 23 = .ok (.newarray .int, 2) := by decide +kernel
theorem d_Mo_init_25 : decode b_Mo_init 25 = .ok (.putfield 20, 3) := by decide +kernel
theorem d_Mo_init_28 : decode b_Mo_init 28 = .ok (.aload_n 0, 1) := by decide +kernel
theorem d_Mo_init_29 : decode b_Mo_init 29 = .ok (.iconst 4, 1) := by decide +kernel
theorem d_Mo_init_30 : decode b_Mo_init 30 = .ok (.newarray .int, 2) := by decide +kernel
theorem d_Mo_init_32 : decode b_Mo_init 32 = .ok (.putfield 23, 3) := by decide +kernel
theorem d_Mo_init_35 : decode b_Mo_init 35 = .ok (.aload_n 0, 1) := by decide +kernel
theorem d_Mo_init_36 : decode b_Mo_init 36 = .ok (.sipush 539, 3) := by decide +kernel
theorem d_Mo_init_39 : decode b_Mo_init 39 = .ok (.newarray .int, 2) := by decide +kernel
theorem d_Mo_init_41 : decode b_Mo_init 41 = .ok (.putfield 26, 3) := by decide +kernel
theorem d_Mo_init_44 : decode b_Mo_init 44 = .ok (.aload_n 0, 1) := by decide +kernel
theorem d_Mo_init_45 : decode b_Mo_init 45 = .ok (.bipush 25, 2) := by decide +kernel
theorem d_Mo_init_47 : decode b_Mo_init 47 = .ok (.newarray .int, 2) := by decide +kernel
theorem d_Mo_init_49 : decode b_Mo_init 49 = .ok (.putfield 29, 3) := by decide +kernel
theorem d_Mo_init_52 : decode b_Mo_init 52 = .ok (.aload_n 0, 1) := by decide +kernel
theorem d_Mo_init_53 : decode b_Mo_init 53 = .ok (.bipush 80, 2) := by decide +kernel
theorem d_Mo_init_55 : decode b_Mo_init 55 = .ok (.newarray .int, 2) := by decide +kernel
theorem d_Mo_init_57 : decode b_Mo_init 57 = .ok (.putfield 32, 3) := by decide +kernel
theorem d_Mo_init_60 : decode b_Mo_init 60 = .ok (.aload_n 0, 1) := by decide +kernel
theorem d_Mo_init_61 : decode b_Mo_init 61 = .ok (.bipush 24, 2) := by decide +kernel
theorem d_Mo_init_63 : decode b_Mo_init 63 = .ok (.newarray .int, 2) := by decide +kernel
theorem d_Mo_init_65 : decode b_Mo_init 65 = .ok (.putfield 35, 3) := by decide +kernel
theorem d_Mo_init_68 : decode b_Mo_init 68 = .ok (.aload_n 0, 1) := by decide +kernel
theorem d_Mo_init_69 : decode b_Mo_init 69 = .ok (.bipush 25, 2) := by decide +kernel
theorem d_Mo_init_71 : decode b_Mo_init 71 = .ok (.newarray .int, 2) := by decide +kernel
theorem d_Mo_init_73 : decode b_Mo_init 73 = .ok (.putfield 38, 3) := by decide +kernel
theorem d_Mo_init_76 : decode b_Mo_init 76 = .ok (.aload_n 0, 1) := by decide +kernel
theorem d_Mo_init_77 : decode b_Mo_init 77 = .ok (.bipush 100, 2) := by decide +kernel
theorem d_Mo_init_79 : decode b_Mo_init 79 = .ok (.newarray .int, 2) := by decide +kernel
theorem d_Mo_init_81 : decode b_Mo_init 81 = .ok (.putfield 41, 3) := by decide +kernel
theorem d_Mo_init_84 : decode b_Mo_init 84 = .ok (.aload_n 0, 1) := by decide +kernel
theorem d_Mo_init_85 : decode b_Mo_init 85 = .ok (.sipush 576, 3) := by decide +kernel
theorem d_Mo_init_88 : decode b_Mo_init 88 = .ok (.newarray .boolean, 2) := by decide +kernel
theorem d_Mo_init_90 : decode b_Mo_init 90 = .ok (.putfield 44, 3) := by decide +kernel
theorem d_Mo_init_93 : decode b_Mo_init 93 = .ok (.aload_n 0, 1) := by decide +kernel
theorem d_Mo_init_94 : decode b_Mo_init 94 = .ok (.bipush 25, 2) := by decide +kernel
theorem d_Mo_init_96 : decode b_Mo_init 96 = .ok (.newarray .boolean, 2) := by decide +kernel
theorem d_Mo_init_98 : decode b_Mo_init 98 = .ok (.putfield 48, 3) := by decide +kernel
theorem d_Mo_init_101 : decode b_Mo_init 101 = .ok (.aload_n 0, 1) := by decide +kernel
theorem d_Mo_init_102 : decode b_Mo_init 102 = .ok (.bipush 24, 2) := by decide +kernel
theorem d_Mo_init_104 : decode b_Mo_init 104 = .ok (.newarray .int, 2) := by decide +kernel
theorem d_Mo_init_106 : decode b_Mo_init 106 = .ok (.putfield 51, 3) := by decide +kernel
theorem d_Mo_init_109 : decode b_Mo_init 109 = .ok (.aload_n 0, 1) := by decide +kernel
theorem d_Mo_init_110 : decode b_Mo_init 110 = .ok (.bipush 24, 2) := by decide +kernel
theorem d_Mo_init_112 : decode b_Mo_init 112 = .ok (.newarray .int, 2) := by decide +kernel
theorem d_Mo_init_114 : decode b_Mo_init 114 = .ok (.putfield 54, 3) := by decide +kernel
theorem d_Mo_init_117 : decode b_Mo_init 117 = .ok (.aload_n 0, 1) := by decide +kernel
theorem d_Mo_init_118 : decode b_Mo_init 118 = .ok (.bipush 80, 2) := by decide +kernel
theorem d_Mo_init_120 : decode b_Mo_init 120 = .ok (.newarray .int, 2) := by decide +kernel
theorem d_Mo_init_122 : decode b_Mo_init 122 = .ok (.putfield 57, 3) := by decide +kernel
theorem d_Mo_init_125 : decode b_Mo_init 125 = .ok (.aload_n 0, 1) := by decide +kernel
theorem d_Mo_init_126 : decode b_Mo_init 126 = .ok (.bipush 80, 2) := by decide +kernel
theorem d_Mo_init_128 : decode b_Mo_init 128 = .ok (.newarray .int, 2) := by decide +kernel
theorem d_Mo_init_130 : decode b_Mo_init 130 = .ok (.putfield 60, 3) := by decide +kernel
theorem d_Mo_init_133 : decode b_Mo_init 133 = .ok (.aload_n 0, 1) := by decide +kernel
theorem d_Mo_init_134 : decode b_Mo_init 134 = .ok (.bipush 80, 2) := by decide +kernel
theorem d_Mo_init_136 : decode b_Mo_init 136 = .ok (.newarray .boolean, 2) := by decide +kernel
theorem d_Mo_init_138 : decode b_Mo_init 138 = .ok (.putfield 63, 3) := by decide +kernel
theorem d_Mo_init_141 : decode b_Mo_init 141 = .ok (.aload_n 0, 1) := by decide +kernel
theorem d_Mo_init_142 : decode b_Mo_init 142 = .ok (.bipush 26, 2) := by decide +kernel
theorem d_Mo_init_144 : decode b_Mo_init 144 = .ok (.newarray .int, 2) := by decide +kernel
theorem d_Mo_init_146 : decode b_Mo_init 146 = .ok (.putfield 66, 3) := by decide +kernel
theorem d_Mo_init_149 : decode b_Mo_init 149 = .ok (.aload_n 0, 1) := by decide +kernel
theorem d_Mo_init_150 : decode b_Mo_init 150 = .ok (.sipush 2080, 3) := by decide +kernel
theorem d_Mo_init_153 : decode b_Mo_init 153 = .ok (.newarray .int, 2) := by decide +kernel
theorem d_Mo_init_155 : decode b_Mo_init 155 = .ok (.putfield 69, 3) := by decide +kernel
theorem d_Mo_init_158 : decode b_Mo_init 158 = .ok (.aload_n 0, 1) := by decide +kernel
theorem d_Mo_init_159 : decode b_Mo_init 159 = .ok (.bipush 26, 2) := by decide +kernel
theorem d_Mo_init_161 : decode b_Mo_init 161 = .ok (.newarray .boolean, 2) := by decide +kernel
theorem d_Mo_init_163 : decode b_Mo_init 163 = .ok (.putfield 72, 3) := by decide +kernel
theorem d_Mo_init_166 : decode b_Mo_init 166 = .ok (.aload_n 0, 1) := by decide +kernel
theorem d_Mo_init_167 : decode b_Mo_init 167 = .ok (.bipush 120, 2) := by decide +kernel
theorem d_Mo_init_169 : decode b_Mo_init 169 = .ok (.newarray .int, 2) := by decide +kernel
theorem d_Mo_init_171 : decode b_Mo_init 171 = .ok (.putfield 75, 3) := by decide +kernel
theorem d_Mo_init_174 : decode b_Mo_init 174 = .ok (.aload_n 0, 1) := by decide +kernel
theorem d_Mo_init_175 : decode b_Mo_init 175 = .ok (.sipush 7200, 3) := by decide +kernel
theorem d_Mo_init_178 : decode b_Mo_init 178 = .ok (.newarray .int, 2) := by decide +kernel
theorem d_Mo_init_180 : decode b_Mo_init 180 = .ok (.putfield 78, 3) := by decide +kernel
theorem d_Mo_init_183 : decode b_Mo_init 183 = .ok (.aload_n 0, 1) := by decide +kernel
theorem d_Mo_init_184 : decode b_Mo_init 184 = .ok (.bipush 26, 2) := by decide +kernel
theorem d_Mo_init_186 : decode b_Mo_init 186 = .ok (.newarray .boolean, 2) := by decide +kernel
theorem d_Mo_init_188 : decode b_Mo_init 188 = .ok (.putfield 81, 3) := by decide +kernel
theorem d_Mo_init_191 : decode b_Mo_init 191 = .ok (.aload_n 0, 1) := by decide +kernel
theorem d_Mo_init_192 : decode b_Mo_init 192 = .ok (.bipush 80, 2) := by decide +kernel
theorem d_Mo_init_194 : decode b_Mo_init 194 = .ok (.newarray .boolean, 2) := by decide +kernel
theorem d_Mo_init_196 : decode b_Mo_init 196 = .ok (.putfield 84, 3) := by decide +kernel
theorem d_Mo_init_199 : decode b_Mo_init 199 = .ok (.aload_n 0, 1) := by decide +kernel
theorem d_Mo_init_200 : decode b_Mo_init 200 = .ok (.bipush 80, 2) := by decide +kernel
theorem d_Mo_init_202 : decode b_Mo_init 202 = .ok (.newarray .int, 2) := by decide +kernel
theorem d_Mo_init_204 : decode b_Mo_init 204 = .ok (.putfield 87, 3) := by decide +kernel
theorem d_Mo_init_207 : decode b_Mo_init 207 = .ok (.aload_n 0, 1) := by decide +kernel
theorem d_Mo_init_208 : decode b_Mo_init 208 = .ok (.bipush 30, 2) := by decide +kernel
theorem d_Mo_init_210 : decode b_Mo_init 210 = .ok (.newarray .int, 2) := by decide +kernel
theorem d_Mo_init_212 : decode b_Mo_init 212 = .ok (.putfield 90, 3) := by decide +kernel
theorem d_Mo_init_215 : decode b_Mo_init 215 = .ok (.aload_n 0, 1) := by decide +kernel
theorem d_Mo_init_216 : decode b_Mo_init 216 = .ok (.bipush 26, 2) := by decide +kernel
theorem d_Mo_init_218 : decode b_Mo_init 218 = .ok (.newarray .int, 2) := by decide +kernel
theorem d_Mo_init_220 : decode b_Mo_init 220 = .ok (.putfield 93, 3) := by decide +kernel
theorem d_Mo_init_223 : decode b_Mo_init 223 = .ok (.aload_n 0, 1) := by decide +kernel
theorem d_Mo_init_224 : decode b_Mo_init 224 = .ok (.bipush 80, 2) := by decide +kernel
theorem d_Mo_init_226 : decode b_Mo_init 226 = .ok (.newarray .int, 2) := by decide +kernel
theorem d_Mo_init_228 : decode b_Mo_init 228 = .ok (.putfield 96, 3) := by decide +kernel
theorem d_Mo_init_231 : decode b_Mo_init 231 = .ok (.aload_n 0, 1) := by decide +kernel
theorem d_Mo_init_232 : decode b_Mo_init 232 = .ok (.bipush 120, 2) := by decide +kernel
theorem d_Mo_init_234 : decode b_Mo_init 234 = .ok (.newarray .int, 2) := by decide +kernel
theorem d_Mo_init_236 : decode b_Mo_init 236 = .ok (.putfield 99, 3) := by decide +kernel
theorem d_Mo_init_239 : decode b_Mo_init 239 = .ok (.aload_n 0, 1) := by decide +kernel
theorem d_Mo_init_240 : decode b_Mo_init 240 = .ok (.bipush 30, 2) := by decide +kernel
theorem d_Mo_init_242 : decode b_Mo_init 242 = .ok (.newarray .int, 2) := by decide +kernel
theorem d_Mo_init_244 : decode b_Mo_init 244 = .ok (.putfield 102, 3) := by decide +kernel
theorem d_Mo_init_247 : decode b_Mo_init 247 = .ok (.aload_n 0, 1) := by decide +kernel
theorem d_Mo_init_248 : decode b_Mo_init 248 = .ok (.sipush 160, 3) := by decide +kernel
theorem d_Mo_init_251 : decode b_Mo_init 251 = .ok (.newarray .int, 2) := by decide +kernel
theorem d_Mo_init_253 : decode b_Mo_init 253 = .ok (.putfield 105, 3) := by decide +kernel
theorem d_Mo_init_256 : decode b_Mo_init 256 = .ok (.aload_n 0, 1) := by decide +kernel
theorem d_Mo_init_257 : decode b_Mo_init 257 = .ok (.sipush 160, 3) := by decide +kernel
theorem d_Mo_init_260 : decode b_Mo_init 260 = .ok (.newarray .int, 2) := by decide +kernel
theorem d_Mo_init_262 : decode b_Mo_init 262 = .ok (.putfield 108, 3) := by decide +kernel
theorem d_Mo_init_265 : decode b_Mo_init 265 = .ok (.aload_n 0, 1) := by decide +kernel
theorem d_Mo_init_266 : decode b_Mo_init 266 = .ok (.sipush 161, 3) := by decide +kernel
theorem d_Mo_init_269 : decode b_Mo_init 269 = .ok (.newarray .int, 2) := by decide +kernel
theorem d_Mo_init_271 : decode b_Mo_init 271 = .ok (.putfield 111, 3) := by decide +kernel
theorem d_Mo_init_274 : decode b_Mo_init 274 = .ok (.aload_n 0, 1) := by decide +kernel
theorem d_Mo_init_275 : decode b_Mo_init 275 = .ok (.sipush 160, 3) := by decide +kernel
theorem d_Mo_init_278 : decode b_Mo_init 278 = .ok (.newarray .int, 2) := by decide +kernel
theorem d_Mo_init_280 : decode b_Mo_init 280 = .ok (.putfield 114, 3) := by decide +kernel
theorem d_Mo_init_283 : decode b_Mo_init 283 = .ok (.aload_n 0, 1) := by decide +kernel
theorem d_Mo_init_284 : decode b_Mo_init 284 = .ok (.bipush 80, 2) := by decide +kernel
theorem d_Mo_init_286 : decode b_Mo_init 286 = .ok (.newarray .int, 2) := by decide +kernel
theorem d_Mo_init_288 : decode b_Mo_init 288 = .ok (.putfield 117, 3) := by decide +kernel
theorem d_Mo_init_291 : decode b_Mo_init 291 = .ok (.aload_n 0, 1) := by decide +kernel
theorem d_Mo_init_292 : decode b_Mo_init 292 = .ok (.iconst 4, 1) := by decide +kernel
theorem d_Mo_init_293 : decode b_Mo_init 293 = .ok (.newarray .int, 2) := by decide +kernel
theorem d_Mo_init_295 : decode b_Mo_init 295 = .ok (.dup, 1) := by decide +kernel
theorem d_Mo_init_296 : decode b_Mo_init 296 = .ok (.iconst 0, 1) := by decide +kernel
theorem d_Mo_init_297 : decode b_Mo_init 297 = .ok (.iconst (-1), 1) := by decide +kernel
theorem d_Mo_init_298 : decode b_Mo_init 298 = .ok (.iastore, 1) := by decide +kernel
theorem d_Mo_init_299 : decode b_Mo_init 299 = .ok (.dup, 1) := by decide +kernel
theorem d_Mo_init_300 : decode b_Mo_init 300 = .ok (.iconst 1, 1) := by decide +kernel
theorem d_Mo_init_301 : decode b_Mo_init 301 = .ok (.iconst (-1), 1) := by decide +kernel
theorem d_Mo_init_302 : decode b_Mo_init 302 = .ok (.iastore, 1) := by decide +kernel
theorem d_Mo_init_303 : decode b_Mo_init 303 = .ok (.dup, 1) := by decide +kernel
theorem d_Mo_init_304 : decode b_Mo_init 304 = .ok (.iconst 2, 1) := by decide +kernel
theorem d_Mo_init_305 : decode b_Mo_init 305 = .ok (.iconst (-1), 1) := by decide +kernel
theorem d_Mo_init_306 : decode b_Mo_init 306 = .ok (.iastore, 1) := by decide +kernel
theorem d_Mo_init_307 : decode b_Mo_init 307 = .ok (.dup, 1) := by decide +kernel
theorem d_Mo_init_308 : decode b_Mo_init 308 = .ok (.iconst 3, 1) := by decide +kernel
theorem d_Mo_init_309 : decode b_Mo_init 309 = .ok (.iconst (-1), 1) := by decide +kernel
theorem d_Mo_init_310 : decode b_Mo_init 310 = .ok (.iastore, 1) := by decide +kernel
theorem d_Mo_init_311 : decode b_Mo_init 311 = .ok (.putfield 120, 3) := by decide +kernel
theorem d_Mo_init_314 : decode b_Mo_init 314 = .ok (.aload_n 0, 1) := by decide +kernel
theorem d_Mo_init_315 : decode b_Mo_init 315 = .ok (.bipush 96, 2) := by decide +kernel
theorem d_Mo_init_317 : decode b_Mo_init 317 = .ok (.newarray .int, 2) := by decide +kernel
theorem d_Mo_init_319 : decode b_Mo_init 319 = .ok (.putfield 123, 3) := by decide +kernel
theorem d_Mo_init_322 : decode b_Mo_init 322 = .ok (.aload_n 0, 1) := by decide +kernel
theorem d_Mo_init_323 : decode b_Mo_init 323 = .ok (.bipush 96, 2) := by decide +kernel
theorem d_Mo_init_325 : decode b_Mo_init 325 = .ok (.newarray .int, 2) := by decide +kernel
theorem d_Mo_init_327 : decode b_Mo_init 327 = .ok (.putfield 126, 3) := by decide +kernel
