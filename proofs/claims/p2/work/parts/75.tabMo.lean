theorem wm_9 : (Cond.initialized "DrawingHouseModel" : Cond) ∈ lw_g := lw_gi (lw_c1 (List.mem_of_getElem? (i := 9) rfl)) rfl
theorem wm_2415 : (Cond.constant "DrawingHouseModel" (15 : Nat) (66836 : Int32) : Cond) ∈ lw_g := lw_gi (lw_c11 (List.mem_of_getElem? (i := 15) rfl)) rfl
theorem wm_2416 : (Cond.constant "DrawingHouseModel" (252 : Nat) (54720 : Int32) : Cond) ∈ lw_g := lw_gi (lw_c11 (List.mem_of_getElem? (i := 16) rfl)) rfl
theorem wm_2417 : (Cond.constant "DrawingHouseModel" (320 : Nat) (96040 : Int32) : Cond) ∈ lw_g := lw_gi (lw_c11 (List.mem_of_getElem? (i := 17) rfl)) rfl
theorem wm_2418 : (Cond.methodLink "DrawingHouseModel" (372 : Nat) ({ cls := "DrawingHouseModel", name := "rowOf", desc := "(II)I" } : MethodName) : Cond) ∈ lw_g := lw_gi (lw_c11 (List.mem_of_getElem? (i := 18) rfl)) rfl
theorem wm_2419 : (Cond.static ({ cls := "DrawingHouseModel", name := "rowOf", desc := "(II)I" } : MethodName) : Cond) ∈ lw_g := lw_gi (lw_c11 (List.mem_of_getElem? (i := 19) rfl)) rfl
theorem wm_2420 : (Cond.code ({ cls := "DrawingHouseModel", name := "rowOf", desc := "(II)I" } : MethodName) prog_15_method_7_code (2 : Nat) (Option.some ClassFile.FieldType.int) : Cond) ∈ lw_g := lw_gi (lw_c11 (List.mem_of_getElem? (i := 20) rfl)) rfl
theorem wm_2424 : (Cond.code ({ cls := "DrawingHouseModel", name := "clear", desc := "(I)V" } : MethodName) prog_15_method_8_code (3 : Nat) (Option.none : Option ClassFile.FieldType) : Cond) ∈ lw_g := lw_gi (lw_c11 (List.mem_of_getElem? (i := 24) rfl)) rfl
theorem wm_2433 : (Cond.fieldLink "DrawingHouseModel" (383 : Nat) "DrawingHouseModel" "taped" "I" : Cond) ∈ lw_g := lw_gi (lw_c11 (List.mem_of_getElem? (i := 33) rfl)) rfl
theorem wm_2434 : (Cond.fieldLink "DrawingHouseModel" (9 : Nat) "DrawingHouseModel" "tape" "[B" : Cond) ∈ lw_g := lw_gi (lw_c11 (List.mem_of_getElem? (i := 34) rfl)) rfl
theorem wm_2435 : (Cond.fieldLink "DrawingHouseModel" (16 : Nat) "DrawingHouseModel" "all" "[I" : Cond) ∈ lw_g := lw_gi (lw_c11 (List.mem_of_getElem? (i := 35) rfl)) rfl
theorem wm_2436 : (Cond.fieldLink "DrawingHouseModel" (20 : Nat) "DrawingHouseModel" "now" "[I" : Cond) ∈ lw_g := lw_gi (lw_c11 (List.mem_of_getElem? (i := 36) rfl)) rfl
theorem wm_2437 : (Cond.fieldLink "DrawingHouseModel" (23 : Nat) "DrawingHouseModel" "latest" "[I" : Cond) ∈ lw_g := lw_gi (lw_c11 (List.mem_of_getElem? (i := 37) rfl)) rfl
theorem wm_2438 : (Cond.fieldLink "DrawingHouseModel" (391 : Nat) "DrawingHouseModel" "\x72" "I" : Cond) ∈ lw_g := lw_gi (lw_c11 (List.mem_of_getElem? (i := 38) rfl)) rfl
theorem wm_2439 : (Cond.fieldLink "DrawingHouseModel" (26 : Nat) "DrawingHouseModel" "fresh" "[I" : Cond) ∈ lw_g := lw_gi (lw_c11 (List.mem_of_getElem? (i := 39) rfl)) rfl
theorem wm_2440 : (Cond.fieldLink "DrawingHouseModel" (409 : Nat) "DrawingHouseModel" "isTold" "Z" : Cond) ∈ lw_g := lw_gi (lw_c11 (List.mem_of_getElem? (i := 40) rfl)) rfl
theorem wm_2441 : (Cond.fieldLink "DrawingHouseModel" (413 : Nat) "DrawingHouseModel" "fault" "I" : Cond) ∈ lw_g := lw_gi (lw_c11 (List.mem_of_getElem? (i := 41) rfl)) rfl
theorem wm_2442 : (Cond.fieldLink "DrawingHouseModel" (416 : Nat) "DrawingHouseModel" "faultPlace" "I" : Cond) ∈ lw_g := lw_gi (lw_c11 (List.mem_of_getElem? (i := 42) rfl)) rfl
theorem wm_2443 : (Cond.fieldLink "DrawingHouseModel" (419 : Nat) "DrawingHouseModel" "limit" "I" : Cond) ∈ lw_g := lw_gi (lw_c11 (List.mem_of_getElem? (i := 43) rfl)) rfl
theorem wm_2444 : (Cond.fieldLink "DrawingHouseModel" (422 : Nat) "DrawingHouseModel" "pos" "I" : Cond) ∈ lw_g := lw_gi (lw_c11 (List.mem_of_getElem? (i := 44) rfl)) rfl
theorem wm_2445 : (Cond.fieldLink "DrawingHouseModel" (434 : Nat) "DrawingHouseModel" "kind" "I" : Cond) ∈ lw_g := lw_gi (lw_c11 (List.mem_of_getElem? (i := 45) rfl)) rfl
theorem wm_2446 : (Cond.fieldLink "DrawingHouseModel" (428 : Nat) "DrawingHouseModel" "place" "I" : Cond) ∈ lw_g := lw_gi (lw_c11 (List.mem_of_getElem? (i := 46) rfl)) rfl
theorem wm_2447 : (Cond.fieldLink "DrawingHouseModel" (437 : Nat) "DrawingHouseModel" "value" "I" : Cond) ∈ lw_g := lw_gi (lw_c11 (List.mem_of_getElem? (i := 47) rfl)) rfl
theorem wm_2448 : (Cond.fieldLink "DrawingHouseModel" (431 : Nat) "DrawingHouseModel" "from" "I" : Cond) ∈ lw_g := lw_gi (lw_c11 (List.mem_of_getElem? (i := 48) rfl)) rfl
theorem wm_2449 : (Cond.fieldLink "DrawingHouseModel" (29 : Nat) "DrawingHouseModel" "partOf" "[I" : Cond) ∈ lw_g := lw_gi (lw_c11 (List.mem_of_getElem? (i := 49) rfl)) rfl
theorem wm_2450 : (Cond.fieldLink "DrawingHouseModel" (32 : Nat) "DrawingHouseModel" "blockOf" "[I" : Cond) ∈ lw_g := lw_gi (lw_c11 (List.mem_of_getElem? (i := 50) rfl)) rfl
theorem wm_2451 : (Cond.fieldLink "DrawingHouseModel" (35 : Nat) "DrawingHouseModel" "strongOf" "[I" : Cond) ∈ lw_g := lw_gi (lw_c11 (List.mem_of_getElem? (i := 51) rfl)) rfl
theorem wm_2452 : (Cond.fieldLink "DrawingHouseModel" (38 : Nat) "DrawingHouseModel" "farOf" "[I" : Cond) ∈ lw_g := lw_gi (lw_c11 (List.mem_of_getElem? (i := 52) rfl)) rfl
theorem wm_2453 : (Cond.fieldLink "DrawingHouseModel" (41 : Nat) "DrawingHouseModel" "line" "[I" : Cond) ∈ lw_g := lw_gi (lw_c11 (List.mem_of_getElem? (i := 53) rfl)) rfl
theorem wm_2454 : (Cond.fieldLink "DrawingHouseModel" (44 : Nat) "DrawingHouseModel" "reach" "[Z" : Cond) ∈ lw_g := lw_gi (lw_c11 (List.mem_of_getElem? (i := 54) rfl)) rfl
theorem wm_2455 : (Cond.fieldLink "DrawingHouseModel" (48 : Nat) "DrawingHouseModel" "left" "[Z" : Cond) ∈ lw_g := lw_gi (lw_c11 (List.mem_of_getElem? (i := 55) rfl)) rfl
theorem wm_2456 : (Cond.fieldLink "DrawingHouseModel" (51 : Nat) "DrawingHouseModel" "map" "[I" : Cond) ∈ lw_g := lw_gi (lw_c11 (List.mem_of_getElem? (i := 56) rfl)) rfl
theorem wm_2457 : (Cond.fieldLink "DrawingHouseModel" (54 : Nat) "DrawingHouseModel" "mapTried" "[I" : Cond) ∈ lw_g := lw_gi (lw_c11 (List.mem_of_getElem? (i := 57) rfl)) rfl
theorem wm_2458 : (Cond.fieldLink "DrawingHouseModel" (581 : Nat) "DrawingHouseModel" "isMapped" "Z" : Cond) ∈ lw_g := lw_gi (lw_c11 (List.mem_of_getElem? (i := 58) rfl)) rfl
theorem wm_2459 : (Cond.fieldLink "DrawingHouseModel" (584 : Nat) "DrawingHouseModel" "mapNodes" "I" : Cond) ∈ lw_g := lw_gi (lw_c11 (List.mem_of_getElem? (i := 59) rfl)) rfl
theorem wm_2460 : (Cond.fieldLink "DrawingHouseModel" (572 : Nat) "DrawingHouseModel" "steps" "I" : Cond) ∈ lw_g := lw_gi (lw_c11 (List.mem_of_getElem? (i := 60) rfl)) rfl
theorem wm_2461 : (Cond.fieldLink "DrawingHouseModel" (566 : Nat) "DrawingHouseModel" "rowA" "I" : Cond) ∈ lw_g := lw_gi (lw_c11 (List.mem_of_getElem? (i := 61) rfl)) rfl
theorem wm_2462 : (Cond.fieldLink "DrawingHouseModel" (569 : Nat) "DrawingHouseModel" "rowB" "I" : Cond) ∈ lw_g := lw_gi (lw_c11 (List.mem_of_getElem? (i := 62) rfl)) rfl
theorem wm_2463 : (Cond.fieldLink "DrawingHouseModel" (575 : Nat) "DrawingHouseModel" "hasSteps" "Z" : Cond) ∈ lw_g := lw_gi (lw_c11 (List.mem_of_getElem? (i := 63) rfl)) rfl
theorem wm_2464 : (Cond.fieldLink "DrawingHouseModel" (594 : Nat) "DrawingHouseModel" "pn" "I" : Cond) ∈ lw_g := lw_gi (lw_c11 (List.mem_of_getElem? (i := 64) rfl)) rfl
theorem wm_2465 : (Cond.fieldLink "DrawingHouseModel" (597 : Nat) "DrawingHouseModel" "pm" "I" : Cond) ∈ lw_g := lw_gi (lw_c11 (List.mem_of_getElem? (i := 65) rfl)) rfl
theorem wm_2466 : (Cond.fieldLink "DrawingHouseModel" (57 : Nat) "DrawingHouseModel" "pt" "[I" : Cond) ∈ lw_g := lw_gi (lw_c11 (List.mem_of_getElem? (i := 66) rfl)) rfl
theorem wm_2467 : (Cond.fieldLink "DrawingHouseModel" (60 : Nat) "DrawingHouseModel" "ph" "[I" : Cond) ∈ lw_g := lw_gi (lw_c11 (List.mem_of_getElem? (i := 67) rfl)) rfl
theorem wm_2468 : (Cond.fieldLink "DrawingHouseModel" (63 : Nat) "DrawingHouseModel" "alive" "[Z" : Cond) ∈ lw_g := lw_gi (lw_c11 (List.mem_of_getElem? (i := 68) rfl)) rfl
theorem wm_2469 : (Cond.fieldLink "DrawingHouseModel" (66 : Nat) "DrawingHouseModel" "rotMany" "[I" : Cond) ∈ lw_g := lw_gi (lw_c11 (List.mem_of_getElem? (i := 69) rfl)) rfl
theorem wm_2470 : (Cond.fieldLink "DrawingHouseModel" (69 : Nat) "DrawingHouseModel" "rot" "[I" : Cond) ∈ lw_g := lw_gi (lw_c11 (List.mem_of_getElem? (i := 70) rfl)) rfl
theorem wm_2471 : (Cond.fieldLink "DrawingHouseModel" (72 : Nat) "DrawingHouseModel" "seen" "[Z" : Cond) ∈ lw_g := lw_gi (lw_c11 (List.mem_of_getElem? (i := 71) rfl)) rfl
theorem wm_2472 : (Cond.fieldLink "DrawingHouseModel" (612 : Nat) "DrawingHouseModel" "faces" "I" : Cond) ∈ lw_g := lw_gi (lw_c11 (List.mem_of_getElem? (i := 72) rfl)) rfl
theorem wm_2473 : (Cond.fieldLink "DrawingHouseModel" (75 : Nat) "DrawingHouseModel" "faceMany" "[I" : Cond) ∈ lw_g := lw_gi (lw_c11 (List.mem_of_getElem? (i := 73) rfl)) rfl
theorem wm_2474 : (Cond.fieldLink "DrawingHouseModel" (78 : Nat) "DrawingHouseModel" "face" "[I" : Cond) ∈ lw_g := lw_gi (lw_c11 (List.mem_of_getElem? (i := 74) rfl)) rfl
theorem wm_2475 : (Cond.fieldLink "DrawingHouseModel" (81 : Nat) "DrawingHouseModel" "drawnNode" "[Z" : Cond) ∈ lw_g := lw_gi (lw_c11 (List.mem_of_getElem? (i := 75) rfl)) rfl
theorem wm_2476 : (Cond.fieldLink "DrawingHouseModel" (84 : Nat) "DrawingHouseModel" "drawnEdge" "[Z" : Cond) ∈ lw_g := lw_gi (lw_c11 (List.mem_of_getElem? (i := 76) rfl)) rfl
theorem wm_2477 : (Cond.fieldLink "DrawingHouseModel" (87 : Nat) "DrawingHouseModel" "pieceOf" "[I" : Cond) ∈ lw_g := lw_gi (lw_c11 (List.mem_of_getElem? (i := 77) rfl)) rfl
theorem wm_2478 : (Cond.fieldLink "DrawingHouseModel" (619 : Nat) "DrawingHouseModel" "wayMany" "I" : Cond) ∈ lw_g := lw_gi (lw_c11 (List.mem_of_getElem? (i := 78) rfl)) rfl
theorem wm_2479 : (Cond.fieldLink "DrawingHouseModel" (90 : Nat) "DrawingHouseModel" "way" "[I" : Cond) ∈ lw_g := lw_gi (lw_c11 (List.mem_of_getElem? (i := 79) rfl)) rfl
theorem wm_2480 : (Cond.fieldLink "DrawingHouseModel" (93 : Nat) "DrawingHouseModel" "toGoal" "[I" : Cond) ∈ lw_g := lw_gi (lw_c11 (List.mem_of_getElem? (i := 80) rfl)) rfl
theorem wm_2481 : (Cond.fieldLink "DrawingHouseModel" (649 : Nat) "DrawingHouseModel" "onlyPiece" "I" : Cond) ∈ lw_g := lw_gi (lw_c11 (List.mem_of_getElem? (i := 81) rfl)) rfl
theorem wm_2482 : (Cond.fieldLink "DrawingHouseModel" (96 : Nat) "DrawingHouseModel" "ends" "[I" : Cond) ∈ lw_g := lw_gi (lw_c11 (List.mem_of_getElem? (i := 82) rfl)) rfl
theorem wm_2483 : (Cond.fieldLink "DrawingHouseModel" (99 : Nat) "DrawingHouseModel" "faceNodes" "[I" : Cond) ∈ lw_g := lw_gi (lw_c11 (List.mem_of_getElem? (i := 83) rfl)) rfl
theorem wm_2484 : (Cond.fieldLink "DrawingHouseModel" (102 : Nat) "DrawingHouseModel" "bestWay" "[I" : Cond) ∈ lw_g := lw_gi (lw_c11 (List.mem_of_getElem? (i := 84) rfl)) rfl
theorem wm_2485 : (Cond.fieldLink "DrawingHouseModel" (683 : Nat) "DrawingHouseModel" "rounds" "I" : Cond) ∈ lw_g := lw_gi (lw_c11 (List.mem_of_getElem? (i := 85) rfl)) rfl
theorem wm_2486 : (Cond.fieldLink "DrawingHouseModel" (105 : Nat) "DrawingHouseModel" "roundOf" "[I" : Cond) ∈ lw_g := lw_gi (lw_c11 (List.mem_of_getElem? (i := 86) rfl)) rfl
theorem wm_2487 : (Cond.fieldLink "DrawingHouseModel" (108 : Nat) "DrawingHouseModel" "dartAt" "[I" : Cond) ∈ lw_g := lw_gi (lw_c11 (List.mem_of_getElem? (i := 87) rfl)) rfl
theorem wm_2488 : (Cond.fieldLink "DrawingHouseModel" (111 : Nat) "DrawingHouseModel" "roundBegin" "[I" : Cond) ∈ lw_g := lw_gi (lw_c11 (List.mem_of_getElem? (i := 88) rfl)) rfl
theorem wm_2489 : (Cond.fieldLink "DrawingHouseModel" (114 : Nat) "DrawingHouseModel" "roundDart" "[I" : Cond) ∈ lw_g := lw_gi (lw_c11 (List.mem_of_getElem? (i := 89) rfl)) rfl
theorem wm_2490 : (Cond.fieldLink "DrawingHouseModel" (695 : Nat) "DrawingHouseModel" "barredMany" "I" : Cond) ∈ lw_g := lw_gi (lw_c11 (List.mem_of_getElem? (i := 90) rfl)) rfl
theorem wm_2491 : (Cond.fieldLink "DrawingHouseModel" (698 : Nat) "DrawingHouseModel" "barredKind" "I" : Cond) ∈ lw_g := lw_gi (lw_c11 (List.mem_of_getElem? (i := 91) rfl)) rfl
theorem wm_2492 : (Cond.fieldLink "DrawingHouseModel" (117 : Nat) "DrawingHouseModel" "barred" "[I" : Cond) ∈ lw_g := lw_gi (lw_c11 (List.mem_of_getElem? (i := 92) rfl)) rfl
theorem wm_2493 : (Cond.fieldLink "DrawingHouseModel" (120 : Nat) "DrawingHouseModel" "drawn" "[I" : Cond) ∈ lw_g := lw_gi (lw_c11 (List.mem_of_getElem? (i := 93) rfl)) rfl
theorem wm_2494 : (Cond.fieldLink "DrawingHouseModel" (123 : Nat) "DrawingHouseModel" "nodeX" "[I" : Cond) ∈ lw_g := lw_gi (lw_c11 (List.mem_of_getElem? (i := 94) rfl)) rfl
theorem wm_2495 : (Cond.fieldLink "DrawingHouseModel" (126 : Nat) "DrawingHouseModel" "nodeY" "[I" : Cond) ∈ lw_g := lw_gi (lw_c11 (List.mem_of_getElem? (i := 95) rfl)) rfl
theorem wm_2496 : (Cond.fieldLink "DrawingHouseModel" (129 : Nat) "DrawingHouseModel" "bendMany" "[I" : Cond) ∈ lw_g := lw_gi (lw_c11 (List.mem_of_getElem? (i := 96) rfl)) rfl
theorem wm_2497 : (Cond.fieldLink "DrawingHouseModel" (132 : Nat) "DrawingHouseModel" "bendX" "[I" : Cond) ∈ lw_g := lw_gi (lw_c11 (List.mem_of_getElem? (i := 97) rfl)) rfl
theorem wm_2498 : (Cond.fieldLink "DrawingHouseModel" (135 : Nat) "DrawingHouseModel" "bendY" "[I" : Cond) ∈ lw_g := lw_gi (lw_c11 (List.mem_of_getElem? (i := 98) rfl)) rfl
theorem wm_2499 : (Cond.fieldLink "DrawingHouseModel" (138 : Nat) "DrawingHouseModel" "toldCross" "[I" : Cond) ∈ lw_g := lw_gi (lw_c11 (List.mem_of_getElem? (i := 99) rfl)) rfl
theorem wm_2500 : (Cond.fieldLink "DrawingHouseModel" (141 : Nat) "DrawingHouseModel" "toldSum" "[I" : Cond) ∈ lw_g := lw_gi (lw_c11 (List.mem_of_getElem? (i := 100) rfl)) rfl
theorem wm_2501 : (Cond.fieldLink "DrawingHouseModel" (144 : Nat) "DrawingHouseModel" "toldLayer" "[I" : Cond) ∈ lw_g := lw_gi (lw_c11 (List.mem_of_getElem? (i := 101) rfl)) rfl
theorem wm_2502 : (Cond.fieldLink "DrawingHouseModel" (147 : Nat) "DrawingHouseModel" "toldTurned" "[I" : Cond) ∈ lw_g := lw_gi (lw_c11 (List.mem_of_getElem? (i := 102) rfl)) rfl
theorem wm_2503 : (Cond.fieldLink "DrawingHouseModel" (150 : Nat) "DrawingHouseModel" "toldArea" "[I" : Cond) ∈ lw_g := lw_gi (lw_c11 (List.mem_of_getElem? (i := 103) rfl)) rfl
theorem wm_2504 : (Cond.fieldLink "DrawingHouseModel" (153 : Nat) "DrawingHouseModel" "toldGroup" "[I" : Cond) ∈ lw_g := lw_gi (lw_c11 (List.mem_of_getElem? (i := 104) rfl)) rfl
theorem wm_2505 : (Cond.fieldLink "DrawingHouseModel" (156 : Nat) "DrawingHouseModel" "shades" "[I" : Cond) ∈ lw_g := lw_gi (lw_c11 (List.mem_of_getElem? (i := 105) rfl)) rfl
theorem wm_2506 : (Cond.fieldLink "DrawingHouseModel" (159 : Nat) "DrawingHouseModel" "nx" "[I" : Cond) ∈ lw_g := lw_gi (lw_c11 (List.mem_of_getElem? (i := 106) rfl)) rfl
theorem wm_2507 : (Cond.fieldLink "DrawingHouseModel" (162 : Nat) "DrawingHouseModel" "ny" "[I" : Cond) ∈ lw_g := lw_gi (lw_c11 (List.mem_of_getElem? (i := 107) rfl)) rfl
theorem wm_2508 : (Cond.fieldLink "DrawingHouseModel" (165 : Nat) "DrawingHouseModel" "bm" "[I" : Cond) ∈ lw_g := lw_gi (lw_c11 (List.mem_of_getElem? (i := 108) rfl)) rfl
theorem wm_2509 : (Cond.fieldLink "DrawingHouseModel" (168 : Nat) "DrawingHouseModel" "bx" "[I" : Cond) ∈ lw_g := lw_gi (lw_c11 (List.mem_of_getElem? (i := 109) rfl)) rfl
theorem wm_2510 : (Cond.fieldLink "DrawingHouseModel" (171 : Nat) "DrawingHouseModel" "by" "[I" : Cond) ∈ lw_g := lw_gi (lw_c11 (List.mem_of_getElem? (i := 110) rfl)) rfl
theorem wm_2511 : (Cond.fieldLink "DrawingHouseModel" (783 : Nat) "DrawingHouseModel" "pointMany" "I" : Cond) ∈ lw_g := lw_gi (lw_c11 (List.mem_of_getElem? (i := 111) rfl)) rfl
theorem wm_2512 : (Cond.fieldLink "DrawingHouseModel" (777 : Nat) "DrawingHouseModel" "costMany" "I" : Cond) ∈ lw_g := lw_gi (lw_c11 (List.mem_of_getElem? (i := 112) rfl)) rfl
theorem wm_2513 : (Cond.fieldLink "DrawingHouseModel" (780 : Nat) "DrawingHouseModel" "apartMany" "I" : Cond) ∈ lw_g := lw_gi (lw_c11 (List.mem_of_getElem? (i := 113) rfl)) rfl
theorem wm_2514 : (Cond.fieldLink "DrawingHouseModel" (174 : Nat) "DrawingHouseModel" "spot" "[I" : Cond) ∈ lw_g := lw_gi (lw_c11 (List.mem_of_getElem? (i := 114) rfl)) rfl
theorem wm_2515 : (Cond.fieldLink "DrawingHouseModel" (177 : Nat) "DrawingHouseModel" "costA" "[I" : Cond) ∈ lw_g := lw_gi (lw_c11 (List.mem_of_getElem? (i := 115) rfl)) rfl
theorem wm_2516 : (Cond.fieldLink "DrawingHouseModel" (180 : Nat) "DrawingHouseModel" "costB" "[I" : Cond) ∈ lw_g := lw_gi (lw_c11 (List.mem_of_getElem? (i := 116) rfl)) rfl
theorem wm_2517 : (Cond.fieldLink "DrawingHouseModel" (183 : Nat) "DrawingHouseModel" "costW" "[I" : Cond) ∈ lw_g := lw_gi (lw_c11 (List.mem_of_getElem? (i := 117) rfl)) rfl
theorem wm_2518 : (Cond.fieldLink "DrawingHouseModel" (186 : Nat) "DrawingHouseModel" "costPlain" "[Z" : Cond) ∈ lw_g := lw_gi (lw_c11 (List.mem_of_getElem? (i := 118) rfl)) rfl
theorem wm_2519 : (Cond.fieldLink "DrawingHouseModel" (189 : Nat) "DrawingHouseModel" "apartA" "[I" : Cond) ∈ lw_g := lw_gi (lw_c11 (List.mem_of_getElem? (i := 119) rfl)) rfl
theorem wm_2520 : (Cond.fieldLink "DrawingHouseModel" (192 : Nat) "DrawingHouseModel" "apartB" "[I" : Cond) ∈ lw_g := lw_gi (lw_c11 (List.mem_of_getElem? (i := 120) rfl)) rfl
theorem wm_2521 : (Cond.fieldLink "DrawingHouseModel" (195 : Nat) "DrawingHouseModel" "apart" "[I" : Cond) ∈ lw_g := lw_gi (lw_c11 (List.mem_of_getElem? (i := 121) rfl)) rfl
theorem wm_2522 : (Cond.fieldLink "DrawingHouseModel" (198 : Nat) "DrawingHouseModel" "flow" "[I" : Cond) ∈ lw_g := lw_gi (lw_c11 (List.mem_of_getElem? (i := 122) rfl)) rfl
theorem wm_2523 : (Cond.fieldLink "DrawingHouseModel" (201 : Nat) "DrawingHouseModel" "cameBy" "[I" : Cond) ∈ lw_g := lw_gi (lw_c11 (List.mem_of_getElem? (i := 123) rfl)) rfl
theorem wm_2524 : (Cond.fieldLink "DrawingHouseModel" (204 : Nat) "DrawingHouseModel" "queue" "[I" : Cond) ∈ lw_g := lw_gi (lw_c11 (List.mem_of_getElem? (i := 124) rfl)) rfl
theorem wm_2525 : (Cond.fieldLink "DrawingHouseModel" (207 : Nat) "DrawingHouseModel" "goes" "[I" : Cond) ∈ lw_g := lw_gi (lw_c11 (List.mem_of_getElem? (i := 125) rfl)) rfl
theorem wm_2526 : (Cond.fieldLink "DrawingHouseModel" (792 : Nat) "DrawingHouseModel" "pushes" "I" : Cond) ∈ lw_g := lw_gi (lw_c11 (List.mem_of_getElem? (i := 126) rfl)) rfl
theorem wm_2527 : (Cond.fieldLink "DrawingHouseModel" (210 : Nat) "DrawingHouseModel" "turned" "[Z" : Cond) ∈ lw_g := lw_gi (lw_c11 (List.mem_of_getElem? (i := 127) rfl)) rfl
theorem wm_2528 : (Cond.fieldLink "DrawingHouseModel" (213 : Nat) "DrawingHouseModel" "order" "[I" : Cond) ∈ lw_g := lw_gi (lw_c11 (List.mem_of_getElem? (i := 128) rfl)) rfl
theorem wm_2529 : (Cond.fieldLink "DrawingHouseModel" (216 : Nat) "DrawingHouseModel" "best" "[I" : Cond) ∈ lw_g := lw_gi (lw_c11 (List.mem_of_getElem? (i := 129) rfl)) rfl
theorem wm_2530 : (Cond.fieldLink "DrawingHouseModel" (219 : Nat) "DrawingHouseModel" "member" "[I" : Cond) ∈ lw_g := lw_gi (lw_c11 (List.mem_of_getElem? (i := 130) rfl)) rfl
theorem wm_2531 : (Cond.fieldLink "DrawingHouseModel" (795 : Nat) "DrawingHouseModel" "members" "I" : Cond) ∈ lw_g := lw_gi (lw_c11 (List.mem_of_getElem? (i := 131) rfl)) rfl
theorem wm_2532 : (Cond.fieldLink "DrawingHouseModel" (844 : Nat) "DrawingHouseModel" "items" "I" : Cond) ∈ lw_g := lw_gi (lw_c11 (List.mem_of_getElem? (i := 132) rfl)) rfl
theorem wm_2533 : (Cond.fieldLink "DrawingHouseModel" (852 : Nat) "DrawingHouseModel" "layerMany" "I" : Cond) ∈ lw_g := lw_gi (lw_c11 (List.mem_of_getElem? (i := 133) rfl)) rfl
theorem wm_2534 : (Cond.fieldLink "DrawingHouseModel" (222 : Nat) "DrawingHouseModel" "itemLayer" "[I" : Cond) ∈ lw_g := lw_gi (lw_c11 (List.mem_of_getElem? (i := 134) rfl)) rfl
theorem wm_2535 : (Cond.fieldLink "DrawingHouseModel" (225 : Nat) "DrawingHouseModel" "itemEdge" "[I" : Cond) ∈ lw_g := lw_gi (lw_c11 (List.mem_of_getElem? (i := 135) rfl)) rfl
theorem wm_2536 : (Cond.fieldLink "DrawingHouseModel" (228 : Nat) "DrawingHouseModel" "firstJoint" "[I" : Cond) ∈ lw_g := lw_gi (lw_c11 (List.mem_of_getElem? (i := 136) rfl)) rfl
theorem wm_2537 : (Cond.fieldLink "DrawingHouseModel" (231 : Nat) "DrawingHouseModel" "layerSize" "[I" : Cond) ∈ lw_g := lw_gi (lw_c11 (List.mem_of_getElem? (i := 137) rfl)) rfl
theorem wm_2538 : (Cond.fieldLink "DrawingHouseModel" (234 : Nat) "DrawingHouseModel" "layerItem" "[I" : Cond) ∈ lw_g := lw_gi (lw_c11 (List.mem_of_getElem? (i := 138) rfl)) rfl
theorem wm_2539 : (Cond.fieldLink "DrawingHouseModel" (847 : Nat) "DrawingHouseModel" "lines" "I" : Cond) ∈ lw_g := lw_gi (lw_c11 (List.mem_of_getElem? (i := 139) rfl)) rfl
theorem wm_2540 : (Cond.fieldLink "DrawingHouseModel" (237 : Nat) "DrawingHouseModel" "lineA" "[I" : Cond) ∈ lw_g := lw_gi (lw_c11 (List.mem_of_getElem? (i := 140) rfl)) rfl
theorem wm_2541 : (Cond.fieldLink "DrawingHouseModel" (240 : Nat) "DrawingHouseModel" "lineB" "[I" : Cond) ∈ lw_g := lw_gi (lw_c11 (List.mem_of_getElem? (i := 141) rfl)) rfl
theorem wm_2542 : (Cond.fieldLink "DrawingHouseModel" (243 : Nat) "DrawingHouseModel" "permBegin" "[I" : Cond) ∈ lw_g := lw_gi (lw_c11 (List.mem_of_getElem? (i := 142) rfl)) rfl
theorem wm_2543 : (Cond.fieldLink "DrawingHouseModel" (246 : Nat) "DrawingHouseModel" "permMany" "[I" : Cond) ∈ lw_g := lw_gi (lw_c11 (List.mem_of_getElem? (i := 143) rfl)) rfl
theorem wm_2544 : (Cond.fieldLink "DrawingHouseModel" (249 : Nat) "DrawingHouseModel" "perm" "[B" : Cond) ∈ lw_g := lw_gi (lw_c11 (List.mem_of_getElem? (i := 144) rfl)) rfl
theorem wm_2545 : (Cond.fieldLink "DrawingHouseModel" (253 : Nat) "DrawingHouseModel" "rest" "[I" : Cond) ∈ lw_g := lw_gi (lw_c11 (List.mem_of_getElem? (i := 145) rfl)) rfl
theorem wm_2546 : (Cond.fieldLink "DrawingHouseModel" (256 : Nat) "DrawingHouseModel" "worse" "[I" : Cond) ∈ lw_g := lw_gi (lw_c11 (List.mem_of_getElem? (i := 146) rfl)) rfl
theorem wm_2547 : (Cond.fieldLink "DrawingHouseModel" (259 : Nat) "DrawingHouseModel" "listed" "[I" : Cond) ∈ lw_g := lw_gi (lw_c11 (List.mem_of_getElem? (i := 147) rfl)) rfl
theorem wm_2548 : (Cond.fieldLink "DrawingHouseModel" (262 : Nat) "DrawingHouseModel" "inOrder" "[I" : Cond) ∈ lw_g := lw_gi (lw_c11 (List.mem_of_getElem? (i := 148) rfl)) rfl
theorem wm_2549 : (Cond.fieldLink "DrawingHouseModel" (265 : Nat) "DrawingHouseModel" "row" "[I" : Cond) ∈ lw_g := lw_gi (lw_c11 (List.mem_of_getElem? (i := 149) rfl)) rfl
theorem wm_2550 : (Cond.fieldLink "DrawingHouseModel" (268 : Nat) "DrawingHouseModel" "kept" "[I" : Cond) ∈ lw_g := lw_gi (lw_c11 (List.mem_of_getElem? (i := 150) rfl)) rfl
theorem wm_2551 : (Cond.fieldLink "DrawingHouseModel" (271 : Nat) "DrawingHouseModel" "meanA" "[J" : Cond) ∈ lw_g := lw_gi (lw_c11 (List.mem_of_getElem? (i := 151) rfl)) rfl
theorem wm_2552 : (Cond.fieldLink "DrawingHouseModel" (275 : Nat) "DrawingHouseModel" "meanB" "[J" : Cond) ∈ lw_g := lw_gi (lw_c11 (List.mem_of_getElem? (i := 152) rfl)) rfl
theorem wm_2553 : (Cond.fieldLink "DrawingHouseModel" (904 : Nat) "DrawingHouseModel" "upper" "I" : Cond) ∈ lw_g := lw_gi (lw_c11 (List.mem_of_getElem? (i := 153) rfl)) rfl
theorem wm_2554 : (Cond.fieldLink "DrawingHouseModel" (278 : Nat) "DrawingHouseModel" "upperNode" "[I" : Cond) ∈ lw_g := lw_gi (lw_c11 (List.mem_of_getElem? (i := 154) rfl)) rfl
theorem wm_2555 : (Cond.fieldLink "DrawingHouseModel" (281 : Nat) "DrawingHouseModel" "under" "[I" : Cond) ∈ lw_g := lw_gi (lw_c11 (List.mem_of_getElem? (i := 155) rfl)) rfl
theorem wm_2556 : (Cond.fieldLink "DrawingHouseModel" (284 : Nat) "DrawingHouseModel" "number" "[I" : Cond) ∈ lw_g := lw_gi (lw_c11 (List.mem_of_getElem? (i := 156) rfl)) rfl
theorem wm_2557 : (Cond.fieldLink "DrawingHouseModel" (936 : Nat) "DrawingHouseModel" "rowMany" "I" : Cond) ∈ lw_g := lw_gi (lw_c11 (List.mem_of_getElem? (i := 157) rfl)) rfl
theorem wm_2558 : (Cond.fieldLink "DrawingHouseModel" (287 : Nat) "DrawingHouseModel" "toldNumber" "[I" : Cond) ∈ lw_g := lw_gi (lw_c11 (List.mem_of_getElem? (i := 158) rfl)) rfl
theorem wm_2559 : (Cond.fieldLink "DrawingHouseModel" (290 : Nat) "DrawingHouseModel" "above" "[I" : Cond) ∈ lw_g := lw_gi (lw_c11 (List.mem_of_getElem? (i := 159) rfl)) rfl
theorem wm_2560 : (Cond.fieldLink "DrawingHouseModel" (293 : Nat) "DrawingHouseModel" "level" "[I" : Cond) ∈ lw_g := lw_gi (lw_c11 (List.mem_of_getElem? (i := 160) rfl)) rfl
theorem wm_2561 : (Cond.fieldLink "DrawingHouseModel" (296 : Nat) "DrawingHouseModel" "root" "[I" : Cond) ∈ lw_g := lw_gi (lw_c11 (List.mem_of_getElem? (i := 161) rfl)) rfl
theorem wm_2562 : (Cond.fieldLink "DrawingHouseModel" (299 : Nat) "DrawingHouseModel" "itemOf" "[I" : Cond) ∈ lw_g := lw_gi (lw_c11 (List.mem_of_getElem? (i := 162) rfl)) rfl
theorem wm_2563 : (Cond.fieldLink "DrawingHouseModel" (302 : Nat) "DrawingHouseModel" "itemSize" "[I" : Cond) ∈ lw_g := lw_gi (lw_c11 (List.mem_of_getElem? (i := 163) rfl)) rfl
theorem wm_2564 : (Cond.fieldLink "DrawingHouseModel" (971 : Nat) "DrawingHouseModel" "itemMany" "I" : Cond) ∈ lw_g := lw_gi (lw_c11 (List.mem_of_getElem? (i := 164) rfl)) rfl
theorem wm_2565 : (Cond.fieldLink "DrawingHouseModel" (977 : Nat) "DrawingHouseModel" "shapeA" "J" : Cond) ∈ lw_g := lw_gi (lw_c11 (List.mem_of_getElem? (i := 165) rfl)) rfl
theorem wm_2566 : (Cond.fieldLink "DrawingHouseModel" (981 : Nat) "DrawingHouseModel" "shapeB" "J" : Cond) ∈ lw_g := lw_gi (lw_c11 (List.mem_of_getElem? (i := 166) rfl)) rfl
theorem wm_2567 : (Cond.fieldLink "DrawingHouseModel" (305 : Nat) "DrawingHouseModel" "fx" "[J" : Cond) ∈ lw_g := lw_gi (lw_c11 (List.mem_of_getElem? (i := 167) rfl)) rfl
theorem wm_2568 : (Cond.fieldLink "DrawingHouseModel" (308 : Nat) "DrawingHouseModel" "fy" "[J" : Cond) ∈ lw_g := lw_gi (lw_c11 (List.mem_of_getElem? (i := 168) rfl)) rfl
theorem wm_2569 : (Cond.fieldLink "DrawingHouseModel" (311 : Nat) "DrawingHouseModel" "wx" "[J" : Cond) ∈ lw_g := lw_gi (lw_c11 (List.mem_of_getElem? (i := 169) rfl)) rfl
theorem wm_2570 : (Cond.fieldLink "DrawingHouseModel" (314 : Nat) "DrawingHouseModel" "wy" "[J" : Cond) ∈ lw_g := lw_gi (lw_c11 (List.mem_of_getElem? (i := 170) rfl)) rfl
theorem wm_2571 : (Cond.fieldLink "DrawingHouseModel" (1020 : Nat) "DrawingHouseModel" "g0" "I" : Cond) ∈ lw_g := lw_gi (lw_c11 (List.mem_of_getElem? (i := 171) rfl)) rfl
theorem wm_2572 : (Cond.fieldLink "DrawingHouseModel" (317 : Nat) "DrawingHouseModel" "costOf" "[I" : Cond) ∈ lw_g := lw_gi (lw_c11 (List.mem_of_getElem? (i := 172) rfl)) rfl
theorem wm_2573 : (Cond.fieldLink "DrawingHouseModel" (321 : Nat) "DrawingHouseModel" "bucket" "[I" : Cond) ∈ lw_g := lw_gi (lw_c11 (List.mem_of_getElem? (i := 173) rfl)) rfl
theorem wm_2574 : (Cond.fieldLink "DrawingHouseModel" (324 : Nat) "DrawingHouseModel" "bucketMany" "[I" : Cond) ∈ lw_g := lw_gi (lw_c11 (List.mem_of_getElem? (i := 174) rfl)) rfl
theorem wm_2575 : (Cond.fieldLink "DrawingHouseModel" (327 : Nat) "DrawingHouseModel" "barredPoint" "[Z" : Cond) ∈ lw_g := lw_gi (lw_c11 (List.mem_of_getElem? (i := 175) rfl)) rfl
theorem wm_2576 : (Cond.fieldLink "DrawingHouseModel" (1037 : Nat) "DrawingHouseModel" "left0" "I" : Cond) ∈ lw_g := lw_gi (lw_c11 (List.mem_of_getElem? (i := 176) rfl)) rfl
theorem wm_2577 : (Cond.fieldLink "DrawingHouseModel" (1040 : Nat) "DrawingHouseModel" "top0" "I" : Cond) ∈ lw_g := lw_gi (lw_c11 (List.mem_of_getElem? (i := 177) rfl)) rfl
theorem wm_2578 : (Cond.fieldLink "DrawingHouseModel" (1043 : Nat) "DrawingHouseModel" "wide" "I" : Cond) ∈ lw_g := lw_gi (lw_c11 (List.mem_of_getElem? (i := 178) rfl)) rfl
theorem wm_2579 : (Cond.fieldLink "DrawingHouseModel" (1046 : Nat) "DrawingHouseModel" "tall" "I" : Cond) ∈ lw_g := lw_gi (lw_c11 (List.mem_of_getElem? (i := 179) rfl)) rfl
theorem wm_2580 : (Cond.fieldLink "DrawingHouseModel" (330 : Nat) "DrawingHouseModel" "turnX" "[I" : Cond) ∈ lw_g := lw_gi (lw_c11 (List.mem_of_getElem? (i := 180) rfl)) rfl
theorem wm_2581 : (Cond.fieldLink "DrawingHouseModel" (333 : Nat) "DrawingHouseModel" "turnY" "[I" : Cond) ∈ lw_g := lw_gi (lw_c11 (List.mem_of_getElem? (i := 181) rfl)) rfl
theorem wm_2582 : (Cond.fieldLink "DrawingHouseModel" (1079 : Nat) "DrawingHouseModel" "labels" "I" : Cond) ∈ lw_g := lw_gi (lw_c11 (List.mem_of_getElem? (i := 182) rfl)) rfl
theorem wm_2583 : (Cond.fieldLink "DrawingHouseModel" (336 : Nat) "DrawingHouseModel" "labelX" "[I" : Cond) ∈ lw_g := lw_gi (lw_c11 (List.mem_of_getElem? (i := 183) rfl)) rfl
theorem wm_2584 : (Cond.fieldLink "DrawingHouseModel" (339 : Nat) "DrawingHouseModel" "labelY" "[I" : Cond) ∈ lw_g := lw_gi (lw_c11 (List.mem_of_getElem? (i := 184) rfl)) rfl
theorem wm_2585 : (Cond.fieldLink "DrawingHouseModel" (1142 : Nat) "DrawingHouseModel" "leastX" "I" : Cond) ∈ lw_g := lw_gi (lw_c11 (List.mem_of_getElem? (i := 185) rfl)) rfl
theorem wm_2586 : (Cond.fieldLink "DrawingHouseModel" (1145 : Nat) "DrawingHouseModel" "mostX" "I" : Cond) ∈ lw_g := lw_gi (lw_c11 (List.mem_of_getElem? (i := 186) rfl)) rfl
theorem wm_2587 : (Cond.fieldLink "DrawingHouseModel" (1148 : Nat) "DrawingHouseModel" "leastY" "I" : Cond) ∈ lw_g := lw_gi (lw_c11 (List.mem_of_getElem? (i := 187) rfl)) rfl
theorem wm_2588 : (Cond.fieldLink "DrawingHouseModel" (1151 : Nat) "DrawingHouseModel" "mostY" "I" : Cond) ∈ lw_g := lw_gi (lw_c11 (List.mem_of_getElem? (i := 188) rfl)) rfl
theorem wm_2589 : (Cond.fieldLink "DrawingHouseModel" (1160 : Nat) "DrawingHouseModel" "tokens" "I" : Cond) ∈ lw_g := lw_gi (lw_c11 (List.mem_of_getElem? (i := 189) rfl)) rfl
theorem wm_2590 : (Cond.fieldLink "DrawingHouseModel" (1169 : Nat) "DrawingHouseModel" "cur" "I" : Cond) ∈ lw_g := lw_gi (lw_c11 (List.mem_of_getElem? (i := 190) rfl)) rfl
theorem wm_2591 : (Cond.fieldLink "DrawingHouseModel" (1175 : Nat) "DrawingHouseModel" "opened" "I" : Cond) ∈ lw_g := lw_gi (lw_c11 (List.mem_of_getElem? (i := 191) rfl)) rfl
theorem wm_2592 : (Cond.fieldLink "DrawingHouseModel" (342 : Nat) "DrawingHouseModel" "tokenKind" "[I" : Cond) ∈ lw_g := lw_gi (lw_c11 (List.mem_of_getElem? (i := 192) rfl)) rfl
theorem wm_2593 : (Cond.fieldLink "DrawingHouseModel" (345 : Nat) "DrawingHouseModel" "tokenValue" "[J" : Cond) ∈ lw_g := lw_gi (lw_c11 (List.mem_of_getElem? (i := 193) rfl)) rfl
theorem wm_2594 : (Cond.fieldLink "DrawingHouseModel" (348 : Nat) "DrawingHouseModel" "tokenPlace" "[I" : Cond) ∈ lw_g := lw_gi (lw_c11 (List.mem_of_getElem? (i := 194) rfl)) rfl
theorem wm_2595 : (Cond.fieldLink "DrawingHouseModel" (351 : Nat) "DrawingHouseModel" "tokenEnd" "[I" : Cond) ∈ lw_g := lw_gi (lw_c11 (List.mem_of_getElem? (i := 195) rfl)) rfl
theorem wm_2596 : (Cond.fieldLink "DrawingHouseModel" (1195 : Nat) "DrawingHouseModel" "styleKind" "I" : Cond) ∈ lw_g := lw_gi (lw_c11 (List.mem_of_getElem? (i := 196) rfl)) rfl
theorem wm_2597 : (Cond.fieldLink "DrawingHouseModel" (1181 : Nat) "DrawingHouseModel" "styleOne" "I" : Cond) ∈ lw_g := lw_gi (lw_c11 (List.mem_of_getElem? (i := 197) rfl)) rfl
theorem wm_2598 : (Cond.fieldLink "DrawingHouseModel" (354 : Nat) "DrawingHouseModel" "partOfBlocks" "[I" : Cond) ∈ lw_g := lw_gi (lw_c11 (List.mem_of_getElem? (i := 198) rfl)) rfl
theorem wm_2599 : (Cond.fieldLink "DrawingHouseModel" (357 : Nat) "DrawingHouseModel" "coreOf" "[I" : Cond) ∈ lw_g := lw_gi (lw_c11 (List.mem_of_getElem? (i := 199) rfl)) rfl
theorem wm_2600 : (Cond.fieldLink "DrawingHouseModel" (360 : Nat) "DrawingHouseModel" "turnedNow" "[Z" : Cond) ∈ lw_g := lw_gi (lw_c11 (List.mem_of_getElem? (i := 200) rfl)) rfl
theorem wm_2601 : (Cond.fieldLink "DrawingHouseModel" (1326 : Nat) "DrawingHouseModel" "octets" "I" : Cond) ∈ lw_g := lw_gi (lw_c11 (List.mem_of_getElem? (i := 201) rfl)) rfl
theorem wm_2602 : (Cond.fieldLink "DrawingHouseModel" (1277 : Nat) "DrawingHouseModel" "texts" "I" : Cond) ∈ lw_g := lw_gi (lw_c11 (List.mem_of_getElem? (i := 202) rfl)) rfl
theorem wm_2603 : (Cond.fieldLink "DrawingHouseModel" (363 : Nat) "DrawingHouseModel" "octet" "[B" : Cond) ∈ lw_g := lw_gi (lw_c11 (List.mem_of_getElem? (i := 203) rfl)) rfl
theorem wm_2604 : (Cond.fieldLink "DrawingHouseModel" (366 : Nat) "DrawingHouseModel" "written" "[B" : Cond) ∈ lw_g := lw_gi (lw_c11 (List.mem_of_getElem? (i := 204) rfl)) rfl
theorem wm_2605 : (Cond.fieldLink "DrawingHouseModel" (1329 : Nat) "DrawingHouseModel" "dotWide" "I" : Cond) ∈ lw_g := lw_gi (lw_c11 (List.mem_of_getElem? (i := 205) rfl)) rfl
theorem wm_2606 : (Cond.fieldLink "DrawingHouseModel" (1332 : Nat) "DrawingHouseModel" "dotTall" "I" : Cond) ∈ lw_g := lw_gi (lw_c11 (List.mem_of_getElem? (i := 206) rfl)) rfl
theorem wm_2607 : (Cond.fieldLink "DrawingHouseModel" (369 : Nat) "DrawingHouseModel" "dots" "[I" : Cond) ∈ lw_g := lw_gi (lw_c11 (List.mem_of_getElem? (i := 207) rfl)) rfl
theorem wm_2968 : (Cond.code ({ cls := "DrawingHouseModel", name := "fault", desc := "(I)I" } : MethodName) prog_15_method_24_code (2 : Nat) (Option.some ClassFile.FieldType.int) : Cond) ∈ lw_g := lw_gi (lw_c13 (List.mem_of_getElem? (i := 88) rfl)) rfl
theorem wm_2969 : (Cond.methodLink "DrawingHouseModel" (387 : Nat) ({ cls := "DrawingHouseModel", name := "in", desc := "(III)Z" } : MethodName) : Cond) ∈ lw_g := lw_gi (lw_c13 (List.mem_of_getElem? (i := 89) rfl)) rfl
theorem wm_2970 : (Cond.static ({ cls := "DrawingHouseModel", name := "in", desc := "(III)Z" } : MethodName) : Cond) ∈ lw_g := lw_gi (lw_c13 (List.mem_of_getElem? (i := 90) rfl)) rfl
theorem wm_2971 : (Cond.code ({ cls := "DrawingHouseModel", name := "in", desc := "(III)Z" } : MethodName) prog_15_method_3_code (3 : Nat) (Option.some ClassFile.FieldType.boolean) : Cond) ∈ lw_g := lw_gi (lw_c13 (List.mem_of_getElem? (i := 91) rfl)) rfl
theorem wm_2976 : (Cond.methodLink "DrawingHouseModel" (521 : Nat) ({ cls := "DrawingHouseModel", name := "isPlace", desc := "(I)Z" } : MethodName) : Cond) ∈ lw_g := lw_gi (lw_c13 (List.mem_of_getElem? (i := 96) rfl)) rfl
theorem wm_2977 : (Cond.static ({ cls := "DrawingHouseModel", name := "isPlace", desc := "(I)Z" } : MethodName) : Cond) ∈ lw_g := lw_gi (lw_c13 (List.mem_of_getElem? (i := 97) rfl)) rfl
theorem wm_2978 : (Cond.code ({ cls := "DrawingHouseModel", name := "isPlace", desc := "(I)Z" } : MethodName) prog_15_method_9_code (1 : Nat) (Option.some ClassFile.FieldType.boolean) : Cond) ∈ lw_g := lw_gi (lw_c13 (List.mem_of_getElem? (i := 98) rfl)) rfl
theorem wm_2989 : (Cond.code ({ cls := "DrawingHouseModel", name := "isLetter", desc := "(I)Z" } : MethodName) prog_15_method_26_code (1 : Nat) (Option.some ClassFile.FieldType.boolean) : Cond) ∈ lw_g := lw_gi (lw_c13 (List.mem_of_getElem? (i := 109) rfl)) rfl
theorem wm_2992 : (Cond.code ({ cls := "DrawingHouseModel", name := "isDigit", desc := "(I)Z" } : MethodName) prog_15_method_27_code (1 : Nat) (Option.some ClassFile.FieldType.boolean) : Cond) ∈ lw_g := lw_gi (lw_c13 (List.mem_of_getElem? (i := 112) rfl)) rfl
theorem wm_2993 : (Cond.constant "DrawingHouseModel" (447 : Nat) (99999 : Int32) : Cond) ∈ lw_g := lw_gi (lw_c13 (List.mem_of_getElem? (i := 113) rfl)) rfl
theorem wm_3017 : (Cond.code ({ cls := "DrawingHouseModel", name := "wrong", desc := "(II)V" } : MethodName) prog_15_method_30_code (3 : Nat) (Option.none : Option ClassFile.FieldType) : Cond) ∈ lw_g := lw_gi (lw_c13 (List.mem_of_getElem? (i := 137) rfl)) rfl
theorem wm_3022 : (Cond.methodLink "DrawingHouseModel" (475 : Nat) ({ cls := "DrawingHouseModel", name := "nodes", desc := "()I" } : MethodName) : Cond) ∈ lw_g := lw_gi (lw_c13 (List.mem_of_getElem? (i := 142) rfl)) rfl
theorem wm_3024 : (Cond.instanceMethod ({ cls := "DrawingHouseModel", name := "nodes", desc := "()I" } : MethodName) : Cond) ∈ lw_g := lw_gi (lw_c13 (List.mem_of_getElem? (i := 144) rfl)) rfl
theorem wm_3025 : (Cond.code ({ cls := "DrawingHouseModel", name := "nodes", desc := "()I" } : MethodName) prog_15_method_11_code (1 : Nat) (Option.some ClassFile.FieldType.int) : Cond) ∈ lw_g := lw_gi (lw_c13 (List.mem_of_getElem? (i := 145) rfl)) rfl
theorem wm_3026 : (Cond.methodLink "DrawingHouseModel" (478 : Nat) ({ cls := "DrawingHouseModel", name := "longOf", desc := "(I)I" } : MethodName) : Cond) ∈ lw_g := lw_gi (lw_c13 (List.mem_of_getElem? (i := 146) rfl)) rfl
theorem wm_3028 : (Cond.instanceMethod ({ cls := "DrawingHouseModel", name := "longOf", desc := "(I)I" } : MethodName) : Cond) ∈ lw_g := lw_gi (lw_c13 (List.mem_of_getElem? (i := 148) rfl)) rfl
theorem wm_3029 : (Cond.code ({ cls := "DrawingHouseModel", name := "longOf", desc := "(I)I" } : MethodName) prog_15_method_20_code (2 : Nat) (Option.some ClassFile.FieldType.int) : Cond) ∈ lw_g := lw_gi (lw_c13 (List.mem_of_getElem? (i := 149) rfl)) rfl
theorem wm_3030 : (Cond.methodLink "DrawingHouseModel" (488 : Nat) ({ cls := "DrawingHouseModel", name := "between", desc := "(II)I" } : MethodName) : Cond) ∈ lw_g := lw_gi (lw_c13 (List.mem_of_getElem? (i := 150) rfl)) rfl
theorem wm_3032 : (Cond.instanceMethod ({ cls := "DrawingHouseModel", name := "between", desc := "(II)I" } : MethodName) : Cond) ∈ lw_g := lw_gi (lw_c13 (List.mem_of_getElem? (i := 152) rfl)) rfl
theorem wm_3033 : (Cond.code ({ cls := "DrawingHouseModel", name := "between", desc := "(II)I" } : MethodName) prog_15_method_23_code (4 : Nat) (Option.some ClassFile.FieldType.int) : Cond) ∈ lw_g := lw_gi (lw_c13 (List.mem_of_getElem? (i := 153) rfl)) rfl
theorem wm_3034 : (Cond.methodLink "DrawingHouseModel" (401 : Nat) ({ cls := "DrawingHouseModel", name := "edges", desc := "()I" } : MethodName) : Cond) ∈ lw_g := lw_gi (lw_c13 (List.mem_of_getElem? (i := 154) rfl)) rfl
theorem wm_3036 : (Cond.instanceMethod ({ cls := "DrawingHouseModel", name := "edges", desc := "()I" } : MethodName) : Cond) ∈ lw_g := lw_gi (lw_c13 (List.mem_of_getElem? (i := 156) rfl)) rfl
theorem wm_3037 : (Cond.code ({ cls := "DrawingHouseModel", name := "edges", desc := "()I" } : MethodName) prog_15_method_12_code (1 : Nat) (Option.some ClassFile.FieldType.int) : Cond) ∈ lw_g := lw_gi (lw_c13 (List.mem_of_getElem? (i := 157) rfl)) rfl
theorem wm_3038 : (Cond.methodLink "DrawingHouseModel" (405 : Nat) ({ cls := "DrawingHouseModel", name := "has", desc := "(II)Z" } : MethodName) : Cond) ∈ lw_g := lw_gi (lw_c13 (List.mem_of_getElem? (i := 158) rfl)) rfl
theorem wm_3040 : (Cond.instanceMethod ({ cls := "DrawingHouseModel", name := "has", desc := "(II)Z" } : MethodName) : Cond) ∈ lw_g := lw_gi (lw_c13 (List.mem_of_getElem? (i := 160) rfl)) rfl
theorem wm_3041 : (Cond.code ({ cls := "DrawingHouseModel", name := "has", desc := "(II)Z" } : MethodName) prog_15_method_22_code (3 : Nat) (Option.some ClassFile.FieldType.boolean) : Cond) ∈ lw_g := lw_gi (lw_c13 (List.mem_of_getElem? (i := 161) rfl)) rfl
theorem wm_3042 : (Cond.methodLink "DrawingHouseModel" (394 : Nat) ({ cls := "DrawingHouseModel", name := "tail", desc := "(I)I" } : MethodName) : Cond) ∈ lw_g := lw_gi (lw_c13 (List.mem_of_getElem? (i := 162) rfl)) rfl
theorem wm_3044 : (Cond.instanceMethod ({ cls := "DrawingHouseModel", name := "tail", desc := "(I)I" } : MethodName) : Cond) ∈ lw_g := lw_gi (lw_c13 (List.mem_of_getElem? (i := 164) rfl)) rfl
theorem wm_3045 : (Cond.code ({ cls := "DrawingHouseModel", name := "tail", desc := "(I)I" } : MethodName) prog_15_method_14_code (2 : Nat) (Option.some ClassFile.FieldType.int) : Cond) ∈ lw_g := lw_gi (lw_c13 (List.mem_of_getElem? (i := 165) rfl)) rfl
theorem wm_3046 : (Cond.methodLink "DrawingHouseModel" (398 : Nat) ({ cls := "DrawingHouseModel", name := "head", desc := "(I)I" } : MethodName) : Cond) ∈ lw_g := lw_gi (lw_c13 (List.mem_of_getElem? (i := 166) rfl)) rfl
theorem wm_3048 : (Cond.instanceMethod ({ cls := "DrawingHouseModel", name := "head", desc := "(I)I" } : MethodName) : Cond) ∈ lw_g := lw_gi (lw_c13 (List.mem_of_getElem? (i := 168) rfl)) rfl
theorem wm_3049 : (Cond.code ({ cls := "DrawingHouseModel", name := "head", desc := "(I)I" } : MethodName) prog_15_method_15_code (2 : Nat) (Option.some ClassFile.FieldType.int) : Cond) ∈ lw_g := lw_gi (lw_c13 (List.mem_of_getElem? (i := 169) rfl)) rfl
theorem wm_3058 : (Cond.code ({ cls := "DrawingHouseModel", name := "sign", desc := "(I)Z" } : MethodName) prog_15_method_31_code (2 : Nat) (Option.some ClassFile.FieldType.boolean) : Cond) ∈ lw_g := lw_gi (lw_c13 (List.mem_of_getElem? (i := 178) rfl)) rfl
theorem wm_3067 : (Cond.methodLink "DrawingHouseModel" (509 : Nat) ({ cls := "DrawingHouseModel", name := "groups", desc := "()I" } : MethodName) : Cond) ∈ lw_g := lw_gi (lw_c13 (List.mem_of_getElem? (i := 187) rfl)) rfl
theorem wm_3069 : (Cond.instanceMethod ({ cls := "DrawingHouseModel", name := "groups", desc := "()I" } : MethodName) : Cond) ∈ lw_g := lw_gi (lw_c13 (List.mem_of_getElem? (i := 189) rfl)) rfl
theorem wm_3070 : (Cond.code ({ cls := "DrawingHouseModel", name := "groups", desc := "()I" } : MethodName) prog_15_method_13_code (1 : Nat) (Option.some ClassFile.FieldType.int) : Cond) ∈ lw_g := lw_gi (lw_c13 (List.mem_of_getElem? (i := 190) rfl)) rfl
theorem wm_3083 : (Cond.code ({ cls := "DrawingHouseModel", name := "changed", desc := "(I)V" } : MethodName) prog_15_method_42_code (3 : Nat) (Option.none : Option ClassFile.FieldType) : Cond) ∈ lw_g := lw_gi (lw_c13 (List.mem_of_getElem? (i := 203) rfl)) rfl
theorem wm_3088 : (Cond.methodLink "DrawingHouseModel" (527 : Nat) ({ cls := "DrawingHouseModel", name := "take", desc := "(I)V" } : MethodName) : Cond) ∈ lw_g := lw_gi (lw_c13 (List.mem_of_getElem? (i := 208) rfl)) rfl
theorem wm_3090 : (Cond.instanceMethod ({ cls := "DrawingHouseModel", name := "take", desc := "(I)V" } : MethodName) : Cond) ∈ lw_g := lw_gi (lw_c13 (List.mem_of_getElem? (i := 210) rfl)) rfl
theorem wm_3091 : (Cond.code ({ cls := "DrawingHouseModel", name := "take", desc := "(I)V" } : MethodName) prog_15_method_10_code (2 : Nat) (Option.none : Option ClassFile.FieldType) : Cond) ∈ lw_g := lw_gi (lw_c13 (List.mem_of_getElem? (i := 211) rfl)) rfl
theorem wm_3123 : (Cond.code ({ cls := "DrawingHouseModel", name := "fits", desc := "(II)Z" } : MethodName) prog_15_method_60_code (5 : Nat) (Option.some ClassFile.FieldType.boolean) : Cond) ∈ lw_g := lw_gi (lw_c14 (List.mem_of_getElem? (i := 3) rfl)) rfl
theorem wm_3124 : (Cond.methodLink "DrawingHouseModel" (587 : Nat) ({ cls := "DrawingHouseModel", name := "degree", desc := "(II)I" } : MethodName) : Cond) ∈ lw_g := lw_gi (lw_c14 (List.mem_of_getElem? (i := 4) rfl)) rfl
theorem wm_3126 : (Cond.instanceMethod ({ cls := "DrawingHouseModel", name := "degree", desc := "(II)I" } : MethodName) : Cond) ∈ lw_g := lw_gi (lw_c14 (List.mem_of_getElem? (i := 6) rfl)) rfl
theorem wm_3127 : (Cond.code ({ cls := "DrawingHouseModel", name := "degree", desc := "(II)I" } : MethodName) prog_15_method_58_code (5 : Nat) (Option.some ClassFile.FieldType.int) : Cond) ∈ lw_g := lw_gi (lw_c14 (List.mem_of_getElem? (i := 7) rfl)) rfl
theorem wm_3128 : (Cond.methodLink "DrawingHouseModel" (590 : Nat) ({ cls := "DrawingHouseModel", name := "edgeWay", desc := "(III)I" } : MethodName) : Cond) ∈ lw_g := lw_gi (lw_c14 (List.mem_of_getElem? (i := 8) rfl)) rfl
theorem wm_3130 : (Cond.instanceMethod ({ cls := "DrawingHouseModel", name := "edgeWay", desc := "(III)I" } : MethodName) : Cond) ∈ lw_g := lw_gi (lw_c14 (List.mem_of_getElem? (i := 10) rfl)) rfl
theorem wm_3131 : (Cond.code ({ cls := "DrawingHouseModel", name := "edgeWay", desc := "(III)I" } : MethodName) prog_15_method_57_code (8 : Nat) (Option.some ClassFile.FieldType.int) : Cond) ∈ lw_g := lw_gi (lw_c14 (List.mem_of_getElem? (i := 11) rfl)) rfl
theorem wm_3135 : (Cond.code ({ cls := "DrawingHouseModel", name := "map", desc := "(I)I" } : MethodName) prog_15_method_61_code (2 : Nat) (Option.some ClassFile.FieldType.int) : Cond) ∈ lw_g := lw_gi (lw_c14 (List.mem_of_getElem? (i := 15) rfl)) rfl
theorem wm_3156 : (Cond.methodLink "DrawingHouseModel" (600 : Nat) ({ cls := "DrawingHouseModel", name := "at", desc := "(II)Z" } : MethodName) : Cond) ∈ lw_g := lw_gi (lw_c14 (List.mem_of_getElem? (i := 36) rfl)) rfl
theorem wm_3158 : (Cond.instanceMethod ({ cls := "DrawingHouseModel", name := "at", desc := "(II)Z" } : MethodName) : Cond) ∈ lw_g := lw_gi (lw_c14 (List.mem_of_getElem? (i := 38) rfl)) rfl
theorem wm_3159 : (Cond.code ({ cls := "DrawingHouseModel", name := "at", desc := "(II)Z" } : MethodName) prog_15_method_64_code (3 : Nat) (Option.some ClassFile.FieldType.boolean) : Cond) ∈ lw_g := lw_gi (lw_c14 (List.mem_of_getElem? (i := 39) rfl)) rfl
theorem wm_3163 : (Cond.code ({ cls := "DrawingHouseModel", name := "across", desc := "(II)I" } : MethodName) prog_15_method_63_code (3 : Nat) (Option.some ClassFile.FieldType.int) : Cond) ∈ lw_g := lw_gi (lw_c14 (List.mem_of_getElem? (i := 43) rfl)) rfl
theorem wm_3171 : (Cond.code ({ cls := "DrawingHouseModel", name := "join", desc := "(II)V" } : MethodName) prog_15_method_67_code (4 : Nat) (Option.none : Option ClassFile.FieldType) : Cond) ∈ lw_g := lw_gi (lw_c14 (List.mem_of_getElem? (i := 51) rfl)) rfl
theorem wm_3172 : (Cond.methodLink "DrawingHouseModel" (547 : Nat) ({ cls := "DrawingHouseModel", name := "min", desc := "(II)I" } : MethodName) : Cond) ∈ lw_g := lw_gi (lw_c14 (List.mem_of_getElem? (i := 52) rfl)) rfl
theorem wm_3173 : (Cond.static ({ cls := "DrawingHouseModel", name := "min", desc := "(II)I" } : MethodName) : Cond) ∈ lw_g := lw_gi (lw_c14 (List.mem_of_getElem? (i := 53) rfl)) rfl
theorem wm_3174 : (Cond.code ({ cls := "DrawingHouseModel", name := "min", desc := "(II)I" } : MethodName) prog_15_method_5_code (2 : Nat) (Option.some ClassFile.FieldType.int) : Cond) ∈ lw_g := lw_gi (lw_c14 (List.mem_of_getElem? (i := 54) rfl)) rfl
theorem wm_3183 : (Cond.constant "DrawingHouseModel" (546 : Nat) (1000000 : Int32) : Cond) ∈ lw_g := lw_gi (lw_c14 (List.mem_of_getElem? (i := 63) rfl)) rfl
theorem wm_3187 : (Cond.code ({ cls := "DrawingHouseModel", name := "mayGo", desc := "(I)Z" } : MethodName) prog_15_method_72_code (2 : Nat) (Option.some ClassFile.FieldType.boolean) : Cond) ∈ lw_g := lw_gi (lw_c14 (List.mem_of_getElem? (i := 67) rfl)) rfl
theorem wm_3191 : (Cond.code ({ cls := "DrawingHouseModel", name := "closer", desc := "(IIIIZ)Z" } : MethodName) prog_15_method_74_code (6 : Nat) (Option.some ClassFile.FieldType.boolean) : Cond) ∈ lw_g := lw_gi (lw_c14 (List.mem_of_getElem? (i := 71) rfl)) rfl
theorem wm_3192 : (Cond.methodLink "DrawingHouseModel" (646 : Nat) ({ cls := "DrawingHouseModel", name := "edgeOf", desc := "(II)I" } : MethodName) : Cond) ∈ lw_g := lw_gi (lw_c14 (List.mem_of_getElem? (i := 72) rfl)) rfl
theorem wm_3194 : (Cond.instanceMethod ({ cls := "DrawingHouseModel", name := "edgeOf", desc := "(II)I" } : MethodName) : Cond) ∈ lw_g := lw_gi (lw_c14 (List.mem_of_getElem? (i := 74) rfl)) rfl
theorem wm_3195 : (Cond.code ({ cls := "DrawingHouseModel", name := "edgeOf", desc := "(II)I" } : MethodName) prog_15_method_70_code (4 : Nat) (Option.some ClassFile.FieldType.int) : Cond) ∈ lw_g := lw_gi (lw_c14 (List.mem_of_getElem? (i := 75) rfl)) rfl
theorem wm_3203 : (Cond.code ({ cls := "DrawingHouseModel", name := "missing", desc := "()Z" } : MethodName) prog_15_method_69_code (2 : Nat) (Option.some ClassFile.FieldType.boolean) : Cond) ∈ lw_g := lw_gi (lw_c14 (List.mem_of_getElem? (i := 83) rfl)) rfl
theorem wm_3211 : (Cond.code ({ cls := "DrawingHouseModel", name := "shareNew", desc := "(II)Z" } : MethodName) prog_15_method_76_code (5 : Nat) (Option.some ClassFile.FieldType.boolean) : Cond) ∈ lw_g := lw_gi (lw_c14 (List.mem_of_getElem? (i := 91) rfl)) rfl
theorem wm_3219 : (Cond.code ({ cls := "DrawingHouseModel", name := "choose", desc := "()I" } : MethodName) prog_15_method_81_code (6 : Nat) (Option.some ClassFile.FieldType.int) : Cond) ∈ lw_g := lw_gi (lw_c14 (List.mem_of_getElem? (i := 99) rfl)) rfl
theorem wm_3220 : (Cond.methodLink "DrawingHouseModel" (662 : Nat) ({ cls := "DrawingHouseModel", name := "fitsFace", desc := "(II)Z" } : MethodName) : Cond) ∈ lw_g := lw_gi (lw_c14 (List.mem_of_getElem? (i := 100) rfl)) rfl
theorem wm_3222 : (Cond.instanceMethod ({ cls := "DrawingHouseModel", name := "fitsFace", desc := "(II)Z" } : MethodName) : Cond) ∈ lw_g := lw_gi (lw_c14 (List.mem_of_getElem? (i := 102) rfl)) rfl
theorem wm_3223 : (Cond.code ({ cls := "DrawingHouseModel", name := "fitsFace", desc := "(II)Z" } : MethodName) prog_15_method_78_code (3 : Nat) (Option.some ClassFile.FieldType.boolean) : Cond) ∈ lw_g := lw_gi (lw_c14 (List.mem_of_getElem? (i := 103) rfl)) rfl
theorem wm_3227 : (Cond.code ({ cls := "DrawingHouseModel", name := "firstFit", desc := "(I)I" } : MethodName) prog_15_method_80_code (3 : Nat) (Option.some ClassFile.FieldType.int) : Cond) ∈ lw_g := lw_gi (lw_c14 (List.mem_of_getElem? (i := 107) rfl)) rfl
theorem wm_3235 : (Cond.code ({ cls := "DrawingHouseModel", name := "isEnd", desc := "(II)Z" } : MethodName) prog_15_method_77_code (3 : Nat) (Option.some ClassFile.FieldType.boolean) : Cond) ∈ lw_g := lw_gi (lw_c14 (List.mem_of_getElem? (i := 115) rfl)) rfl
theorem wm_3263 : (Cond.code ({ cls := "DrawingHouseModel", name := "toOf", desc := "(I)I" } : MethodName) prog_15_method_88_code (2 : Nat) (Option.some ClassFile.FieldType.int) : Cond) ∈ lw_g := lw_gi (lw_c14 (List.mem_of_getElem? (i := 143) rfl)) rfl
theorem wm_3275 : (Cond.code ({ cls := "DrawingHouseModel", name := "fromOf", desc := "(I)I" } : MethodName) prog_15_method_87_code (2 : Nat) (Option.some ClassFile.FieldType.int) : Cond) ∈ lw_g := lw_gi (lw_c14 (List.mem_of_getElem? (i := 155) rfl)) rfl
theorem wm_3284 : (Cond.methodLink "DrawingHouseModel" (550 : Nat) ({ cls := "DrawingHouseModel", name := "farFrom", desc := "(I)V" } : MethodName) : Cond) ∈ lw_g := lw_gi (lw_c14 (List.mem_of_getElem? (i := 164) rfl)) rfl
theorem wm_3286 : (Cond.instanceMethod ({ cls := "DrawingHouseModel", name := "farFrom", desc := "(I)V" } : MethodName) : Cond) ∈ lw_g := lw_gi (lw_c14 (List.mem_of_getElem? (i := 166) rfl)) rfl
theorem wm_3287 : (Cond.code ({ cls := "DrawingHouseModel", name := "farFrom", desc := "(I)V" } : MethodName) prog_15_method_50_code (6 : Nat) (Option.none : Option ClassFile.FieldType) : Cond) ∈ lw_g := lw_gi (lw_c14 (List.mem_of_getElem? (i := 167) rfl)) rfl
theorem wm_3295 : (Cond.code ({ cls := "DrawingHouseModel", name := "reaching", desc := "(Z)V" } : MethodName) prog_15_method_52_code (6 : Nat) (Option.none : Option ClassFile.FieldType) : Cond) ∈ lw_g := lw_gi (lw_c14 (List.mem_of_getElem? (i := 175) rfl)) rfl
theorem wm_3296 : (Cond.methodLink "DrawingHouseModel" (553 : Nat) ({ cls := "DrawingHouseModel", name := "one", desc := "(I)I" } : MethodName) : Cond) ∈ lw_g := lw_gi (lw_c14 (List.mem_of_getElem? (i := 176) rfl)) rfl
theorem wm_3298 : (Cond.instanceMethod ({ cls := "DrawingHouseModel", name := "one", desc := "(I)I" } : MethodName) : Cond) ∈ lw_g := lw_gi (lw_c14 (List.mem_of_getElem? (i := 178) rfl)) rfl
theorem wm_3299 : (Cond.code ({ cls := "DrawingHouseModel", name := "one", desc := "(I)I" } : MethodName) prog_15_method_17_code (2 : Nat) (Option.some ClassFile.FieldType.int) : Cond) ∈ lw_g := lw_gi (lw_c14 (List.mem_of_getElem? (i := 179) rfl)) rfl
theorem wm_3307 : (Cond.code ({ cls := "DrawingHouseModel", name := "size", desc := "(I)I" } : MethodName) prog_15_method_18_code (2 : Nat) (Option.some ClassFile.FieldType.int) : Cond) ∈ lw_g := lw_gi (lw_c14 (List.mem_of_getElem? (i := 187) rfl)) rfl
theorem wm_3311 : (Cond.code ({ cls := "DrawingHouseModel", name := "groupOf", desc := "(I)I" } : MethodName) prog_15_method_19_code (2 : Nat) (Option.some ClassFile.FieldType.int) : Cond) ∈ lw_g := lw_gi (lw_c14 (List.mem_of_getElem? (i := 191) rfl)) rfl
theorem wm_3312 : (Cond.methodLink "DrawingHouseModel" (728 : Nat) ({ cls := "DrawingHouseModel", name := "neighbours", desc := "(I)I" } : MethodName) : Cond) ∈ lw_g := lw_gi (lw_c14 (List.mem_of_getElem? (i := 192) rfl)) rfl
theorem wm_3314 : (Cond.instanceMethod ({ cls := "DrawingHouseModel", name := "neighbours", desc := "(I)I" } : MethodName) : Cond) ∈ lw_g := lw_gi (lw_c14 (List.mem_of_getElem? (i := 194) rfl)) rfl
theorem wm_3315 : (Cond.code ({ cls := "DrawingHouseModel", name := "neighbours", desc := "(I)I" } : MethodName) prog_15_method_54_code (4 : Nat) (Option.some ClassFile.FieldType.int) : Cond) ∈ lw_g := lw_gi (lw_c14 (List.mem_of_getElem? (i := 195) rfl)) rfl
theorem wm_3319 : (Cond.code ({ cls := "DrawingHouseModel", name := "blocksOf", desc := "(I)I" } : MethodName) prog_15_method_96_code (6 : Nat) (Option.some ClassFile.FieldType.int) : Cond) ∈ lw_g := lw_gi (lw_c14 (List.mem_of_getElem? (i := 199) rfl)) rfl
theorem wm_3331 : (Cond.code ({ cls := "DrawingHouseModel", name := "other", desc := "(II)I" } : MethodName) prog_15_method_21_code (3 : Nat) (Option.some ClassFile.FieldType.int) : Cond) ∈ lw_g := lw_gi (lw_c14 (List.mem_of_getElem? (i := 211) rfl)) rfl
theorem wm_3339 : (Cond.code ({ cls := "DrawingHouseModel", name := "weight", desc := "(I)I" } : MethodName) prog_15_method_16_code (2 : Nat) (Option.some ClassFile.FieldType.int) : Cond) ∈ lw_g := lw_gi (lw_c14 (List.mem_of_getElem? (i := 219) rfl)) rfl
theorem wm_3343 : (Cond.code ({ cls := "DrawingHouseModel", name := "isBridge", desc := "(I)Z" } : MethodName) prog_15_method_97_code (4 : Nat) (Option.some ClassFile.FieldType.boolean) : Cond) ∈ lw_g := lw_gi (lw_c14 (List.mem_of_getElem? (i := 223) rfl)) rfl
theorem wm_3359 : (Cond.code ({ cls := "DrawingHouseModel", name := "letter", desc := "(IIII)I" } : MethodName) prog_15_method_104_code (5 : Nat) (Option.some ClassFile.FieldType.int) : Cond) ∈ lw_g := lw_gi (lw_c14 (List.mem_of_getElem? (i := 239) rfl)) rfl
theorem wm_3363 : (Cond.code ({ cls := "DrawingHouseModel", name := "far", desc := "(III)I" } : MethodName) prog_15_method_105_code (4 : Nat) (Option.some ClassFile.FieldType.int) : Cond) ∈ lw_g := lw_gi (lw_c15 (List.mem_of_getElem? (i := 3) rfl)) rfl
theorem wm_3383 : (Cond.code ({ cls := "DrawingHouseModel", name := "isMember", desc := "(I)Z" } : MethodName) prog_15_method_116_code (3 : Nat) (Option.some ClassFile.FieldType.boolean) : Cond) ∈ lw_g := lw_gi (lw_c15 (List.mem_of_getElem? (i := 23) rfl)) rfl
theorem wm_3391 : (Cond.code ({ cls := "DrawingHouseModel", name := "placeIn", desc := "(I)I" } : MethodName) prog_15_method_118_code (3 : Nat) (Option.some ClassFile.FieldType.int) : Cond) ∈ lw_g := lw_gi (lw_c15 (List.mem_of_getElem? (i := 31) rfl)) rfl
theorem wm_3395 : (Cond.code ({ cls := "DrawingHouseModel", name := "from", desc := "(I)I" } : MethodName) prog_15_method_122_code (2 : Nat) (Option.some ClassFile.FieldType.int) : Cond) ∈ lw_g := lw_gi (lw_c15 (List.mem_of_getElem? (i := 35) rfl)) rfl
theorem wm_3399 : (Cond.code ({ cls := "DrawingHouseModel", name := "to", desc := "(I)I" } : MethodName) prog_15_method_123_code (2 : Nat) (Option.some ClassFile.FieldType.int) : Cond) ∈ lw_g := lw_gi (lw_c15 (List.mem_of_getElem? (i := 39) rfl)) rfl
theorem wm_3428 : (Cond.methodLink "DrawingHouseModel" (855 : Nat) ({ cls := "DrawingHouseModel", name := "max", desc := "(II)I" } : MethodName) : Cond) ∈ lw_g := lw_gi (lw_c15 (List.mem_of_getElem? (i := 68) rfl)) rfl
theorem wm_3429 : (Cond.static ({ cls := "DrawingHouseModel", name := "max", desc := "(II)I" } : MethodName) : Cond) ∈ lw_g := lw_gi (lw_c15 (List.mem_of_getElem? (i := 69) rfl)) rfl
theorem wm_3430 : (Cond.code ({ cls := "DrawingHouseModel", name := "max", desc := "(II)I" } : MethodName) prog_15_method_4_code (2 : Nat) (Option.some ClassFile.FieldType.int) : Cond) ∈ lw_g := lw_gi (lw_c15 (List.mem_of_getElem? (i := 70) rfl)) rfl
theorem wm_3434 : (Cond.code ({ cls := "DrawingHouseModel", name := "isSmall", desc := "()Z" } : MethodName) prog_15_method_127_code (2 : Nat) (Option.some ClassFile.FieldType.boolean) : Cond) ∈ lw_g := lw_gi (lw_c15 (List.mem_of_getElem? (i := 74) rfl)) rfl
theorem wm_3474 : (Cond.code ({ cls := "DrawingHouseModel", name := "halfOf", desc := "(I)I" } : MethodName) prog_15_method_137_code (2 : Nat) (Option.some ClassFile.FieldType.int) : Cond) ∈ lw_g := lw_gi (lw_c15 (List.mem_of_getElem? (i := 114) rfl)) rfl
theorem wm_3510 : (Cond.code ({ cls := "DrawingHouseModel", name := "mayLeave", desc := "(I)Z" } : MethodName) prog_15_method_147_code (4 : Nat) (Option.some ClassFile.FieldType.boolean) : Cond) ∈ lw_g := lw_gi (lw_c15 (List.mem_of_getElem? (i := 150) rfl)) rfl
theorem wm_3522 : (Cond.code ({ cls := "DrawingHouseModel", name := "move", desc := "(II)V" } : MethodName) prog_15_method_150_code (4 : Nat) (Option.none : Option ClassFile.FieldType) : Cond) ∈ lw_g := lw_gi (lw_c15 (List.mem_of_getElem? (i := 162) rfl)) rfl
theorem wm_3539 : (Cond.methodLink "DrawingHouseModel" (919 : Nat) ({ cls := "DrawingHouseModel", name := "low", desc := "(I)I" } : MethodName) : Cond) ∈ lw_g := lw_gi (lw_c15 (List.mem_of_getElem? (i := 179) rfl)) rfl
theorem wm_3541 : (Cond.instanceMethod ({ cls := "DrawingHouseModel", name := "low", desc := "(I)I" } : MethodName) : Cond) ∈ lw_g := lw_gi (lw_c15 (List.mem_of_getElem? (i := 181) rfl)) rfl
theorem wm_3542 : (Cond.code ({ cls := "DrawingHouseModel", name := "low", desc := "(I)I" } : MethodName) prog_15_method_152_code (2 : Nat) (Option.some ClassFile.FieldType.int) : Cond) ∈ lw_g := lw_gi (lw_c15 (List.mem_of_getElem? (i := 182) rfl)) rfl
theorem wm_3546 : (Cond.code ({ cls := "DrawingHouseModel", name := "dart", desc := "(I)I" } : MethodName) prog_15_method_153_code (2 : Nat) (Option.some ClassFile.FieldType.int) : Cond) ∈ lw_g := lw_gi (lw_c15 (List.mem_of_getElem? (i := 186) rfl)) rfl
theorem wm_3547 : (Cond.constant "DrawingHouseModel" (776 : Nat) (-1000000 : Int32) : Cond) ∈ lw_g := lw_gi (lw_c15 (List.mem_of_getElem? (i := 187) rfl)) rfl
theorem wm_3604 : (Cond.code ({ cls := "DrawingHouseModel", name := "worst", desc := "(IIIIII)V" } : MethodName) prog_15_method_169_code (20 : Nat) (Option.none : Option ClassFile.FieldType) : Cond) ∈ lw_g := lw_gi (lw_c16 (List.mem_of_getElem? (i := 4) rfl)) rfl
theorem wm_3612 : (Cond.code ({ cls := "DrawingHouseModel", name := "chordCrossings", desc := "(I)I" } : MethodName) prog_15_method_171_code (9 : Nat) (Option.some ClassFile.FieldType.int) : Cond) ∈ lw_g := lw_gi (lw_c16 (List.mem_of_getElem? (i := 12) rfl)) rfl
theorem wm_3625 : (Cond.constantLong "DrawingHouseModel" (1007 : Nat) (-1 : Int64) : Cond) ∈ lw_g := lw_gi (lw_c16 (List.mem_of_getElem? (i := 25) rfl)) rfl
theorem wm_3626 : (Cond.constantLong "DrawingHouseModel" (1009 : Nat) (65536 : Int64) : Cond) ∈ lw_g := lw_gi (lw_c16 (List.mem_of_getElem? (i := 26) rfl)) rfl
theorem wm_3630 : (Cond.constantLong "DrawingHouseModel" (994 : Nat) (1073741824 : Int64) : Cond) ∈ lw_g := lw_gi (lw_c16 (List.mem_of_getElem? (i := 30) rfl)) rfl
theorem wm_3631 : (Cond.constantLong "DrawingHouseModel" (1015 : Nat) (1024 : Int64) : Cond) ∈ lw_g := lw_gi (lw_c16 (List.mem_of_getElem? (i := 31) rfl)) rfl
theorem wm_3634 : (Cond.code ({ cls := "DrawingHouseModel", name := "bounded", desc := "(JJ)J" } : MethodName) prog_15_method_176_code (4 : Nat) (Option.some ClassFile.FieldType.long) : Cond) ∈ lw_g := lw_gi (lw_c16 (List.mem_of_getElem? (i := 34) rfl)) rfl
theorem wm_3635 : (Cond.constantLong "DrawingHouseModel" (1003 : Nat) (16 : Int64) : Cond) ∈ lw_g := lw_gi (lw_c16 (List.mem_of_getElem? (i := 35) rfl)) rfl
theorem wm_3644 : (Cond.code ({ cls := "DrawingHouseModel", name := "fewest", desc := "(I)I" } : MethodName) prog_15_method_179_code (4 : Nat) (Option.some ClassFile.FieldType.int) : Cond) ∈ lw_g := lw_gi (lw_c16 (List.mem_of_getElem? (i := 44) rfl)) rfl
theorem wm_3648 : (Cond.code ({ cls := "DrawingHouseModel", name := "keep", desc := "(II)V" } : MethodName) prog_15_method_106_code (5 : Nat) (Option.none : Option ClassFile.FieldType) : Cond) ∈ lw_g := lw_gi (lw_c16 (List.mem_of_getElem? (i := 48) rfl)) rfl
theorem wm_3652 : (Cond.code ({ cls := "DrawingHouseModel", name := "at", desc := "(IIII)I" } : MethodName) prog_15_method_108_code (6 : Nat) (Option.some ClassFile.FieldType.int) : Cond) ∈ lw_g := lw_gi (lw_c16 (List.mem_of_getElem? (i := 52) rfl)) rfl
theorem wm_3653 : (Cond.constant "DrawingHouseModel" (775 : Nat) (-2147483648 : Int32) : Cond) ∈ lw_g := lw_gi (lw_c16 (List.mem_of_getElem? (i := 53) rfl)) rfl
theorem wm_3657 : (Cond.code ({ cls := "DrawingHouseModel", name := "told", desc := "(III)I" } : MethodName) prog_15_method_109_code (6 : Nat) (Option.some ClassFile.FieldType.int) : Cond) ∈ lw_g := lw_gi (lw_c16 (List.mem_of_getElem? (i := 57) rfl)) rfl
theorem wm_3661 : (Cond.code ({ cls := "DrawingHouseModel", name := "put", desc := "(IIIII)Z" } : MethodName) prog_15_method_110_code (6 : Nat) (Option.some ClassFile.FieldType.boolean) : Cond) ∈ lw_g := lw_gi (lw_c16 (List.mem_of_getElem? (i := 61) rfl)) rfl
theorem wm_3669 : (Cond.code ({ cls := "DrawingHouseModel", name := "isDrawn", desc := "(I)Z" } : MethodName) prog_15_method_180_code (2 : Nat) (Option.some ClassFile.FieldType.boolean) : Cond) ∈ lw_g := lw_gi (lw_c16 (List.mem_of_getElem? (i := 69) rfl)) rfl
theorem wm_3670 : (Cond.constant "DrawingHouseModel" (1035 : Nat) (-2000000 : Int32) : Cond) ∈ lw_g := lw_gi (lw_c16 (List.mem_of_getElem? (i := 70) rfl)) rfl
theorem wm_3671 : (Cond.constant "DrawingHouseModel" (1036 : Nat) (2000000 : Int32) : Cond) ∈ lw_g := lw_gi (lw_c16 (List.mem_of_getElem? (i := 71) rfl)) rfl
theorem wm_3672 : (Cond.methodLink "DrawingHouseModel" (1023 : Nat) ({ cls := "DrawingHouseModel", name := "px", desc := "(I)I" } : MethodName) : Cond) ∈ lw_g := lw_gi (lw_c16 (List.mem_of_getElem? (i := 72) rfl)) rfl
theorem wm_3674 : (Cond.instanceMethod ({ cls := "DrawingHouseModel", name := "px", desc := "(I)I" } : MethodName) : Cond) ∈ lw_g := lw_gi (lw_c16 (List.mem_of_getElem? (i := 74) rfl)) rfl
theorem wm_3675 : (Cond.code ({ cls := "DrawingHouseModel", name := "px", desc := "(I)I" } : MethodName) prog_15_method_181_code (2 : Nat) (Option.some ClassFile.FieldType.int) : Cond) ∈ lw_g := lw_gi (lw_c16 (List.mem_of_getElem? (i := 75) rfl)) rfl
theorem wm_3676 : (Cond.methodLink "DrawingHouseModel" (1029 : Nat) ({ cls := "DrawingHouseModel", name := "py", desc := "(I)I" } : MethodName) : Cond) ∈ lw_g := lw_gi (lw_c16 (List.mem_of_getElem? (i := 76) rfl)) rfl
theorem wm_3678 : (Cond.instanceMethod ({ cls := "DrawingHouseModel", name := "py", desc := "(I)I" } : MethodName) : Cond) ∈ lw_g := lw_gi (lw_c16 (List.mem_of_getElem? (i := 78) rfl)) rfl
theorem wm_3679 : (Cond.code ({ cls := "DrawingHouseModel", name := "py", desc := "(I)I" } : MethodName) prog_15_method_182_code (2 : Nat) (Option.some ClassFile.FieldType.int) : Cond) ∈ lw_g := lw_gi (lw_c16 (List.mem_of_getElem? (i := 79) rfl)) rfl
theorem wm_3680 : (Cond.constantLong "DrawingHouseModel" (1049 : Nat) (6000 : Int64) : Cond) ∈ lw_g := lw_gi (lw_c16 (List.mem_of_getElem? (i := 80) rfl)) rfl
theorem wm_3684 : (Cond.code ({ cls := "DrawingHouseModel", name := "isBarred", desc := "(III)Z" } : MethodName) prog_15_method_188_code (5 : Nat) (Option.some ClassFile.FieldType.boolean) : Cond) ∈ lw_g := lw_gi (lw_c16 (List.mem_of_getElem? (i := 84) rfl)) rfl
theorem wm_3685 : (Cond.methodLink "DrawingHouseModel" (1061 : Nat) ({ cls := "DrawingHouseModel", name := "isInBox", desc := "(III)Z" } : MethodName) : Cond) ∈ lw_g := lw_gi (lw_c16 (List.mem_of_getElem? (i := 85) rfl)) rfl
theorem wm_3687 : (Cond.instanceMethod ({ cls := "DrawingHouseModel", name := "isInBox", desc := "(III)Z" } : MethodName) : Cond) ∈ lw_g := lw_gi (lw_c16 (List.mem_of_getElem? (i := 87) rfl)) rfl
theorem wm_3688 : (Cond.code ({ cls := "DrawingHouseModel", name := "isInBox", desc := "(III)Z" } : MethodName) prog_15_method_186_code (5 : Nat) (Option.some ClassFile.FieldType.boolean) : Cond) ∈ lw_g := lw_gi (lw_c16 (List.mem_of_getElem? (i := 88) rfl)) rfl
theorem wm_3703 : (Cond.code ({ cls := "DrawingHouseModel", name := "dx", desc := "(I)I" } : MethodName) prog_15_method_190_code (1 : Nat) (Option.some ClassFile.FieldType.int) : Cond) ∈ lw_g := lw_gi (lw_c16 (List.mem_of_getElem? (i := 103) rfl)) rfl
theorem wm_3706 : (Cond.code ({ cls := "DrawingHouseModel", name := "dy", desc := "(I)I" } : MethodName) prog_15_method_191_code (1 : Nat) (Option.some ClassFile.FieldType.int) : Cond) ∈ lw_g := lw_gi (lw_c16 (List.mem_of_getElem? (i := 106) rfl)) rfl
theorem wm_3726 : (Cond.code ({ cls := "DrawingHouseModel", name := "pointsOf", desc := "(I)I" } : MethodName) prog_15_method_183_code (2 : Nat) (Option.some ClassFile.FieldType.int) : Cond) ∈ lw_g := lw_gi (lw_c16 (List.mem_of_getElem? (i := 126) rfl)) rfl
theorem wm_3745 : (Cond.code ({ cls := "DrawingHouseModel", name := "turnOf", desc := "(JJJJJJ)J" } : MethodName) prog_15_method_198_code (12 : Nat) (Option.some ClassFile.FieldType.long) : Cond) ∈ lw_g := lw_gi (lw_c16 (List.mem_of_getElem? (i := 145) rfl)) rfl
theorem wm_3748 : (Cond.code ({ cls := "DrawingHouseModel", name := "signOf", desc := "(J)I" } : MethodName) prog_15_method_199_code (2 : Nat) (Option.some ClassFile.FieldType.int) : Cond) ∈ lw_g := lw_gi (lw_c16 (List.mem_of_getElem? (i := 148) rfl)) rfl
theorem wm_3761 : (Cond.code ({ cls := "DrawingHouseModel", name := "isShared", desc := "(IIJJ)Z" } : MethodName) prog_15_method_204_code (8 : Nat) (Option.some ClassFile.FieldType.boolean) : Cond) ∈ lw_g := lw_gi (lw_c16 (List.mem_of_getElem? (i := 161) rfl)) rfl
theorem wm_3770 : (Cond.constantLong "DrawingHouseModel" (1140 : Nat) (2 : Int64) : Cond) ∈ lw_g := lw_gi (lw_c16 (List.mem_of_getElem? (i := 170) rfl)) rfl
theorem wm_3782 : (Cond.code ({ cls := "DrawingHouseModel", name := "bound", desc := "(II)V" } : MethodName) prog_15_method_209_code (3 : Nat) (Option.none : Option ClassFile.FieldType) : Cond) ∈ lw_g := lw_gi (lw_c16 (List.mem_of_getElem? (i := 182) rfl)) rfl
theorem wm_3799 : (Cond.constantLong "DrawingHouseModel" (1163 : Nat) (99999 : Int64) : Cond) ∈ lw_g := lw_gi (lw_c16 (List.mem_of_getElem? (i := 199) rfl)) rfl
theorem wm_3800 : (Cond.constantLong "DrawingHouseModel" (1165 : Nat) (10 : Int64) : Cond) ∈ lw_g := lw_gi (lw_c16 (List.mem_of_getElem? (i := 200) rfl)) rfl
theorem wm_3801 : (Cond.constantLong "DrawingHouseModel" (1167 : Nat) (48 : Int64) : Cond) ∈ lw_g := lw_gi (lw_c16 (List.mem_of_getElem? (i := 201) rfl)) rfl
theorem wm_3832 : (Cond.code ({ cls := "DrawingHouseModel", name := "styleSign", desc := "(I)Z" } : MethodName) prog_15_method_214_code (2 : Nat) (Option.some ClassFile.FieldType.boolean) : Cond) ∈ lw_g := lw_gi (lw_c16 (List.mem_of_getElem? (i := 232) rfl)) rfl
theorem wm_3885 : (Cond.constantLong "DrawingHouseModel" (1215 : Nat) (255 : Int64) : Cond) ∈ lw_g := lw_gi (lw_c17 (List.mem_of_getElem? (i := 45) rfl)) rfl
theorem wm_3897 : (Cond.code ({ cls := "DrawingHouseModel", name := "shade", desc := "(IIII)I" } : MethodName) prog_15_method_231_code (5 : Nat) (Option.some ClassFile.FieldType.int) : Cond) ∈ lw_g := lw_gi (lw_c17 (List.mem_of_getElem? (i := 57) rfl)) rfl
theorem wm_3928 : (Cond.constantLong "DrawingHouseModel" (1283 : Nat) (9 : Int64) : Cond) ∈ lw_g := lw_gi (lw_c17 (List.mem_of_getElem? (i := 88) rfl)) rfl
theorem wm_3948 : (Cond.code ({ cls := "DrawingHouseModel", name := "octet", desc := "(I)I" } : MethodName) prog_15_method_241_code (2 : Nat) (Option.some ClassFile.FieldType.int) : Cond) ∈ lw_g := lw_gi (lw_c17 (List.mem_of_getElem? (i := 108) rfl)) rfl
theorem wm_3968 : (Cond.code ({ cls := "DrawingHouseModel", name := "dot", desc := "(II)I" } : MethodName) prog_15_method_246_code (3 : Nat) (Option.some ClassFile.FieldType.int) : Cond) ∈ lw_g := lw_gi (lw_c17 (List.mem_of_getElem? (i := 128) rfl)) rfl
theorem wv_13_3 : (Cond.selects "DrawingHouseModel" ⟨"DrawingHouseModel", "nodes", "()I"⟩ ⟨"DrawingHouseModel", "nodes", "()I"⟩ : Cond) ∈ lw_g := lw_gi (List.mem_append_left _ (List.mem_map.mpr ⟨_, lw_v13 (List.mem_of_getElem? (i := 3) rfl), rfl⟩)) rfl
theorem wv_13_4 : (Cond.selects "DrawingHouseModel" ⟨"DrawingHouseModel", "longOf", "(I)I"⟩ ⟨"DrawingHouseModel", "longOf", "(I)I"⟩ : Cond) ∈ lw_g := lw_gi (List.mem_append_left _ (List.mem_map.mpr ⟨_, lw_v13 (List.mem_of_getElem? (i := 4) rfl), rfl⟩)) rfl
theorem wv_13_5 : (Cond.selects "DrawingHouseModel" ⟨"DrawingHouseModel", "between", "(II)I"⟩ ⟨"DrawingHouseModel", "between", "(II)I"⟩ : Cond) ∈ lw_g := lw_gi (List.mem_append_left _ (List.mem_map.mpr ⟨_, lw_v13 (List.mem_of_getElem? (i := 5) rfl), rfl⟩)) rfl
theorem wv_13_6 : (Cond.selects "DrawingHouseModel" ⟨"DrawingHouseModel", "edges", "()I"⟩ ⟨"DrawingHouseModel", "edges", "()I"⟩ : Cond) ∈ lw_g := lw_gi (List.mem_append_left _ (List.mem_map.mpr ⟨_, lw_v13 (List.mem_of_getElem? (i := 6) rfl), rfl⟩)) rfl
theorem wv_13_7 : (Cond.selects "DrawingHouseModel" ⟨"DrawingHouseModel", "has", "(II)Z"⟩ ⟨"DrawingHouseModel", "has", "(II)Z"⟩ : Cond) ∈ lw_g := lw_gi (List.mem_append_left _ (List.mem_map.mpr ⟨_, lw_v13 (List.mem_of_getElem? (i := 7) rfl), rfl⟩)) rfl
theorem wv_13_8 : (Cond.selects "DrawingHouseModel" ⟨"DrawingHouseModel", "tail", "(I)I"⟩ ⟨"DrawingHouseModel", "tail", "(I)I"⟩ : Cond) ∈ lw_g := lw_gi (List.mem_append_left _ (List.mem_map.mpr ⟨_, lw_v13 (List.mem_of_getElem? (i := 8) rfl), rfl⟩)) rfl
theorem wv_13_9 : (Cond.selects "DrawingHouseModel" ⟨"DrawingHouseModel", "head", "(I)I"⟩ ⟨"DrawingHouseModel", "head", "(I)I"⟩ : Cond) ∈ lw_g := lw_gi (List.mem_append_left _ (List.mem_map.mpr ⟨_, lw_v13 (List.mem_of_getElem? (i := 9) rfl), rfl⟩)) rfl
theorem wv_13_14 : (Cond.selects "DrawingHouseModel" ⟨"DrawingHouseModel", "groups", "()I"⟩ ⟨"DrawingHouseModel", "groups", "()I"⟩ : Cond) ∈ lw_g := lw_gi (List.mem_append_left _ (List.mem_map.mpr ⟨_, lw_v13 (List.mem_of_getElem? (i := 14) rfl), rfl⟩)) rfl
theorem wv_14_2 : (Cond.selects "DrawingHouseModel" ⟨"DrawingHouseModel", "take", "(I)V"⟩ ⟨"DrawingHouseModel", "take", "(I)V"⟩ : Cond) ∈ lw_g := lw_gi (List.mem_append_left _ (List.mem_map.mpr ⟨_, lw_v14 (List.mem_of_getElem? (i := 2) rfl), rfl⟩)) rfl
theorem wv_14_9 : (Cond.selects "DrawingHouseModel" ⟨"DrawingHouseModel", "degree", "(II)I"⟩ ⟨"DrawingHouseModel", "degree", "(II)I"⟩ : Cond) ∈ lw_g := lw_gi (List.mem_append_left _ (List.mem_map.mpr ⟨_, lw_v14 (List.mem_of_getElem? (i := 9) rfl), rfl⟩)) rfl
theorem wv_14_10 : (Cond.selects "DrawingHouseModel" ⟨"DrawingHouseModel", "edgeWay", "(III)I"⟩ ⟨"DrawingHouseModel", "edgeWay", "(III)I"⟩ : Cond) ∈ lw_g := lw_gi (List.mem_append_left _ (List.mem_map.mpr ⟨_, lw_v14 (List.mem_of_getElem? (i := 10) rfl), rfl⟩)) rfl
theorem wv_14_15 : (Cond.selects "DrawingHouseModel" ⟨"DrawingHouseModel", "at", "(II)Z"⟩ ⟨"DrawingHouseModel", "at", "(II)Z"⟩ : Cond) ∈ lw_g := lw_gi (List.mem_append_left _ (List.mem_map.mpr ⟨_, lw_v14 (List.mem_of_getElem? (i := 15) rfl), rfl⟩)) rfl
theorem wv_15_7 : (Cond.selects "DrawingHouseModel" ⟨"DrawingHouseModel", "edgeOf", "(II)I"⟩ ⟨"DrawingHouseModel", "edgeOf", "(II)I"⟩ : Cond) ∈ lw_g := lw_gi (List.mem_append_left _ (List.mem_map.mpr ⟨_, lw_v15 (List.mem_of_getElem? (i := 7) rfl), rfl⟩)) rfl
theorem wv_15_14 : (Cond.selects "DrawingHouseModel" ⟨"DrawingHouseModel", "fitsFace", "(II)Z"⟩ ⟨"DrawingHouseModel", "fitsFace", "(II)Z"⟩ : Cond) ∈ lw_g := lw_gi (List.mem_append_left _ (List.mem_map.mpr ⟨_, lw_v15 (List.mem_of_getElem? (i := 14) rfl), rfl⟩)) rfl
theorem wv_16_12 : (Cond.selects "DrawingHouseModel" ⟨"DrawingHouseModel", "farFrom", "(I)V"⟩ ⟨"DrawingHouseModel", "farFrom", "(I)V"⟩ : Cond) ∈ lw_g := lw_gi (List.mem_append_left _ (List.mem_map.mpr ⟨_, lw_v16 (List.mem_of_getElem? (i := 12) rfl), rfl⟩)) rfl
theorem wv_16_15 : (Cond.selects "DrawingHouseModel" ⟨"DrawingHouseModel", "one", "(I)I"⟩ ⟨"DrawingHouseModel", "one", "(I)I"⟩ : Cond) ∈ lw_g := lw_gi (List.mem_append_left _ (List.mem_map.mpr ⟨_, lw_v16 (List.mem_of_getElem? (i := 15) rfl), rfl⟩)) rfl
theorem wv_17_2 : (Cond.selects "DrawingHouseModel" ⟨"DrawingHouseModel", "neighbours", "(I)I"⟩ ⟨"DrawingHouseModel", "neighbours", "(I)I"⟩ : Cond) ∈ lw_g := lw_gi (List.mem_append_left _ (List.mem_map.mpr ⟨_, lw_v17 (List.mem_of_getElem? (i := 2) rfl), rfl⟩)) rfl
theorem wv_20_5 : (Cond.selects "DrawingHouseModel" ⟨"DrawingHouseModel", "low", "(I)I"⟩ ⟨"DrawingHouseModel", "low", "(I)I"⟩ : Cond) ∈ lw_g := lw_gi (List.mem_append_left _ (List.mem_map.mpr ⟨_, lw_v20 (List.mem_of_getElem? (i := 5) rfl), rfl⟩)) rfl
theorem wv_21_14 : (Cond.selects "DrawingHouseModel" ⟨"DrawingHouseModel", "px", "(I)I"⟩ ⟨"DrawingHouseModel", "px", "(I)I"⟩ : Cond) ∈ lw_g := lw_gi (List.mem_append_left _ (List.mem_map.mpr ⟨_, lw_v21 (List.mem_of_getElem? (i := 14) rfl), rfl⟩)) rfl
theorem wv_21_15 : (Cond.selects "DrawingHouseModel" ⟨"DrawingHouseModel", "py", "(I)I"⟩ ⟨"DrawingHouseModel", "py", "(I)I"⟩ : Cond) ∈ lw_g := lw_gi (List.mem_append_left _ (List.mem_map.mpr ⟨_, lw_v21 (List.mem_of_getElem? (i := 15) rfl), rfl⟩)) rfl
theorem wv_22_1 : (Cond.selects "DrawingHouseModel" ⟨"DrawingHouseModel", "isInBox", "(III)Z"⟩ ⟨"DrawingHouseModel", "isInBox", "(III)Z"⟩ : Cond) ∈ lw_g := lw_gi (List.mem_append_left _ (List.mem_map.mpr ⟨_, lw_v22 (List.mem_of_getElem? (i := 1) rfl), rfl⟩)) rfl
theorem kt_mk0 {own : String} {idx : Nat} {v : Int32} (h : Cond.constant own idx v ∈ lw_g) : kt_rule own (.ldc idx) 2 (.int v) :=
  fun _ _ _ _ _ _ _ _ _ _ _ _ _ _ _ _ _ _ _ _ _ _ X hd k => lv_ldc X.1 X.2.1 X.2.2.2.1 (X.2.2.2.2.1 _ h) hd k
theorem kt_mk1 {own : String} {idx : Nat} {v : Int32} (h : Cond.constant own idx v ∈ lw_g) : kt_rule own (.ldc_w idx) 3 (.int v) :=
  fun _ _ _ _ _ _ _ _ _ _ _ _ _ _ _ _ _ _ _ _ _ _ X hd k => lv_ldcw X.1 X.2.1 X.2.2.2.1 (X.2.2.2.2.1 _ h) hd k
theorem kt_mk2 {own : String} {idx : Nat} {v : Int64} (h : Cond.constantLong own idx v ∈ lw_g) : kt_rule own (.ldc2_w idx) 3 (.long v) :=
  fun _ _ _ _ _ _ _ _ _ _ _ _ _ _ _ _ _ _ _ _ _ _ X hd k => lv_ldc2 X.1 X.2.1 X.2.2.2.1 (X.2.2.2.2.1 _ h) hd k
def GM_0 : rg_T := (23, 0, 0, (0, 0, 0, []), [(0, 0, 2000, []), (2, 0, 0, [2]), (2, 0, 0, [3]), (2, 0, 0, [4]), (2, 0, 0, [5]), (5, 0, 66297, [539]), (2, 0, 0, [6]), (0, 0, 1, []), (0, 0, 5, []), (0, 0, 2000, []), (0, 0, 2000, []), (0, 0, 2000, []), (0, 0, 4, []), (0, 0, 2000, []), (0, -2147483648, 2147483647, []), (0, 0, 2000, []), (2, 0, 0, [7]), (2, 0, 0, [8]), (2, 0, 0, [9]), (2, 0, 0, [10]), (2, 0, 0, [11]), (2, 0, 0, [12]), (2, 0, 0, [13]), (2, 0, 0, [14]), (2, 0, 0, [15]), (0, 0, 1, []), (0, 0, 24, []), (0, 0, 20000, []), (5, 0, 66297, [539]), (5, 0, 66297, [539]), (0, 0, 1, []), (0, 0, 25, []), (0, 0, 80, []), (2, 0, 0, [16]), (2, 0, 0, [17]), (2, 0, 0, [18]), (2, 0, 0, [19]), (2, 0, 0, [20]), (2, 0, 0, [21]), (0, 0, 120, []), (2, 0, 0, [22]), (2, 0, 0, [23]), (2, 0, 0, [24]), (2, 0, 0, [25]), (2, 0, 0, [26]), (0, 0, 30, []), (2, 0, 0, [27]), (0, 0, 0, []), (2, 0, 0, [28]), (0, -1, 79, []), (2, 0, 0, [29]), (2, 0, 0, [30]), (2, 0, 0, [31]), (0, 0, 160, []), (2, 0, 0, [32]), (2, 0, 0, [33]), (2, 0, 0, [34]), (2, 0, 0, [35]), (0, 0, 80, []), (0, 0, 33, []), (2, 0, 0, [36]), (2, 0, 0, [37]), (2, 0, 0, [38]), (2, 0, 0, [39]), (2, 0, 0, [40]), (2, 0, 0, [41]), (2, 0, 0, [42]), (2, 0, 0, [43]), (2, 0, 0, [44]), (2, 0, 0, [45]), (2, 0, 0, [46]), (2, 0, 0, [47]), (2, 0, 0, [48]), (2, 0, 0, [49]), (2, 0, 0, [50]), (2, 0, 0, [51]), (2, 0, 0, [52]), (2, 0, 0, [53]), (2, 0, 0, [54]), (0, 0, 76, []), (0, 0, 200, []), (0, 0, 200, []), (2, 0, 0, [55]), (2, 0, 0, [56]), (2, 0, 0, [57]), (2, 0, 0, [58]), (2, 0, 0, [59]), (2, 0, 0, [60]), (2, 0, 0, [61]), (2, 0, 0, [62]), (2, 0, 0, [63]), (2, 0, 0, [64]), (2, 0, 0, [65]), (2, 0, 0, [66]), (0, -2147483648, 2147483647, []), (2, 0, 0, [67]), (2, 0, 0, [68]), (2, 0, 0, [69]), (2, 0, 0, [70]), (0, 0, 26, []), (0, 0, 76, []), (0, 0, 76, []), (2, 0, 0, [71]), (2, 0, 0, [72]), (2, 0, 0, [73]), (2, 0, 0, [74]), (2, 0, 0, [75]), (0, 0, 130, []), (2, 0, 0, [76]), (2, 0, 0, [77]), (2, 0, 0, [78]), (2, 0, 0, [79]), (2, 0, 0, [80]), (2, 0, 0, [81]), (2, 0, 0, [82]), (2, 0, 0, [83]), (2, 0, 0, [84]), (2, 0, 0, [85]), (2, 0, 0, [86]), (2, 0, 0, [87]), (2, 0, 0, [88]), (0, 0, 30, []), (2, 0, 0, [89]), (2, 0, 0, [90]), (2, 0, 0, [91]), (0, 0, 100, []), (2, 0, 0, [92]), (2, 0, 0, [93]), (2, 0, 0, [94]), (2, 0, 0, [95]), (2, 0, 0, [96]), (2, 0, 0, [97]), (0, 0, 40, []), (1, -9223372036854775808, 9223372036854775807, []), (1, -9223372036854775808, 9223372036854775807, []), (2, 0, 0, [98]), (2, 0, 0, [99]), (2, 0, 0, [100]), (2, 0, 0, [101]), (0, 0, 3, []), (2, 0, 0, [102]), (2, 0, 0, [103]), (2, 0, 0, [104]), (2, 0, 0, [105]), (0, -2147483648, 2000000, []), (0, -2147483648, 2000000, []), (0, -2147483648, 2147483647, []), (0, -2147483648, 2147483647, []), (2, 0, 0, [106]), (2, 0, 0, [107]), (0, 0, 48, []), (2, 0, 0, [108]), (2, 0, 0, [109]), (0, -2147483648, 2147483647, []), (0, -2147483648, 2147483647, []), (0, -2147483648, 2147483647, []), (0, -2147483648, 2147483647, []), (0, 0, 2010, []), (0, 0, 2009, []), (0, 0, 13, []), (2, 0, 0, [110]), (2, 0, 0, [111]), (2, 0, 0, [112]), (2, 0, 0, [113]), (0, 0, 1, []), (0, -1, 47, []), (2, 0, 0, [114]), (2, 0, 0, [115]), (2, 0, 0, [116]), (0, 0, 4000, []), (0, -2147483648, 2147483647, []), (2, 0, 0, [117]), (2, 0, 0, [118]), (0, 0, 64, []), (0, 0, 64, []), (2, 0, 0, [119])])
def GM_1 : rg_T := (9, 0, 0, (0, 0, 0, []), [])
def GM_2 : rg_T := (1, 2000, 2000, (0, -128, 127, []), [])
def GM_3 : rg_T := (0, 66836, 66836, (0, -1, 255, []), List.replicate 1 (0, 0, 24, []) ++ List.replicate 1 (0, 0, 48, []) ++ List.replicate 1 (0, 0, 8, []) ++ List.replicate 192 (0, -1, 255, []) ++ List.replicate 24 (0, 0, 8, []) ++ List.replicate 24 (0, 0, 99, []) ++ List.replicate 24 (0, 0, 7, []) ++ List.replicate 96 (0, 0, 23, []) ++ List.replicate 48 (0, 0, 9, []) ++ List.replicate 48 (0, 0, 1, []) ++ List.replicate 64 (0, -1, 255, []) ++ List.replicate 8 (0, 0, 8, []) ++ List.replicate 8 (0, -1, 7, []))
def GM_4 : rg_T := (0, 4, 4, (0, 0, 30, []), [])
def GM_5 : rg_T := (0, 4, 4, (0, 0, 30, []), [])
def GM_6 : rg_T := (0, 539, 539, (0, -1, 255, []), List.replicate 1 (0, 0, 24, []) ++ List.replicate 1 (0, 0, 48, []) ++ List.replicate 1 (0, 0, 8, []) ++ List.replicate 192 (0, -1, 255, []) ++ List.replicate 24 (0, 0, 8, []) ++ List.replicate 24 (0, 0, 99, []) ++ List.replicate 24 (0, 0, 7, []) ++ List.replicate 96 (0, 0, 23, []) ++ List.replicate 48 (0, 0, 9, []) ++ List.replicate 48 (0, 0, 1, []) ++ List.replicate 64 (0, -1, 255, []) ++ List.replicate 8 (0, 0, 8, []) ++ List.replicate 8 (0, -1, 7, []))
def GM_7 : rg_T := (0, 25, 25, (0, -1, 24, []), [])
def GM_8 : rg_T := (0, 80, 80, (0, -1, 79, []), [])
def GM_9 : rg_T := (0, 24, 24, (0, -1, 23, []), [])
def GM_10 : rg_T := (0, 25, 25, (0, 0, 1000000, []), [])
def GM_11 : rg_T := (0, 100, 100, (0, -1000000, 1000000, []), [])
def GM_12 : rg_T := (2, 576, 576, (0, 0, 1, []), [])
def GM_13 : rg_T := (2, 25, 25, (0, 0, 1, []), [])
def GM_14 : rg_T := (0, 24, 24, (0, 0, 23, []), [])
def GM_15 : rg_T := (0, 24, 24, (0, -1, 23, []), [])
def GM_16 : rg_T := (0, 80, 80, (0, 0, 24, []), [])
def GM_17 : rg_T := (0, 80, 80, (0, 0, 24, []), [])
def GM_18 : rg_T := (2, 80, 80, (0, 0, 1, []), [])
def GM_19 : rg_T := (0, 26, 26, (0, 0, 80, []), [])
def GM_20 : rg_T := (0, 2080, 2080, (0, 0, 79, []), [])
def GM_21 : rg_T := (2, 26, 26, (0, 0, 1, []), [])
def GM_22 : rg_T := (0, 120, 120, (0, 0, 60, []), [])
def GM_23 : rg_T := (0, 7200, 7200, (0, 0, 24, []), [])
def GM_24 : rg_T := (2, 26, 26, (0, 0, 1, []), [])
def GM_25 : rg_T := (2, 80, 80, (0, 0, 1, []), [])
def GM_26 : rg_T := (0, 80, 80, (0, -1, 79, []), [])
def GM_27 : rg_T := (0, 30, 30, (0, 0, 24, []), [])
def GM_28 : rg_T := (0, 26, 26, (0, -2147483648, 2147483647, []), [])
def GM_29 : rg_T := (0, 80, 80, (0, 0, 33554431, []), [])
def GM_30 : rg_T := (0, 120, 120, (0, 0, 33554431, []), [])
def GM_31 : rg_T := (0, 30, 30, (0, 0, 24, []), [])
def GM_32 : rg_T := (0, 160, 160, (0, -1, 159, []), [])
def GM_33 : rg_T := (0, 160, 160, (0, 0, 0, []), [])
def GM_34 : rg_T := (0, 161, 161, (0, 0, 160, []), [])
def GM_35 : rg_T := (0, 160, 160, (0, 0, 159, []), [])
def GM_36 : rg_T := (0, 80, 80, (0, 0, 79, []), [])
def GM_37 : rg_T := (0, 4, 4, (0, -1, 7, []), [])
def GM_38 : rg_T := (0, 96, 96, (0, -2147483648, 2147483647, []), [])
def GM_39 : rg_T := (0, 96, 96, (0, -2147483648, 2147483647, []), [])
def GM_40 : rg_T := (0, 192, 192, (0, 0, 24, []), [])
def GM_41 : rg_T := (0, 4608, 4608, (0, -2147483648, 2147483647, []), [])
def GM_42 : rg_T := (0, 4608, 4608, (0, -2147483648, 2147483647, []), [])
def GM_43 : rg_T := (0, 4, 4, (0, -2147483648, 2147483647, []), [])
def GM_44 : rg_T := (0, 4, 4, (0, -2147483648, 2147483647, []), [])
def GM_45 : rg_T := (0, 96, 96, (0, 0, 75, []), [])
def GM_46 : rg_T := (0, 192, 192, (0, 0, 1, []), [])
def GM_47 : rg_T := (0, 384, 384, (0, -2147483648, 2147483647, []), [])
def GM_48 : rg_T := (0, 128, 128, (0, -2147483648, 2147483647, []), [])
def GM_49 : rg_T := (0, 864, 864, (0, -2147483648, 2147483647, []), [])
def GM_50 : rg_T := (0, 100, 100, (0, -2147483648, 2147483647, []), [])
def GM_51 : rg_T := (0, 100, 100, (0, -2147483648, 2147483647, []), [])
def GM_52 : rg_T := (0, 48, 48, (0, 0, 24, []), [])
def GM_53 : rg_T := (0, 1152, 1152, (0, -2147483648, 2147483647, []), [])
def GM_54 : rg_T := (0, 1152, 1152, (0, -2147483648, 2147483647, []), [])
def GM_55 : rg_T := (0, 76, 76, (0, -2147483648, 2147483647, []), [])
def GM_56 : rg_T := (0, 200, 200, (0, 0, 75, []), [])
def GM_57 : rg_T := (0, 200, 200, (0, 0, 75, []), [])
def GM_58 : rg_T := (0, 200, 200, (0, 0, 72, []), [])
def GM_59 : rg_T := (2, 200, 200, (0, 0, 1, []), [])
def GM_60 : rg_T := (0, 200, 200, (0, 0, 75, []), [])
def GM_61 : rg_T := (0, 200, 200, (0, 0, 75, []), [])
def GM_62 : rg_T := (0, 200, 200, (0, 0, 20, []), [])
def GM_63 : rg_T := (0, 6084, 6084, (0, -2147483648, 2147483647, []), [])
def GM_64 : rg_T := (0, 78, 78, (0, -1, 77, []), [])
def GM_65 : rg_T := (0, 100, 100, (0, 0, 77, []), [])
def GM_66 : rg_T := (0, 78, 78, (0, -2147483648, 2147483647, []), [])
def GM_67 : rg_T := (2, 48, 48, (0, 0, 1, []), [])
def GM_68 : rg_T := (0, 26, 26, (0, 0, 25, []), [])
def GM_69 : rg_T := (0, 26, 26, (0, 0, 25, []), [])
def GM_70 : rg_T := (0, 26, 26, (0, 0, 25, []), [])
def GM_71 : rg_T := (0, 76, 76, (0, 0, 75, []), [])
def GM_72 : rg_T := (0, 76, 76, (0, 0, 47, []), [])
def GM_73 : rg_T := (0, 48, 48, (0, 0, 76, []), [])
def GM_74 : rg_T := (0, 76, 76, (0, 0, 76, []), [])
def GM_75 : rg_T := (0, 5776, 5776, (0, 0, 75, []), [])
def GM_76 : rg_T := (0, 130, 130, (0, 0, 75, []), [])
def GM_77 : rg_T := (0, 130, 130, (0, 0, 75, []), [])
def GM_78 : rg_T := (0, 8, 8, (0, 0, 5500, []), [])
def GM_79 : rg_T := (0, 8, 8, (0, 0, 720, []), [])
def GM_80 : rg_T := (1, 6000, 6000, (0, 0, 5, []), [])
def GM_81 : rg_T := (0, 54720, 54720, (0, -2147483648, 1000000, []), [])
def GM_82 : rg_T := (0, 36, 36, (0, -2147483648, 2147483647, []), [])
def GM_83 : rg_T := (0, 76, 76, (0, 0, 75, []), [])
def GM_84 : rg_T := (0, 6, 6, (0, 0, 5, []), [])
def GM_85 : rg_T := (0, 100, 100, (0, 0, 75, []), [])
def GM_86 : rg_T := (0, 5776, 5776, (0, 0, 75, []), [])
def GM_87 : rg_T := (3, 76, 76, (1, -9223372036854775808, 9223372036854775807, []), [])
def GM_88 : rg_T := (3, 76, 76, (1, -9223372036854775808, 9223372036854775807, []), [])
def GM_89 : rg_T := (0, 30, 30, (0, 0, 24, []), [])
def GM_90 : rg_T := (0, 26, 26, (0, 0, 33554431, []), [])
def GM_91 : rg_T := (0, 26, 26, (0, 0, 25, []), [])
def GM_92 : rg_T := (0, 26, 26, (0, 0, 25, []), [])
def GM_93 : rg_T := (0, 26, 26, (0, -1, 23, []), [])
def GM_94 : rg_T := (0, 26, 26, (0, -1, 25, []), [])
def GM_95 : rg_T := (0, 26, 26, (0, -1, 23, []), [])
def GM_96 : rg_T := (0, 40, 40, (0, 0, 131, []), [])
def GM_97 : rg_T := (0, 40, 40, (0, -2147483648, 2147483647, []), [])
def GM_98 : rg_T := (3, 26, 26, (1, -9223372036854775808, 9223372036854775807, []), [])
def GM_99 : rg_T := (3, 26, 26, (1, -9223372036854775808, 9223372036854775807, []), [])
def GM_100 : rg_T := (3, 26, 26, (1, -9223372036854775808, 9223372036854775807, []), [])
def GM_101 : rg_T := (3, 26, 26, (1, -9223372036854775808, 9223372036854775807, []), [])
def GM_102 : rg_T := (0, 24000, 24000, (0, -2147483647, 1000000, []), [])
def GM_103 : rg_T := (0, 96040, 96040, (0, 0, 23999, []), [])
def GM_104 : rg_T := (0, 4, 4, (0, 0, 24009, []), [])
def GM_105 : rg_T := (2, 6000, 6000, (0, 0, 1, []), [])
def GM_106 : rg_T := (0, 26, 26, (0, -2147483648, 2147483647, []), [])
def GM_107 : rg_T := (0, 26, 26, (0, -2147483648, 2147483647, []), [])
def GM_108 : rg_T := (0, 48, 48, (0, -2147483648, 2147483647, []), [])
def GM_109 : rg_T := (0, 48, 48, (0, -2147483648, 2147483647, []), [])
def GM_110 : rg_T := (0, 2010, 2010, (0, 0, 4, []), [])
def GM_111 : rg_T := (3, 2010, 2010, (1, -9223372036854775808, 9223372036854775807, []), [])
def GM_112 : rg_T := (0, 2010, 2010, (0, 0, 2000, []), [])
def GM_113 : rg_T := (0, 2010, 2010, (0, 0, 2000, []), [])
def GM_114 : rg_T := (0, 26, 26, (0, -2147483648, 2147483647, []), [])
def GM_115 : rg_T := (0, 26, 26, (0, -2147483648, 2147483647, []), [])
def GM_116 : rg_T := (2, 48, 48, (0, 0, 1, []), [])
def GM_117 : rg_T := (1, 4000, 4000, (0, -128, 127, []), [])
def GM_118 : rg_T := (1, 4000, 4000, (0, -128, 127, []), [])
def GM_119 : rg_T := (0, 4096, 4096, (0, -2147483648, 2147483647, []), [])
def GM : List rg_T := [GM_0, GM_1, GM_2, GM_3, GM_4, GM_5, GM_6, GM_7, GM_8, GM_9, GM_10, GM_11, GM_12, GM_13, GM_14, GM_15, GM_16, GM_17, GM_18, GM_19, GM_20, GM_21, GM_22, GM_23, GM_24, GM_25, GM_26, GM_27, GM_28, GM_29, GM_30, GM_31, GM_32, GM_33, GM_34, GM_35, GM_36, GM_37, GM_38, GM_39, GM_40, GM_41, GM_42, GM_43, GM_44, GM_45, GM_46, GM_47, GM_48, GM_49, GM_50, GM_51, GM_52, GM_53, GM_54, GM_55, GM_56, GM_57, GM_58, GM_59, GM_60, GM_61, GM_62, GM_63, GM_64, GM_65, GM_66, GM_67, GM_68, GM_69, GM_70, GM_71, GM_72, GM_73, GM_74, GM_75, GM_76, GM_77, GM_78, GM_79, GM_80, GM_81, GM_82, GM_83, GM_84, GM_85, GM_86, GM_87, GM_88, GM_89, GM_90, GM_91, GM_92, GM_93, GM_94, GM_95, GM_96, GM_97, GM_98, GM_99, GM_100, GM_101, GM_102, GM_103, GM_104, GM_105, GM_106, GM_107, GM_108, GM_109, GM_110, GM_111, GM_112, GM_113, GM_114, GM_115, GM_116, GM_117, GM_118, GM_119]
theorem gf_Mo_102 : gf_rule R_Mo 102 13 52 := gf_mk (ci := 13) rfl i_Mo (by decide) wm_2484 rfl
theorem gf_Mo_1020 : gf_rule R_Mo 1020 13 139 := gf_mk (ci := 13) rfl i_Mo (by decide) wm_2571 rfl
theorem pf_Mo_1020 : pf_rule R_Mo 1020 13 139 (.int) := pf_mk (ci := 13) (k := 139) rfl i_Mo t_Mo t_Mo_ok n_Mo (by decide) wm_2571 rfl rfl
theorem gf_Mo_1037 : gf_rule R_Mo 1037 13 144 := gf_mk (ci := 13) rfl i_Mo (by decide) wm_2576 rfl
theorem pf_Mo_1037 : pf_rule R_Mo 1037 13 144 (.int) := pf_mk (ci := 13) (k := 144) rfl i_Mo t_Mo t_Mo_ok n_Mo (by decide) wm_2576 rfl rfl
theorem gf_Mo_1040 : gf_rule R_Mo 1040 13 145 := gf_mk (ci := 13) rfl i_Mo (by decide) wm_2577 rfl
theorem pf_Mo_1040 : pf_rule R_Mo 1040 13 145 (.int) := pf_mk (ci := 13) (k := 145) rfl i_Mo t_Mo t_Mo_ok n_Mo (by decide) wm_2577 rfl rfl
theorem gf_Mo_1043 : gf_rule R_Mo 1043 13 146 := gf_mk (ci := 13) rfl i_Mo (by decide) wm_2578 rfl
theorem pf_Mo_1043 : pf_rule R_Mo 1043 13 146 (.int) := pf_mk (ci := 13) (k := 146) rfl i_Mo t_Mo t_Mo_ok n_Mo (by decide) wm_2578 rfl rfl
theorem gf_Mo_1046 : gf_rule R_Mo 1046 13 147 := gf_mk (ci := 13) rfl i_Mo (by decide) wm_2579 rfl
theorem pf_Mo_1046 : pf_rule R_Mo 1046 13 147 (.int) := pf_mk (ci := 13) (k := 147) rfl i_Mo t_Mo t_Mo_ok n_Mo (by decide) wm_2579 rfl rfl
theorem gf_Mo_105 : gf_rule R_Mo 105 13 54 := gf_mk (ci := 13) rfl i_Mo (by decide) wm_2486 rfl
theorem gf_Mo_1079 : gf_rule R_Mo 1079 13 150 := gf_mk (ci := 13) rfl i_Mo (by decide) wm_2582 rfl
theorem pf_Mo_1079 : pf_rule R_Mo 1079 13 150 (.int) := pf_mk (ci := 13) (k := 150) rfl i_Mo t_Mo t_Mo_ok n_Mo (by decide) wm_2582 rfl rfl
theorem gf_Mo_108 : gf_rule R_Mo 108 13 55 := gf_mk (ci := 13) rfl i_Mo (by decide) wm_2487 rfl
theorem gf_Mo_111 : gf_rule R_Mo 111 13 56 := gf_mk (ci := 13) rfl i_Mo (by decide) wm_2488 rfl
theorem gf_Mo_114 : gf_rule R_Mo 114 13 57 := gf_mk (ci := 13) rfl i_Mo (by decide) wm_2489 rfl
theorem gf_Mo_1142 : gf_rule R_Mo 1142 13 153 := gf_mk (ci := 13) rfl i_Mo (by decide) wm_2585 rfl
theorem pf_Mo_1142 : pf_rule R_Mo 1142 13 153 (.int) := pf_mk (ci := 13) (k := 153) rfl i_Mo t_Mo t_Mo_ok n_Mo (by decide) wm_2585 rfl rfl
theorem gf_Mo_1145 : gf_rule R_Mo 1145 13 154 := gf_mk (ci := 13) rfl i_Mo (by decide) wm_2586 rfl
theorem pf_Mo_1145 : pf_rule R_Mo 1145 13 154 (.int) := pf_mk (ci := 13) (k := 154) rfl i_Mo t_Mo t_Mo_ok n_Mo (by decide) wm_2586 rfl rfl
theorem gf_Mo_1148 : gf_rule R_Mo 1148 13 155 := gf_mk (ci := 13) rfl i_Mo (by decide) wm_2587 rfl
theorem pf_Mo_1148 : pf_rule R_Mo 1148 13 155 (.int) := pf_mk (ci := 13) (k := 155) rfl i_Mo t_Mo t_Mo_ok n_Mo (by decide) wm_2587 rfl rfl
theorem gf_Mo_1151 : gf_rule R_Mo 1151 13 156 := gf_mk (ci := 13) rfl i_Mo (by decide) wm_2588 rfl
theorem pf_Mo_1151 : pf_rule R_Mo 1151 13 156 (.int) := pf_mk (ci := 13) (k := 156) rfl i_Mo t_Mo t_Mo_ok n_Mo (by decide) wm_2588 rfl rfl
theorem gf_Mo_1160 : gf_rule R_Mo 1160 13 157 := gf_mk (ci := 13) rfl i_Mo (by decide) wm_2589 rfl
theorem pf_Mo_1160 : pf_rule R_Mo 1160 13 157 (.int) := pf_mk (ci := 13) (k := 157) rfl i_Mo t_Mo t_Mo_ok n_Mo (by decide) wm_2589 rfl rfl
theorem gf_Mo_1169 : gf_rule R_Mo 1169 13 158 := gf_mk (ci := 13) rfl i_Mo (by decide) wm_2590 rfl
theorem pf_Mo_1169 : pf_rule R_Mo 1169 13 158 (.int) := pf_mk (ci := 13) (k := 158) rfl i_Mo t_Mo t_Mo_ok n_Mo (by decide) wm_2590 rfl rfl
theorem gf_Mo_117 : gf_rule R_Mo 117 13 60 := gf_mk (ci := 13) rfl i_Mo (by decide) wm_2492 rfl
theorem gf_Mo_1175 : gf_rule R_Mo 1175 13 159 := gf_mk (ci := 13) rfl i_Mo (by decide) wm_2591 rfl
theorem pf_Mo_1175 : pf_rule R_Mo 1175 13 159 (.int) := pf_mk (ci := 13) (k := 159) rfl i_Mo t_Mo t_Mo_ok n_Mo (by decide) wm_2591 rfl rfl
theorem gf_Mo_1181 : gf_rule R_Mo 1181 13 165 := gf_mk (ci := 13) rfl i_Mo (by decide) wm_2597 rfl
theorem pf_Mo_1181 : pf_rule R_Mo 1181 13 165 (.int) := pf_mk (ci := 13) (k := 165) rfl i_Mo t_Mo t_Mo_ok n_Mo (by decide) wm_2597 rfl rfl
theorem gf_Mo_1195 : gf_rule R_Mo 1195 13 164 := gf_mk (ci := 13) rfl i_Mo (by decide) wm_2596 rfl
theorem pf_Mo_1195 : pf_rule R_Mo 1195 13 164 (.int) := pf_mk (ci := 13) (k := 164) rfl i_Mo t_Mo t_Mo_ok n_Mo (by decide) wm_2596 rfl rfl
theorem gf_Mo_120 : gf_rule R_Mo 120 13 61 := gf_mk (ci := 13) rfl i_Mo (by decide) wm_2493 rfl
theorem gf_Mo_123 : gf_rule R_Mo 123 13 62 := gf_mk (ci := 13) rfl i_Mo (by decide) wm_2494 rfl
theorem gf_Mo_126 : gf_rule R_Mo 126 13 63 := gf_mk (ci := 13) rfl i_Mo (by decide) wm_2495 rfl
theorem gf_Mo_1277 : gf_rule R_Mo 1277 13 170 := gf_mk (ci := 13) rfl i_Mo (by decide) wm_2602 rfl
theorem pf_Mo_1277 : pf_rule R_Mo 1277 13 170 (.int) := pf_mk (ci := 13) (k := 170) rfl i_Mo t_Mo t_Mo_ok n_Mo (by decide) wm_2602 rfl rfl
theorem gf_Mo_129 : gf_rule R_Mo 129 13 64 := gf_mk (ci := 13) rfl i_Mo (by decide) wm_2496 rfl
theorem gf_Mo_132 : gf_rule R_Mo 132 13 65 := gf_mk (ci := 13) rfl i_Mo (by decide) wm_2497 rfl
theorem gf_Mo_1326 : gf_rule R_Mo 1326 13 169 := gf_mk (ci := 13) rfl i_Mo (by decide) wm_2601 rfl
theorem pf_Mo_1326 : pf_rule R_Mo 1326 13 169 (.int) := pf_mk (ci := 13) (k := 169) rfl i_Mo t_Mo t_Mo_ok n_Mo (by decide) wm_2601 rfl rfl
theorem gf_Mo_1329 : gf_rule R_Mo 1329 13 173 := gf_mk (ci := 13) rfl i_Mo (by decide) wm_2605 rfl
theorem pf_Mo_1329 : pf_rule R_Mo 1329 13 173 (.int) := pf_mk (ci := 13) (k := 173) rfl i_Mo t_Mo t_Mo_ok n_Mo (by decide) wm_2605 rfl rfl
theorem gf_Mo_1332 : gf_rule R_Mo 1332 13 174 := gf_mk (ci := 13) rfl i_Mo (by decide) wm_2606 rfl
theorem pf_Mo_1332 : pf_rule R_Mo 1332 13 174 (.int) := pf_mk (ci := 13) (k := 174) rfl i_Mo t_Mo t_Mo_ok n_Mo (by decide) wm_2606 rfl rfl
theorem gf_Mo_135 : gf_rule R_Mo 135 13 66 := gf_mk (ci := 13) rfl i_Mo (by decide) wm_2498 rfl
theorem gf_Mo_138 : gf_rule R_Mo 138 13 67 := gf_mk (ci := 13) rfl i_Mo (by decide) wm_2499 rfl
theorem gf_Mo_141 : gf_rule R_Mo 141 13 68 := gf_mk (ci := 13) rfl i_Mo (by decide) wm_2500 rfl
theorem gf_Mo_144 : gf_rule R_Mo 144 13 69 := gf_mk (ci := 13) rfl i_Mo (by decide) wm_2501 rfl
theorem gf_Mo_147 : gf_rule R_Mo 147 13 70 := gf_mk (ci := 13) rfl i_Mo (by decide) wm_2502 rfl
theorem gf_Mo_150 : gf_rule R_Mo 150 13 71 := gf_mk (ci := 13) rfl i_Mo (by decide) wm_2503 rfl
theorem gf_Mo_153 : gf_rule R_Mo 153 13 72 := gf_mk (ci := 13) rfl i_Mo (by decide) wm_2504 rfl
theorem gf_Mo_156 : gf_rule R_Mo 156 13 73 := gf_mk (ci := 13) rfl i_Mo (by decide) wm_2505 rfl
theorem gf_Mo_159 : gf_rule R_Mo 159 13 74 := gf_mk (ci := 13) rfl i_Mo (by decide) wm_2506 rfl
theorem gf_Mo_16 : gf_rule R_Mo 16 13 2 := gf_mk (ci := 13) rfl i_Mo (by decide) wm_2435 rfl
theorem gf_Mo_162 : gf_rule R_Mo 162 13 75 := gf_mk (ci := 13) rfl i_Mo (by decide) wm_2507 rfl
theorem gf_Mo_165 : gf_rule R_Mo 165 13 76 := gf_mk (ci := 13) rfl i_Mo (by decide) wm_2508 rfl
theorem gf_Mo_168 : gf_rule R_Mo 168 13 77 := gf_mk (ci := 13) rfl i_Mo (by decide) wm_2509 rfl
theorem gf_Mo_171 : gf_rule R_Mo 171 13 78 := gf_mk (ci := 13) rfl i_Mo (by decide) wm_2510 rfl
theorem gf_Mo_174 : gf_rule R_Mo 174 13 82 := gf_mk (ci := 13) rfl i_Mo (by decide) wm_2514 rfl
theorem gf_Mo_177 : gf_rule R_Mo 177 13 83 := gf_mk (ci := 13) rfl i_Mo (by decide) wm_2515 rfl
theorem gf_Mo_180 : gf_rule R_Mo 180 13 84 := gf_mk (ci := 13) rfl i_Mo (by decide) wm_2516 rfl
theorem gf_Mo_183 : gf_rule R_Mo 183 13 85 := gf_mk (ci := 13) rfl i_Mo (by decide) wm_2517 rfl
theorem gf_Mo_186 : gf_rule R_Mo 186 13 86 := gf_mk (ci := 13) rfl i_Mo (by decide) wm_2518 rfl
theorem gf_Mo_189 : gf_rule R_Mo 189 13 87 := gf_mk (ci := 13) rfl i_Mo (by decide) wm_2519 rfl
theorem gf_Mo_192 : gf_rule R_Mo 192 13 88 := gf_mk (ci := 13) rfl i_Mo (by decide) wm_2520 rfl
theorem gf_Mo_195 : gf_rule R_Mo 195 13 89 := gf_mk (ci := 13) rfl i_Mo (by decide) wm_2521 rfl
theorem gf_Mo_198 : gf_rule R_Mo 198 13 90 := gf_mk (ci := 13) rfl i_Mo (by decide) wm_2522 rfl
theorem gf_Mo_20 : gf_rule R_Mo 20 13 3 := gf_mk (ci := 13) rfl i_Mo (by decide) wm_2436 rfl
theorem gf_Mo_201 : gf_rule R_Mo 201 13 91 := gf_mk (ci := 13) rfl i_Mo (by decide) wm_2523 rfl
theorem gf_Mo_204 : gf_rule R_Mo 204 13 92 := gf_mk (ci := 13) rfl i_Mo (by decide) wm_2524 rfl
theorem gf_Mo_207 : gf_rule R_Mo 207 13 93 := gf_mk (ci := 13) rfl i_Mo (by decide) wm_2525 rfl
theorem gf_Mo_210 : gf_rule R_Mo 210 13 95 := gf_mk (ci := 13) rfl i_Mo (by decide) wm_2527 rfl
theorem gf_Mo_213 : gf_rule R_Mo 213 13 96 := gf_mk (ci := 13) rfl i_Mo (by decide) wm_2528 rfl
theorem gf_Mo_216 : gf_rule R_Mo 216 13 97 := gf_mk (ci := 13) rfl i_Mo (by decide) wm_2529 rfl
theorem gf_Mo_219 : gf_rule R_Mo 219 13 98 := gf_mk (ci := 13) rfl i_Mo (by decide) wm_2530 rfl
theorem gf_Mo_222 : gf_rule R_Mo 222 13 102 := gf_mk (ci := 13) rfl i_Mo (by decide) wm_2534 rfl
theorem gf_Mo_225 : gf_rule R_Mo 225 13 103 := gf_mk (ci := 13) rfl i_Mo (by decide) wm_2535 rfl
theorem gf_Mo_228 : gf_rule R_Mo 228 13 104 := gf_mk (ci := 13) rfl i_Mo (by decide) wm_2536 rfl
theorem gf_Mo_23 : gf_rule R_Mo 23 13 4 := gf_mk (ci := 13) rfl i_Mo (by decide) wm_2437 rfl
theorem gf_Mo_231 : gf_rule R_Mo 231 13 105 := gf_mk (ci := 13) rfl i_Mo (by decide) wm_2537 rfl
theorem gf_Mo_234 : gf_rule R_Mo 234 13 106 := gf_mk (ci := 13) rfl i_Mo (by decide) wm_2538 rfl
theorem gf_Mo_237 : gf_rule R_Mo 237 13 108 := gf_mk (ci := 13) rfl i_Mo (by decide) wm_2540 rfl
theorem gf_Mo_240 : gf_rule R_Mo 240 13 109 := gf_mk (ci := 13) rfl i_Mo (by decide) wm_2541 rfl
theorem gf_Mo_243 : gf_rule R_Mo 243 13 110 := gf_mk (ci := 13) rfl i_Mo (by decide) wm_2542 rfl
theorem gf_Mo_246 : gf_rule R_Mo 246 13 111 := gf_mk (ci := 13) rfl i_Mo (by decide) wm_2543 rfl
theorem gf_Mo_249 : gf_rule R_Mo 249 13 112 := gf_mk (ci := 13) rfl i_Mo (by decide) wm_2544 rfl
theorem gf_Mo_253 : gf_rule R_Mo 253 13 113 := gf_mk (ci := 13) rfl i_Mo (by decide) wm_2545 rfl
theorem gf_Mo_256 : gf_rule R_Mo 256 13 114 := gf_mk (ci := 13) rfl i_Mo (by decide) wm_2546 rfl
theorem gf_Mo_259 : gf_rule R_Mo 259 13 115 := gf_mk (ci := 13) rfl i_Mo (by decide) wm_2547 rfl
theorem gf_Mo_26 : gf_rule R_Mo 26 13 6 := gf_mk (ci := 13) rfl i_Mo (by decide) wm_2439 rfl
theorem gf_Mo_262 : gf_rule R_Mo 262 13 116 := gf_mk (ci := 13) rfl i_Mo (by decide) wm_2548 rfl
theorem gf_Mo_265 : gf_rule R_Mo 265 13 117 := gf_mk (ci := 13) rfl i_Mo (by decide) wm_2549 rfl
theorem gf_Mo_268 : gf_rule R_Mo 268 13 118 := gf_mk (ci := 13) rfl i_Mo (by decide) wm_2550 rfl
theorem gf_Mo_271 : gf_rule R_Mo 271 13 119 := gf_mk (ci := 13) rfl i_Mo (by decide) wm_2551 rfl
theorem gf_Mo_275 : gf_rule R_Mo 275 13 120 := gf_mk (ci := 13) rfl i_Mo (by decide) wm_2552 rfl
theorem gf_Mo_278 : gf_rule R_Mo 278 13 122 := gf_mk (ci := 13) rfl i_Mo (by decide) wm_2554 rfl
theorem gf_Mo_281 : gf_rule R_Mo 281 13 123 := gf_mk (ci := 13) rfl i_Mo (by decide) wm_2555 rfl
theorem gf_Mo_284 : gf_rule R_Mo 284 13 124 := gf_mk (ci := 13) rfl i_Mo (by decide) wm_2556 rfl
theorem gf_Mo_287 : gf_rule R_Mo 287 13 126 := gf_mk (ci := 13) rfl i_Mo (by decide) wm_2558 rfl
theorem gf_Mo_29 : gf_rule R_Mo 29 13 16 := gf_mk (ci := 13) rfl i_Mo (by decide) wm_2449 rfl
theorem gf_Mo_290 : gf_rule R_Mo 290 13 127 := gf_mk (ci := 13) rfl i_Mo (by decide) wm_2559 rfl
theorem gf_Mo_293 : gf_rule R_Mo 293 13 128 := gf_mk (ci := 13) rfl i_Mo (by decide) wm_2560 rfl
theorem gf_Mo_296 : gf_rule R_Mo 296 13 129 := gf_mk (ci := 13) rfl i_Mo (by decide) wm_2561 rfl
theorem gf_Mo_299 : gf_rule R_Mo 299 13 130 := gf_mk (ci := 13) rfl i_Mo (by decide) wm_2562 rfl
theorem gf_Mo_302 : gf_rule R_Mo 302 13 131 := gf_mk (ci := 13) rfl i_Mo (by decide) wm_2563 rfl
theorem gf_Mo_305 : gf_rule R_Mo 305 13 135 := gf_mk (ci := 13) rfl i_Mo (by decide) wm_2567 rfl
theorem gf_Mo_308 : gf_rule R_Mo 308 13 136 := gf_mk (ci := 13) rfl i_Mo (by decide) wm_2568 rfl
theorem gf_Mo_311 : gf_rule R_Mo 311 13 137 := gf_mk (ci := 13) rfl i_Mo (by decide) wm_2569 rfl
theorem gf_Mo_314 : gf_rule R_Mo 314 13 138 := gf_mk (ci := 13) rfl i_Mo (by decide) wm_2570 rfl
theorem gf_Mo_317 : gf_rule R_Mo 317 13 140 := gf_mk (ci := 13) rfl i_Mo (by decide) wm_2572 rfl
theorem gf_Mo_32 : gf_rule R_Mo 32 13 17 := gf_mk (ci := 13) rfl i_Mo (by decide) wm_2450 rfl
theorem gf_Mo_321 : gf_rule R_Mo 321 13 141 := gf_mk (ci := 13) rfl i_Mo (by decide) wm_2573 rfl
theorem gf_Mo_324 : gf_rule R_Mo 324 13 142 := gf_mk (ci := 13) rfl i_Mo (by decide) wm_2574 rfl
theorem gf_Mo_327 : gf_rule R_Mo 327 13 143 := gf_mk (ci := 13) rfl i_Mo (by decide) wm_2575 rfl
theorem gf_Mo_330 : gf_rule R_Mo 330 13 148 := gf_mk (ci := 13) rfl i_Mo (by decide) wm_2580 rfl
theorem gf_Mo_333 : gf_rule R_Mo 333 13 149 := gf_mk (ci := 13) rfl i_Mo (by decide) wm_2581 rfl
theorem gf_Mo_336 : gf_rule R_Mo 336 13 151 := gf_mk (ci := 13) rfl i_Mo (by decide) wm_2583 rfl
theorem gf_Mo_339 : gf_rule R_Mo 339 13 152 := gf_mk (ci := 13) rfl i_Mo (by decide) wm_2584 rfl
theorem gf_Mo_342 : gf_rule R_Mo 342 13 160 := gf_mk (ci := 13) rfl i_Mo (by decide) wm_2592 rfl
theorem gf_Mo_345 : gf_rule R_Mo 345 13 161 := gf_mk (ci := 13) rfl i_Mo (by decide) wm_2593 rfl
theorem gf_Mo_348 : gf_rule R_Mo 348 13 162 := gf_mk (ci := 13) rfl i_Mo (by decide) wm_2594 rfl
theorem gf_Mo_35 : gf_rule R_Mo 35 13 18 := gf_mk (ci := 13) rfl i_Mo (by decide) wm_2451 rfl
theorem gf_Mo_351 : gf_rule R_Mo 351 13 163 := gf_mk (ci := 13) rfl i_Mo (by decide) wm_2595 rfl
theorem gf_Mo_354 : gf_rule R_Mo 354 13 166 := gf_mk (ci := 13) rfl i_Mo (by decide) wm_2598 rfl
theorem gf_Mo_357 : gf_rule R_Mo 357 13 167 := gf_mk (ci := 13) rfl i_Mo (by decide) wm_2599 rfl
theorem gf_Mo_360 : gf_rule R_Mo 360 13 168 := gf_mk (ci := 13) rfl i_Mo (by decide) wm_2600 rfl
theorem gf_Mo_363 : gf_rule R_Mo 363 13 171 := gf_mk (ci := 13) rfl i_Mo (by decide) wm_2603 rfl
theorem gf_Mo_366 : gf_rule R_Mo 366 13 172 := gf_mk (ci := 13) rfl i_Mo (by decide) wm_2604 rfl
theorem gf_Mo_369 : gf_rule R_Mo 369 13 175 := gf_mk (ci := 13) rfl i_Mo (by decide) wm_2607 rfl
theorem gf_Mo_38 : gf_rule R_Mo 38 13 19 := gf_mk (ci := 13) rfl i_Mo (by decide) wm_2452 rfl
theorem gf_Mo_383 : gf_rule R_Mo 383 13 0 := gf_mk (ci := 13) rfl i_Mo (by decide) wm_2433 rfl
theorem pf_Mo_383 : pf_rule R_Mo 383 13 0 (.int) := pf_mk (ci := 13) (k := 0) rfl i_Mo t_Mo t_Mo_ok n_Mo (by decide) wm_2433 rfl rfl
theorem gf_Mo_391 : gf_rule R_Mo 391 13 5 := gf_mk (ci := 13) rfl i_Mo (by decide) wm_2438 rfl
theorem pf_Mo_391 : pf_rule R_Mo 391 13 5 (.int) := pf_mk (ci := 13) (k := 5) rfl i_Mo t_Mo t_Mo_ok n_Mo (by decide) wm_2438 rfl rfl
theorem gf_Mo_409 : gf_rule R_Mo 409 13 7 := gf_mk (ci := 13) rfl i_Mo (by decide) wm_2440 rfl
theorem pf_Mo_409 : pf_rule R_Mo 409 13 7 (.boolean) := pf_mk (ci := 13) (k := 7) rfl i_Mo t_Mo t_Mo_ok n_Mo (by decide) wm_2440 rfl rfl
theorem gf_Mo_41 : gf_rule R_Mo 41 13 20 := gf_mk (ci := 13) rfl i_Mo (by decide) wm_2453 rfl
theorem gf_Mo_413 : gf_rule R_Mo 413 13 8 := gf_mk (ci := 13) rfl i_Mo (by decide) wm_2441 rfl
theorem pf_Mo_413 : pf_rule R_Mo 413 13 8 (.int) := pf_mk (ci := 13) (k := 8) rfl i_Mo t_Mo t_Mo_ok n_Mo (by decide) wm_2441 rfl rfl
theorem gf_Mo_416 : gf_rule R_Mo 416 13 9 := gf_mk (ci := 13) rfl i_Mo (by decide) wm_2442 rfl
theorem pf_Mo_416 : pf_rule R_Mo 416 13 9 (.int) := pf_mk (ci := 13) (k := 9) rfl i_Mo t_Mo t_Mo_ok n_Mo (by decide) wm_2442 rfl rfl
theorem gf_Mo_419 : gf_rule R_Mo 419 13 10 := gf_mk (ci := 13) rfl i_Mo (by decide) wm_2443 rfl
theorem pf_Mo_419 : pf_rule R_Mo 419 13 10 (.int) := pf_mk (ci := 13) (k := 10) rfl i_Mo t_Mo t_Mo_ok n_Mo (by decide) wm_2443 rfl rfl
theorem gf_Mo_422 : gf_rule R_Mo 422 13 11 := gf_mk (ci := 13) rfl i_Mo (by decide) wm_2444 rfl
theorem pf_Mo_422 : pf_rule R_Mo 422 13 11 (.int) := pf_mk (ci := 13) (k := 11) rfl i_Mo t_Mo t_Mo_ok n_Mo (by decide) wm_2444 rfl rfl
theorem gf_Mo_428 : gf_rule R_Mo 428 13 13 := gf_mk (ci := 13) rfl i_Mo (by decide) wm_2446 rfl
theorem pf_Mo_428 : pf_rule R_Mo 428 13 13 (.int) := pf_mk (ci := 13) (k := 13) rfl i_Mo t_Mo t_Mo_ok n_Mo (by decide) wm_2446 rfl rfl
theorem gf_Mo_431 : gf_rule R_Mo 431 13 15 := gf_mk (ci := 13) rfl i_Mo (by decide) wm_2448 rfl
theorem pf_Mo_431 : pf_rule R_Mo 431 13 15 (.int) := pf_mk (ci := 13) (k := 15) rfl i_Mo t_Mo t_Mo_ok n_Mo (by decide) wm_2448 rfl rfl
theorem gf_Mo_434 : gf_rule R_Mo 434 13 12 := gf_mk (ci := 13) rfl i_Mo (by decide) wm_2445 rfl
theorem pf_Mo_434 : pf_rule R_Mo 434 13 12 (.int) := pf_mk (ci := 13) (k := 12) rfl i_Mo t_Mo t_Mo_ok n_Mo (by decide) wm_2445 rfl rfl
theorem gf_Mo_437 : gf_rule R_Mo 437 13 14 := gf_mk (ci := 13) rfl i_Mo (by decide) wm_2447 rfl
theorem pf_Mo_437 : pf_rule R_Mo 437 13 14 (.int) := pf_mk (ci := 13) (k := 14) rfl i_Mo t_Mo t_Mo_ok n_Mo (by decide) wm_2447 rfl rfl
theorem gf_Mo_44 : gf_rule R_Mo 44 13 21 := gf_mk (ci := 13) rfl i_Mo (by decide) wm_2454 rfl
theorem gf_Mo_48 : gf_rule R_Mo 48 13 22 := gf_mk (ci := 13) rfl i_Mo (by decide) wm_2455 rfl
theorem gf_Mo_51 : gf_rule R_Mo 51 13 23 := gf_mk (ci := 13) rfl i_Mo (by decide) wm_2456 rfl
theorem gf_Mo_54 : gf_rule R_Mo 54 13 24 := gf_mk (ci := 13) rfl i_Mo (by decide) wm_2457 rfl
theorem gf_Mo_566 : gf_rule R_Mo 566 13 28 := gf_mk (ci := 13) rfl i_Mo (by decide) wm_2461 rfl
theorem pf_Mo_566 : pf_rule R_Mo 566 13 28 (.int) := pf_mk (ci := 13) (k := 28) rfl i_Mo t_Mo t_Mo_ok n_Mo (by decide) wm_2461 rfl rfl
theorem gf_Mo_569 : gf_rule R_Mo 569 13 29 := gf_mk (ci := 13) rfl i_Mo (by decide) wm_2462 rfl
theorem pf_Mo_569 : pf_rule R_Mo 569 13 29 (.int) := pf_mk (ci := 13) (k := 29) rfl i_Mo t_Mo t_Mo_ok n_Mo (by decide) wm_2462 rfl rfl
theorem gf_Mo_57 : gf_rule R_Mo 57 13 33 := gf_mk (ci := 13) rfl i_Mo (by decide) wm_2466 rfl
theorem gf_Mo_572 : gf_rule R_Mo 572 13 27 := gf_mk (ci := 13) rfl i_Mo (by decide) wm_2460 rfl
theorem pf_Mo_572 : pf_rule R_Mo 572 13 27 (.int) := pf_mk (ci := 13) (k := 27) rfl i_Mo t_Mo t_Mo_ok n_Mo (by decide) wm_2460 rfl rfl
theorem gf_Mo_575 : gf_rule R_Mo 575 13 30 := gf_mk (ci := 13) rfl i_Mo (by decide) wm_2463 rfl
theorem pf_Mo_575 : pf_rule R_Mo 575 13 30 (.boolean) := pf_mk (ci := 13) (k := 30) rfl i_Mo t_Mo t_Mo_ok n_Mo (by decide) wm_2463 rfl rfl
theorem gf_Mo_581 : gf_rule R_Mo 581 13 25 := gf_mk (ci := 13) rfl i_Mo (by decide) wm_2458 rfl
theorem pf_Mo_581 : pf_rule R_Mo 581 13 25 (.boolean) := pf_mk (ci := 13) (k := 25) rfl i_Mo t_Mo t_Mo_ok n_Mo (by decide) wm_2458 rfl rfl
theorem gf_Mo_584 : gf_rule R_Mo 584 13 26 := gf_mk (ci := 13) rfl i_Mo (by decide) wm_2459 rfl
theorem pf_Mo_584 : pf_rule R_Mo 584 13 26 (.int) := pf_mk (ci := 13) (k := 26) rfl i_Mo t_Mo t_Mo_ok n_Mo (by decide) wm_2459 rfl rfl
theorem gf_Mo_594 : gf_rule R_Mo 594 13 31 := gf_mk (ci := 13) rfl i_Mo (by decide) wm_2464 rfl
theorem pf_Mo_594 : pf_rule R_Mo 594 13 31 (.int) := pf_mk (ci := 13) (k := 31) rfl i_Mo t_Mo t_Mo_ok n_Mo (by decide) wm_2464 rfl rfl
theorem gf_Mo_597 : gf_rule R_Mo 597 13 32 := gf_mk (ci := 13) rfl i_Mo (by decide) wm_2465 rfl
theorem pf_Mo_597 : pf_rule R_Mo 597 13 32 (.int) := pf_mk (ci := 13) (k := 32) rfl i_Mo t_Mo t_Mo_ok n_Mo (by decide) wm_2465 rfl rfl
theorem gf_Mo_60 : gf_rule R_Mo 60 13 34 := gf_mk (ci := 13) rfl i_Mo (by decide) wm_2467 rfl
theorem gf_Mo_612 : gf_rule R_Mo 612 13 39 := gf_mk (ci := 13) rfl i_Mo (by decide) wm_2472 rfl
theorem pf_Mo_612 : pf_rule R_Mo 612 13 39 (.int) := pf_mk (ci := 13) (k := 39) rfl i_Mo t_Mo t_Mo_ok n_Mo (by decide) wm_2472 rfl rfl
theorem gf_Mo_619 : gf_rule R_Mo 619 13 45 := gf_mk (ci := 13) rfl i_Mo (by decide) wm_2478 rfl
theorem pf_Mo_619 : pf_rule R_Mo 619 13 45 (.int) := pf_mk (ci := 13) (k := 45) rfl i_Mo t_Mo t_Mo_ok n_Mo (by decide) wm_2478 rfl rfl
theorem gf_Mo_63 : gf_rule R_Mo 63 13 35 := gf_mk (ci := 13) rfl i_Mo (by decide) wm_2468 rfl
theorem gf_Mo_649 : gf_rule R_Mo 649 13 49 := gf_mk (ci := 13) rfl i_Mo (by decide) wm_2481 rfl
theorem pf_Mo_649 : pf_rule R_Mo 649 13 49 (.int) := pf_mk (ci := 13) (k := 49) rfl i_Mo t_Mo t_Mo_ok n_Mo (by decide) wm_2481 rfl rfl
theorem gf_Mo_66 : gf_rule R_Mo 66 13 36 := gf_mk (ci := 13) rfl i_Mo (by decide) wm_2469 rfl
theorem gf_Mo_683 : gf_rule R_Mo 683 13 53 := gf_mk (ci := 13) rfl i_Mo (by decide) wm_2485 rfl
theorem pf_Mo_683 : pf_rule R_Mo 683 13 53 (.int) := pf_mk (ci := 13) (k := 53) rfl i_Mo t_Mo t_Mo_ok n_Mo (by decide) wm_2485 rfl rfl
theorem gf_Mo_69 : gf_rule R_Mo 69 13 37 := gf_mk (ci := 13) rfl i_Mo (by decide) wm_2470 rfl
theorem gf_Mo_695 : gf_rule R_Mo 695 13 58 := gf_mk (ci := 13) rfl i_Mo (by decide) wm_2490 rfl
theorem pf_Mo_695 : pf_rule R_Mo 695 13 58 (.int) := pf_mk (ci := 13) (k := 58) rfl i_Mo t_Mo t_Mo_ok n_Mo (by decide) wm_2490 rfl rfl
theorem gf_Mo_698 : gf_rule R_Mo 698 13 59 := gf_mk (ci := 13) rfl i_Mo (by decide) wm_2491 rfl
theorem pf_Mo_698 : pf_rule R_Mo 698 13 59 (.int) := pf_mk (ci := 13) (k := 59) rfl i_Mo t_Mo t_Mo_ok n_Mo (by decide) wm_2491 rfl rfl
theorem gf_Mo_72 : gf_rule R_Mo 72 13 38 := gf_mk (ci := 13) rfl i_Mo (by decide) wm_2471 rfl
theorem gf_Mo_75 : gf_rule R_Mo 75 13 40 := gf_mk (ci := 13) rfl i_Mo (by decide) wm_2473 rfl
theorem gf_Mo_777 : gf_rule R_Mo 777 13 80 := gf_mk (ci := 13) rfl i_Mo (by decide) wm_2512 rfl
theorem pf_Mo_777 : pf_rule R_Mo 777 13 80 (.int) := pf_mk (ci := 13) (k := 80) rfl i_Mo t_Mo t_Mo_ok n_Mo (by decide) wm_2512 rfl rfl
theorem gf_Mo_78 : gf_rule R_Mo 78 13 41 := gf_mk (ci := 13) rfl i_Mo (by decide) wm_2474 rfl
theorem gf_Mo_780 : gf_rule R_Mo 780 13 81 := gf_mk (ci := 13) rfl i_Mo (by decide) wm_2513 rfl
theorem pf_Mo_780 : pf_rule R_Mo 780 13 81 (.int) := pf_mk (ci := 13) (k := 81) rfl i_Mo t_Mo t_Mo_ok n_Mo (by decide) wm_2513 rfl rfl
theorem gf_Mo_783 : gf_rule R_Mo 783 13 79 := gf_mk (ci := 13) rfl i_Mo (by decide) wm_2511 rfl
theorem pf_Mo_783 : pf_rule R_Mo 783 13 79 (.int) := pf_mk (ci := 13) (k := 79) rfl i_Mo t_Mo t_Mo_ok n_Mo (by decide) wm_2511 rfl rfl
theorem gf_Mo_792 : gf_rule R_Mo 792 13 94 := gf_mk (ci := 13) rfl i_Mo (by decide) wm_2526 rfl
theorem pf_Mo_792 : pf_rule R_Mo 792 13 94 (.int) := pf_mk (ci := 13) (k := 94) rfl i_Mo t_Mo t_Mo_ok n_Mo (by decide) wm_2526 rfl rfl
theorem gf_Mo_795 : gf_rule R_Mo 795 13 99 := gf_mk (ci := 13) rfl i_Mo (by decide) wm_2531 rfl
theorem pf_Mo_795 : pf_rule R_Mo 795 13 99 (.int) := pf_mk (ci := 13) (k := 99) rfl i_Mo t_Mo t_Mo_ok n_Mo (by decide) wm_2531 rfl rfl
theorem gf_Mo_81 : gf_rule R_Mo 81 13 42 := gf_mk (ci := 13) rfl i_Mo (by decide) wm_2475 rfl
theorem gf_Mo_84 : gf_rule R_Mo 84 13 43 := gf_mk (ci := 13) rfl i_Mo (by decide) wm_2476 rfl
theorem gf_Mo_844 : gf_rule R_Mo 844 13 100 := gf_mk (ci := 13) rfl i_Mo (by decide) wm_2532 rfl
theorem pf_Mo_844 : pf_rule R_Mo 844 13 100 (.int) := pf_mk (ci := 13) (k := 100) rfl i_Mo t_Mo t_Mo_ok n_Mo (by decide) wm_2532 rfl rfl
theorem gf_Mo_847 : gf_rule R_Mo 847 13 107 := gf_mk (ci := 13) rfl i_Mo (by decide) wm_2539 rfl
theorem pf_Mo_847 : pf_rule R_Mo 847 13 107 (.int) := pf_mk (ci := 13) (k := 107) rfl i_Mo t_Mo t_Mo_ok n_Mo (by decide) wm_2539 rfl rfl
theorem gf_Mo_852 : gf_rule R_Mo 852 13 101 := gf_mk (ci := 13) rfl i_Mo (by decide) wm_2533 rfl
theorem pf_Mo_852 : pf_rule R_Mo 852 13 101 (.int) := pf_mk (ci := 13) (k := 101) rfl i_Mo t_Mo t_Mo_ok n_Mo (by decide) wm_2533 rfl rfl
theorem gf_Mo_87 : gf_rule R_Mo 87 13 44 := gf_mk (ci := 13) rfl i_Mo (by decide) wm_2477 rfl
theorem gf_Mo_9 : gf_rule R_Mo 9 13 1 := gf_mk (ci := 13) rfl i_Mo (by decide) wm_2434 rfl
theorem gf_Mo_90 : gf_rule R_Mo 90 13 46 := gf_mk (ci := 13) rfl i_Mo (by decide) wm_2479 rfl
theorem gf_Mo_904 : gf_rule R_Mo 904 13 121 := gf_mk (ci := 13) rfl i_Mo (by decide) wm_2553 rfl
theorem pf_Mo_904 : pf_rule R_Mo 904 13 121 (.int) := pf_mk (ci := 13) (k := 121) rfl i_Mo t_Mo t_Mo_ok n_Mo (by decide) wm_2553 rfl rfl
theorem gf_Mo_93 : gf_rule R_Mo 93 13 48 := gf_mk (ci := 13) rfl i_Mo (by decide) wm_2480 rfl
theorem gf_Mo_936 : gf_rule R_Mo 936 13 125 := gf_mk (ci := 13) rfl i_Mo (by decide) wm_2557 rfl
theorem pf_Mo_936 : pf_rule R_Mo 936 13 125 (.int) := pf_mk (ci := 13) (k := 125) rfl i_Mo t_Mo t_Mo_ok n_Mo (by decide) wm_2557 rfl rfl
theorem gf_Mo_96 : gf_rule R_Mo 96 13 50 := gf_mk (ci := 13) rfl i_Mo (by decide) wm_2482 rfl
theorem gf_Mo_971 : gf_rule R_Mo 971 13 132 := gf_mk (ci := 13) rfl i_Mo (by decide) wm_2564 rfl
theorem pf_Mo_971 : pf_rule R_Mo 971 13 132 (.int) := pf_mk (ci := 13) (k := 132) rfl i_Mo t_Mo t_Mo_ok n_Mo (by decide) wm_2564 rfl rfl
theorem gf_Mo_977 : gf_rule R_Mo 977 13 133 := gf_mk (ci := 13) rfl i_Mo (by decide) wm_2565 rfl
theorem pf_Mo_977 : pf_rule R_Mo 977 13 133 (.long) := pf_mk (ci := 13) (k := 133) rfl i_Mo t_Mo t_Mo_ok n_Mo (by decide) wm_2565 rfl rfl
theorem gf_Mo_981 : gf_rule R_Mo 981 13 134 := gf_mk (ci := 13) rfl i_Mo (by decide) wm_2566 rfl
theorem pf_Mo_981 : pf_rule R_Mo 981 13 134 (.long) := pf_mk (ci := 13) (k := 134) rfl i_Mo t_Mo t_Mo_ok n_Mo (by decide) wm_2566 rfl rfl
theorem gf_Mo_99 : gf_rule R_Mo 99 13 51 := gf_mk (ci := 13) rfl i_Mo (by decide) wm_2483 rfl
