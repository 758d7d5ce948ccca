section
-- ===== PART A: goes FIRST, ahead of the names: the tables' words, and 'selects' of the private methods out of them =====
/-- a private method of a class that the tables say can be made, by its rows of tables_1 -/
def lw_okq (q : MethodName × Nat) : Prop := (q.1.cls ≠ "java/lang/invoke/MethodHandle" ∧ q.1.cls ≠ "java/lang/invoke/VarHandle") ∧ Cond.instantiable q.1.cls q.2 ∈ tables_1 ∧ Cond.privateMethod q.1 ∈ tables_1 ∧ Cond.instanceMethod q.1 ∈ tables_1
theorem lw_p0 : lw_okq (⟨"DrawingHouse$Reader", "advance", "()V"⟩, 12) := ⟨⟨by decide +kernel, by decide +kernel⟩, List.mem_of_getElem? (i := 42) (by decide +kernel), List.mem_of_getElem? (i := 643) (by decide +kernel), List.mem_of_getElem? (i := 644) (by decide +kernel)⟩
theorem lw_p1 : lw_okq (⟨"DrawingHouse$Reader", "isNameByte", "(I)Z"⟩, 12) := ⟨⟨by decide +kernel, by decide +kernel⟩, List.mem_of_getElem? (i := 42) (by decide +kernel), List.mem_of_getElem? (i := 650) (by decide +kernel), List.mem_of_getElem? (i := 651) (by decide +kernel)⟩
theorem lw_p2 : lw_okq (⟨"DrawingHouse$Reader", "readItem", "()Z"⟩, 12) := ⟨⟨by decide +kernel, by decide +kernel⟩, List.mem_of_getElem? (i := 42) (by decide +kernel), List.mem_of_getElem? (i := 664) (by decide +kernel), List.mem_of_getElem? (i := 665) (by decide +kernel)⟩
theorem lw_p3 : lw_okq (⟨"DrawingHouse$Reader", "isWord", "(Ljava/lang/String;)Z"⟩, 12) := ⟨⟨by decide +kernel, by decide +kernel⟩, List.mem_of_getElem? (i := 42) (by decide +kernel), List.mem_of_getElem? (i := 669) (by decide +kernel), List.mem_of_getElem? (i := 670) (by decide +kernel)⟩
theorem lw_p4 : lw_okq (⟨"DrawingHouse$Reader", "readNode", "()Z"⟩, 12) := ⟨⟨by decide +kernel, by decide +kernel⟩, List.mem_of_getElem? (i := 42) (by decide +kernel), List.mem_of_getElem? (i := 721) (by decide +kernel), List.mem_of_getElem? (i := 722) (by decide +kernel)⟩
theorem lw_p5 : lw_okq (⟨"DrawingHouse$Reader", "isName", "()Z"⟩, 12) := ⟨⟨by decide +kernel, by decide +kernel⟩, List.mem_of_getElem? (i := 42) (by decide +kernel), List.mem_of_getElem? (i := 725) (by decide +kernel), List.mem_of_getElem? (i := 726) (by decide +kernel)⟩
theorem lw_p6 : lw_okq (⟨"DrawingHouse$Reader", "fail", "(I)Z"⟩, 12) := ⟨⟨by decide +kernel, by decide +kernel⟩, List.mem_of_getElem? (i := 42) (by decide +kernel), List.mem_of_getElem? (i := 730) (by decide +kernel), List.mem_of_getElem? (i := 731) (by decide +kernel)⟩
theorem lw_p7 : lw_okq (⟨"DrawingHouse$Reader", "meetNode", "()I"⟩, 12) := ⟨⟨by decide +kernel, by decide +kernel⟩, List.mem_of_getElem? (i := 42) (by decide +kernel), List.mem_of_getElem? (i := 734) (by decide +kernel), List.mem_of_getElem? (i := 735) (by decide +kernel)⟩
theorem lw_p8 : lw_okq (⟨"DrawingHouse$Graph", "hasLetters", "(I[BI)Z"⟩, 19) := ⟨⟨by decide +kernel, by decide +kernel⟩, List.mem_of_getElem? (i := 48) (by decide +kernel), List.mem_of_getElem? (i := 742) (by decide +kernel), List.mem_of_getElem? (i := 743) (by decide +kernel)⟩
theorem lw_p9 : lw_okq (⟨"DrawingHouse$Reader", "readValue", "(Ljava/lang/String;I)Z"⟩, 12) := ⟨⟨by decide +kernel, by decide +kernel⟩, List.mem_of_getElem? (i := 42) (by decide +kernel), List.mem_of_getElem? (i := 754) (by decide +kernel), List.mem_of_getElem? (i := 755) (by decide +kernel)⟩
theorem lw_p10 : lw_okq (⟨"DrawingHouse$Reader", "readGroup", "()Z"⟩, 12) := ⟨⟨by decide +kernel, by decide +kernel⟩, List.mem_of_getElem? (i := 42) (by decide +kernel), List.mem_of_getElem? (i := 758) (by decide +kernel), List.mem_of_getElem? (i := 759) (by decide +kernel)⟩
theorem lw_p11 : lw_okq (⟨"DrawingHouse$Reader", "readEdges", "()Z"⟩, 12) := ⟨⟨by decide +kernel, by decide +kernel⟩, List.mem_of_getElem? (i := 42) (by decide +kernel), List.mem_of_getElem? (i := 763) (by decide +kernel), List.mem_of_getElem? (i := 764) (by decide +kernel)⟩
theorem lw_p12 : lw_okq (⟨"DrawingHouse$Graph", "tie", "(I)V"⟩, 19) := ⟨⟨by decide +kernel, by decide +kernel⟩, List.mem_of_getElem? (i := 48) (by decide +kernel), List.mem_of_getElem? (i := 775) (by decide +kernel), List.mem_of_getElem? (i := 776) (by decide +kernel)⟩
theorem lw_p13 : lw_okq (⟨"DrawingHouse$Graph", "relink", "()V"⟩, 19) := ⟨⟨by decide +kernel, by decide +kernel⟩, List.mem_of_getElem? (i := 48) (by decide +kernel), List.mem_of_getElem? (i := 784) (by decide +kernel), List.mem_of_getElem? (i := 785) (by decide +kernel)⟩
theorem lw_p14 : lw_okq (⟨"DrawingHouse", "forget", "(I)V"⟩, 21) := ⟨⟨by decide +kernel, by decide +kernel⟩, List.mem_of_getElem? (i := 26) (by decide +kernel), List.mem_of_getElem? (i := 788) (by decide +kernel), List.mem_of_getElem? (i := 789) (by decide +kernel)⟩
theorem lw_p15 : lw_okq (⟨"DrawingHouse", "learned", "(I)LDrawingHouse$Facts;"⟩, 21) := ⟨⟨by decide +kernel, by decide +kernel⟩, List.mem_of_getElem? (i := 26) (by decide +kernel), List.mem_of_getElem? (i := 809) (by decide +kernel), List.mem_of_getElem? (i := 810) (by decide +kernel)⟩
def lw_privs_1 : List (MethodName × Nat) := [(⟨"DrawingHouse$Reader", "advance", "()V"⟩, 12), (⟨"DrawingHouse$Reader", "isNameByte", "(I)Z"⟩, 12), (⟨"DrawingHouse$Reader", "readItem", "()Z"⟩, 12), (⟨"DrawingHouse$Reader", "isWord", "(Ljava/lang/String;)Z"⟩, 12), (⟨"DrawingHouse$Reader", "readNode", "()Z"⟩, 12), (⟨"DrawingHouse$Reader", "isName", "()Z"⟩, 12), (⟨"DrawingHouse$Reader", "fail", "(I)Z"⟩, 12), (⟨"DrawingHouse$Reader", "meetNode", "()I"⟩, 12), (⟨"DrawingHouse$Graph", "hasLetters", "(I[BI)Z"⟩, 19), (⟨"DrawingHouse$Reader", "readValue", "(Ljava/lang/String;I)Z"⟩, 12), (⟨"DrawingHouse$Reader", "readGroup", "()Z"⟩, 12), (⟨"DrawingHouse$Reader", "readEdges", "()Z"⟩, 12), (⟨"DrawingHouse$Graph", "tie", "(I)V"⟩, 19), (⟨"DrawingHouse$Graph", "relink", "()V"⟩, 19), (⟨"DrawingHouse", "forget", "(I)V"⟩, 21), (⟨"DrawingHouse", "learned", "(I)LDrawingHouse$Facts;"⟩, 21)]
theorem lw_r1 : ∀ q ∈ lw_privs_1, lw_okq q := List.forall_mem_cons.mpr ⟨lw_p0, List.forall_mem_cons.mpr ⟨lw_p1, List.forall_mem_cons.mpr ⟨lw_p2, List.forall_mem_cons.mpr ⟨lw_p3, List.forall_mem_cons.mpr ⟨lw_p4, List.forall_mem_cons.mpr ⟨lw_p5, List.forall_mem_cons.mpr ⟨lw_p6, List.forall_mem_cons.mpr ⟨lw_p7, List.forall_mem_cons.mpr ⟨lw_p8, List.forall_mem_cons.mpr ⟨lw_p9, List.forall_mem_cons.mpr ⟨lw_p10, List.forall_mem_cons.mpr ⟨lw_p11, List.forall_mem_cons.mpr ⟨lw_p12, List.forall_mem_cons.mpr ⟨lw_p13, List.forall_mem_cons.mpr ⟨lw_p14, List.forall_mem_cons.mpr ⟨lw_p15, fun _ h => absurd h List.not_mem_nil⟩⟩⟩⟩⟩⟩⟩⟩⟩⟩⟩⟩⟩⟩⟩⟩
theorem lw_p16 : lw_okq (⟨"DrawingHouse$Facts", "learnParts", "(LDrawingHouse$Graph;)V"⟩, 15) := ⟨⟨by decide +kernel, by decide +kernel⟩, List.mem_of_getElem? (i := 389) (by decide +kernel), List.mem_of_getElem? (i := 817) (by decide +kernel), List.mem_of_getElem? (i := 818) (by decide +kernel)⟩
theorem lw_p17 : lw_okq (⟨"DrawingHouse$Facts", "learnBlocksAt", "(LDrawingHouse$Graph;)V"⟩, 15) := ⟨⟨by decide +kernel, by decide +kernel⟩, List.mem_of_getElem? (i := 389) (by decide +kernel), List.mem_of_getElem? (i := 843) (by decide +kernel), List.mem_of_getElem? (i := 844) (by decide +kernel)⟩
theorem lw_p18 : lw_okq (⟨"DrawingHouse$Facts", "learnStrong", "(LDrawingHouse$Graph;)V"⟩, 15) := ⟨⟨by decide +kernel, by decide +kernel⟩, List.mem_of_getElem? (i := 389) (by decide +kernel), List.mem_of_getElem? (i := 853) (by decide +kernel), List.mem_of_getElem? (i := 854) (by decide +kernel)⟩
theorem lw_p19 : lw_okq (⟨"DrawingHouse$Facts", "numberStrong", "(I[I)I"⟩, 15) := ⟨⟨by decide +kernel, by decide +kernel⟩, List.mem_of_getElem? (i := 389) (by decide +kernel), List.mem_of_getElem? (i := 858) (by decide +kernel), List.mem_of_getElem? (i := 859) (by decide +kernel)⟩
theorem lw_p20 : lw_okq (⟨"DrawingHouse$Facts", "learnCore", "(LDrawingHouse$Graph;)V"⟩, 15) := ⟨⟨by decide +kernel, by decide +kernel⟩, List.mem_of_getElem? (i := 389) (by decide +kernel), List.mem_of_getElem? (i := 862) (by decide +kernel), List.mem_of_getElem? (i := 863) (by decide +kernel)⟩
theorem lw_p21 : lw_okq (⟨"DrawingHouse$Facts", "peel", "(LDrawingHouse$Graph;II)I"⟩, 15) := ⟨⟨by decide +kernel, by decide +kernel⟩, List.mem_of_getElem? (i := 389) (by decide +kernel), List.mem_of_getElem? (i := 866) (by decide +kernel), List.mem_of_getElem? (i := 867) (by decide +kernel)⟩
theorem lw_p22 : lw_okq (⟨"DrawingHouse$Facts", "learnTurned", "(LDrawingHouse$Graph;)V"⟩, 15) := ⟨⟨by decide +kernel, by decide +kernel⟩, List.mem_of_getElem? (i := 389) (by decide +kernel), List.mem_of_getElem? (i := 876) (by decide +kernel), List.mem_of_getElem? (i := 877) (by decide +kernel)⟩
theorem lw_p23 : lw_okq (⟨"DrawingHouse$Facts", "gather", "(II)I"⟩, 15) := ⟨⟨by decide +kernel, by decide +kernel⟩, List.mem_of_getElem? (i := 389) (by decide +kernel), List.mem_of_getElem? (i := 880) (by decide +kernel), List.mem_of_getElem? (i := 881) (by decide +kernel)⟩
theorem lw_p24 : lw_okq (⟨"DrawingHouse$Facts", "orderLarge", "(LDrawingHouse$Graph;I)V"⟩, 15) := ⟨⟨by decide +kernel, by decide +kernel⟩, List.mem_of_getElem? (i := 389) (by decide +kernel), List.mem_of_getElem? (i := 884) (by decide +kernel), List.mem_of_getElem? (i := 885) (by decide +kernel)⟩
theorem lw_p25 : lw_okq (⟨"DrawingHouse$Facts", "pickLast", "(LDrawingHouse$Graph;II)I"⟩, 15) := ⟨⟨by decide +kernel, by decide +kernel⟩, List.mem_of_getElem? (i := 389) (by decide +kernel), List.mem_of_getElem? (i := 888) (by decide +kernel), List.mem_of_getElem? (i := 889) (by decide +kernel)⟩
theorem lw_p26 : lw_okq (⟨"DrawingHouse$Facts", "pickFirst", "(LDrawingHouse$Graph;II)I"⟩, 15) := ⟨⟨by decide +kernel, by decide +kernel⟩, List.mem_of_getElem? (i := 389) (by decide +kernel), List.mem_of_getElem? (i := 895) (by decide +kernel), List.mem_of_getElem? (i := 896) (by decide +kernel)⟩
theorem lw_p27 : lw_okq (⟨"DrawingHouse$Facts", "orderSmall", "(LDrawingHouse$Graph;I)V"⟩, 15) := ⟨⟨by decide +kernel, by decide +kernel⟩, List.mem_of_getElem? (i := 389) (by decide +kernel), List.mem_of_getElem? (i := 903) (by decide +kernel), List.mem_of_getElem? (i := 904) (by decide +kernel)⟩
theorem lw_p28 : lw_okq (⟨"DrawingHouse$Facts", "costAhead", "(LDrawingHouse$Graph;III)I"⟩, 15) := ⟨⟨by decide +kernel, by decide +kernel⟩, List.mem_of_getElem? (i := 389) (by decide +kernel), List.mem_of_getElem? (i := 908) (by decide +kernel), List.mem_of_getElem? (i := 909) (by decide +kernel)⟩
theorem lw_p29 : lw_okq (⟨"DrawingHouse$Graph", "hasNextName", "()Z"⟩, 19) := ⟨⟨by decide +kernel, by decide +kernel⟩, List.mem_of_getElem? (i := 48) (by decide +kernel), List.mem_of_getElem? (i := 962) (by decide +kernel), List.mem_of_getElem? (i := 963) (by decide +kernel)⟩
theorem lw_p30 : lw_okq (⟨"DrawingHouse$Graph", "nextName", "([B)I"⟩, 19) := ⟨⟨by decide +kernel, by decide +kernel⟩, List.mem_of_getElem? (i := 48) (by decide +kernel), List.mem_of_getElem? (i := 966) (by decide +kernel), List.mem_of_getElem? (i := 967) (by decide +kernel)⟩
theorem lw_p31 : lw_okq (⟨"DrawingHouse$Graph", "pack", "(I)V"⟩, 19) := ⟨⟨by decide +kernel, by decide +kernel⟩, List.mem_of_getElem? (i := 48) (by decide +kernel), List.mem_of_getElem? (i := 978) (by decide +kernel), List.mem_of_getElem? (i := 979) (by decide +kernel)⟩
def lw_privs_2 : List (MethodName × Nat) := [(⟨"DrawingHouse$Facts", "learnParts", "(LDrawingHouse$Graph;)V"⟩, 15), (⟨"DrawingHouse$Facts", "learnBlocksAt", "(LDrawingHouse$Graph;)V"⟩, 15), (⟨"DrawingHouse$Facts", "learnStrong", "(LDrawingHouse$Graph;)V"⟩, 15), (⟨"DrawingHouse$Facts", "numberStrong", "(I[I)I"⟩, 15), (⟨"DrawingHouse$Facts", "learnCore", "(LDrawingHouse$Graph;)V"⟩, 15), (⟨"DrawingHouse$Facts", "peel", "(LDrawingHouse$Graph;II)I"⟩, 15), (⟨"DrawingHouse$Facts", "learnTurned", "(LDrawingHouse$Graph;)V"⟩, 15), (⟨"DrawingHouse$Facts", "gather", "(II)I"⟩, 15), (⟨"DrawingHouse$Facts", "orderLarge", "(LDrawingHouse$Graph;I)V"⟩, 15), (⟨"DrawingHouse$Facts", "pickLast", "(LDrawingHouse$Graph;II)I"⟩, 15), (⟨"DrawingHouse$Facts", "pickFirst", "(LDrawingHouse$Graph;II)I"⟩, 15), (⟨"DrawingHouse$Facts", "orderSmall", "(LDrawingHouse$Graph;I)V"⟩, 15), (⟨"DrawingHouse$Facts", "costAhead", "(LDrawingHouse$Graph;III)I"⟩, 15), (⟨"DrawingHouse$Graph", "hasNextName", "()Z"⟩, 19), (⟨"DrawingHouse$Graph", "nextName", "([B)I"⟩, 19), (⟨"DrawingHouse$Graph", "pack", "(I)V"⟩, 19)]
theorem lw_r2 : ∀ q ∈ lw_privs_2, lw_okq q := List.forall_mem_cons.mpr ⟨lw_p16, List.forall_mem_cons.mpr ⟨lw_p17, List.forall_mem_cons.mpr ⟨lw_p18, List.forall_mem_cons.mpr ⟨lw_p19, List.forall_mem_cons.mpr ⟨lw_p20, List.forall_mem_cons.mpr ⟨lw_p21, List.forall_mem_cons.mpr ⟨lw_p22, List.forall_mem_cons.mpr ⟨lw_p23, List.forall_mem_cons.mpr ⟨lw_p24, List.forall_mem_cons.mpr ⟨lw_p25, List.forall_mem_cons.mpr ⟨lw_p26, List.forall_mem_cons.mpr ⟨lw_p27, List.forall_mem_cons.mpr ⟨lw_p28, List.forall_mem_cons.mpr ⟨lw_p29, List.forall_mem_cons.mpr ⟨lw_p30, List.forall_mem_cons.mpr ⟨lw_p31, fun _ h => absurd h List.not_mem_nil⟩⟩⟩⟩⟩⟩⟩⟩⟩⟩⟩⟩⟩⟩⟩⟩
theorem lw_p32 : lw_okq (⟨"DrawingHouse$Graph", "fourLetters", "(I)I"⟩, 19) := ⟨⟨by decide +kernel, by decide +kernel⟩, List.mem_of_getElem? (i := 48) (by decide +kernel), List.mem_of_getElem? (i := 982) (by decide +kernel), List.mem_of_getElem? (i := 983) (by decide +kernel)⟩
theorem lw_p33 : lw_okq (⟨"DrawingHouse$Graph", "perform", "(III)I"⟩, 19) := ⟨⟨by decide +kernel, by decide +kernel⟩, List.mem_of_getElem? (i := 48) (by decide +kernel), List.mem_of_getElem? (i := 986) (by decide +kernel), List.mem_of_getElem? (i := 987) (by decide +kernel)⟩
theorem lw_p34 : lw_okq (⟨"DrawingHouse$Graph", "removeEdge", "(I)V"⟩, 19) := ⟨⟨by decide +kernel, by decide +kernel⟩, List.mem_of_getElem? (i := 48) (by decide +kernel), List.mem_of_getElem? (i := 992) (by decide +kernel), List.mem_of_getElem? (i := 993) (by decide +kernel)⟩
theorem lw_p35 : lw_okq (⟨"DrawingHouse$Graph", "removeNode", "(I)V"⟩, 19) := ⟨⟨by decide +kernel, by decide +kernel⟩, List.mem_of_getElem? (i := 48) (by decide +kernel), List.mem_of_getElem? (i := 996) (by decide +kernel), List.mem_of_getElem? (i := 997) (by decide +kernel)⟩
theorem lw_p36 : lw_okq (⟨"DrawingHouse$Graph", "unpack", "(I)V"⟩, 19) := ⟨⟨by decide +kernel, by decide +kernel⟩, List.mem_of_getElem? (i := 48) (by decide +kernel), List.mem_of_getElem? (i := 1008) (by decide +kernel), List.mem_of_getElem? (i := 1009) (by decide +kernel)⟩
theorem lw_p37 : lw_okq (⟨"DrawingHouse$Graph", "setLetters", "(II)V"⟩, 19) := ⟨⟨by decide +kernel, by decide +kernel⟩, List.mem_of_getElem? (i := 48) (by decide +kernel), List.mem_of_getElem? (i := 1012) (by decide +kernel), List.mem_of_getElem? (i := 1013) (by decide +kernel)⟩
theorem lw_p38 : lw_okq (⟨"DrawingHouse", "searchMap", "(LDrawingHouse$Graph;LDrawingHouse$Graph;[I)I"⟩, 21) := ⟨⟨by decide +kernel, by decide +kernel⟩, List.mem_of_getElem? (i := 26) (by decide +kernel), List.mem_of_getElem? (i := 1029) (by decide +kernel), List.mem_of_getElem? (i := 1030) (by decide +kernel)⟩
theorem lw_p39 : lw_okq (⟨"DrawingHouse", "embedded", "(I)LDrawingHouse$Net;"⟩, 21) := ⟨⟨by decide +kernel, by decide +kernel⟩, List.mem_of_getElem? (i := 26) (by decide +kernel), List.mem_of_getElem? (i := 1051) (by decide +kernel), List.mem_of_getElem? (i := 1052) (by decide +kernel)⟩
theorem lw_p40 : lw_okq (⟨"DrawingHouse$Embedder", "beginBlock", "(I)I"⟩, 20) := ⟨⟨by decide +kernel, by decide +kernel⟩, List.mem_of_getElem? (i := 237) (by decide +kernel), List.mem_of_getElem? (i := 1073) (by decide +kernel), List.mem_of_getElem? (i := 1074) (by decide +kernel)⟩
theorem lw_p41 : lw_okq (⟨"DrawingHouse$Embedder", "layRing", "(I)V"⟩, 20) := ⟨⟨by decide +kernel, by decide +kernel⟩, List.mem_of_getElem? (i := 237) (by decide +kernel), List.mem_of_getElem? (i := 1080) (by decide +kernel), List.mem_of_getElem? (i := 1081) (by decide +kernel)⟩
theorem lw_p42 : lw_okq (⟨"DrawingHouse$Embedder", "drawWay", "()V"⟩, 20) := ⟨⟨by decide +kernel, by decide +kernel⟩, List.mem_of_getElem? (i := 237) (by decide +kernel), List.mem_of_getElem? (i := 1084) (by decide +kernel), List.mem_of_getElem? (i := 1085) (by decide +kernel)⟩
theorem lw_p43 : lw_okq (⟨"DrawingHouse$Embedder", "pickPiece", "(I)Z"⟩, 20) := ⟨⟨by decide +kernel, by decide +kernel⟩, List.mem_of_getElem? (i := 237) (by decide +kernel), List.mem_of_getElem? (i := 1092) (by decide +kernel), List.mem_of_getElem? (i := 1093) (by decide +kernel)⟩
theorem lw_p44 : lw_okq (⟨"DrawingHouse$Embedder", "countFits", "(I)I"⟩, 20) := ⟨⟨by decide +kernel, by decide +kernel⟩, List.mem_of_getElem? (i := 237) (by decide +kernel), List.mem_of_getElem? (i := 1099) (by decide +kernel), List.mem_of_getElem? (i := 1100) (by decide +kernel)⟩
theorem lw_p45 : lw_okq (⟨"DrawingHouse$Embedder", "firstFit", "(I)I"⟩, 20) := ⟨⟨by decide +kernel, by decide +kernel⟩, List.mem_of_getElem? (i := 237) (by decide +kernel), List.mem_of_getElem? (i := 1103) (by decide +kernel), List.mem_of_getElem? (i := 1104) (by decide +kernel)⟩
theorem lw_p46 : lw_okq (⟨"DrawingHouse$Embedder", "findWay", "()Z"⟩, 20) := ⟨⟨by decide +kernel, by decide +kernel⟩, List.mem_of_getElem? (i := 237) (by decide +kernel), List.mem_of_getElem? (i := 1107) (by decide +kernel), List.mem_of_getElem? (i := 1108) (by decide +kernel)⟩
theorem lw_p47 : lw_okq (⟨"DrawingHouse$Embedder", "splitCycle", "()V"⟩, 20) := ⟨⟨by decide +kernel, by decide +kernel⟩, List.mem_of_getElem? (i := 237) (by decide +kernel), List.mem_of_getElem? (i := 1112) (by decide +kernel), List.mem_of_getElem? (i := 1113) (by decide +kernel)⟩
def lw_privs_3 : List (MethodName × Nat) := [(⟨"DrawingHouse$Graph", "fourLetters", "(I)I"⟩, 19), (⟨"DrawingHouse$Graph", "perform", "(III)I"⟩, 19), (⟨"DrawingHouse$Graph", "removeEdge", "(I)V"⟩, 19), (⟨"DrawingHouse$Graph", "removeNode", "(I)V"⟩, 19), (⟨"DrawingHouse$Graph", "unpack", "(I)V"⟩, 19), (⟨"DrawingHouse$Graph", "setLetters", "(II)V"⟩, 19), (⟨"DrawingHouse", "searchMap", "(LDrawingHouse$Graph;LDrawingHouse$Graph;[I)I"⟩, 21), (⟨"DrawingHouse", "embedded", "(I)LDrawingHouse$Net;"⟩, 21), (⟨"DrawingHouse$Embedder", "beginBlock", "(I)I"⟩, 20), (⟨"DrawingHouse$Embedder", "layRing", "(I)V"⟩, 20), (⟨"DrawingHouse$Embedder", "drawWay", "()V"⟩, 20), (⟨"DrawingHouse$Embedder", "pickPiece", "(I)Z"⟩, 20), (⟨"DrawingHouse$Embedder", "countFits", "(I)I"⟩, 20), (⟨"DrawingHouse$Embedder", "firstFit", "(I)I"⟩, 20), (⟨"DrawingHouse$Embedder", "findWay", "()Z"⟩, 20), (⟨"DrawingHouse$Embedder", "splitCycle", "()V"⟩, 20)]
theorem lw_r3 : ∀ q ∈ lw_privs_3, lw_okq q := List.forall_mem_cons.mpr ⟨lw_p32, List.forall_mem_cons.mpr ⟨lw_p33, List.forall_mem_cons.mpr ⟨lw_p34, List.forall_mem_cons.mpr ⟨lw_p35, List.forall_mem_cons.mpr ⟨lw_p36, List.forall_mem_cons.mpr ⟨lw_p37, List.forall_mem_cons.mpr ⟨lw_p38, List.forall_mem_cons.mpr ⟨lw_p39, List.forall_mem_cons.mpr ⟨lw_p40, List.forall_mem_cons.mpr ⟨lw_p41, List.forall_mem_cons.mpr ⟨lw_p42, List.forall_mem_cons.mpr ⟨lw_p43, List.forall_mem_cons.mpr ⟨lw_p44, List.forall_mem_cons.mpr ⟨lw_p45, List.forall_mem_cons.mpr ⟨lw_p46, List.forall_mem_cons.mpr ⟨lw_p47, fun _ h => absurd h List.not_mem_nil⟩⟩⟩⟩⟩⟩⟩⟩⟩⟩⟩⟩⟩⟩⟩⟩
theorem lw_p48 : lw_okq (⟨"DrawingHouse$Embedder", "copyStretch", "(III)I"⟩, 20) := ⟨⟨by decide +kernel, by decide +kernel⟩, List.mem_of_getElem? (i := 237) (by decide +kernel), List.mem_of_getElem? (i := 1116) (by decide +kernel), List.mem_of_getElem? (i := 1117) (by decide +kernel)⟩
theorem lw_p49 : lw_okq (⟨"DrawingHouse$Embedder", "indexIn", "(II)I"⟩, 20) := ⟨⟨by decide +kernel, by decide +kernel⟩, List.mem_of_getElem? (i := 237) (by decide +kernel), List.mem_of_getElem? (i := 1120) (by decide +kernel), List.mem_of_getElem? (i := 1121) (by decide +kernel)⟩
theorem lw_p50 : lw_okq (⟨"DrawingHouse$Embedder", "copyOther", "(III)I"⟩, 20) := ⟨⟨by decide +kernel, by decide +kernel⟩, List.mem_of_getElem? (i := 237) (by decide +kernel), List.mem_of_getElem? (i := 1124) (by decide +kernel), List.mem_of_getElem? (i := 1125) (by decide +kernel)⟩
theorem lw_p51 : lw_okq (⟨"DrawingHouse$Embedder", "storeCycle", "(III)V"⟩, 20) := ⟨⟨by decide +kernel, by decide +kernel⟩, List.mem_of_getElem? (i := 237) (by decide +kernel), List.mem_of_getElem? (i := 1128) (by decide +kernel), List.mem_of_getElem? (i := 1129) (by decide +kernel)⟩
theorem lw_p52 : lw_okq (⟨"DrawingHouse$Embedder", "turnByCycles", "()V"⟩, 20) := ⟨⟨by decide +kernel, by decide +kernel⟩, List.mem_of_getElem? (i := 237) (by decide +kernel), List.mem_of_getElem? (i := 1133) (by decide +kernel), List.mem_of_getElem? (i := 1134) (by decide +kernel)⟩
theorem lw_p53 : lw_okq (⟨"DrawingHouse$Embedder", "joinBlocksAt", "(II)V"⟩, 20) := ⟨⟨by decide +kernel, by decide +kernel⟩, List.mem_of_getElem? (i := 237) (by decide +kernel), List.mem_of_getElem? (i := 1141) (by decide +kernel), List.mem_of_getElem? (i := 1142) (by decide +kernel)⟩
theorem lw_p54 : lw_okq (⟨"DrawingHouse$Embedder", "leastEdgeAt", "(II)I"⟩, 20) := ⟨⟨by decide +kernel, by decide +kernel⟩, List.mem_of_getElem? (i := 237) (by decide +kernel), List.mem_of_getElem? (i := 1145) (by decide +kernel), List.mem_of_getElem? (i := 1146) (by decide +kernel)⟩
theorem lw_p55 : lw_okq (⟨"DrawingHouse$Embedder", "loadKept", "(LDrawingHouse$Graph;)V"⟩, 20) := ⟨⟨by decide +kernel, by decide +kernel⟩, List.mem_of_getElem? (i := 237) (by decide +kernel), List.mem_of_getElem? (i := 1158) (by decide +kernel), List.mem_of_getElem? (i := 1159) (by decide +kernel)⟩
theorem lw_p56 : lw_okq (⟨"DrawingHouse$Layers", "listOrders", "(II)I"⟩, 21) := ⟨⟨by decide +kernel, by decide +kernel⟩, List.mem_of_getElem? (i := 1188) (by decide +kernel), List.mem_of_getElem? (i := 1229) (by decide +kernel), List.mem_of_getElem? (i := 1230) (by decide +kernel)⟩
theorem lw_p57 : lw_okq (⟨"DrawingHouse$Layers", "findLayers", "(LDrawingHouse$Facts;)V"⟩, 21) := ⟨⟨by decide +kernel, by decide +kernel⟩, List.mem_of_getElem? (i := 1188) (by decide +kernel), List.mem_of_getElem? (i := 1312) (by decide +kernel), List.mem_of_getElem? (i := 1313) (by decide +kernel)⟩
theorem lw_p58 : lw_okq (⟨"DrawingHouse$Layers", "upperEnd", "(LDrawingHouse$Facts;I)I"⟩, 21) := ⟨⟨by decide +kernel, by decide +kernel⟩, List.mem_of_getElem? (i := 1188) (by decide +kernel), List.mem_of_getElem? (i := 1320) (by decide +kernel), List.mem_of_getElem? (i := 1321) (by decide +kernel)⟩
theorem lw_p59 : lw_okq (⟨"DrawingHouse$Layers", "lowerEnd", "(LDrawingHouse$Facts;I)I"⟩, 21) := ⟨⟨by decide +kernel, by decide +kernel⟩, List.mem_of_getElem? (i := 1188) (by decide +kernel), List.mem_of_getElem? (i := 1324) (by decide +kernel), List.mem_of_getElem? (i := 1325) (by decide +kernel)⟩
theorem lw_p60 : lw_okq (⟨"DrawingHouse$Stretch", "addArc", "(IIII)V"⟩, 9) := ⟨⟨by decide +kernel, by decide +kernel⟩, List.mem_of_getElem? (i := 1194) (by decide +kernel), List.mem_of_getElem? (i := 1332) (by decide +kernel), List.mem_of_getElem? (i := 1333) (by decide +kernel)⟩
theorem lw_p61 : lw_okq (⟨"DrawingHouse$Stretch", "findRing", "()I"⟩, 9) := ⟨⟨by decide +kernel, by decide +kernel⟩, List.mem_of_getElem? (i := 1194) (by decide +kernel), List.mem_of_getElem? (i := 1347) (by decide +kernel), List.mem_of_getElem? (i := 1348) (by decide +kernel)⟩
theorem lw_p62 : lw_okq (⟨"DrawingHouse$Stretch", "raise", "()Z"⟩, 9) := ⟨⟨by decide +kernel, by decide +kernel⟩, List.mem_of_getElem? (i := 1194) (by decide +kernel), List.mem_of_getElem? (i := 1351) (by decide +kernel), List.mem_of_getElem? (i := 1352) (by decide +kernel)⟩
theorem lw_p63 : lw_okq (⟨"DrawingHouse$Stretch", "ringInBy", "()I"⟩, 9) := ⟨⟨by decide +kernel, by decide +kernel⟩, List.mem_of_getElem? (i := 1194) (by decide +kernel), List.mem_of_getElem? (i := 1355) (by decide +kernel), List.mem_of_getElem? (i := 1356) (by decide +kernel)⟩
def lw_privs_4 : List (MethodName × Nat) := [(⟨"DrawingHouse$Embedder", "copyStretch", "(III)I"⟩, 20), (⟨"DrawingHouse$Embedder", "indexIn", "(II)I"⟩, 20), (⟨"DrawingHouse$Embedder", "copyOther", "(III)I"⟩, 20), (⟨"DrawingHouse$Embedder", "storeCycle", "(III)V"⟩, 20), (⟨"DrawingHouse$Embedder", "turnByCycles", "()V"⟩, 20), (⟨"DrawingHouse$Embedder", "joinBlocksAt", "(II)V"⟩, 20), (⟨"DrawingHouse$Embedder", "leastEdgeAt", "(II)I"⟩, 20), (⟨"DrawingHouse$Embedder", "loadKept", "(LDrawingHouse$Graph;)V"⟩, 20), (⟨"DrawingHouse$Layers", "listOrders", "(II)I"⟩, 21), (⟨"DrawingHouse$Layers", "findLayers", "(LDrawingHouse$Facts;)V"⟩, 21), (⟨"DrawingHouse$Layers", "upperEnd", "(LDrawingHouse$Facts;I)I"⟩, 21), (⟨"DrawingHouse$Layers", "lowerEnd", "(LDrawingHouse$Facts;I)I"⟩, 21), (⟨"DrawingHouse$Stretch", "addArc", "(IIII)V"⟩, 9), (⟨"DrawingHouse$Stretch", "findRing", "()I"⟩, 9), (⟨"DrawingHouse$Stretch", "raise", "()Z"⟩, 9), (⟨"DrawingHouse$Stretch", "ringInBy", "()I"⟩, 9)]
theorem lw_r4 : ∀ q ∈ lw_privs_4, lw_okq q := List.forall_mem_cons.mpr ⟨lw_p48, List.forall_mem_cons.mpr ⟨lw_p49, List.forall_mem_cons.mpr ⟨lw_p50, List.forall_mem_cons.mpr ⟨lw_p51, List.forall_mem_cons.mpr ⟨lw_p52, List.forall_mem_cons.mpr ⟨lw_p53, List.forall_mem_cons.mpr ⟨lw_p54, List.forall_mem_cons.mpr ⟨lw_p55, List.forall_mem_cons.mpr ⟨lw_p56, List.forall_mem_cons.mpr ⟨lw_p57, List.forall_mem_cons.mpr ⟨lw_p58, List.forall_mem_cons.mpr ⟨lw_p59, List.forall_mem_cons.mpr ⟨lw_p60, List.forall_mem_cons.mpr ⟨lw_p61, List.forall_mem_cons.mpr ⟨lw_p62, List.forall_mem_cons.mpr ⟨lw_p63, fun _ h => absurd h List.not_mem_nil⟩⟩⟩⟩⟩⟩⟩⟩⟩⟩⟩⟩⟩⟩⟩⟩
theorem lw_p64 : lw_okq (⟨"DrawingHouse$Stretch", "sendRound", "(I)V"⟩, 9) := ⟨⟨by decide +kernel, by decide +kernel⟩, List.mem_of_getElem? (i := 1194) (by decide +kernel), List.mem_of_getElem? (i := 1359) (by decide +kernel), List.mem_of_getElem? (i := 1360) (by decide +kernel)⟩
theorem lw_p65 : lw_okq (⟨"DrawingHouse$Layers", "makeItems", "(LDrawingHouse$Facts;)Z"⟩, 21) := ⟨⟨by decide +kernel, by decide +kernel⟩, List.mem_of_getElem? (i := 1188) (by decide +kernel), List.mem_of_getElem? (i := 1365) (by decide +kernel), List.mem_of_getElem? (i := 1366) (by decide +kernel)⟩
theorem lw_p66 : lw_okq (⟨"DrawingHouse$Layers", "makePieces", "(LDrawingHouse$Facts;)V"⟩, 21) := ⟨⟨by decide +kernel, by decide +kernel⟩, List.mem_of_getElem? (i := 1188) (by decide +kernel), List.mem_of_getElem? (i := 1369) (by decide +kernel), List.mem_of_getElem? (i := 1370) (by decide +kernel)⟩
theorem lw_p67 : lw_okq (⟨"DrawingHouse$Layers", "listLayers", "()I"⟩, 21) := ⟨⟨by decide +kernel, by decide +kernel⟩, List.mem_of_getElem? (i := 1188) (by decide +kernel), List.mem_of_getElem? (i := 1373) (by decide +kernel), List.mem_of_getElem? (i := 1374) (by decide +kernel)⟩
theorem lw_p68 : lw_okq (⟨"DrawingHouse$Layers", "bestOrders", "()V"⟩, 21) := ⟨⟨by decide +kernel, by decide +kernel⟩, List.mem_of_getElem? (i := 1188) (by decide +kernel), List.mem_of_getElem? (i := 1377) (by decide +kernel), List.mem_of_getElem? (i := 1378) (by decide +kernel)⟩
theorem lw_p69 : lw_okq (⟨"DrawingHouse$Layers", "sizeOf", "(I)I"⟩, 21) := ⟨⟨by decide +kernel, by decide +kernel⟩, List.mem_of_getElem? (i := 1188) (by decide +kernel), List.mem_of_getElem? (i := 1381) (by decide +kernel), List.mem_of_getElem? (i := 1382) (by decide +kernel)⟩
theorem lw_p70 : lw_okq (⟨"DrawingHouse$Layers", "fillLow", "(I)V"⟩, 21) := ⟨⟨by decide +kernel, by decide +kernel⟩, List.mem_of_getElem? (i := 1188) (by decide +kernel), List.mem_of_getElem? (i := 1385) (by decide +kernel), List.mem_of_getElem? (i := 1386) (by decide +kernel)⟩
theorem lw_p71 : lw_okq (⟨"DrawingHouse$Layers", "setOrder", "(II)V"⟩, 21) := ⟨⟨by decide +kernel, by decide +kernel⟩, List.mem_of_getElem? (i := 1188) (by decide +kernel), List.mem_of_getElem? (i := 1392) (by decide +kernel), List.mem_of_getElem? (i := 1393) (by decide +kernel)⟩
theorem lw_p72 : lw_okq (⟨"DrawingHouse$Layers", "fillPairs", "(I)V"⟩, 21) := ⟨⟨by decide +kernel, by decide +kernel⟩, List.mem_of_getElem? (i := 1188) (by decide +kernel), List.mem_of_getElem? (i := 1401) (by decide +kernel), List.mem_of_getElem? (i := 1402) (by decide +kernel)⟩
theorem lw_p73 : lw_okq (⟨"DrawingHouse$Layers", "settlePairs", "(I)I"⟩, 21) := ⟨⟨by decide +kernel, by decide +kernel⟩, List.mem_of_getElem? (i := 1188) (by decide +kernel), List.mem_of_getElem? (i := 1406) (by decide +kernel), List.mem_of_getElem? (i := 1407) (by decide +kernel)⟩
theorem lw_p74 : lw_okq (⟨"DrawingHouse$Layers", "seek", "(IIII)I"⟩, 21) := ⟨⟨by decide +kernel, by decide +kernel⟩, List.mem_of_getElem? (i := 1188) (by decide +kernel), List.mem_of_getElem? (i := 1410) (by decide +kernel), List.mem_of_getElem? (i := 1411) (by decide +kernel)⟩
theorem lw_p75 : lw_okq (⟨"DrawingHouse$Layers", "leastOf", "(I)I"⟩, 21) := ⟨⟨by decide +kernel, by decide +kernel⟩, List.mem_of_getElem? (i := 1188) (by decide +kernel), List.mem_of_getElem? (i := 1415) (by decide +kernel), List.mem_of_getElem? (i := 1416) (by decide +kernel)⟩
theorem lw_p76 : lw_okq (⟨"DrawingHouse$Layers", "firstBelow", "(II)I"⟩, 21) := ⟨⟨by decide +kernel, by decide +kernel⟩, List.mem_of_getElem? (i := 1188) (by decide +kernel), List.mem_of_getElem? (i := 1419) (by decide +kernel), List.mem_of_getElem? (i := 1420) (by decide +kernel)⟩
theorem lw_p77 : lw_okq (⟨"DrawingHouse$Layers", "pairCost", "(II)I"⟩, 21) := ⟨⟨by decide +kernel, by decide +kernel⟩, List.mem_of_getElem? (i := 1188) (by decide +kernel), List.mem_of_getElem? (i := 1423) (by decide +kernel), List.mem_of_getElem? (i := 1424) (by decide +kernel)⟩
theorem lw_p78 : lw_okq (⟨"DrawingHouse$Layers", "sweep", "()V"⟩, 21) := ⟨⟨by decide +kernel, by decide +kernel⟩, List.mem_of_getElem? (i := 1188) (by decide +kernel), List.mem_of_getElem? (i := 1427) (by decide +kernel), List.mem_of_getElem? (i := 1428) (by decide +kernel)⟩
theorem lw_p79 : lw_okq (⟨"DrawingHouse$Layers", "countCrossings", "()I"⟩, 21) := ⟨⟨by decide +kernel, by decide +kernel⟩, List.mem_of_getElem? (i := 1188) (by decide +kernel), List.mem_of_getElem? (i := 1431) (by decide +kernel), List.mem_of_getElem? (i := 1432) (by decide +kernel)⟩
def lw_privs_5 : List (MethodName × Nat) := [(⟨"DrawingHouse$Stretch", "sendRound", "(I)V"⟩, 9), (⟨"DrawingHouse$Layers", "makeItems", "(LDrawingHouse$Facts;)Z"⟩, 21), (⟨"DrawingHouse$Layers", "makePieces", "(LDrawingHouse$Facts;)V"⟩, 21), (⟨"DrawingHouse$Layers", "listLayers", "()I"⟩, 21), (⟨"DrawingHouse$Layers", "bestOrders", "()V"⟩, 21), (⟨"DrawingHouse$Layers", "sizeOf", "(I)I"⟩, 21), (⟨"DrawingHouse$Layers", "fillLow", "(I)V"⟩, 21), (⟨"DrawingHouse$Layers", "setOrder", "(II)V"⟩, 21), (⟨"DrawingHouse$Layers", "fillPairs", "(I)V"⟩, 21), (⟨"DrawingHouse$Layers", "settlePairs", "(I)I"⟩, 21), (⟨"DrawingHouse$Layers", "seek", "(IIII)I"⟩, 21), (⟨"DrawingHouse$Layers", "leastOf", "(I)I"⟩, 21), (⟨"DrawingHouse$Layers", "firstBelow", "(II)I"⟩, 21), (⟨"DrawingHouse$Layers", "pairCost", "(II)I"⟩, 21), (⟨"DrawingHouse$Layers", "sweep", "()V"⟩, 21), (⟨"DrawingHouse$Layers", "countCrossings", "()I"⟩, 21)]
theorem lw_r5 : ∀ q ∈ lw_privs_5, lw_okq q := List.forall_mem_cons.mpr ⟨lw_p64, List.forall_mem_cons.mpr ⟨lw_p65, List.forall_mem_cons.mpr ⟨lw_p66, List.forall_mem_cons.mpr ⟨lw_p67, List.forall_mem_cons.mpr ⟨lw_p68, List.forall_mem_cons.mpr ⟨lw_p69, List.forall_mem_cons.mpr ⟨lw_p70, List.forall_mem_cons.mpr ⟨lw_p71, List.forall_mem_cons.mpr ⟨lw_p72, List.forall_mem_cons.mpr ⟨lw_p73, List.forall_mem_cons.mpr ⟨lw_p74, List.forall_mem_cons.mpr ⟨lw_p75, List.forall_mem_cons.mpr ⟨lw_p76, List.forall_mem_cons.mpr ⟨lw_p77, List.forall_mem_cons.mpr ⟨lw_p78, List.forall_mem_cons.mpr ⟨lw_p79, fun _ h => absurd h List.not_mem_nil⟩⟩⟩⟩⟩⟩⟩⟩⟩⟩⟩⟩⟩⟩⟩⟩
theorem lw_p80 : lw_okq (⟨"DrawingHouse$Layers", "sortLayer", "(II)V"⟩, 21) := ⟨⟨by decide +kernel, by decide +kernel⟩, List.mem_of_getElem? (i := 1188) (by decide +kernel), List.mem_of_getElem? (i := 1435) (by decide +kernel), List.mem_of_getElem? (i := 1436) (by decide +kernel)⟩
theorem lw_p81 : lw_okq (⟨"DrawingHouse$Layers", "setPlaces", "(I)V"⟩, 21) := ⟨⟨by decide +kernel, by decide +kernel⟩, List.mem_of_getElem? (i := 1188) (by decide +kernel), List.mem_of_getElem? (i := 1439) (by decide +kernel), List.mem_of_getElem? (i := 1440) (by decide +kernel)⟩
theorem lw_p82 : lw_okq (⟨"DrawingHouse$Layers", "stretchRows", "()V"⟩, 21) := ⟨⟨by decide +kernel, by decide +kernel⟩, List.mem_of_getElem? (i := 1188) (by decide +kernel), List.mem_of_getElem? (i := 1443) (by decide +kernel), List.mem_of_getElem? (i := 1444) (by decide +kernel)⟩
theorem lw_p83 : lw_okq (⟨"DrawingHouse$Layers", "halfOf", "(I)I"⟩, 21) := ⟨⟨by decide +kernel, by decide +kernel⟩, List.mem_of_getElem? (i := 1188) (by decide +kernel), List.mem_of_getElem? (i := 1447) (by decide +kernel), List.mem_of_getElem? (i := 1448) (by decide +kernel)⟩
theorem lw_p84 : lw_okq (⟨"DrawingHouse$Layers", "write", "(LDrawingHouse$Facts;LDrawingHouse$Drawing;)V"⟩, 21) := ⟨⟨by decide +kernel, by decide +kernel⟩, List.mem_of_getElem? (i := 1188) (by decide +kernel), List.mem_of_getElem? (i := 1455) (by decide +kernel), List.mem_of_getElem? (i := 1456) (by decide +kernel)⟩
theorem lw_p85 : lw_okq (⟨"DrawingHouse$PlanarWays", "layGrid", "(LDrawingHouse$Facts;LDrawingHouse$Net;LDrawingHouse$Drawing;)V"⟩, 9) := ⟨⟨by decide +kernel, by decide +kernel⟩, List.mem_of_getElem? (i := 1467) (by decide +kernel), List.mem_of_getElem? (i := 1507) (by decide +kernel), List.mem_of_getElem? (i := 1508) (by decide +kernel)⟩
theorem lw_p86 : lw_okq (⟨"DrawingHouse$PlanarWays", "joinParts", "(LDrawingHouse$Facts;)V"⟩, 9) := ⟨⟨by decide +kernel, by decide +kernel⟩, List.mem_of_getElem? (i := 1467) (by decide +kernel), List.mem_of_getElem? (i := 1516) (by decide +kernel), List.mem_of_getElem? (i := 1517) (by decide +kernel)⟩
theorem lw_p87 : lw_okq (⟨"DrawingHouse$PlanarWays", "fillFaces", "()V"⟩, 9) := ⟨⟨by decide +kernel, by decide +kernel⟩, List.mem_of_getElem? (i := 1467) (by decide +kernel), List.mem_of_getElem? (i := 1534) (by decide +kernel), List.mem_of_getElem? (i := 1535) (by decide +kernel)⟩
theorem lw_p88 : lw_okq (⟨"DrawingHouse$PlanarWays", "firstLongFace", "()I"⟩, 9) := ⟨⟨by decide +kernel, by decide +kernel⟩, List.mem_of_getElem? (i := 1467) (by decide +kernel), List.mem_of_getElem? (i := 1538) (by decide +kernel), List.mem_of_getElem? (i := 1539) (by decide +kernel)⟩
theorem lw_p89 : lw_okq (⟨"DrawingHouse$PlanarWays", "cutFace", "(I)Z"⟩, 9) := ⟨⟨by decide +kernel, by decide +kernel⟩, List.mem_of_getElem? (i := 1467) (by decide +kernel), List.mem_of_getElem? (i := 1542) (by decide +kernel), List.mem_of_getElem? (i := 1543) (by decide +kernel)⟩
theorem lw_p90 : lw_okq (⟨"DrawingHouse$PlanarWays", "findOrder", "()V"⟩, 9) := ⟨⟨by decide +kernel, by decide +kernel⟩, List.mem_of_getElem? (i := 1467) (by decide +kernel), List.mem_of_getElem? (i := 1549) (by decide +kernel), List.mem_of_getElem? (i := 1550) (by decide +kernel)⟩
theorem lw_p91 : lw_okq (⟨"DrawingHouse$PlanarWays", "pickFromLine", "()I"⟩, 9) := ⟨⟨by decide +kernel, by decide +kernel⟩, List.mem_of_getElem? (i := 1467) (by decide +kernel), List.mem_of_getElem? (i := 1553) (by decide +kernel), List.mem_of_getElem? (i := 1554) (by decide +kernel)⟩
theorem lw_p92 : lw_okq (⟨"DrawingHouse$PlanarWays", "openLine", "(II)V"⟩, 9) := ⟨⟨by decide +kernel, by decide +kernel⟩, List.mem_of_getElem? (i := 1467) (by decide +kernel), List.mem_of_getElem? (i := 1558) (by decide +kernel), List.mem_of_getElem? (i := 1559) (by decide +kernel)⟩
theorem lw_p93 : lw_okq (⟨"DrawingHouse$PlanarWays", "replaceInLine", "(III)V"⟩, 9) := ⟨⟨by decide +kernel, by decide +kernel⟩, List.mem_of_getElem? (i := 1467) (by decide +kernel), List.mem_of_getElem? (i := 1563) (by decide +kernel), List.mem_of_getElem? (i := 1564) (by decide +kernel)⟩
theorem lw_p94 : lw_okq (⟨"DrawingHouse$PlanarWays", "placeByOrder", "(LDrawingHouse$Drawing;)V"⟩, 9) := ⟨⟨by decide +kernel, by decide +kernel⟩, List.mem_of_getElem? (i := 1467) (by decide +kernel), List.mem_of_getElem? (i := 1568) (by decide +kernel), List.mem_of_getElem? (i := 1569) (by decide +kernel)⟩
theorem lw_p95 : lw_okq (⟨"DrawingHouse$PlanarWays", "placeNext", "(LDrawingHouse$Drawing;I)V"⟩, 9) := ⟨⟨by decide +kernel, by decide +kernel⟩, List.mem_of_getElem? (i := 1467) (by decide +kernel), List.mem_of_getElem? (i := 1572) (by decide +kernel), List.mem_of_getElem? (i := 1573) (by decide +kernel)⟩
def lw_privs_6 : List (MethodName × Nat) := [(⟨"DrawingHouse$Layers", "sortLayer", "(II)V"⟩, 21), (⟨"DrawingHouse$Layers", "setPlaces", "(I)V"⟩, 21), (⟨"DrawingHouse$Layers", "stretchRows", "()V"⟩, 21), (⟨"DrawingHouse$Layers", "halfOf", "(I)I"⟩, 21), (⟨"DrawingHouse$Layers", "write", "(LDrawingHouse$Facts;LDrawingHouse$Drawing;)V"⟩, 21), (⟨"DrawingHouse$PlanarWays", "layGrid", "(LDrawingHouse$Facts;LDrawingHouse$Net;LDrawingHouse$Drawing;)V"⟩, 9), (⟨"DrawingHouse$PlanarWays", "joinParts", "(LDrawingHouse$Facts;)V"⟩, 9), (⟨"DrawingHouse$PlanarWays", "fillFaces", "()V"⟩, 9), (⟨"DrawingHouse$PlanarWays", "firstLongFace", "()I"⟩, 9), (⟨"DrawingHouse$PlanarWays", "cutFace", "(I)Z"⟩, 9), (⟨"DrawingHouse$PlanarWays", "findOrder", "()V"⟩, 9), (⟨"DrawingHouse$PlanarWays", "pickFromLine", "()I"⟩, 9), (⟨"DrawingHouse$PlanarWays", "openLine", "(II)V"⟩, 9), (⟨"DrawingHouse$PlanarWays", "replaceInLine", "(III)V"⟩, 9), (⟨"DrawingHouse$PlanarWays", "placeByOrder", "(LDrawingHouse$Drawing;)V"⟩, 9), (⟨"DrawingHouse$PlanarWays", "placeNext", "(LDrawingHouse$Drawing;I)V"⟩, 9)]
theorem lw_r6 : ∀ q ∈ lw_privs_6, lw_okq q := List.forall_mem_cons.mpr ⟨lw_p80, List.forall_mem_cons.mpr ⟨lw_p81, List.forall_mem_cons.mpr ⟨lw_p82, List.forall_mem_cons.mpr ⟨lw_p83, List.forall_mem_cons.mpr ⟨lw_p84, List.forall_mem_cons.mpr ⟨lw_p85, List.forall_mem_cons.mpr ⟨lw_p86, List.forall_mem_cons.mpr ⟨lw_p87, List.forall_mem_cons.mpr ⟨lw_p88, List.forall_mem_cons.mpr ⟨lw_p89, List.forall_mem_cons.mpr ⟨lw_p90, List.forall_mem_cons.mpr ⟨lw_p91, List.forall_mem_cons.mpr ⟨lw_p92, List.forall_mem_cons.mpr ⟨lw_p93, List.forall_mem_cons.mpr ⟨lw_p94, List.forall_mem_cons.mpr ⟨lw_p95, fun _ h => absurd h List.not_mem_nil⟩⟩⟩⟩⟩⟩⟩⟩⟩⟩⟩⟩⟩⟩⟩⟩
theorem lw_p96 : lw_okq (⟨"DrawingHouse$PlanarWays", "shiftUnder", "(LDrawingHouse$Drawing;II)V"⟩, 9) := ⟨⟨by decide +kernel, by decide +kernel⟩, List.mem_of_getElem? (i := 1467) (by decide +kernel), List.mem_of_getElem? (i := 1577) (by decide +kernel), List.mem_of_getElem? (i := 1578) (by decide +kernel)⟩
theorem lw_p97 : lw_okq (⟨"DrawingHouse$PlanarWays", "layBars", "(LDrawingHouse$Graph;LDrawingHouse$Net;LDrawingHouse$Drawing;)V"⟩, 9) := ⟨⟨by decide +kernel, by decide +kernel⟩, List.mem_of_getElem? (i := 1467) (by decide +kernel), List.mem_of_getElem? (i := 1582) (by decide +kernel), List.mem_of_getElem? (i := 1583) (by decide +kernel)⟩
theorem lw_p98 : lw_okq (⟨"DrawingHouse$PlanarWays", "orderFromTo", "(LDrawingHouse$Graph;)V"⟩, 9) := ⟨⟨by decide +kernel, by decide +kernel⟩, List.mem_of_getElem? (i := 1467) (by decide +kernel), List.mem_of_getElem? (i := 1586) (by decide +kernel), List.mem_of_getElem? (i := 1587) (by decide +kernel)⟩
theorem lw_p99 : lw_okq (⟨"DrawingHouse$PlanarWays", "insertWay", "(I)V"⟩, 9) := ⟨⟨by decide +kernel, by decide +kernel⟩, List.mem_of_getElem? (i := 1467) (by decide +kernel), List.mem_of_getElem? (i := 1591) (by decide +kernel), List.mem_of_getElem? (i := 1592) (by decide +kernel)⟩
theorem lw_p100 : lw_okq (⟨"DrawingHouse$PlanarWays", "raiseNodes", "(LDrawingHouse$Graph;LDrawingHouse$Drawing;)V"⟩, 9) := ⟨⟨by decide +kernel, by decide +kernel⟩, List.mem_of_getElem? (i := 1467) (by decide +kernel), List.mem_of_getElem? (i := 1595) (by decide +kernel), List.mem_of_getElem? (i := 1596) (by decide +kernel)⟩
theorem lw_p101 : lw_okq (⟨"DrawingHouse$PlanarWays", "moveFaces", "(LDrawingHouse$Graph;LDrawingHouse$Net;[I)V"⟩, 9) := ⟨⟨by decide +kernel, by decide +kernel⟩, List.mem_of_getElem? (i := 1467) (by decide +kernel), List.mem_of_getElem? (i := 1599) (by decide +kernel), List.mem_of_getElem? (i := 1600) (by decide +kernel)⟩
theorem lw_p102 : lw_okq (⟨"DrawingHouse$PlanarWays", "middleOfEdges", "(LDrawingHouse$Graph;I)I"⟩, 9) := ⟨⟨by decide +kernel, by decide +kernel⟩, List.mem_of_getElem? (i := 1467) (by decide +kernel), List.mem_of_getElem? (i := 1610) (by decide +kernel), List.mem_of_getElem? (i := 1611) (by decide +kernel)⟩
theorem lw_p103 : lw_okq (⟨"DrawingHouse$PlainWays", "layTree", "(LDrawingHouse$Facts;I)V"⟩, 19) := ⟨⟨by decide +kernel, by decide +kernel⟩, List.mem_of_getElem? (i := 1621) (by decide +kernel), List.mem_of_getElem? (i := 1690) (by decide +kernel), List.mem_of_getElem? (i := 1691) (by decide +kernel)⟩
theorem lw_p104 : lw_okq (⟨"DrawingHouse$PlainWays", "leastOfPart", "(LDrawingHouse$Facts;I)I"⟩, 19) := ⟨⟨by decide +kernel, by decide +kernel⟩, List.mem_of_getElem? (i := 1621) (by decide +kernel), List.mem_of_getElem? (i := 1694) (by decide +kernel), List.mem_of_getElem? (i := 1695) (by decide +kernel)⟩
theorem lw_p105 : lw_okq (⟨"DrawingHouse$PlainWays", "walkTree", "(II)I"⟩, 19) := ⟨⟨by decide +kernel, by decide +kernel⟩, List.mem_of_getElem? (i := 1621) (by decide +kernel), List.mem_of_getElem? (i := 1698) (by decide +kernel), List.mem_of_getElem? (i := 1699) (by decide +kernel)⟩
theorem lw_p106 : lw_okq (⟨"DrawingHouse$PlainWays", "placeOver", "(I)V"⟩, 19) := ⟨⟨by decide +kernel, by decide +kernel⟩, List.mem_of_getElem? (i := 1621) (by decide +kernel), List.mem_of_getElem? (i := 1702) (by decide +kernel), List.mem_of_getElem? (i := 1703) (by decide +kernel)⟩
theorem lw_p107 : lw_okq (⟨"DrawingHouse$PlainWays", "placeSideBySide", "(I)I"⟩, 19) := ⟨⟨by decide +kernel, by decide +kernel⟩, List.mem_of_getElem? (i := 1621) (by decide +kernel), List.mem_of_getElem? (i := 1706) (by decide +kernel), List.mem_of_getElem? (i := 1707) (by decide +kernel)⟩
theorem lw_p108 : lw_okq (⟨"DrawingHouse$PlainWays", "edgeOfLevel", "(IIZ)I"⟩, 19) := ⟨⟨by decide +kernel, by decide +kernel⟩, List.mem_of_getElem? (i := 1621) (by decide +kernel), List.mem_of_getElem? (i := 1711) (by decide +kernel), List.mem_of_getElem? (i := 1712) (by decide +kernel)⟩
theorem lw_p109 : lw_okq (⟨"DrawingHouse$PlainWays", "layAreas", "(I)V"⟩, 19) := ⟨⟨by decide +kernel, by decide +kernel⟩, List.mem_of_getElem? (i := 1621) (by decide +kernel), List.mem_of_getElem? (i := 1719) (by decide +kernel), List.mem_of_getElem? (i := 1720) (by decide +kernel)⟩
theorem lw_p110 : lw_okq (⟨"DrawingHouse$PlainWays", "setArea", "(IIIII)V"⟩, 19) := ⟨⟨by decide +kernel, by decide +kernel⟩, List.mem_of_getElem? (i := 1621) (by decide +kernel), List.mem_of_getElem? (i := 1724) (by decide +kernel), List.mem_of_getElem? (i := 1725) (by decide +kernel)⟩
theorem lw_p111 : lw_okq (⟨"DrawingHouse$PlainWays", "gatherItems", "(I)V"⟩, 19) := ⟨⟨by decide +kernel, by decide +kernel⟩, List.mem_of_getElem? (i := 1621) (by decide +kernel), List.mem_of_getElem? (i := 1729) (by decide +kernel), List.mem_of_getElem? (i := 1730) (by decide +kernel)⟩
def lw_privs_7 : List (MethodName × Nat) := [(⟨"DrawingHouse$PlanarWays", "shiftUnder", "(LDrawingHouse$Drawing;II)V"⟩, 9), (⟨"DrawingHouse$PlanarWays", "layBars", "(LDrawingHouse$Graph;LDrawingHouse$Net;LDrawingHouse$Drawing;)V"⟩, 9), (⟨"DrawingHouse$PlanarWays", "orderFromTo", "(LDrawingHouse$Graph;)V"⟩, 9), (⟨"DrawingHouse$PlanarWays", "insertWay", "(I)V"⟩, 9), (⟨"DrawingHouse$PlanarWays", "raiseNodes", "(LDrawingHouse$Graph;LDrawingHouse$Drawing;)V"⟩, 9), (⟨"DrawingHouse$PlanarWays", "moveFaces", "(LDrawingHouse$Graph;LDrawingHouse$Net;[I)V"⟩, 9), (⟨"DrawingHouse$PlanarWays", "middleOfEdges", "(LDrawingHouse$Graph;I)I"⟩, 9), (⟨"DrawingHouse$PlainWays", "layTree", "(LDrawingHouse$Facts;I)V"⟩, 19), (⟨"DrawingHouse$PlainWays", "leastOfPart", "(LDrawingHouse$Facts;I)I"⟩, 19), (⟨"DrawingHouse$PlainWays", "walkTree", "(II)I"⟩, 19), (⟨"DrawingHouse$PlainWays", "placeOver", "(I)V"⟩, 19), (⟨"DrawingHouse$PlainWays", "placeSideBySide", "(I)I"⟩, 19), (⟨"DrawingHouse$PlainWays", "edgeOfLevel", "(IIZ)I"⟩, 19), (⟨"DrawingHouse$PlainWays", "layAreas", "(I)V"⟩, 19), (⟨"DrawingHouse$PlainWays", "setArea", "(IIIII)V"⟩, 19), (⟨"DrawingHouse$PlainWays", "gatherItems", "(I)V"⟩, 19)]
theorem lw_r7 : ∀ q ∈ lw_privs_7, lw_okq q := List.forall_mem_cons.mpr ⟨lw_p96, List.forall_mem_cons.mpr ⟨lw_p97, List.forall_mem_cons.mpr ⟨lw_p98, List.forall_mem_cons.mpr ⟨lw_p99, List.forall_mem_cons.mpr ⟨lw_p100, List.forall_mem_cons.mpr ⟨lw_p101, List.forall_mem_cons.mpr ⟨lw_p102, List.forall_mem_cons.mpr ⟨lw_p103, List.forall_mem_cons.mpr ⟨lw_p104, List.forall_mem_cons.mpr ⟨lw_p105, List.forall_mem_cons.mpr ⟨lw_p106, List.forall_mem_cons.mpr ⟨lw_p107, List.forall_mem_cons.mpr ⟨lw_p108, List.forall_mem_cons.mpr ⟨lw_p109, List.forall_mem_cons.mpr ⟨lw_p110, List.forall_mem_cons.mpr ⟨lw_p111, fun _ h => absurd h List.not_mem_nil⟩⟩⟩⟩⟩⟩⟩⟩⟩⟩⟩⟩⟩⟩⟩⟩
theorem lw_p112 : lw_okq (⟨"DrawingHouse$PlainWays", "insertItem", "(II)V"⟩, 19) := ⟨⟨by decide +kernel, by decide +kernel⟩, List.mem_of_getElem? (i := 1621) (by decide +kernel), List.mem_of_getElem? (i := 1733) (by decide +kernel), List.mem_of_getElem? (i := 1734) (by decide +kernel)⟩
theorem lw_p113 : lw_okq (⟨"DrawingHouse$PlainWays", "layRows", "()V"⟩, 19) := ⟨⟨by decide +kernel, by decide +kernel⟩, List.mem_of_getElem? (i := 1621) (by decide +kernel), List.mem_of_getElem? (i := 1738) (by decide +kernel), List.mem_of_getElem? (i := 1739) (by decide +kernel)⟩
theorem lw_p114 : lw_okq (⟨"DrawingHouse$PlainWays", "endOfRow", "(II)I"⟩, 19) := ⟨⟨by decide +kernel, by decide +kernel⟩, List.mem_of_getElem? (i := 1621) (by decide +kernel), List.mem_of_getElem? (i := 1742) (by decide +kernel), List.mem_of_getElem? (i := 1743) (by decide +kernel)⟩
theorem lw_p115 : lw_okq (⟨"DrawingHouse$PlainWays", "findWorst", "(IIII)V"⟩, 19) := ⟨⟨by decide +kernel, by decide +kernel⟩, List.mem_of_getElem? (i := 1621) (by decide +kernel), List.mem_of_getElem? (i := 1746) (by decide +kernel), List.mem_of_getElem? (i := 1747) (by decide +kernel)⟩
theorem lw_p116 : lw_okq (⟨"DrawingHouse$PlainWays", "layRow", "(IIII)V"⟩, 19) := ⟨⟨by decide +kernel, by decide +kernel⟩, List.mem_of_getElem? (i := 1621) (by decide +kernel), List.mem_of_getElem? (i := 1756) (by decide +kernel), List.mem_of_getElem? (i := 1757) (by decide +kernel)⟩
theorem lw_p117 : lw_okq (⟨"DrawingHouse$PlainWays", "layRing", "()V"⟩, 19) := ⟨⟨by decide +kernel, by decide +kernel⟩, List.mem_of_getElem? (i := 1621) (by decide +kernel), List.mem_of_getElem? (i := 1760) (by decide +kernel), List.mem_of_getElem? (i := 1761) (by decide +kernel)⟩
theorem lw_p118 : lw_okq (⟨"DrawingHouse$PlainWays", "tryRing", "(III)V"⟩, 19) := ⟨⟨by decide +kernel, by decide +kernel⟩, List.mem_of_getElem? (i := 1621) (by decide +kernel), List.mem_of_getElem? (i := 1765) (by decide +kernel), List.mem_of_getElem? (i := 1766) (by decide +kernel)⟩
theorem lw_p119 : lw_okq (⟨"DrawingHouse$PlainWays", "crossingsAt", "(II)I"⟩, 19) := ⟨⟨by decide +kernel, by decide +kernel⟩, List.mem_of_getElem? (i := 1621) (by decide +kernel), List.mem_of_getElem? (i := 1769) (by decide +kernel), List.mem_of_getElem? (i := 1770) (by decide +kernel)⟩
theorem lw_p120 : lw_okq (⟨"DrawingHouse$PlainWays", "moveOnRing", "(I)V"⟩, 19) := ⟨⟨by decide +kernel, by decide +kernel⟩, List.mem_of_getElem? (i := 1621) (by decide +kernel), List.mem_of_getElem? (i := 1774) (by decide +kernel), List.mem_of_getElem? (i := 1775) (by decide +kernel)⟩
theorem lw_p121 : lw_okq (⟨"DrawingHouse$PlainWays", "ringCrossings", "()I"⟩, 19) := ⟨⟨by decide +kernel, by decide +kernel⟩, List.mem_of_getElem? (i := 1621) (by decide +kernel), List.mem_of_getElem? (i := 1778) (by decide +kernel), List.mem_of_getElem? (i := 1779) (by decide +kernel)⟩
theorem lw_p122 : lw_okq (⟨"DrawingHouse$PlainWays", "layForces", "(I)V"⟩, 19) := ⟨⟨by decide +kernel, by decide +kernel⟩, List.mem_of_getElem? (i := 1621) (by decide +kernel), List.mem_of_getElem? (i := 1782) (by decide +kernel), List.mem_of_getElem? (i := 1783) (by decide +kernel)⟩
theorem lw_p123 : lw_okq (⟨"DrawingHouse$PlainWays", "sumPulls", "()V"⟩, 19) := ⟨⟨by decide +kernel, by decide +kernel⟩, List.mem_of_getElem? (i := 1621) (by decide +kernel), List.mem_of_getElem? (i := 1786) (by decide +kernel), List.mem_of_getElem? (i := 1787) (by decide +kernel)⟩
theorem lw_p124 : lw_okq (⟨"DrawingHouse$PlainWays", "layMatrix", "()V"⟩, 19) := ⟨⟨by decide +kernel, by decide +kernel⟩, List.mem_of_getElem? (i := 1621) (by decide +kernel), List.mem_of_getElem? (i := 1803) (by decide +kernel), List.mem_of_getElem? (i := 1804) (by decide +kernel)⟩
theorem lw_p125 : lw_okq (⟨"DrawingHouse$PlainWays", "fewestNeighbours", "(I)I"⟩, 19) := ⟨⟨by decide +kernel, by decide +kernel⟩, List.mem_of_getElem? (i := 1621) (by decide +kernel), List.mem_of_getElem? (i := 1807) (by decide +kernel), List.mem_of_getElem? (i := 1808) (by decide +kernel)⟩
theorem lw_p126 : lw_okq (⟨"DrawingHouse$Drawing", "reportLayers", "(II)I"⟩, 21) := ⟨⟨by decide +kernel, by decide +kernel⟩, List.mem_of_getElem? (i := 460) (by decide +kernel), List.mem_of_getElem? (i := 1835) (by decide +kernel), List.mem_of_getElem? (i := 1836) (by decide +kernel)⟩
theorem lw_p127 : lw_okq (⟨"DrawingHouse$Drawing", "reportArea", "(II)I"⟩, 21) := ⟨⟨by decide +kernel, by decide +kernel⟩, List.mem_of_getElem? (i := 460) (by decide +kernel), List.mem_of_getElem? (i := 1839) (by decide +kernel), List.mem_of_getElem? (i := 1840) (by decide +kernel)⟩
def lw_privs_8 : List (MethodName × Nat) := [(⟨"DrawingHouse$PlainWays", "insertItem", "(II)V"⟩, 19), (⟨"DrawingHouse$PlainWays", "layRows", "()V"⟩, 19), (⟨"DrawingHouse$PlainWays", "endOfRow", "(II)I"⟩, 19), (⟨"DrawingHouse$PlainWays", "findWorst", "(IIII)V"⟩, 19), (⟨"DrawingHouse$PlainWays", "layRow", "(IIII)V"⟩, 19), (⟨"DrawingHouse$PlainWays", "layRing", "()V"⟩, 19), (⟨"DrawingHouse$PlainWays", "tryRing", "(III)V"⟩, 19), (⟨"DrawingHouse$PlainWays", "crossingsAt", "(II)I"⟩, 19), (⟨"DrawingHouse$PlainWays", "moveOnRing", "(I)V"⟩, 19), (⟨"DrawingHouse$PlainWays", "ringCrossings", "()I"⟩, 19), (⟨"DrawingHouse$PlainWays", "layForces", "(I)V"⟩, 19), (⟨"DrawingHouse$PlainWays", "sumPulls", "()V"⟩, 19), (⟨"DrawingHouse$PlainWays", "layMatrix", "()V"⟩, 19), (⟨"DrawingHouse$PlainWays", "fewestNeighbours", "(I)I"⟩, 19), (⟨"DrawingHouse$Drawing", "reportLayers", "(II)I"⟩, 21), (⟨"DrawingHouse$Drawing", "reportArea", "(II)I"⟩, 21)]
theorem lw_r8 : ∀ q ∈ lw_privs_8, lw_okq q := List.forall_mem_cons.mpr ⟨lw_p112, List.forall_mem_cons.mpr ⟨lw_p113, List.forall_mem_cons.mpr ⟨lw_p114, List.forall_mem_cons.mpr ⟨lw_p115, List.forall_mem_cons.mpr ⟨lw_p116, List.forall_mem_cons.mpr ⟨lw_p117, List.forall_mem_cons.mpr ⟨lw_p118, List.forall_mem_cons.mpr ⟨lw_p119, List.forall_mem_cons.mpr ⟨lw_p120, List.forall_mem_cons.mpr ⟨lw_p121, List.forall_mem_cons.mpr ⟨lw_p122, List.forall_mem_cons.mpr ⟨lw_p123, List.forall_mem_cons.mpr ⟨lw_p124, List.forall_mem_cons.mpr ⟨lw_p125, List.forall_mem_cons.mpr ⟨lw_p126, List.forall_mem_cons.mpr ⟨lw_p127, fun _ h => absurd h List.not_mem_nil⟩⟩⟩⟩⟩⟩⟩⟩⟩⟩⟩⟩⟩⟩⟩⟩
theorem lw_p128 : lw_okq (⟨"DrawingHouse", "hasDrawing", "(I)Z"⟩, 21) := ⟨⟨by decide +kernel, by decide +kernel⟩, List.mem_of_getElem? (i := 26) (by decide +kernel), List.mem_of_getElem? (i := 1858) (by decide +kernel), List.mem_of_getElem? (i := 1859) (by decide +kernel)⟩
theorem lw_p129 : lw_okq (⟨"DrawingHouse$Router", "frame", "()Z"⟩, 18) := ⟨⟨by decide +kernel, by decide +kernel⟩, List.mem_of_getElem? (i := 1862) (by decide +kernel), List.mem_of_getElem? (i := 1928) (by decide +kernel), List.mem_of_getElem? (i := 1929) (by decide +kernel)⟩
theorem lw_p130 : lw_okq (⟨"DrawingHouse$Router", "bar", "(II)V"⟩, 18) := ⟨⟨by decide +kernel, by decide +kernel⟩, List.mem_of_getElem? (i := 1862) (by decide +kernel), List.mem_of_getElem? (i := 1938) (by decide +kernel), List.mem_of_getElem? (i := 1939) (by decide +kernel)⟩
theorem lw_p131 : lw_okq (⟨"DrawingHouse$Router", "pointOf", "(I)I"⟩, 18) := ⟨⟨by decide +kernel, by decide +kernel⟩, List.mem_of_getElem? (i := 1862) (by decide +kernel), List.mem_of_getElem? (i := 1942) (by decide +kernel), List.mem_of_getElem? (i := 1943) (by decide +kernel)⟩
theorem lw_p132 : lw_okq (⟨"DrawingHouse$Router", "findCosts", "()V"⟩, 18) := ⟨⟨by decide +kernel, by decide +kernel⟩, List.mem_of_getElem? (i := 1862) (by decide +kernel), List.mem_of_getElem? (i := 1946) (by decide +kernel), List.mem_of_getElem? (i := 1947) (by decide +kernel)⟩
theorem lw_p133 : lw_okq (⟨"DrawingHouse$Router", "enter", "(II)V"⟩, 18) := ⟨⟨by decide +kernel, by decide +kernel⟩, List.mem_of_getElem? (i := 1862) (by decide +kernel), List.mem_of_getElem? (i := 1951) (by decide +kernel), List.mem_of_getElem? (i := 1952) (by decide +kernel)⟩
theorem lw_p134 : lw_okq (⟨"DrawingHouse$Router", "goBack", "(II)V"⟩, 18) := ⟨⟨by decide +kernel, by decide +kernel⟩, List.mem_of_getElem? (i := 1862) (by decide +kernel), List.mem_of_getElem? (i := 1956) (by decide +kernel), List.mem_of_getElem? (i := 1957) (by decide +kernel)⟩
theorem lw_p135 : lw_okq (⟨"DrawingHouse$Router", "next", "(II)I"⟩, 18) := ⟨⟨by decide +kernel, by decide +kernel⟩, List.mem_of_getElem? (i := 1862) (by decide +kernel), List.mem_of_getElem? (i := 1960) (by decide +kernel), List.mem_of_getElem? (i := 1961) (by decide +kernel)⟩
theorem lw_p136 : lw_okq (⟨"DrawingHouse$Router", "readWay", "()V"⟩, 18) := ⟨⟨by decide +kernel, by decide +kernel⟩, List.mem_of_getElem? (i := 1862) (by decide +kernel), List.mem_of_getElem? (i := 1964) (by decide +kernel), List.mem_of_getElem? (i := 1965) (by decide +kernel)⟩
theorem lw_p137 : lw_okq (⟨"DrawingHouse$Router", "nextStep", "(III)I"⟩, 18) := ⟨⟨by decide +kernel, by decide +kernel⟩, List.mem_of_getElem? (i := 1862) (by decide +kernel), List.mem_of_getElem? (i := 1968) (by decide +kernel), List.mem_of_getElem? (i := 1969) (by decide +kernel)⟩
theorem lw_p138 : lw_okq (⟨"DrawingHouse$Drawing", "putLabel", "(I)V"⟩, 21) := ⟨⟨by decide +kernel, by decide +kernel⟩, List.mem_of_getElem? (i := 460) (by decide +kernel), List.mem_of_getElem? (i := 1981) (by decide +kernel), List.mem_of_getElem? (i := 1982) (by decide +kernel)⟩
theorem lw_p139 : lw_okq (⟨"DrawingHouse$Drawing", "isFree", "(III)Z"⟩, 21) := ⟨⟨by decide +kernel, by decide +kernel⟩, List.mem_of_getElem? (i := 460) (by decide +kernel), List.mem_of_getElem? (i := 1994) (by decide +kernel), List.mem_of_getElem? (i := 1995) (by decide +kernel)⟩
theorem lw_p140 : lw_okq (⟨"DrawingHouse$Drawing", "countCrossings", "()J"⟩, 21) := ⟨⟨by decide +kernel, by decide +kernel⟩, List.mem_of_getElem? (i := 460) (by decide +kernel), List.mem_of_getElem? (i := 2012) (by decide +kernel), List.mem_of_getElem? (i := 2013) (by decide +kernel)⟩
theorem lw_p141 : lw_okq (⟨"DrawingHouse$Drawing", "sharedNode", "(II)I"⟩, 21) := ⟨⟨by decide +kernel, by decide +kernel⟩, List.mem_of_getElem? (i := 460) (by decide +kernel), List.mem_of_getElem? (i := 2016) (by decide +kernel), List.mem_of_getElem? (i := 2017) (by decide +kernel)⟩
theorem lw_p142 : lw_okq (⟨"DrawingHouse$Drawing", "clash", "(IIIII)Z"⟩, 21) := ⟨⟨by decide +kernel, by decide +kernel⟩, List.mem_of_getElem? (i := 460) (by decide +kernel), List.mem_of_getElem? (i := 2020) (by decide +kernel), List.mem_of_getElem? (i := 2021) (by decide +kernel)⟩
theorem lw_p143 : lw_okq (⟨"DrawingHouse$Drawing", "sideOf", "(IIII)J"⟩, 21) := ⟨⟨by decide +kernel, by decide +kernel⟩, List.mem_of_getElem? (i := 460) (by decide +kernel), List.mem_of_getElem? (i := 2029) (by decide +kernel), List.mem_of_getElem? (i := 2030) (by decide +kernel)⟩
def lw_privs_9 : List (MethodName × Nat) := [(⟨"DrawingHouse", "hasDrawing", "(I)Z"⟩, 21), (⟨"DrawingHouse$Router", "frame", "()Z"⟩, 18), (⟨"DrawingHouse$Router", "bar", "(II)V"⟩, 18), (⟨"DrawingHouse$Router", "pointOf", "(I)I"⟩, 18), (⟨"DrawingHouse$Router", "findCosts", "()V"⟩, 18), (⟨"DrawingHouse$Router", "enter", "(II)V"⟩, 18), (⟨"DrawingHouse$Router", "goBack", "(II)V"⟩, 18), (⟨"DrawingHouse$Router", "next", "(II)I"⟩, 18), (⟨"DrawingHouse$Router", "readWay", "()V"⟩, 18), (⟨"DrawingHouse$Router", "nextStep", "(III)I"⟩, 18), (⟨"DrawingHouse$Drawing", "putLabel", "(I)V"⟩, 21), (⟨"DrawingHouse$Drawing", "isFree", "(III)Z"⟩, 21), (⟨"DrawingHouse$Drawing", "countCrossings", "()J"⟩, 21), (⟨"DrawingHouse$Drawing", "sharedNode", "(II)I"⟩, 21), (⟨"DrawingHouse$Drawing", "clash", "(IIIII)Z"⟩, 21), (⟨"DrawingHouse$Drawing", "sideOf", "(IIII)J"⟩, 21)]
theorem lw_r9 : ∀ q ∈ lw_privs_9, lw_okq q := List.forall_mem_cons.mpr ⟨lw_p128, List.forall_mem_cons.mpr ⟨lw_p129, List.forall_mem_cons.mpr ⟨lw_p130, List.forall_mem_cons.mpr ⟨lw_p131, List.forall_mem_cons.mpr ⟨lw_p132, List.forall_mem_cons.mpr ⟨lw_p133, List.forall_mem_cons.mpr ⟨lw_p134, List.forall_mem_cons.mpr ⟨lw_p135, List.forall_mem_cons.mpr ⟨lw_p136, List.forall_mem_cons.mpr ⟨lw_p137, List.forall_mem_cons.mpr ⟨lw_p138, List.forall_mem_cons.mpr ⟨lw_p139, List.forall_mem_cons.mpr ⟨lw_p140, List.forall_mem_cons.mpr ⟨lw_p141, List.forall_mem_cons.mpr ⟨lw_p142, List.forall_mem_cons.mpr ⟨lw_p143, fun _ h => absurd h List.not_mem_nil⟩⟩⟩⟩⟩⟩⟩⟩⟩⟩⟩⟩⟩⟩⟩⟩
theorem lw_p144 : lw_okq (⟨"DrawingHouse$Drawing", "isOnPiece", "(IIII)Z"⟩, 21) := ⟨⟨by decide +kernel, by decide +kernel⟩, List.mem_of_getElem? (i := 460) (by decide +kernel), List.mem_of_getElem? (i := 2033) (by decide +kernel), List.mem_of_getElem? (i := 2034) (by decide +kernel)⟩
theorem lw_p145 : lw_okq (⟨"DrawingHouse$Drawing", "countNodePairs", "(Z)J"⟩, 21) := ⟨⟨by decide +kernel, by decide +kernel⟩, List.mem_of_getElem? (i := 460) (by decide +kernel), List.mem_of_getElem? (i := 2037) (by decide +kernel), List.mem_of_getElem? (i := 2038) (by decide +kernel)⟩
theorem lw_p146 : lw_okq (⟨"DrawingHouse$Drawing", "countStruckNodes", "()J"⟩, 21) := ⟨⟨by decide +kernel, by decide +kernel⟩, List.mem_of_getElem? (i := 460) (by decide +kernel), List.mem_of_getElem? (i := 2041) (by decide +kernel), List.mem_of_getElem? (i := 2042) (by decide +kernel)⟩
theorem lw_p147 : lw_okq (⟨"DrawingHouse$Drawing", "isStruck", "(II)Z"⟩, 21) := ⟨⟨by decide +kernel, by decide +kernel⟩, List.mem_of_getElem? (i := 460) (by decide +kernel), List.mem_of_getElem? (i := 2045) (by decide +kernel), List.mem_of_getElem? (i := 2046) (by decide +kernel)⟩
theorem lw_p148 : lw_okq (⟨"DrawingHouse$Drawing", "countUpward", "()J"⟩, 21) := ⟨⟨by decide +kernel, by decide +kernel⟩, List.mem_of_getElem? (i := 460) (by decide +kernel), List.mem_of_getElem? (i := 2049) (by decide +kernel), List.mem_of_getElem? (i := 2050) (by decide +kernel)⟩
theorem lw_p149 : lw_okq (⟨"DrawingHouse$Drawing", "countBends", "()J"⟩, 21) := ⟨⟨by decide +kernel, by decide +kernel⟩, List.mem_of_getElem? (i := 460) (by decide +kernel), List.mem_of_getElem? (i := 2053) (by decide +kernel), List.mem_of_getElem? (i := 2054) (by decide +kernel)⟩
theorem lw_p150 : lw_okq (⟨"DrawingHouse$Drawing", "countSlanted", "()J"⟩, 21) := ⟨⟨by decide +kernel, by decide +kernel⟩, List.mem_of_getElem? (i := 460) (by decide +kernel), List.mem_of_getElem? (i := 2057) (by decide +kernel), List.mem_of_getElem? (i := 2058) (by decide +kernel)⟩
theorem lw_p151 : lw_okq (⟨"DrawingHouse$Drawing", "wholeArea", "()J"⟩, 21) := ⟨⟨by decide +kernel, by decide +kernel⟩, List.mem_of_getElem? (i := 460) (by decide +kernel), List.mem_of_getElem? (i := 2061) (by decide +kernel), List.mem_of_getElem? (i := 2062) (by decide +kernel)⟩
theorem lw_p152 : lw_okq (⟨"DrawingHouse$Drawing", "take", "(II)V"⟩, 21) := ⟨⟨by decide +kernel, by decide +kernel⟩, List.mem_of_getElem? (i := 460) (by decide +kernel), List.mem_of_getElem? (i := 2069) (by decide +kernel), List.mem_of_getElem? (i := 2070) (by decide +kernel)⟩
theorem lw_p153 : lw_okq (⟨"DrawingHouse$Drawing", "wholeLength", "()J"⟩, 21) := ⟨⟨by decide +kernel, by decide +kernel⟩, List.mem_of_getElem? (i := 460) (by decide +kernel), List.mem_of_getElem? (i := 2073) (by decide +kernel), List.mem_of_getElem? (i := 2074) (by decide +kernel)⟩
theorem lw_p154 : lw_okq (⟨"DrawingHouse$Drawing", "leastTriangle", "()J"⟩, 21) := ⟨⟨by decide +kernel, by decide +kernel⟩, List.mem_of_getElem? (i := 460) (by decide +kernel), List.mem_of_getElem? (i := 2077) (by decide +kernel), List.mem_of_getElem? (i := 2078) (by decide +kernel)⟩
theorem lw_p155 : lw_okq (⟨"DrawingHouse$Styler", "advance", "()V"⟩, 17) := ⟨⟨by decide +kernel, by decide +kernel⟩, List.mem_of_getElem? (i := 2091) (by decide +kernel), List.mem_of_getElem? (i := 2157) (by decide +kernel), List.mem_of_getElem? (i := 2158) (by decide +kernel)⟩
theorem lw_p156 : lw_okq (⟨"DrawingHouse$Styler", "compileRule", "()Z"⟩, 17) := ⟨⟨by decide +kernel, by decide +kernel⟩, List.mem_of_getElem? (i := 2091) (by decide +kernel), List.mem_of_getElem? (i := 2223) (by decide +kernel), List.mem_of_getElem? (i := 2224) (by decide +kernel)⟩
theorem lw_p157 : lw_okq (⟨"DrawingHouse$Styler", "wordIn", "(Ljava/lang/String;)I"⟩, 17) := ⟨⟨by decide +kernel, by decide +kernel⟩, List.mem_of_getElem? (i := 2091) (by decide +kernel), List.mem_of_getElem? (i := 2228) (by decide +kernel), List.mem_of_getElem? (i := 2229) (by decide +kernel)⟩
theorem lw_p158 : lw_okq (⟨"DrawingHouse$Styler", "isWordAt", "(Ljava/lang/String;II)Z"⟩, 17) := ⟨⟨by decide +kernel, by decide +kernel⟩, List.mem_of_getElem? (i := 2091) (by decide +kernel), List.mem_of_getElem? (i := 2234) (by decide +kernel), List.mem_of_getElem? (i := 2235) (by decide +kernel)⟩
theorem lw_p159 : lw_okq (⟨"DrawingHouse$Styler", "fail", "(I)Z"⟩, 17) := ⟨⟨by decide +kernel, by decide +kernel⟩, List.mem_of_getElem? (i := 2091) (by decide +kernel), List.mem_of_getElem? (i := 2238) (by decide +kernel), List.mem_of_getElem? (i := 2239) (by decide +kernel)⟩
def lw_privs_10 : List (MethodName × Nat) := [(⟨"DrawingHouse$Drawing", "isOnPiece", "(IIII)Z"⟩, 21), (⟨"DrawingHouse$Drawing", "countNodePairs", "(Z)J"⟩, 21), (⟨"DrawingHouse$Drawing", "countStruckNodes", "()J"⟩, 21), (⟨"DrawingHouse$Drawing", "isStruck", "(II)Z"⟩, 21), (⟨"DrawingHouse$Drawing", "countUpward", "()J"⟩, 21), (⟨"DrawingHouse$Drawing", "countBends", "()J"⟩, 21), (⟨"DrawingHouse$Drawing", "countSlanted", "()J"⟩, 21), (⟨"DrawingHouse$Drawing", "wholeArea", "()J"⟩, 21), (⟨"DrawingHouse$Drawing", "take", "(II)V"⟩, 21), (⟨"DrawingHouse$Drawing", "wholeLength", "()J"⟩, 21), (⟨"DrawingHouse$Drawing", "leastTriangle", "()J"⟩, 21), (⟨"DrawingHouse$Styler", "advance", "()V"⟩, 17), (⟨"DrawingHouse$Styler", "compileRule", "()Z"⟩, 17), (⟨"DrawingHouse$Styler", "wordIn", "(Ljava/lang/String;)I"⟩, 17), (⟨"DrawingHouse$Styler", "isWordAt", "(Ljava/lang/String;II)Z"⟩, 17), (⟨"DrawingHouse$Styler", "fail", "(I)Z"⟩, 17)]
theorem lw_r10 : ∀ q ∈ lw_privs_10, lw_okq q := List.forall_mem_cons.mpr ⟨lw_p144, List.forall_mem_cons.mpr ⟨lw_p145, List.forall_mem_cons.mpr ⟨lw_p146, List.forall_mem_cons.mpr ⟨lw_p147, List.forall_mem_cons.mpr ⟨lw_p148, List.forall_mem_cons.mpr ⟨lw_p149, List.forall_mem_cons.mpr ⟨lw_p150, List.forall_mem_cons.mpr ⟨lw_p151, List.forall_mem_cons.mpr ⟨lw_p152, List.forall_mem_cons.mpr ⟨lw_p153, List.forall_mem_cons.mpr ⟨lw_p154, List.forall_mem_cons.mpr ⟨lw_p155, List.forall_mem_cons.mpr ⟨lw_p156, List.forall_mem_cons.mpr ⟨lw_p157, List.forall_mem_cons.mpr ⟨lw_p158, List.forall_mem_cons.mpr ⟨lw_p159, fun _ h => absurd h List.not_mem_nil⟩⟩⟩⟩⟩⟩⟩⟩⟩⟩⟩⟩⟩⟩⟩⟩
theorem lw_p160 : lw_okq (⟨"DrawingHouse$Styler", "compileTest", "(I)Z"⟩, 17) := ⟨⟨by decide +kernel, by decide +kernel⟩, List.mem_of_getElem? (i := 2091) (by decide +kernel), List.mem_of_getElem? (i := 2244) (by decide +kernel), List.mem_of_getElem? (i := 2245) (by decide +kernel)⟩
theorem lw_p161 : lw_okq (⟨"DrawingHouse$Styler", "compileBoth", "(I)Z"⟩, 17) := ⟨⟨by decide +kernel, by decide +kernel⟩, List.mem_of_getElem? (i := 2091) (by decide +kernel), List.mem_of_getElem? (i := 2248) (by decide +kernel), List.mem_of_getElem? (i := 2249) (by decide +kernel)⟩
theorem lw_p162 : lw_okq (⟨"DrawingHouse$Styler", "compileOne", "(I)Z"⟩, 17) := ⟨⟨by decide +kernel, by decide +kernel⟩, List.mem_of_getElem? (i := 2091) (by decide +kernel), List.mem_of_getElem? (i := 2252) (by decide +kernel), List.mem_of_getElem? (i := 2253) (by decide +kernel)⟩
theorem lw_p163 : lw_okq (⟨"DrawingHouse$Styler", "emit", "(II)V"⟩, 17) := ⟨⟨by decide +kernel, by decide +kernel⟩, List.mem_of_getElem? (i := 2091) (by decide +kernel), List.mem_of_getElem? (i := 2257) (by decide +kernel), List.mem_of_getElem? (i := 2258) (by decide +kernel)⟩
theorem lw_p164 : lw_okq (⟨"DrawingHouse$Styler", "closes", "(I)Z"⟩, 17) := ⟨⟨by decide +kernel, by decide +kernel⟩, List.mem_of_getElem? (i := 2091) (by decide +kernel), List.mem_of_getElem? (i := 2261) (by decide +kernel), List.mem_of_getElem? (i := 2262) (by decide +kernel)⟩
theorem lw_p165 : lw_okq (⟨"DrawingHouse$Styler", "compileSum", "(I)Z"⟩, 17) := ⟨⟨by decide +kernel, by decide +kernel⟩, List.mem_of_getElem? (i := 2091) (by decide +kernel), List.mem_of_getElem? (i := 2265) (by decide +kernel), List.mem_of_getElem? (i := 2266) (by decide +kernel)⟩
theorem lw_p166 : lw_okq (⟨"DrawingHouse$Styler", "compileProduct", "(I)Z"⟩, 17) := ⟨⟨by decide +kernel, by decide +kernel⟩, List.mem_of_getElem? (i := 2091) (by decide +kernel), List.mem_of_getElem? (i := 2269) (by decide +kernel), List.mem_of_getElem? (i := 2270) (by decide +kernel)⟩
theorem lw_p167 : lw_okq (⟨"DrawingHouse$Styler", "compileValue", "(I)Z"⟩, 17) := ⟨⟨by decide +kernel, by decide +kernel⟩, List.mem_of_getElem? (i := 2091) (by decide +kernel), List.mem_of_getElem? (i := 2273) (by decide +kernel), List.mem_of_getElem? (i := 2274) (by decide +kernel)⟩
theorem lw_p168 : lw_okq (⟨"DrawingHouse$Styler", "compileSetting", "()Z"⟩, 17) := ⟨⟨by decide +kernel, by decide +kernel⟩, List.mem_of_getElem? (i := 2091) (by decide +kernel), List.mem_of_getElem? (i := 2279) (by decide +kernel), List.mem_of_getElem? (i := 2280) (by decide +kernel)⟩
theorem lw_p169 : lw_okq (⟨"DrawingHouse$Styler", "lookAtNode", "(LDrawingHouse$Graph;LDrawingHouse$Facts;LDrawingHouse$Drawing;I)V"⟩, 17) := ⟨⟨by decide +kernel, by decide +kernel⟩, List.mem_of_getElem? (i := 2091) (by decide +kernel), List.mem_of_getElem? (i := 2289) (by decide +kernel), List.mem_of_getElem? (i := 2290) (by decide +kernel)⟩
theorem lw_p170 : lw_okq (⟨"DrawingHouse$Styler", "runRules", "(I[II)V"⟩, 17) := ⟨⟨by decide +kernel, by decide +kernel⟩, List.mem_of_getElem? (i := 2091) (by decide +kernel), List.mem_of_getElem? (i := 2295) (by decide +kernel), List.mem_of_getElem? (i := 2296) (by decide +kernel)⟩
theorem lw_p171 : lw_okq (⟨"DrawingHouse$Styler", "pop", "()J"⟩, 17) := ⟨⟨by decide +kernel, by decide +kernel⟩, List.mem_of_getElem? (i := 2091) (by decide +kernel), List.mem_of_getElem? (i := 2300) (by decide +kernel), List.mem_of_getElem? (i := 2301) (by decide +kernel)⟩
theorem lw_p172 : lw_okq (⟨"DrawingHouse$Styler", "run", "(II)V"⟩, 17) := ⟨⟨by decide +kernel, by decide +kernel⟩, List.mem_of_getElem? (i := 2091) (by decide +kernel), List.mem_of_getElem? (i := 2307) (by decide +kernel), List.mem_of_getElem? (i := 2308) (by decide +kernel)⟩
theorem lw_p173 : lw_okq (⟨"DrawingHouse$Styler", "push", "(J)V"⟩, 17) := ⟨⟨by decide +kernel, by decide +kernel⟩, List.mem_of_getElem? (i := 2091) (by decide +kernel), List.mem_of_getElem? (i := 2311) (by decide +kernel), List.mem_of_getElem? (i := 2312) (by decide +kernel)⟩
theorem lw_p174 : lw_okq (⟨"DrawingHouse$Styler", "lookAtEdge", "(LDrawingHouse$Graph;LDrawingHouse$Facts;LDrawingHouse$Drawing;I)V"⟩, 17) := ⟨⟨by decide +kernel, by decide +kernel⟩, List.mem_of_getElem? (i := 2091) (by decide +kernel), List.mem_of_getElem? (i := 2319) (by decide +kernel), List.mem_of_getElem? (i := 2320) (by decide +kernel)⟩
theorem lw_p175 : lw_okq (⟨"DrawingHouse", "writeGroup", "(LDrawingHouse$Graph;II)V"⟩, 21) := ⟨⟨by decide +kernel, by decide +kernel⟩, List.mem_of_getElem? (i := 26) (by decide +kernel), List.mem_of_getElem? (i := 2333) (by decide +kernel), List.mem_of_getElem? (i := 2334) (by decide +kernel)⟩
def lw_privs_11 : List (MethodName × Nat) := [(⟨"DrawingHouse$Styler", "compileTest", "(I)Z"⟩, 17), (⟨"DrawingHouse$Styler", "compileBoth", "(I)Z"⟩, 17), (⟨"DrawingHouse$Styler", "compileOne", "(I)Z"⟩, 17), (⟨"DrawingHouse$Styler", "emit", "(II)V"⟩, 17), (⟨"DrawingHouse$Styler", "closes", "(I)Z"⟩, 17), (⟨"DrawingHouse$Styler", "compileSum", "(I)Z"⟩, 17), (⟨"DrawingHouse$Styler", "compileProduct", "(I)Z"⟩, 17), (⟨"DrawingHouse$Styler", "compileValue", "(I)Z"⟩, 17), (⟨"DrawingHouse$Styler", "compileSetting", "()Z"⟩, 17), (⟨"DrawingHouse$Styler", "lookAtNode", "(LDrawingHouse$Graph;LDrawingHouse$Facts;LDrawingHouse$Drawing;I)V"⟩, 17), (⟨"DrawingHouse$Styler", "runRules", "(I[II)V"⟩, 17), (⟨"DrawingHouse$Styler", "pop", "()J"⟩, 17), (⟨"DrawingHouse$Styler", "run", "(II)V"⟩, 17), (⟨"DrawingHouse$Styler", "push", "(J)V"⟩, 17), (⟨"DrawingHouse$Styler", "lookAtEdge", "(LDrawingHouse$Graph;LDrawingHouse$Facts;LDrawingHouse$Drawing;I)V"⟩, 17), (⟨"DrawingHouse", "writeGroup", "(LDrawingHouse$Graph;II)V"⟩, 21)]
theorem lw_r11 : ∀ q ∈ lw_privs_11, lw_okq q := List.forall_mem_cons.mpr ⟨lw_p160, List.forall_mem_cons.mpr ⟨lw_p161, List.forall_mem_cons.mpr ⟨lw_p162, List.forall_mem_cons.mpr ⟨lw_p163, List.forall_mem_cons.mpr ⟨lw_p164, List.forall_mem_cons.mpr ⟨lw_p165, List.forall_mem_cons.mpr ⟨lw_p166, List.forall_mem_cons.mpr ⟨lw_p167, List.forall_mem_cons.mpr ⟨lw_p168, List.forall_mem_cons.mpr ⟨lw_p169, List.forall_mem_cons.mpr ⟨lw_p170, List.forall_mem_cons.mpr ⟨lw_p171, List.forall_mem_cons.mpr ⟨lw_p172, List.forall_mem_cons.mpr ⟨lw_p173, List.forall_mem_cons.mpr ⟨lw_p174, List.forall_mem_cons.mpr ⟨lw_p175, fun _ h => absurd h List.not_mem_nil⟩⟩⟩⟩⟩⟩⟩⟩⟩⟩⟩⟩⟩⟩⟩⟩
theorem lw_p176 : lw_okq (⟨"DrawingHouse", "writeWord", "(Ljava/lang/String;)V"⟩, 21) := ⟨⟨by decide +kernel, by decide +kernel⟩, List.mem_of_getElem? (i := 26) (by decide +kernel), List.mem_of_getElem? (i := 2338) (by decide +kernel), List.mem_of_getElem? (i := 2339) (by decide +kernel)⟩
theorem lw_p177 : lw_okq (⟨"DrawingHouse", "writeByte", "(I)V"⟩, 21) := ⟨⟨by decide +kernel, by decide +kernel⟩, List.mem_of_getElem? (i := 26) (by decide +kernel), List.mem_of_getElem? (i := 2344) (by decide +kernel), List.mem_of_getElem? (i := 2345) (by decide +kernel)⟩
theorem lw_p178 : lw_okq (⟨"DrawingHouse", "writeName", "([BII)V"⟩, 21) := ⟨⟨by decide +kernel, by decide +kernel⟩, List.mem_of_getElem? (i := 26) (by decide +kernel), List.mem_of_getElem? (i := 2348) (by decide +kernel), List.mem_of_getElem? (i := 2349) (by decide +kernel)⟩
theorem lw_p179 : lw_okq (⟨"DrawingHouse", "writeNumber", "(I)V"⟩, 21) := ⟨⟨by decide +kernel, by decide +kernel⟩, List.mem_of_getElem? (i := 26) (by decide +kernel), List.mem_of_getElem? (i := 2353) (by decide +kernel), List.mem_of_getElem? (i := 2354) (by decide +kernel)⟩
theorem lw_p180 : lw_okq (⟨"DrawingHouse", "writeEdges", "(LDrawingHouse$Graph;)V"⟩, 21) := ⟨⟨by decide +kernel, by decide +kernel⟩, List.mem_of_getElem? (i := 26) (by decide +kernel), List.mem_of_getElem? (i := 2364) (by decide +kernel), List.mem_of_getElem? (i := 2365) (by decide +kernel)⟩
theorem lw_p181 : lw_okq (⟨"DrawingHouse", "writeDrawing", "(LDrawingHouse$Graph;LDrawingHouse$Drawing;)V"⟩, 21) := ⟨⟨by decide +kernel, by decide +kernel⟩, List.mem_of_getElem? (i := 26) (by decide +kernel), List.mem_of_getElem? (i := 2371) (by decide +kernel), List.mem_of_getElem? (i := 2372) (by decide +kernel)⟩
theorem lw_p182 : lw_okq (⟨"DrawingHouse", "writePoint", "(II)V"⟩, 21) := ⟨⟨by decide +kernel, by decide +kernel⟩, List.mem_of_getElem? (i := 26) (by decide +kernel), List.mem_of_getElem? (i := 2375) (by decide +kernel), List.mem_of_getElem? (i := 2376) (by decide +kernel)⟩
theorem lw_p183 : lw_okq (⟨"DrawingHouse", "drawLine", "(LDrawingHouse$Drawing;III)V"⟩, 21) := ⟨⟨by decide +kernel, by decide +kernel⟩, List.mem_of_getElem? (i := 26) (by decide +kernel), List.mem_of_getElem? (i := 2390) (by decide +kernel), List.mem_of_getElem? (i := 2391) (by decide +kernel)⟩
theorem lw_p184 : lw_okq (⟨"DrawingHouse", "setDot", "(III)V"⟩, 21) := ⟨⟨by decide +kernel, by decide +kernel⟩, List.mem_of_getElem? (i := 26) (by decide +kernel), List.mem_of_getElem? (i := 2402) (by decide +kernel), List.mem_of_getElem? (i := 2403) (by decide +kernel)⟩
theorem lw_p185 : lw_okq (⟨"DrawingHouseModel", "clear", "(I)V"⟩, 176) := ⟨⟨by decide +kernel, by decide +kernel⟩, List.mem_of_getElem? (i := 2411) (by decide +kernel), List.mem_of_getElem? (i := 2423) (by decide +kernel), List.mem_of_getElem? (i := 2424) (by decide +kernel)⟩
theorem lw_p186 : lw_okq (⟨"DrawingHouseModel", "permutations", "()V"⟩, 176) := ⟨⟨by decide +kernel, by decide +kernel⟩, List.mem_of_getElem? (i := 2411) (by decide +kernel), List.mem_of_getElem? (i := 2427) (by decide +kernel), List.mem_of_getElem? (i := 2428) (by decide +kernel)⟩
theorem lw_p187 : lw_okq (⟨"DrawingHouseModel", "nextOrder", "(I)Z"⟩, 176) := ⟨⟨by decide +kernel, by decide +kernel⟩, List.mem_of_getElem? (i := 2411) (by decide +kernel), List.mem_of_getElem? (i := 2431) (by decide +kernel), List.mem_of_getElem? (i := 2432) (by decide +kernel)⟩
theorem lw_p188 : lw_okq (⟨"DrawingHouseModel", "next", "()V"⟩, 176) := ⟨⟨by decide +kernel, by decide +kernel⟩, List.mem_of_getElem? (i := 2411) (by decide +kernel), List.mem_of_getElem? (i := 2981) (by decide +kernel), List.mem_of_getElem? (i := 2982) (by decide +kernel)⟩
theorem lw_p189 : lw_okq (⟨"DrawingHouseModel", "byteAt", "(I)I"⟩, 176) := ⟨⟨by decide +kernel, by decide +kernel⟩, List.mem_of_getElem? (i := 2411) (by decide +kernel), List.mem_of_getElem? (i := 2985) (by decide +kernel), List.mem_of_getElem? (i := 2986) (by decide +kernel)⟩
theorem lw_p190 : lw_okq (⟨"DrawingHouseModel", "item", "(II)V"⟩, 176) := ⟨⟨by decide +kernel, by decide +kernel⟩, List.mem_of_getElem? (i := 2411) (by decide +kernel), List.mem_of_getElem? (i := 2996) (by decide +kernel), List.mem_of_getElem? (i := 2997) (by decide +kernel)⟩
theorem lw_p191 : lw_okq (⟨"DrawingHouseModel", "isWord", "(Ljava/lang/String;)Z"⟩, 176) := ⟨⟨by decide +kernel, by decide +kernel⟩, List.mem_of_getElem? (i := 2411) (by decide +kernel), List.mem_of_getElem? (i := 3001) (by decide +kernel), List.mem_of_getElem? (i := 3002) (by decide +kernel)⟩
def lw_privs_12 : List (MethodName × Nat) := [(⟨"DrawingHouse", "writeWord", "(Ljava/lang/String;)V"⟩, 21), (⟨"DrawingHouse", "writeByte", "(I)V"⟩, 21), (⟨"DrawingHouse", "writeName", "([BII)V"⟩, 21), (⟨"DrawingHouse", "writeNumber", "(I)V"⟩, 21), (⟨"DrawingHouse", "writeEdges", "(LDrawingHouse$Graph;)V"⟩, 21), (⟨"DrawingHouse", "writeDrawing", "(LDrawingHouse$Graph;LDrawingHouse$Drawing;)V"⟩, 21), (⟨"DrawingHouse", "writePoint", "(II)V"⟩, 21), (⟨"DrawingHouse", "drawLine", "(LDrawingHouse$Drawing;III)V"⟩, 21), (⟨"DrawingHouse", "setDot", "(III)V"⟩, 21), (⟨"DrawingHouseModel", "clear", "(I)V"⟩, 176), (⟨"DrawingHouseModel", "permutations", "()V"⟩, 176), (⟨"DrawingHouseModel", "nextOrder", "(I)Z"⟩, 176), (⟨"DrawingHouseModel", "next", "()V"⟩, 176), (⟨"DrawingHouseModel", "byteAt", "(I)I"⟩, 176), (⟨"DrawingHouseModel", "item", "(II)V"⟩, 176), (⟨"DrawingHouseModel", "isWord", "(Ljava/lang/String;)Z"⟩, 176)]
theorem lw_r12 : ∀ q ∈ lw_privs_12, lw_okq q := List.forall_mem_cons.mpr ⟨lw_p176, List.forall_mem_cons.mpr ⟨lw_p177, List.forall_mem_cons.mpr ⟨lw_p178, List.forall_mem_cons.mpr ⟨lw_p179, List.forall_mem_cons.mpr ⟨lw_p180, List.forall_mem_cons.mpr ⟨lw_p181, List.forall_mem_cons.mpr ⟨lw_p182, List.forall_mem_cons.mpr ⟨lw_p183, List.forall_mem_cons.mpr ⟨lw_p184, List.forall_mem_cons.mpr ⟨lw_p185, List.forall_mem_cons.mpr ⟨lw_p186, List.forall_mem_cons.mpr ⟨lw_p187, List.forall_mem_cons.mpr ⟨lw_p188, List.forall_mem_cons.mpr ⟨lw_p189, List.forall_mem_cons.mpr ⟨lw_p190, List.forall_mem_cons.mpr ⟨lw_p191, fun _ h => absurd h List.not_mem_nil⟩⟩⟩⟩⟩⟩⟩⟩⟩⟩⟩⟩⟩⟩⟩⟩
theorem lw_p192 : lw_okq (⟨"DrawingHouseModel", "met", "(II)I"⟩, 176) := ⟨⟨by decide +kernel, by decide +kernel⟩, List.mem_of_getElem? (i := 2411) (by decide +kernel), List.mem_of_getElem? (i := 3007) (by decide +kernel), List.mem_of_getElem? (i := 3008) (by decide +kernel)⟩
theorem lw_p193 : lw_okq (⟨"DrawingHouseModel", "isName", "()Z"⟩, 176) := ⟨⟨by decide +kernel, by decide +kernel⟩, List.mem_of_getElem? (i := 2411) (by decide +kernel), List.mem_of_getElem? (i := 3011) (by decide +kernel), List.mem_of_getElem? (i := 3012) (by decide +kernel)⟩
theorem lw_p194 : lw_okq (⟨"DrawingHouseModel", "wrong", "(II)V"⟩, 176) := ⟨⟨by decide +kernel, by decide +kernel⟩, List.mem_of_getElem? (i := 2411) (by decide +kernel), List.mem_of_getElem? (i := 3016) (by decide +kernel), List.mem_of_getElem? (i := 3017) (by decide +kernel)⟩
theorem lw_p195 : lw_okq (⟨"DrawingHouseModel", "known", "()I"⟩, 176) := ⟨⟨by decide +kernel, by decide +kernel⟩, List.mem_of_getElem? (i := 2411) (by decide +kernel), List.mem_of_getElem? (i := 3020) (by decide +kernel), List.mem_of_getElem? (i := 3021) (by decide +kernel)⟩
theorem lw_p196 : lw_okq (⟨"DrawingHouseModel", "nodes", "()I"⟩, 176) := ⟨⟨by decide +kernel, by decide +kernel⟩, List.mem_of_getElem? (i := 2411) (by decide +kernel), List.mem_of_getElem? (i := 3024) (by decide +kernel), List.mem_of_getElem? (i := 3025) (by decide +kernel)⟩
theorem lw_p197 : lw_okq (⟨"DrawingHouseModel", "longOf", "(I)I"⟩, 176) := ⟨⟨by decide +kernel, by decide +kernel⟩, List.mem_of_getElem? (i := 2411) (by decide +kernel), List.mem_of_getElem? (i := 3028) (by decide +kernel), List.mem_of_getElem? (i := 3029) (by decide +kernel)⟩
theorem lw_p198 : lw_okq (⟨"DrawingHouseModel", "between", "(II)I"⟩, 176) := ⟨⟨by decide +kernel, by decide +kernel⟩, List.mem_of_getElem? (i := 2411) (by decide +kernel), List.mem_of_getElem? (i := 3032) (by decide +kernel), List.mem_of_getElem? (i := 3033) (by decide +kernel)⟩
theorem lw_p199 : lw_okq (⟨"DrawingHouseModel", "edges", "()I"⟩, 176) := ⟨⟨by decide +kernel, by decide +kernel⟩, List.mem_of_getElem? (i := 2411) (by decide +kernel), List.mem_of_getElem? (i := 3036) (by decide +kernel), List.mem_of_getElem? (i := 3037) (by decide +kernel)⟩
theorem lw_p200 : lw_okq (⟨"DrawingHouseModel", "has", "(II)Z"⟩, 176) := ⟨⟨by decide +kernel, by decide +kernel⟩, List.mem_of_getElem? (i := 2411) (by decide +kernel), List.mem_of_getElem? (i := 3040) (by decide +kernel), List.mem_of_getElem? (i := 3041) (by decide +kernel)⟩
theorem lw_p201 : lw_okq (⟨"DrawingHouseModel", "tail", "(I)I"⟩, 176) := ⟨⟨by decide +kernel, by decide +kernel⟩, List.mem_of_getElem? (i := 2411) (by decide +kernel), List.mem_of_getElem? (i := 3044) (by decide +kernel), List.mem_of_getElem? (i := 3045) (by decide +kernel)⟩
theorem lw_p202 : lw_okq (⟨"DrawingHouseModel", "head", "(I)I"⟩, 176) := ⟨⟨by decide +kernel, by decide +kernel⟩, List.mem_of_getElem? (i := 2411) (by decide +kernel), List.mem_of_getElem? (i := 3048) (by decide +kernel), List.mem_of_getElem? (i := 3049) (by decide +kernel)⟩
theorem lw_p203 : lw_okq (⟨"DrawingHouseModel", "of", "(Ljava/lang/String;I)I"⟩, 176) := ⟨⟨by decide +kernel, by decide +kernel⟩, List.mem_of_getElem? (i := 2411) (by decide +kernel), List.mem_of_getElem? (i := 3053) (by decide +kernel), List.mem_of_getElem? (i := 3054) (by decide +kernel)⟩
theorem lw_p204 : lw_okq (⟨"DrawingHouseModel", "sign", "(I)Z"⟩, 176) := ⟨⟨by decide +kernel, by decide +kernel⟩, List.mem_of_getElem? (i := 2411) (by decide +kernel), List.mem_of_getElem? (i := 3057) (by decide +kernel), List.mem_of_getElem? (i := 3058) (by decide +kernel)⟩
theorem lw_p205 : lw_okq (⟨"DrawingHouseModel", "need", "(I)V"⟩, 176) := ⟨⟨by decide +kernel, by decide +kernel⟩, List.mem_of_getElem? (i := 2411) (by decide +kernel), List.mem_of_getElem? (i := 3061) (by decide +kernel), List.mem_of_getElem? (i := 3062) (by decide +kernel)⟩
theorem lw_p206 : lw_okq (⟨"DrawingHouseModel", "groupItem", "(II)V"⟩, 176) := ⟨⟨by decide +kernel, by decide +kernel⟩, List.mem_of_getElem? (i := 2411) (by decide +kernel), List.mem_of_getElem? (i := 3065) (by decide +kernel), List.mem_of_getElem? (i := 3066) (by decide +kernel)⟩
theorem lw_p207 : lw_okq (⟨"DrawingHouseModel", "groups", "()I"⟩, 176) := ⟨⟨by decide +kernel, by decide +kernel⟩, List.mem_of_getElem? (i := 2411) (by decide +kernel), List.mem_of_getElem? (i := 3069) (by decide +kernel), List.mem_of_getElem? (i := 3070) (by decide +kernel)⟩
def lw_privs_13 : List (MethodName × Nat) := [(⟨"DrawingHouseModel", "met", "(II)I"⟩, 176), (⟨"DrawingHouseModel", "isName", "()Z"⟩, 176), (⟨"DrawingHouseModel", "wrong", "(II)V"⟩, 176), (⟨"DrawingHouseModel", "known", "()I"⟩, 176), (⟨"DrawingHouseModel", "nodes", "()I"⟩, 176), (⟨"DrawingHouseModel", "longOf", "(I)I"⟩, 176), (⟨"DrawingHouseModel", "between", "(II)I"⟩, 176), (⟨"DrawingHouseModel", "edges", "()I"⟩, 176), (⟨"DrawingHouseModel", "has", "(II)Z"⟩, 176), (⟨"DrawingHouseModel", "tail", "(I)I"⟩, 176), (⟨"DrawingHouseModel", "head", "(I)I"⟩, 176), (⟨"DrawingHouseModel", "of", "(Ljava/lang/String;I)I"⟩, 176), (⟨"DrawingHouseModel", "sign", "(I)Z"⟩, 176), (⟨"DrawingHouseModel", "need", "(I)V"⟩, 176), (⟨"DrawingHouseModel", "groupItem", "(II)V"⟩, 176), (⟨"DrawingHouseModel", "groups", "()I"⟩, 176)]
theorem lw_r13 : ∀ q ∈ lw_privs_13, lw_okq q := List.forall_mem_cons.mpr ⟨lw_p192, List.forall_mem_cons.mpr ⟨lw_p193, List.forall_mem_cons.mpr ⟨lw_p194, List.forall_mem_cons.mpr ⟨lw_p195, List.forall_mem_cons.mpr ⟨lw_p196, List.forall_mem_cons.mpr ⟨lw_p197, List.forall_mem_cons.mpr ⟨lw_p198, List.forall_mem_cons.mpr ⟨lw_p199, List.forall_mem_cons.mpr ⟨lw_p200, List.forall_mem_cons.mpr ⟨lw_p201, List.forall_mem_cons.mpr ⟨lw_p202, List.forall_mem_cons.mpr ⟨lw_p203, List.forall_mem_cons.mpr ⟨lw_p204, List.forall_mem_cons.mpr ⟨lw_p205, List.forall_mem_cons.mpr ⟨lw_p206, List.forall_mem_cons.mpr ⟨lw_p207, fun _ h => absurd h List.not_mem_nil⟩⟩⟩⟩⟩⟩⟩⟩⟩⟩⟩⟩⟩⟩⟩⟩
theorem lw_p208 : lw_okq (⟨"DrawingHouseModel", "edgeItem", "(I)V"⟩, 176) := ⟨⟨by decide +kernel, by decide +kernel⟩, List.mem_of_getElem? (i := 2411) (by decide +kernel), List.mem_of_getElem? (i := 3073) (by decide +kernel), List.mem_of_getElem? (i := 3074) (by decide +kernel)⟩
theorem lw_p209 : lw_okq (⟨"DrawingHouseModel", "newEdge", "(III)V"⟩, 176) := ⟨⟨by decide +kernel, by decide +kernel⟩, List.mem_of_getElem? (i := 2411) (by decide +kernel), List.mem_of_getElem? (i := 3077) (by decide +kernel), List.mem_of_getElem? (i := 3078) (by decide +kernel)⟩
theorem lw_p210 : lw_okq (⟨"DrawingHouseModel", "changed", "(I)V"⟩, 176) := ⟨⟨by decide +kernel, by decide +kernel⟩, List.mem_of_getElem? (i := 2411) (by decide +kernel), List.mem_of_getElem? (i := 3082) (by decide +kernel), List.mem_of_getElem? (i := 3083) (by decide +kernel)⟩
theorem lw_p211 : lw_okq (⟨"DrawingHouseModel", "take", "(I)V"⟩, 176) := ⟨⟨by decide +kernel, by decide +kernel⟩, List.mem_of_getElem? (i := 2411) (by decide +kernel), List.mem_of_getElem? (i := 3090) (by decide +kernel), List.mem_of_getElem? (i := 3091) (by decide +kernel)⟩
theorem lw_p212 : lw_okq (⟨"DrawingHouseModel", "newNode", "(II)I"⟩, 176) := ⟨⟨by decide +kernel, by decide +kernel⟩, List.mem_of_getElem? (i := 2411) (by decide +kernel), List.mem_of_getElem? (i := 3094) (by decide +kernel), List.mem_of_getElem? (i := 3095) (by decide +kernel)⟩
theorem lw_p213 : lw_okq (⟨"DrawingHouseModel", "step", "(I)V"⟩, 176) := ⟨⟨by decide +kernel, by decide +kernel⟩, List.mem_of_getElem? (i := 2411) (by decide +kernel), List.mem_of_getElem? (i := 3098) (by decide +kernel), List.mem_of_getElem? (i := 3099) (by decide +kernel)⟩
theorem lw_p214 : lw_okq (⟨"DrawingHouseModel", "dropEdge", "(I)V"⟩, 176) := ⟨⟨by decide +kernel, by decide +kernel⟩, List.mem_of_getElem? (i := 2411) (by decide +kernel), List.mem_of_getElem? (i := 3102) (by decide +kernel), List.mem_of_getElem? (i := 3103) (by decide +kernel)⟩
theorem lw_p215 : lw_okq (⟨"DrawingHouseModel", "dropNode", "(I)V"⟩, 176) := ⟨⟨by decide +kernel, by decide +kernel⟩, List.mem_of_getElem? (i := 2411) (by decide +kernel), List.mem_of_getElem? (i := 3106) (by decide +kernel), List.mem_of_getElem? (i := 3107) (by decide +kernel)⟩
theorem lw_p216 : lw_okq (⟨"DrawingHouseModel", "becomes", "(IIZII)I"⟩, 176) := ⟨⟨by decide +kernel, by decide +kernel⟩, List.mem_of_getElem? (i := 2411) (by decide +kernel), List.mem_of_getElem? (i := 3110) (by decide +kernel), List.mem_of_getElem? (i := 3111) (by decide +kernel)⟩
theorem lw_p217 : lw_okq (⟨"DrawingHouseModel", "fits", "(II)Z"⟩, 176) := ⟨⟨by decide +kernel, by decide +kernel⟩, List.mem_of_getElem? (i := 2411) (by decide +kernel), List.mem_of_getElem? (i := 3122) (by decide +kernel), List.mem_of_getElem? (i := 3123) (by decide +kernel)⟩
theorem lw_p218 : lw_okq (⟨"DrawingHouseModel", "degree", "(II)I"⟩, 176) := ⟨⟨by decide +kernel, by decide +kernel⟩, List.mem_of_getElem? (i := 2411) (by decide +kernel), List.mem_of_getElem? (i := 3126) (by decide +kernel), List.mem_of_getElem? (i := 3127) (by decide +kernel)⟩
theorem lw_p219 : lw_okq (⟨"DrawingHouseModel", "edgeWay", "(III)I"⟩, 176) := ⟨⟨by decide +kernel, by decide +kernel⟩, List.mem_of_getElem? (i := 2411) (by decide +kernel), List.mem_of_getElem? (i := 3130) (by decide +kernel), List.mem_of_getElem? (i := 3131) (by decide +kernel)⟩
theorem lw_p220 : lw_okq (⟨"DrawingHouseModel", "isOuter", "()Z"⟩, 176) := ⟨⟨by decide +kernel, by decide +kernel⟩, List.mem_of_getElem? (i := 2411) (by decide +kernel), List.mem_of_getElem? (i := 3142) (by decide +kernel), List.mem_of_getElem? (i := 3143) (by decide +kernel)⟩
theorem lw_p221 : lw_okq (⟨"DrawingHouseModel", "plane", "()V"⟩, 176) := ⟨⟨by decide +kernel, by decide +kernel⟩, List.mem_of_getElem? (i := 2411) (by decide +kernel), List.mem_of_getElem? (i := 3146) (by decide +kernel), List.mem_of_getElem? (i := 3147) (by decide +kernel)⟩
theorem lw_p222 : lw_okq (⟨"DrawingHouseModel", "embed", "()Z"⟩, 176) := ⟨⟨by decide +kernel, by decide +kernel⟩, List.mem_of_getElem? (i := 2411) (by decide +kernel), List.mem_of_getElem? (i := 3150) (by decide +kernel), List.mem_of_getElem? (i := 3151) (by decide +kernel)⟩
theorem lw_p223 : lw_okq (⟨"DrawingHouseModel", "blocks", "()I"⟩, 176) := ⟨⟨by decide +kernel, by decide +kernel⟩, List.mem_of_getElem? (i := 2411) (by decide +kernel), List.mem_of_getElem? (i := 3154) (by decide +kernel), List.mem_of_getElem? (i := 3155) (by decide +kernel)⟩
def lw_privs_14 : List (MethodName × Nat) := [(⟨"DrawingHouseModel", "edgeItem", "(I)V"⟩, 176), (⟨"DrawingHouseModel", "newEdge", "(III)V"⟩, 176), (⟨"DrawingHouseModel", "changed", "(I)V"⟩, 176), (⟨"DrawingHouseModel", "take", "(I)V"⟩, 176), (⟨"DrawingHouseModel", "newNode", "(II)I"⟩, 176), (⟨"DrawingHouseModel", "step", "(I)V"⟩, 176), (⟨"DrawingHouseModel", "dropEdge", "(I)V"⟩, 176), (⟨"DrawingHouseModel", "dropNode", "(I)V"⟩, 176), (⟨"DrawingHouseModel", "becomes", "(IIZII)I"⟩, 176), (⟨"DrawingHouseModel", "fits", "(II)Z"⟩, 176), (⟨"DrawingHouseModel", "degree", "(II)I"⟩, 176), (⟨"DrawingHouseModel", "edgeWay", "(III)I"⟩, 176), (⟨"DrawingHouseModel", "isOuter", "()Z"⟩, 176), (⟨"DrawingHouseModel", "plane", "()V"⟩, 176), (⟨"DrawingHouseModel", "embed", "()Z"⟩, 176), (⟨"DrawingHouseModel", "blocks", "()I"⟩, 176)]
theorem lw_r14 : ∀ q ∈ lw_privs_14, lw_okq q := List.forall_mem_cons.mpr ⟨lw_p208, List.forall_mem_cons.mpr ⟨lw_p209, List.forall_mem_cons.mpr ⟨lw_p210, List.forall_mem_cons.mpr ⟨lw_p211, List.forall_mem_cons.mpr ⟨lw_p212, List.forall_mem_cons.mpr ⟨lw_p213, List.forall_mem_cons.mpr ⟨lw_p214, List.forall_mem_cons.mpr ⟨lw_p215, List.forall_mem_cons.mpr ⟨lw_p216, List.forall_mem_cons.mpr ⟨lw_p217, List.forall_mem_cons.mpr ⟨lw_p218, List.forall_mem_cons.mpr ⟨lw_p219, List.forall_mem_cons.mpr ⟨lw_p220, List.forall_mem_cons.mpr ⟨lw_p221, List.forall_mem_cons.mpr ⟨lw_p222, List.forall_mem_cons.mpr ⟨lw_p223, fun _ h => absurd h List.not_mem_nil⟩⟩⟩⟩⟩⟩⟩⟩⟩⟩⟩⟩⟩⟩⟩⟩
theorem lw_p224 : lw_okq (⟨"DrawingHouseModel", "at", "(II)Z"⟩, 176) := ⟨⟨by decide +kernel, by decide +kernel⟩, List.mem_of_getElem? (i := 2411) (by decide +kernel), List.mem_of_getElem? (i := 3158) (by decide +kernel), List.mem_of_getElem? (i := 3159) (by decide +kernel)⟩
theorem lw_p225 : lw_okq (⟨"DrawingHouseModel", "across", "(II)I"⟩, 176) := ⟨⟨by decide +kernel, by decide +kernel⟩, List.mem_of_getElem? (i := 2411) (by decide +kernel), List.mem_of_getElem? (i := 3162) (by decide +kernel), List.mem_of_getElem? (i := 3163) (by decide +kernel)⟩
theorem lw_p226 : lw_okq (⟨"DrawingHouseModel", "flood", "(II)V"⟩, 176) := ⟨⟨by decide +kernel, by decide +kernel⟩, List.mem_of_getElem? (i := 2411) (by decide +kernel), List.mem_of_getElem? (i := 3166) (by decide +kernel), List.mem_of_getElem? (i := 3167) (by decide +kernel)⟩
theorem lw_p227 : lw_okq (⟨"DrawingHouseModel", "join", "(II)V"⟩, 176) := ⟨⟨by decide +kernel, by decide +kernel⟩, List.mem_of_getElem? (i := 2411) (by decide +kernel), List.mem_of_getElem? (i := 3170) (by decide +kernel), List.mem_of_getElem? (i := 3171) (by decide +kernel)⟩
theorem lw_p228 : lw_okq (⟨"DrawingHouseModel", "draws", "(I)Z"⟩, 176) := ⟨⟨by decide +kernel, by decide +kernel⟩, List.mem_of_getElem? (i := 2411) (by decide +kernel), List.mem_of_getElem? (i := 3177) (by decide +kernel), List.mem_of_getElem? (i := 3178) (by decide +kernel)⟩
theorem lw_p229 : lw_okq (⟨"DrawingHouseModel", "shortest", "(IIZ)V"⟩, 176) := ⟨⟨by decide +kernel, by decide +kernel⟩, List.mem_of_getElem? (i := 2411) (by decide +kernel), List.mem_of_getElem? (i := 3181) (by decide +kernel), List.mem_of_getElem? (i := 3182) (by decide +kernel)⟩
theorem lw_p230 : lw_okq (⟨"DrawingHouseModel", "mayGo", "(I)Z"⟩, 176) := ⟨⟨by decide +kernel, by decide +kernel⟩, List.mem_of_getElem? (i := 2411) (by decide +kernel), List.mem_of_getElem? (i := 3186) (by decide +kernel), List.mem_of_getElem? (i := 3187) (by decide +kernel)⟩
theorem lw_p231 : lw_okq (⟨"DrawingHouseModel", "closer", "(IIIIZ)Z"⟩, 176) := ⟨⟨by decide +kernel, by decide +kernel⟩, List.mem_of_getElem? (i := 2411) (by decide +kernel), List.mem_of_getElem? (i := 3190) (by decide +kernel), List.mem_of_getElem? (i := 3191) (by decide +kernel)⟩
theorem lw_p232 : lw_okq (⟨"DrawingHouseModel", "edgeOf", "(II)I"⟩, 176) := ⟨⟨by decide +kernel, by decide +kernel⟩, List.mem_of_getElem? (i := 2411) (by decide +kernel), List.mem_of_getElem? (i := 3194) (by decide +kernel), List.mem_of_getElem? (i := 3195) (by decide +kernel)⟩
theorem lw_p233 : lw_okq (⟨"DrawingHouseModel", "drawWay", "()V"⟩, 176) := ⟨⟨by decide +kernel, by decide +kernel⟩, List.mem_of_getElem? (i := 2411) (by decide +kernel), List.mem_of_getElem? (i := 3198) (by decide +kernel), List.mem_of_getElem? (i := 3199) (by decide +kernel)⟩
theorem lw_p234 : lw_okq (⟨"DrawingHouseModel", "missing", "()Z"⟩, 176) := ⟨⟨by decide +kernel, by decide +kernel⟩, List.mem_of_getElem? (i := 2411) (by decide +kernel), List.mem_of_getElem? (i := 3202) (by decide +kernel), List.mem_of_getElem? (i := 3203) (by decide +kernel)⟩
theorem lw_p235 : lw_okq (⟨"DrawingHouseModel", "pieces", "()V"⟩, 176) := ⟨⟨by decide +kernel, by decide +kernel⟩, List.mem_of_getElem? (i := 2411) (by decide +kernel), List.mem_of_getElem? (i := 3206) (by decide +kernel), List.mem_of_getElem? (i := 3207) (by decide +kernel)⟩
theorem lw_p236 : lw_okq (⟨"DrawingHouseModel", "shareNew", "(II)Z"⟩, 176) := ⟨⟨by decide +kernel, by decide +kernel⟩, List.mem_of_getElem? (i := 2411) (by decide +kernel), List.mem_of_getElem? (i := 3210) (by decide +kernel), List.mem_of_getElem? (i := 3211) (by decide +kernel)⟩
theorem lw_p237 : lw_okq (⟨"DrawingHouseModel", "bits", "()V"⟩, 176) := ⟨⟨by decide +kernel, by decide +kernel⟩, List.mem_of_getElem? (i := 2411) (by decide +kernel), List.mem_of_getElem? (i := 3214) (by decide +kernel), List.mem_of_getElem? (i := 3215) (by decide +kernel)⟩
theorem lw_p238 : lw_okq (⟨"DrawingHouseModel", "choose", "()I"⟩, 176) := ⟨⟨by decide +kernel, by decide +kernel⟩, List.mem_of_getElem? (i := 2411) (by decide +kernel), List.mem_of_getElem? (i := 3218) (by decide +kernel), List.mem_of_getElem? (i := 3219) (by decide +kernel)⟩
theorem lw_p239 : lw_okq (⟨"DrawingHouseModel", "fitsFace", "(II)Z"⟩, 176) := ⟨⟨by decide +kernel, by decide +kernel⟩, List.mem_of_getElem? (i := 2411) (by decide +kernel), List.mem_of_getElem? (i := 3222) (by decide +kernel), List.mem_of_getElem? (i := 3223) (by decide +kernel)⟩
def lw_privs_15 : List (MethodName × Nat) := [(⟨"DrawingHouseModel", "at", "(II)Z"⟩, 176), (⟨"DrawingHouseModel", "across", "(II)I"⟩, 176), (⟨"DrawingHouseModel", "flood", "(II)V"⟩, 176), (⟨"DrawingHouseModel", "join", "(II)V"⟩, 176), (⟨"DrawingHouseModel", "draws", "(I)Z"⟩, 176), (⟨"DrawingHouseModel", "shortest", "(IIZ)V"⟩, 176), (⟨"DrawingHouseModel", "mayGo", "(I)Z"⟩, 176), (⟨"DrawingHouseModel", "closer", "(IIIIZ)Z"⟩, 176), (⟨"DrawingHouseModel", "edgeOf", "(II)I"⟩, 176), (⟨"DrawingHouseModel", "drawWay", "()V"⟩, 176), (⟨"DrawingHouseModel", "missing", "()Z"⟩, 176), (⟨"DrawingHouseModel", "pieces", "()V"⟩, 176), (⟨"DrawingHouseModel", "shareNew", "(II)Z"⟩, 176), (⟨"DrawingHouseModel", "bits", "()V"⟩, 176), (⟨"DrawingHouseModel", "choose", "()I"⟩, 176), (⟨"DrawingHouseModel", "fitsFace", "(II)Z"⟩, 176)]
theorem lw_r15 : ∀ q ∈ lw_privs_15, lw_okq q := List.forall_mem_cons.mpr ⟨lw_p224, List.forall_mem_cons.mpr ⟨lw_p225, List.forall_mem_cons.mpr ⟨lw_p226, List.forall_mem_cons.mpr ⟨lw_p227, List.forall_mem_cons.mpr ⟨lw_p228, List.forall_mem_cons.mpr ⟨lw_p229, List.forall_mem_cons.mpr ⟨lw_p230, List.forall_mem_cons.mpr ⟨lw_p231, List.forall_mem_cons.mpr ⟨lw_p232, List.forall_mem_cons.mpr ⟨lw_p233, List.forall_mem_cons.mpr ⟨lw_p234, List.forall_mem_cons.mpr ⟨lw_p235, List.forall_mem_cons.mpr ⟨lw_p236, List.forall_mem_cons.mpr ⟨lw_p237, List.forall_mem_cons.mpr ⟨lw_p238, List.forall_mem_cons.mpr ⟨lw_p239, fun _ h => absurd h List.not_mem_nil⟩⟩⟩⟩⟩⟩⟩⟩⟩⟩⟩⟩⟩⟩⟩⟩
theorem lw_p240 : lw_okq (⟨"DrawingHouseModel", "firstFit", "(I)I"⟩, 176) := ⟨⟨by decide +kernel, by decide +kernel⟩, List.mem_of_getElem? (i := 2411) (by decide +kernel), List.mem_of_getElem? (i := 3226) (by decide +kernel), List.mem_of_getElem? (i := 3227) (by decide +kernel)⟩
theorem lw_p241 : lw_okq (⟨"DrawingHouseModel", "wayOf", "(I)V"⟩, 176) := ⟨⟨by decide +kernel, by decide +kernel⟩, List.mem_of_getElem? (i := 2411) (by decide +kernel), List.mem_of_getElem? (i := 3230) (by decide +kernel), List.mem_of_getElem? (i := 3231) (by decide +kernel)⟩
theorem lw_p242 : lw_okq (⟨"DrawingHouseModel", "isEnd", "(II)Z"⟩, 176) := ⟨⟨by decide +kernel, by decide +kernel⟩, List.mem_of_getElem? (i := 2411) (by decide +kernel), List.mem_of_getElem? (i := 3234) (by decide +kernel), List.mem_of_getElem? (i := 3235) (by decide +kernel)⟩
theorem lw_p243 : lw_okq (⟨"DrawingHouseModel", "split", "(I)V"⟩, 176) := ⟨⟨by decide +kernel, by decide +kernel⟩, List.mem_of_getElem? (i := 2411) (by decide +kernel), List.mem_of_getElem? (i := 3238) (by decide +kernel), List.mem_of_getElem? (i := 3239) (by decide +kernel)⟩
theorem lw_p244 : lw_okq (⟨"DrawingHouseModel", "turnRound", "(II)V"⟩, 176) := ⟨⟨by decide +kernel, by decide +kernel⟩, List.mem_of_getElem? (i := 2411) (by decide +kernel), List.mem_of_getElem? (i := 3242) (by decide +kernel), List.mem_of_getElem? (i := 3243) (by decide +kernel)⟩
theorem lw_p245 : lw_okq (⟨"DrawingHouseModel", "behind", "(II)I"⟩, 176) := ⟨⟨by decide +kernel, by decide +kernel⟩, List.mem_of_getElem? (i := 2411) (by decide +kernel), List.mem_of_getElem? (i := 3246) (by decide +kernel), List.mem_of_getElem? (i := 3247) (by decide +kernel)⟩
theorem lw_p246 : lw_okq (⟨"DrawingHouseModel", "isPlanar", "()Z"⟩, 176) := ⟨⟨by decide +kernel, by decide +kernel⟩, List.mem_of_getElem? (i := 2411) (by decide +kernel), List.mem_of_getElem? (i := 3250) (by decide +kernel), List.mem_of_getElem? (i := 3251) (by decide +kernel)⟩
theorem lw_p247 : lw_okq (⟨"DrawingHouseModel", "goRound", "()V"⟩, 176) := ⟨⟨by decide +kernel, by decide +kernel⟩, List.mem_of_getElem? (i := 2411) (by decide +kernel), List.mem_of_getElem? (i := 3254) (by decide +kernel), List.mem_of_getElem? (i := 3255) (by decide +kernel)⟩
theorem lw_p248 : lw_okq (⟨"DrawingHouseModel", "nextDart", "(I)I"⟩, 176) := ⟨⟨by decide +kernel, by decide +kernel⟩, List.mem_of_getElem? (i := 2411) (by decide +kernel), List.mem_of_getElem? (i := 3258) (by decide +kernel), List.mem_of_getElem? (i := 3259) (by decide +kernel)⟩
theorem lw_p249 : lw_okq (⟨"DrawingHouseModel", "toOf", "(I)I"⟩, 176) := ⟨⟨by decide +kernel, by decide +kernel⟩, List.mem_of_getElem? (i := 2411) (by decide +kernel), List.mem_of_getElem? (i := 3262) (by decide +kernel), List.mem_of_getElem? (i := 3263) (by decide +kernel)⟩
theorem lw_p250 : lw_okq (⟨"DrawingHouseModel", "bar", "()V"⟩, 176) := ⟨⟨by decide +kernel, by decide +kernel⟩, List.mem_of_getElem? (i := 2411) (by decide +kernel), List.mem_of_getElem? (i := 3266) (by decide +kernel), List.mem_of_getElem? (i := 3267) (by decide +kernel)⟩
theorem lw_p251 : lw_okq (⟨"DrawingHouseModel", "fromOf", "(I)I"⟩, 176) := ⟨⟨by decide +kernel, by decide +kernel⟩, List.mem_of_getElem? (i := 2411) (by decide +kernel), List.mem_of_getElem? (i := 3274) (by decide +kernel), List.mem_of_getElem? (i := 3275) (by decide +kernel)⟩
theorem lw_p252 : lw_okq (⟨"DrawingHouseModel", "parts", "()I"⟩, 176) := ⟨⟨by decide +kernel, by decide +kernel⟩, List.mem_of_getElem? (i := 2411) (by decide +kernel), List.mem_of_getElem? (i := 3282) (by decide +kernel), List.mem_of_getElem? (i := 3283) (by decide +kernel)⟩
theorem lw_p253 : lw_okq (⟨"DrawingHouseModel", "farFrom", "(I)V"⟩, 176) := ⟨⟨by decide +kernel, by decide +kernel⟩, List.mem_of_getElem? (i := 2411) (by decide +kernel), List.mem_of_getElem? (i := 3286) (by decide +kernel), List.mem_of_getElem? (i := 3287) (by decide +kernel)⟩
theorem lw_p254 : lw_okq (⟨"DrawingHouseModel", "strong", "(Z)I"⟩, 176) := ⟨⟨by decide +kernel, by decide +kernel⟩, List.mem_of_getElem? (i := 2411) (by decide +kernel), List.mem_of_getElem? (i := 3290) (by decide +kernel), List.mem_of_getElem? (i := 3291) (by decide +kernel)⟩
theorem lw_p255 : lw_okq (⟨"DrawingHouseModel", "reaching", "(Z)V"⟩, 176) := ⟨⟨by decide +kernel, by decide +kernel⟩, List.mem_of_getElem? (i := 2411) (by decide +kernel), List.mem_of_getElem? (i := 3294) (by decide +kernel), List.mem_of_getElem? (i := 3295) (by decide +kernel)⟩
def lw_privs_16 : List (MethodName × Nat) := [(⟨"DrawingHouseModel", "firstFit", "(I)I"⟩, 176), (⟨"DrawingHouseModel", "wayOf", "(I)V"⟩, 176), (⟨"DrawingHouseModel", "isEnd", "(II)Z"⟩, 176), (⟨"DrawingHouseModel", "split", "(I)V"⟩, 176), (⟨"DrawingHouseModel", "turnRound", "(II)V"⟩, 176), (⟨"DrawingHouseModel", "behind", "(II)I"⟩, 176), (⟨"DrawingHouseModel", "isPlanar", "()Z"⟩, 176), (⟨"DrawingHouseModel", "goRound", "()V"⟩, 176), (⟨"DrawingHouseModel", "nextDart", "(I)I"⟩, 176), (⟨"DrawingHouseModel", "toOf", "(I)I"⟩, 176), (⟨"DrawingHouseModel", "bar", "()V"⟩, 176), (⟨"DrawingHouseModel", "fromOf", "(I)I"⟩, 176), (⟨"DrawingHouseModel", "parts", "()I"⟩, 176), (⟨"DrawingHouseModel", "farFrom", "(I)V"⟩, 176), (⟨"DrawingHouseModel", "strong", "(Z)I"⟩, 176), (⟨"DrawingHouseModel", "reaching", "(Z)V"⟩, 176)]
theorem lw_r16 : ∀ q ∈ lw_privs_16, lw_okq q := List.forall_mem_cons.mpr ⟨lw_p240, List.forall_mem_cons.mpr ⟨lw_p241, List.forall_mem_cons.mpr ⟨lw_p242, List.forall_mem_cons.mpr ⟨lw_p243, List.forall_mem_cons.mpr ⟨lw_p244, List.forall_mem_cons.mpr ⟨lw_p245, List.forall_mem_cons.mpr ⟨lw_p246, List.forall_mem_cons.mpr ⟨lw_p247, List.forall_mem_cons.mpr ⟨lw_p248, List.forall_mem_cons.mpr ⟨lw_p249, List.forall_mem_cons.mpr ⟨lw_p250, List.forall_mem_cons.mpr ⟨lw_p251, List.forall_mem_cons.mpr ⟨lw_p252, List.forall_mem_cons.mpr ⟨lw_p253, List.forall_mem_cons.mpr ⟨lw_p254, List.forall_mem_cons.mpr ⟨lw_p255, fun _ h => absurd h List.not_mem_nil⟩⟩⟩⟩⟩⟩⟩⟩⟩⟩⟩⟩⟩⟩⟩⟩
theorem lw_p256 : lw_okq (⟨"DrawingHouseModel", "one", "(I)I"⟩, 176) := ⟨⟨by decide +kernel, by decide +kernel⟩, List.mem_of_getElem? (i := 2411) (by decide +kernel), List.mem_of_getElem? (i := 3298) (by decide +kernel), List.mem_of_getElem? (i := 3299) (by decide +kernel)⟩
theorem lw_p257 : lw_okq (⟨"DrawingHouseModel", "size", "(I)I"⟩, 176) := ⟨⟨by decide +kernel, by decide +kernel⟩, List.mem_of_getElem? (i := 2411) (by decide +kernel), List.mem_of_getElem? (i := 3306) (by decide +kernel), List.mem_of_getElem? (i := 3307) (by decide +kernel)⟩
theorem lw_p258 : lw_okq (⟨"DrawingHouseModel", "groupOf", "(I)I"⟩, 176) := ⟨⟨by decide +kernel, by decide +kernel⟩, List.mem_of_getElem? (i := 2411) (by decide +kernel), List.mem_of_getElem? (i := 3310) (by decide +kernel), List.mem_of_getElem? (i := 3311) (by decide +kernel)⟩
theorem lw_p259 : lw_okq (⟨"DrawingHouseModel", "neighbours", "(I)I"⟩, 176) := ⟨⟨by decide +kernel, by decide +kernel⟩, List.mem_of_getElem? (i := 2411) (by decide +kernel), List.mem_of_getElem? (i := 3314) (by decide +kernel), List.mem_of_getElem? (i := 3315) (by decide +kernel)⟩
theorem lw_p260 : lw_okq (⟨"DrawingHouseModel", "blocksOf", "(I)I"⟩, 176) := ⟨⟨by decide +kernel, by decide +kernel⟩, List.mem_of_getElem? (i := 2411) (by decide +kernel), List.mem_of_getElem? (i := 3318) (by decide +kernel), List.mem_of_getElem? (i := 3319) (by decide +kernel)⟩
theorem lw_p261 : lw_okq (⟨"DrawingHouseModel", "core", "(I)I"⟩, 176) := ⟨⟨by decide +kernel, by decide +kernel⟩, List.mem_of_getElem? (i := 2411) (by decide +kernel), List.mem_of_getElem? (i := 3322) (by decide +kernel), List.mem_of_getElem? (i := 3323) (by decide +kernel)⟩
theorem lw_p262 : lw_okq (⟨"DrawingHouseModel", "isInCore", "(II)Z"⟩, 176) := ⟨⟨by decide +kernel, by decide +kernel⟩, List.mem_of_getElem? (i := 2411) (by decide +kernel), List.mem_of_getElem? (i := 3326) (by decide +kernel), List.mem_of_getElem? (i := 3327) (by decide +kernel)⟩
theorem lw_p263 : lw_okq (⟨"DrawingHouseModel", "other", "(II)I"⟩, 176) := ⟨⟨by decide +kernel, by decide +kernel⟩, List.mem_of_getElem? (i := 2411) (by decide +kernel), List.mem_of_getElem? (i := 3330) (by decide +kernel), List.mem_of_getElem? (i := 3331) (by decide +kernel)⟩
theorem lw_p264 : lw_okq (⟨"DrawingHouseModel", "weight", "(I)I"⟩, 176) := ⟨⟨by decide +kernel, by decide +kernel⟩, List.mem_of_getElem? (i := 2411) (by decide +kernel), List.mem_of_getElem? (i := 3338) (by decide +kernel), List.mem_of_getElem? (i := 3339) (by decide +kernel)⟩
theorem lw_p265 : lw_okq (⟨"DrawingHouseModel", "isBridge", "(I)Z"⟩, 176) := ⟨⟨by decide +kernel, by decide +kernel⟩, List.mem_of_getElem? (i := 2411) (by decide +kernel), List.mem_of_getElem? (i := 3342) (by decide +kernel), List.mem_of_getElem? (i := 3343) (by decide +kernel)⟩
theorem lw_p266 : lw_okq (⟨"DrawingHouseModel", "sizeOfGroup", "(I)I"⟩, 176) := ⟨⟨by decide +kernel, by decide +kernel⟩, List.mem_of_getElem? (i := 2411) (by decide +kernel), List.mem_of_getElem? (i := 3350) (by decide +kernel), List.mem_of_getElem? (i := 3351) (by decide +kernel)⟩
theorem lw_p267 : lw_okq (⟨"DrawingHouseModel", "isWithin", "(II)Z"⟩, 176) := ⟨⟨by decide +kernel, by decide +kernel⟩, List.mem_of_getElem? (i := 2411) (by decide +kernel), List.mem_of_getElem? (i := 3354) (by decide +kernel), List.mem_of_getElem? (i := 3355) (by decide +kernel)⟩
theorem lw_p268 : lw_okq (⟨"DrawingHouseModel", "layers", "(I)I"⟩, 176) := ⟨⟨by decide +kernel, by decide +kernel⟩, List.mem_of_getElem? (i := 2411) (by decide +kernel), List.mem_of_getElem? (i := 3370) (by decide +kernel), List.mem_of_getElem? (i := 3371) (by decide +kernel)⟩
theorem lw_p269 : lw_okq (⟨"DrawingHouseModel", "turnEdges", "()V"⟩, 176) := ⟨⟨by decide +kernel, by decide +kernel⟩, List.mem_of_getElem? (i := 2411) (by decide +kernel), List.mem_of_getElem? (i := 3374) (by decide +kernel), List.mem_of_getElem? (i := 3375) (by decide +kernel)⟩
theorem lw_p270 : lw_okq (⟨"DrawingHouseModel", "bestOrder", "()V"⟩, 176) := ⟨⟨by decide +kernel, by decide +kernel⟩, List.mem_of_getElem? (i := 2411) (by decide +kernel), List.mem_of_getElem? (i := 3378) (by decide +kernel), List.mem_of_getElem? (i := 3379) (by decide +kernel)⟩
theorem lw_p271 : lw_okq (⟨"DrawingHouseModel", "isMember", "(I)Z"⟩, 176) := ⟨⟨by decide +kernel, by decide +kernel⟩, List.mem_of_getElem? (i := 2411) (by decide +kernel), List.mem_of_getElem? (i := 3382) (by decide +kernel), List.mem_of_getElem? (i := 3383) (by decide +kernel)⟩
def lw_privs_17 : List (MethodName × Nat) := [(⟨"DrawingHouseModel", "one", "(I)I"⟩, 176), (⟨"DrawingHouseModel", "size", "(I)I"⟩, 176), (⟨"DrawingHouseModel", "groupOf", "(I)I"⟩, 176), (⟨"DrawingHouseModel", "neighbours", "(I)I"⟩, 176), (⟨"DrawingHouseModel", "blocksOf", "(I)I"⟩, 176), (⟨"DrawingHouseModel", "core", "(I)I"⟩, 176), (⟨"DrawingHouseModel", "isInCore", "(II)Z"⟩, 176), (⟨"DrawingHouseModel", "other", "(II)I"⟩, 176), (⟨"DrawingHouseModel", "weight", "(I)I"⟩, 176), (⟨"DrawingHouseModel", "isBridge", "(I)Z"⟩, 176), (⟨"DrawingHouseModel", "sizeOfGroup", "(I)I"⟩, 176), (⟨"DrawingHouseModel", "isWithin", "(II)Z"⟩, 176), (⟨"DrawingHouseModel", "layers", "(I)I"⟩, 176), (⟨"DrawingHouseModel", "turnEdges", "()V"⟩, 176), (⟨"DrawingHouseModel", "bestOrder", "()V"⟩, 176), (⟨"DrawingHouseModel", "isMember", "(I)Z"⟩, 176)]
theorem lw_r17 : ∀ q ∈ lw_privs_17, lw_okq q := List.forall_mem_cons.mpr ⟨lw_p256, List.forall_mem_cons.mpr ⟨lw_p257, List.forall_mem_cons.mpr ⟨lw_p258, List.forall_mem_cons.mpr ⟨lw_p259, List.forall_mem_cons.mpr ⟨lw_p260, List.forall_mem_cons.mpr ⟨lw_p261, List.forall_mem_cons.mpr ⟨lw_p262, List.forall_mem_cons.mpr ⟨lw_p263, List.forall_mem_cons.mpr ⟨lw_p264, List.forall_mem_cons.mpr ⟨lw_p265, List.forall_mem_cons.mpr ⟨lw_p266, List.forall_mem_cons.mpr ⟨lw_p267, List.forall_mem_cons.mpr ⟨lw_p268, List.forall_mem_cons.mpr ⟨lw_p269, List.forall_mem_cons.mpr ⟨lw_p270, List.forall_mem_cons.mpr ⟨lw_p271, fun _ h => absurd h List.not_mem_nil⟩⟩⟩⟩⟩⟩⟩⟩⟩⟩⟩⟩⟩⟩⟩⟩
theorem lw_p272 : lw_okq (⟨"DrawingHouseModel", "greedyOrder", "()V"⟩, 176) := ⟨⟨by decide +kernel, by decide +kernel⟩, List.mem_of_getElem? (i := 2411) (by decide +kernel), List.mem_of_getElem? (i := 3386) (by decide +kernel), List.mem_of_getElem? (i := 3387) (by decide +kernel)⟩
theorem lw_p273 : lw_okq (⟨"DrawingHouseModel", "placeIn", "(I)I"⟩, 176) := ⟨⟨by decide +kernel, by decide +kernel⟩, List.mem_of_getElem? (i := 2411) (by decide +kernel), List.mem_of_getElem? (i := 3390) (by decide +kernel), List.mem_of_getElem? (i := 3391) (by decide +kernel)⟩
theorem lw_p274 : lw_okq (⟨"DrawingHouseModel", "from", "(I)I"⟩, 176) := ⟨⟨by decide +kernel, by decide +kernel⟩, List.mem_of_getElem? (i := 2411) (by decide +kernel), List.mem_of_getElem? (i := 3394) (by decide +kernel), List.mem_of_getElem? (i := 3395) (by decide +kernel)⟩
theorem lw_p275 : lw_okq (⟨"DrawingHouseModel", "to", "(I)I"⟩, 176) := ⟨⟨by decide +kernel, by decide +kernel⟩, List.mem_of_getElem? (i := 2411) (by decide +kernel), List.mem_of_getElem? (i := 3398) (by decide +kernel), List.mem_of_getElem? (i := 3399) (by decide +kernel)⟩
theorem lw_p276 : lw_okq (⟨"DrawingHouseModel", "cost", "(IIIZ)V"⟩, 176) := ⟨⟨by decide +kernel, by decide +kernel⟩, List.mem_of_getElem? (i := 2411) (by decide +kernel), List.mem_of_getElem? (i := 3402) (by decide +kernel), List.mem_of_getElem? (i := 3403) (by decide +kernel)⟩
theorem lw_p277 : lw_okq (⟨"DrawingHouseModel", "apart", "(III)V"⟩, 176) := ⟨⟨by decide +kernel, by decide +kernel⟩, List.mem_of_getElem? (i := 2411) (by decide +kernel), List.mem_of_getElem? (i := 3406) (by decide +kernel), List.mem_of_getElem? (i := 3407) (by decide +kernel)⟩
theorem lw_p278 : lw_okq (⟨"DrawingHouseModel", "rise", "()V"⟩, 176) := ⟨⟨by decide +kernel, by decide +kernel⟩, List.mem_of_getElem? (i := 2411) (by decide +kernel), List.mem_of_getElem? (i := 3410) (by decide +kernel), List.mem_of_getElem? (i := 3411) (by decide +kernel)⟩
theorem lw_p279 : lw_okq (⟨"DrawingHouseModel", "up", "()I"⟩, 176) := ⟨⟨by decide +kernel, by decide +kernel⟩, List.mem_of_getElem? (i := 2411) (by decide +kernel), List.mem_of_getElem? (i := 3414) (by decide +kernel), List.mem_of_getElem? (i := 3415) (by decide +kernel)⟩
theorem lw_p280 : lw_okq (⟨"DrawingHouseModel", "augment", "(III)Z"⟩, 176) := ⟨⟨by decide +kernel, by decide +kernel⟩, List.mem_of_getElem? (i := 2411) (by decide +kernel), List.mem_of_getElem? (i := 3418) (by decide +kernel), List.mem_of_getElem? (i := 3419) (by decide +kernel)⟩
theorem lw_p281 : lw_okq (⟨"DrawingHouseModel", "list", "(I)V"⟩, 176) := ⟨⟨by decide +kernel, by decide +kernel⟩, List.mem_of_getElem? (i := 2411) (by decide +kernel), List.mem_of_getElem? (i := 3422) (by decide +kernel), List.mem_of_getElem? (i := 3423) (by decide +kernel)⟩
theorem lw_p282 : lw_okq (⟨"DrawingHouseModel", "line", "(II)V"⟩, 176) := ⟨⟨by decide +kernel, by decide +kernel⟩, List.mem_of_getElem? (i := 2411) (by decide +kernel), List.mem_of_getElem? (i := 3426) (by decide +kernel), List.mem_of_getElem? (i := 3427) (by decide +kernel)⟩
theorem lw_p283 : lw_okq (⟨"DrawingHouseModel", "isSmall", "()Z"⟩, 176) := ⟨⟨by decide +kernel, by decide +kernel⟩, List.mem_of_getElem? (i := 2411) (by decide +kernel), List.mem_of_getElem? (i := 3433) (by decide +kernel), List.mem_of_getElem? (i := 3434) (by decide +kernel)⟩
theorem lw_p284 : lw_okq (⟨"DrawingHouseModel", "exactOrders", "()I"⟩, 176) := ⟨⟨by decide +kernel, by decide +kernel⟩, List.mem_of_getElem? (i := 2411) (by decide +kernel), List.mem_of_getElem? (i := 3437) (by decide +kernel), List.mem_of_getElem? (i := 3438) (by decide +kernel)⟩
theorem lw_p285 : lw_okq (⟨"DrawingHouseModel", "placeOf", "(I)I"⟩, 176) := ⟨⟨by decide +kernel, by decide +kernel⟩, List.mem_of_getElem? (i := 2411) (by decide +kernel), List.mem_of_getElem? (i := 3441) (by decide +kernel), List.mem_of_getElem? (i := 3442) (by decide +kernel)⟩
theorem lw_p286 : lw_okq (⟨"DrawingHouseModel", "weigh", "(II)V"⟩, 176) := ⟨⟨by decide +kernel, by decide +kernel⟩, List.mem_of_getElem? (i := 2411) (by decide +kernel), List.mem_of_getElem? (i := 3445) (by decide +kernel), List.mem_of_getElem? (i := 3446) (by decide +kernel)⟩
theorem lw_p287 : lw_okq (⟨"DrawingHouseModel", "weighed", "(II)I"⟩, 176) := ⟨⟨by decide +kernel, by decide +kernel⟩, List.mem_of_getElem? (i := 2411) (by decide +kernel), List.mem_of_getElem? (i := 3449) (by decide +kernel), List.mem_of_getElem? (i := 3450) (by decide +kernel)⟩
def lw_privs_18 : List (MethodName × Nat) := [(⟨"DrawingHouseModel", "greedyOrder", "()V"⟩, 176), (⟨"DrawingHouseModel", "placeIn", "(I)I"⟩, 176), (⟨"DrawingHouseModel", "from", "(I)I"⟩, 176), (⟨"DrawingHouseModel", "to", "(I)I"⟩, 176), (⟨"DrawingHouseModel", "cost", "(IIIZ)V"⟩, 176), (⟨"DrawingHouseModel", "apart", "(III)V"⟩, 176), (⟨"DrawingHouseModel", "rise", "()V"⟩, 176), (⟨"DrawingHouseModel", "up", "()I"⟩, 176), (⟨"DrawingHouseModel", "augment", "(III)Z"⟩, 176), (⟨"DrawingHouseModel", "list", "(I)V"⟩, 176), (⟨"DrawingHouseModel", "line", "(II)V"⟩, 176), (⟨"DrawingHouseModel", "isSmall", "()Z"⟩, 176), (⟨"DrawingHouseModel", "exactOrders", "()I"⟩, 176), (⟨"DrawingHouseModel", "placeOf", "(I)I"⟩, 176), (⟨"DrawingHouseModel", "weigh", "(II)V"⟩, 176), (⟨"DrawingHouseModel", "weighed", "(II)I"⟩, 176)]
theorem lw_r18 : ∀ q ∈ lw_privs_18, lw_okq q := List.forall_mem_cons.mpr ⟨lw_p272, List.forall_mem_cons.mpr ⟨lw_p273, List.forall_mem_cons.mpr ⟨lw_p274, List.forall_mem_cons.mpr ⟨lw_p275, List.forall_mem_cons.mpr ⟨lw_p276, List.forall_mem_cons.mpr ⟨lw_p277, List.forall_mem_cons.mpr ⟨lw_p278, List.forall_mem_cons.mpr ⟨lw_p279, List.forall_mem_cons.mpr ⟨lw_p280, List.forall_mem_cons.mpr ⟨lw_p281, List.forall_mem_cons.mpr ⟨lw_p282, List.forall_mem_cons.mpr ⟨lw_p283, List.forall_mem_cons.mpr ⟨lw_p284, List.forall_mem_cons.mpr ⟨lw_p285, List.forall_mem_cons.mpr ⟨lw_p286, List.forall_mem_cons.mpr ⟨lw_p287, fun _ h => absurd h List.not_mem_nil⟩⟩⟩⟩⟩⟩⟩⟩⟩⟩⟩⟩⟩⟩⟩⟩
theorem lw_p288 : lw_okq (⟨"DrawingHouseModel", "setOrder", "(II)V"⟩, 176) := ⟨⟨by decide +kernel, by decide +kernel⟩, List.mem_of_getElem? (i := 2411) (by decide +kernel), List.mem_of_getElem? (i := 3453) (by decide +kernel), List.mem_of_getElem? (i := 3454) (by decide +kernel)⟩
theorem lw_p289 : lw_okq (⟨"DrawingHouseModel", "sweeps", "()I"⟩, 176) := ⟨⟨by decide +kernel, by decide +kernel⟩, List.mem_of_getElem? (i := 2411) (by decide +kernel), List.mem_of_getElem? (i := 3457) (by decide +kernel), List.mem_of_getElem? (i := 3458) (by decide +kernel)⟩
theorem lw_p290 : lw_okq (⟨"DrawingHouseModel", "crossings", "()I"⟩, 176) := ⟨⟨by decide +kernel, by decide +kernel⟩, List.mem_of_getElem? (i := 2411) (by decide +kernel), List.mem_of_getElem? (i := 3461) (by decide +kernel), List.mem_of_getElem? (i := 3462) (by decide +kernel)⟩
theorem lw_p291 : lw_okq (⟨"DrawingHouseModel", "byMeans", "(IZ)V"⟩, 176) := ⟨⟨by decide +kernel, by decide +kernel⟩, List.mem_of_getElem? (i := 2411) (by decide +kernel), List.mem_of_getElem? (i := 3465) (by decide +kernel), List.mem_of_getElem? (i := 3466) (by decide +kernel)⟩
theorem lw_p292 : lw_okq (⟨"DrawingHouseModel", "across", "()V"⟩, 176) := ⟨⟨by decide +kernel, by decide +kernel⟩, List.mem_of_getElem? (i := 2411) (by decide +kernel), List.mem_of_getElem? (i := 3469) (by decide +kernel), List.mem_of_getElem? (i := 3470) (by decide +kernel)⟩
theorem lw_p293 : lw_okq (⟨"DrawingHouseModel", "halfOf", "(I)I"⟩, 176) := ⟨⟨by decide +kernel, by decide +kernel⟩, List.mem_of_getElem? (i := 2411) (by decide +kernel), List.mem_of_getElem? (i := 3473) (by decide +kernel), List.mem_of_getElem? (i := 3474) (by decide +kernel)⟩
theorem lw_p294 : lw_okq (⟨"DrawingHouseModel", "grid", "()I"⟩, 176) := ⟨⟨by decide +kernel, by decide +kernel⟩, List.mem_of_getElem? (i := 2411) (by decide +kernel), List.mem_of_getElem? (i := 3477) (by decide +kernel), List.mem_of_getElem? (i := 3478) (by decide +kernel)⟩
theorem lw_p295 : lw_okq (⟨"DrawingHouseModel", "apartNode", "()I"⟩, 176) := ⟨⟨by decide +kernel, by decide +kernel⟩, List.mem_of_getElem? (i := 2411) (by decide +kernel), List.mem_of_getElem? (i := 3481) (by decide +kernel), List.mem_of_getElem? (i := 3482) (by decide +kernel)⟩
theorem lw_p296 : lw_okq (⟨"DrawingHouseModel", "newLine", "(II)I"⟩, 176) := ⟨⟨by decide +kernel, by decide +kernel⟩, List.mem_of_getElem? (i := 2411) (by decide +kernel), List.mem_of_getElem? (i := 3485) (by decide +kernel), List.mem_of_getElem? (i := 3486) (by decide +kernel)⟩
theorem lw_p297 : lw_okq (⟨"DrawingHouseModel", "putAt", "(III)V"⟩, 176) := ⟨⟨by decide +kernel, by decide +kernel⟩, List.mem_of_getElem? (i := 2411) (by decide +kernel), List.mem_of_getElem? (i := 3489) (by decide +kernel), List.mem_of_getElem? (i := 3490) (by decide +kernel)⟩
theorem lw_p298 : lw_okq (⟨"DrawingHouseModel", "cut", "()Z"⟩, 176) := ⟨⟨by decide +kernel, by decide +kernel⟩, List.mem_of_getElem? (i := 2411) (by decide +kernel), List.mem_of_getElem? (i := 3493) (by decide +kernel), List.mem_of_getElem? (i := 3494) (by decide +kernel)⟩
theorem lw_p299 : lw_okq (⟨"DrawingHouseModel", "putAhead", "(III)V"⟩, 176) := ⟨⟨by decide +kernel, by decide +kernel⟩, List.mem_of_getElem? (i := 2411) (by decide +kernel), List.mem_of_getElem? (i := 3497) (by decide +kernel), List.mem_of_getElem? (i := 3498) (by decide +kernel)⟩
theorem lw_p300 : lw_okq (⟨"DrawingHouseModel", "putBehind", "(III)V"⟩, 176) := ⟨⟨by decide +kernel, by decide +kernel⟩, List.mem_of_getElem? (i := 2411) (by decide +kernel), List.mem_of_getElem? (i := 3501) (by decide +kernel), List.mem_of_getElem? (i := 3502) (by decide +kernel)⟩
theorem lw_p301 : lw_okq (⟨"DrawingHouseModel", "canonical", "(III)V"⟩, 176) := ⟨⟨by decide +kernel, by decide +kernel⟩, List.mem_of_getElem? (i := 2411) (by decide +kernel), List.mem_of_getElem? (i := 3505) (by decide +kernel), List.mem_of_getElem? (i := 3506) (by decide +kernel)⟩
theorem lw_p302 : lw_okq (⟨"DrawingHouseModel", "mayLeave", "(I)Z"⟩, 176) := ⟨⟨by decide +kernel, by decide +kernel⟩, List.mem_of_getElem? (i := 2411) (by decide +kernel), List.mem_of_getElem? (i := 3509) (by decide +kernel), List.mem_of_getElem? (i := 3510) (by decide +kernel)⟩
theorem lw_p303 : lw_okq (⟨"DrawingHouseModel", "reveal", "(II)V"⟩, 176) := ⟨⟨by decide +kernel, by decide +kernel⟩, List.mem_of_getElem? (i := 2411) (by decide +kernel), List.mem_of_getElem? (i := 3513) (by decide +kernel), List.mem_of_getElem? (i := 3514) (by decide +kernel)⟩
def lw_privs_19 : List (MethodName × Nat) := [(⟨"DrawingHouseModel", "setOrder", "(II)V"⟩, 176), (⟨"DrawingHouseModel", "sweeps", "()I"⟩, 176), (⟨"DrawingHouseModel", "crossings", "()I"⟩, 176), (⟨"DrawingHouseModel", "byMeans", "(IZ)V"⟩, 176), (⟨"DrawingHouseModel", "across", "()V"⟩, 176), (⟨"DrawingHouseModel", "halfOf", "(I)I"⟩, 176), (⟨"DrawingHouseModel", "grid", "()I"⟩, 176), (⟨"DrawingHouseModel", "apartNode", "()I"⟩, 176), (⟨"DrawingHouseModel", "newLine", "(II)I"⟩, 176), (⟨"DrawingHouseModel", "putAt", "(III)V"⟩, 176), (⟨"DrawingHouseModel", "cut", "()Z"⟩, 176), (⟨"DrawingHouseModel", "putAhead", "(III)V"⟩, 176), (⟨"DrawingHouseModel", "putBehind", "(III)V"⟩, 176), (⟨"DrawingHouseModel", "canonical", "(III)V"⟩, 176), (⟨"DrawingHouseModel", "mayLeave", "(I)Z"⟩, 176), (⟨"DrawingHouseModel", "reveal", "(II)V"⟩, 176)]
theorem lw_r19 : ∀ q ∈ lw_privs_19, lw_okq q := List.forall_mem_cons.mpr ⟨lw_p288, List.forall_mem_cons.mpr ⟨lw_p289, List.forall_mem_cons.mpr ⟨lw_p290, List.forall_mem_cons.mpr ⟨lw_p291, List.forall_mem_cons.mpr ⟨lw_p292, List.forall_mem_cons.mpr ⟨lw_p293, List.forall_mem_cons.mpr ⟨lw_p294, List.forall_mem_cons.mpr ⟨lw_p295, List.forall_mem_cons.mpr ⟨lw_p296, List.forall_mem_cons.mpr ⟨lw_p297, List.forall_mem_cons.mpr ⟨lw_p298, List.forall_mem_cons.mpr ⟨lw_p299, List.forall_mem_cons.mpr ⟨lw_p300, List.forall_mem_cons.mpr ⟨lw_p301, List.forall_mem_cons.mpr ⟨lw_p302, List.forall_mem_cons.mpr ⟨lw_p303, fun _ h => absurd h List.not_mem_nil⟩⟩⟩⟩⟩⟩⟩⟩⟩⟩⟩⟩⟩⟩⟩⟩
theorem lw_p304 : lw_okq (⟨"DrawingHouseModel", "shift", "()V"⟩, 176) := ⟨⟨by decide +kernel, by decide +kernel⟩, List.mem_of_getElem? (i := 2411) (by decide +kernel), List.mem_of_getElem? (i := 3517) (by decide +kernel), List.mem_of_getElem? (i := 3518) (by decide +kernel)⟩
theorem lw_p305 : lw_okq (⟨"DrawingHouseModel", "move", "(II)V"⟩, 176) := ⟨⟨by decide +kernel, by decide +kernel⟩, List.mem_of_getElem? (i := 2411) (by decide +kernel), List.mem_of_getElem? (i := 3521) (by decide +kernel), List.mem_of_getElem? (i := 3522) (by decide +kernel)⟩
theorem lw_p306 : lw_okq (⟨"DrawingHouseModel", "bars", "(I)I"⟩, 176) := ⟨⟨by decide +kernel, by decide +kernel⟩, List.mem_of_getElem? (i := 2411) (by decide +kernel), List.mem_of_getElem? (i := 3525) (by decide +kernel), List.mem_of_getElem? (i := 3526) (by decide +kernel)⟩
theorem lw_p307 : lw_okq (⟨"DrawingHouseModel", "stOrder", "()V"⟩, 176) := ⟨⟨by decide +kernel, by decide +kernel⟩, List.mem_of_getElem? (i := 2411) (by decide +kernel), List.mem_of_getElem? (i := 3529) (by decide +kernel), List.mem_of_getElem? (i := 3530) (by decide +kernel)⟩
theorem lw_p308 : lw_okq (⟨"DrawingHouseModel", "insert", "(I)V"⟩, 176) := ⟨⟨by decide +kernel, by decide +kernel⟩, List.mem_of_getElem? (i := 2411) (by decide +kernel), List.mem_of_getElem? (i := 3533) (by decide +kernel), List.mem_of_getElem? (i := 3534) (by decide +kernel)⟩
theorem lw_p309 : lw_okq (⟨"DrawingHouseModel", "rowPlace", "(I)I"⟩, 176) := ⟨⟨by decide +kernel, by decide +kernel⟩, List.mem_of_getElem? (i := 2411) (by decide +kernel), List.mem_of_getElem? (i := 3537) (by decide +kernel), List.mem_of_getElem? (i := 3538) (by decide +kernel)⟩
theorem lw_p310 : lw_okq (⟨"DrawingHouseModel", "low", "(I)I"⟩, 176) := ⟨⟨by decide +kernel, by decide +kernel⟩, List.mem_of_getElem? (i := 2411) (by decide +kernel), List.mem_of_getElem? (i := 3541) (by decide +kernel), List.mem_of_getElem? (i := 3542) (by decide +kernel)⟩
theorem lw_p311 : lw_okq (⟨"DrawingHouseModel", "dart", "(I)I"⟩, 176) := ⟨⟨by decide +kernel, by decide +kernel⟩, List.mem_of_getElem? (i := 2411) (by decide +kernel), List.mem_of_getElem? (i := 3545) (by decide +kernel), List.mem_of_getElem? (i := 3546) (by decide +kernel)⟩
theorem lw_p312 : lw_okq (⟨"DrawingHouseModel", "middle", "(I)V"⟩, 176) := ⟨⟨by decide +kernel, by decide +kernel⟩, List.mem_of_getElem? (i := 2411) (by decide +kernel), List.mem_of_getElem? (i := 3550) (by decide +kernel), List.mem_of_getElem? (i := 3551) (by decide +kernel)⟩
theorem lw_p313 : lw_okq (⟨"DrawingHouseModel", "barX", "(I)I"⟩, 176) := ⟨⟨by decide +kernel, by decide +kernel⟩, List.mem_of_getElem? (i := 2411) (by decide +kernel), List.mem_of_getElem? (i := 3554) (by decide +kernel), List.mem_of_getElem? (i := 3555) (by decide +kernel)⟩
theorem lw_p314 : lw_okq (⟨"DrawingHouseModel", "tree", "(I)I"⟩, 176) := ⟨⟨by decide +kernel, by decide +kernel⟩, List.mem_of_getElem? (i := 2411) (by decide +kernel), List.mem_of_getElem? (i := 3559) (by decide +kernel), List.mem_of_getElem? (i := 3560) (by decide +kernel)⟩
theorem lw_p315 : lw_okq (⟨"DrawingHouseModel", "hangs", "(II)V"⟩, 176) := ⟨⟨by decide +kernel, by decide +kernel⟩, List.mem_of_getElem? (i := 2411) (by decide +kernel), List.mem_of_getElem? (i := 3563) (by decide +kernel), List.mem_of_getElem? (i := 3564) (by decide +kernel)⟩
theorem lw_p316 : lw_okq (⟨"DrawingHouseModel", "children", "(I)V"⟩, 176) := ⟨⟨by decide +kernel, by decide +kernel⟩, List.mem_of_getElem? (i := 2411) (by decide +kernel), List.mem_of_getElem? (i := 3567) (by decide +kernel), List.mem_of_getElem? (i := 3568) (by decide +kernel)⟩
theorem lw_p317 : lw_okq (⟨"DrawingHouseModel", "nearer", "(III)V"⟩, 176) := ⟨⟨by decide +kernel, by decide +kernel⟩, List.mem_of_getElem? (i := 2411) (by decide +kernel), List.mem_of_getElem? (i := 3571) (by decide +kernel), List.mem_of_getElem? (i := 3572) (by decide +kernel)⟩
theorem lw_p318 : lw_okq (⟨"DrawingHouseModel", "isUnder", "(II)Z"⟩, 176) := ⟨⟨by decide +kernel, by decide +kernel⟩, List.mem_of_getElem? (i := 2411) (by decide +kernel), List.mem_of_getElem? (i := 3575) (by decide +kernel), List.mem_of_getElem? (i := 3576) (by decide +kernel)⟩
theorem lw_p319 : lw_okq (⟨"DrawingHouseModel", "isAhead", "(III)Z"⟩, 176) := ⟨⟨by decide +kernel, by decide +kernel⟩, List.mem_of_getElem? (i := 2411) (by decide +kernel), List.mem_of_getElem? (i := 3579) (by decide +kernel), List.mem_of_getElem? (i := 3580) (by decide +kernel)⟩
def lw_privs_20 : List (MethodName × Nat) := [(⟨"DrawingHouseModel", "shift", "()V"⟩, 176), (⟨"DrawingHouseModel", "move", "(II)V"⟩, 176), (⟨"DrawingHouseModel", "bars", "(I)I"⟩, 176), (⟨"DrawingHouseModel", "stOrder", "()V"⟩, 176), (⟨"DrawingHouseModel", "insert", "(I)V"⟩, 176), (⟨"DrawingHouseModel", "rowPlace", "(I)I"⟩, 176), (⟨"DrawingHouseModel", "low", "(I)I"⟩, 176), (⟨"DrawingHouseModel", "dart", "(I)I"⟩, 176), (⟨"DrawingHouseModel", "middle", "(I)V"⟩, 176), (⟨"DrawingHouseModel", "barX", "(I)I"⟩, 176), (⟨"DrawingHouseModel", "tree", "(I)I"⟩, 176), (⟨"DrawingHouseModel", "hangs", "(II)V"⟩, 176), (⟨"DrawingHouseModel", "children", "(I)V"⟩, 176), (⟨"DrawingHouseModel", "nearer", "(III)V"⟩, 176), (⟨"DrawingHouseModel", "isUnder", "(II)Z"⟩, 176), (⟨"DrawingHouseModel", "isAhead", "(III)Z"⟩, 176)]
theorem lw_r20 : ∀ q ∈ lw_privs_20, lw_okq q := List.forall_mem_cons.mpr ⟨lw_p304, List.forall_mem_cons.mpr ⟨lw_p305, List.forall_mem_cons.mpr ⟨lw_p306, List.forall_mem_cons.mpr ⟨lw_p307, List.forall_mem_cons.mpr ⟨lw_p308, List.forall_mem_cons.mpr ⟨lw_p309, List.forall_mem_cons.mpr ⟨lw_p310, List.forall_mem_cons.mpr ⟨lw_p311, List.forall_mem_cons.mpr ⟨lw_p312, List.forall_mem_cons.mpr ⟨lw_p313, List.forall_mem_cons.mpr ⟨lw_p314, List.forall_mem_cons.mpr ⟨lw_p315, List.forall_mem_cons.mpr ⟨lw_p316, List.forall_mem_cons.mpr ⟨lw_p317, List.forall_mem_cons.mpr ⟨lw_p318, List.forall_mem_cons.mpr ⟨lw_p319, fun _ h => absurd h List.not_mem_nil⟩⟩⟩⟩⟩⟩⟩⟩⟩⟩⟩⟩⟩⟩⟩⟩
theorem lw_p320 : lw_okq (⟨"DrawingHouseModel", "areas", "(II)I"⟩, 176) := ⟨⟨by decide +kernel, by decide +kernel⟩, List.mem_of_getElem? (i := 2411) (by decide +kernel), List.mem_of_getElem? (i := 3583) (by decide +kernel), List.mem_of_getElem? (i := 3584) (by decide +kernel)⟩
theorem lw_p321 : lw_okq (⟨"DrawingHouseModel", "setBox", "(IIZIIII)V"⟩, 176) := ⟨⟨by decide +kernel, by decide +kernel⟩, List.mem_of_getElem? (i := 2411) (by decide +kernel), List.mem_of_getElem? (i := 3587) (by decide +kernel), List.mem_of_getElem? (i := 3588) (by decide +kernel)⟩
theorem lw_p322 : lw_okq (⟨"DrawingHouseModel", "gather", "(I)V"⟩, 176) := ⟨⟨by decide +kernel, by decide +kernel⟩, List.mem_of_getElem? (i := 2411) (by decide +kernel), List.mem_of_getElem? (i := 3591) (by decide +kernel), List.mem_of_getElem? (i := 3592) (by decide +kernel)⟩
theorem lw_p323 : lw_okq (⟨"DrawingHouseModel", "gatherOne", "(II)V"⟩, 176) := ⟨⟨by decide +kernel, by decide +kernel⟩, List.mem_of_getElem? (i := 2411) (by decide +kernel), List.mem_of_getElem? (i := 3595) (by decide +kernel), List.mem_of_getElem? (i := 3596) (by decide +kernel)⟩
theorem lw_p324 : lw_okq (⟨"DrawingHouseModel", "squares", "(IIIII)V"⟩, 176) := ⟨⟨by decide +kernel, by decide +kernel⟩, List.mem_of_getElem? (i := 2411) (by decide +kernel), List.mem_of_getElem? (i := 3599) (by decide +kernel), List.mem_of_getElem? (i := 3600) (by decide +kernel)⟩
theorem lw_p325 : lw_okq (⟨"DrawingHouseModel", "worst", "(IIIIII)V"⟩, 176) := ⟨⟨by decide +kernel, by decide +kernel⟩, List.mem_of_getElem? (i := 2411) (by decide +kernel), List.mem_of_getElem? (i := 3603) (by decide +kernel), List.mem_of_getElem? (i := 3604) (by decide +kernel)⟩
theorem lw_p326 : lw_okq (⟨"DrawingHouseModel", "ring", "(I)I"⟩, 176) := ⟨⟨by decide +kernel, by decide +kernel⟩, List.mem_of_getElem? (i := 2411) (by decide +kernel), List.mem_of_getElem? (i := 3607) (by decide +kernel), List.mem_of_getElem? (i := 3608) (by decide +kernel)⟩
theorem lw_p327 : lw_okq (⟨"DrawingHouseModel", "chordCrossings", "(I)I"⟩, 176) := ⟨⟨by decide +kernel, by decide +kernel⟩, List.mem_of_getElem? (i := 2411) (by decide +kernel), List.mem_of_getElem? (i := 3611) (by decide +kernel), List.mem_of_getElem? (i := 3612) (by decide +kernel)⟩
theorem lw_p328 : lw_okq (⟨"DrawingHouseModel", "putBest", "(II)V"⟩, 176) := ⟨⟨by decide +kernel, by decide +kernel⟩, List.mem_of_getElem? (i := 2411) (by decide +kernel), List.mem_of_getElem? (i := 3615) (by decide +kernel), List.mem_of_getElem? (i := 3616) (by decide +kernel)⟩
theorem lw_p329 : lw_okq (⟨"DrawingHouseModel", "forces", "(I)I"⟩, 176) := ⟨⟨by decide +kernel, by decide +kernel⟩, List.mem_of_getElem? (i := 2411) (by decide +kernel), List.mem_of_getElem? (i := 3619) (by decide +kernel), List.mem_of_getElem? (i := 3620) (by decide +kernel)⟩
theorem lw_p330 : lw_okq (⟨"DrawingHouseModel", "pull", "(II)V"⟩, 176) := ⟨⟨by decide +kernel, by decide +kernel⟩, List.mem_of_getElem? (i := 2411) (by decide +kernel), List.mem_of_getElem? (i := 3623) (by decide +kernel), List.mem_of_getElem? (i := 3624) (by decide +kernel)⟩
theorem lw_p331 : lw_okq (⟨"DrawingHouseModel", "matrix", "(I)I"⟩, 176) := ⟨⟨by decide +kernel, by decide +kernel⟩, List.mem_of_getElem? (i := 2411) (by decide +kernel), List.mem_of_getElem? (i := 3639) (by decide +kernel), List.mem_of_getElem? (i := 3640) (by decide +kernel)⟩
theorem lw_p332 : lw_okq (⟨"DrawingHouseModel", "fewest", "(I)I"⟩, 176) := ⟨⟨by decide +kernel, by decide +kernel⟩, List.mem_of_getElem? (i := 2411) (by decide +kernel), List.mem_of_getElem? (i := 3643) (by decide +kernel), List.mem_of_getElem? (i := 3644) (by decide +kernel)⟩
theorem lw_p333 : lw_okq (⟨"DrawingHouseModel", "keep", "(II)V"⟩, 176) := ⟨⟨by decide +kernel, by decide +kernel⟩, List.mem_of_getElem? (i := 2411) (by decide +kernel), List.mem_of_getElem? (i := 3647) (by decide +kernel), List.mem_of_getElem? (i := 3648) (by decide +kernel)⟩
theorem lw_p334 : lw_okq (⟨"DrawingHouseModel", "isDrawn", "(I)Z"⟩, 176) := ⟨⟨by decide +kernel, by decide +kernel⟩, List.mem_of_getElem? (i := 2411) (by decide +kernel), List.mem_of_getElem? (i := 3668) (by decide +kernel), List.mem_of_getElem? (i := 3669) (by decide +kernel)⟩
theorem lw_p335 : lw_okq (⟨"DrawingHouseModel", "px", "(I)I"⟩, 176) := ⟨⟨by decide +kernel, by decide +kernel⟩, List.mem_of_getElem? (i := 2411) (by decide +kernel), List.mem_of_getElem? (i := 3674) (by decide +kernel), List.mem_of_getElem? (i := 3675) (by decide +kernel)⟩
def lw_privs_21 : List (MethodName × Nat) := [(⟨"DrawingHouseModel", "areas", "(II)I"⟩, 176), (⟨"DrawingHouseModel", "setBox", "(IIZIIII)V"⟩, 176), (⟨"DrawingHouseModel", "gather", "(I)V"⟩, 176), (⟨"DrawingHouseModel", "gatherOne", "(II)V"⟩, 176), (⟨"DrawingHouseModel", "squares", "(IIIII)V"⟩, 176), (⟨"DrawingHouseModel", "worst", "(IIIIII)V"⟩, 176), (⟨"DrawingHouseModel", "ring", "(I)I"⟩, 176), (⟨"DrawingHouseModel", "chordCrossings", "(I)I"⟩, 176), (⟨"DrawingHouseModel", "putBest", "(II)V"⟩, 176), (⟨"DrawingHouseModel", "forces", "(I)I"⟩, 176), (⟨"DrawingHouseModel", "pull", "(II)V"⟩, 176), (⟨"DrawingHouseModel", "matrix", "(I)I"⟩, 176), (⟨"DrawingHouseModel", "fewest", "(I)I"⟩, 176), (⟨"DrawingHouseModel", "keep", "(II)V"⟩, 176), (⟨"DrawingHouseModel", "isDrawn", "(I)Z"⟩, 176), (⟨"DrawingHouseModel", "px", "(I)I"⟩, 176)]
theorem lw_r21 : ∀ q ∈ lw_privs_21, lw_okq q := List.forall_mem_cons.mpr ⟨lw_p320, List.forall_mem_cons.mpr ⟨lw_p321, List.forall_mem_cons.mpr ⟨lw_p322, List.forall_mem_cons.mpr ⟨lw_p323, List.forall_mem_cons.mpr ⟨lw_p324, List.forall_mem_cons.mpr ⟨lw_p325, List.forall_mem_cons.mpr ⟨lw_p326, List.forall_mem_cons.mpr ⟨lw_p327, List.forall_mem_cons.mpr ⟨lw_p328, List.forall_mem_cons.mpr ⟨lw_p329, List.forall_mem_cons.mpr ⟨lw_p330, List.forall_mem_cons.mpr ⟨lw_p331, List.forall_mem_cons.mpr ⟨lw_p332, List.forall_mem_cons.mpr ⟨lw_p333, List.forall_mem_cons.mpr ⟨lw_p334, List.forall_mem_cons.mpr ⟨lw_p335, fun _ h => absurd h List.not_mem_nil⟩⟩⟩⟩⟩⟩⟩⟩⟩⟩⟩⟩⟩⟩⟩⟩
theorem lw_p336 : lw_okq (⟨"DrawingHouseModel", "py", "(I)I"⟩, 176) := ⟨⟨by decide +kernel, by decide +kernel⟩, List.mem_of_getElem? (i := 2411) (by decide +kernel), List.mem_of_getElem? (i := 3678) (by decide +kernel), List.mem_of_getElem? (i := 3679) (by decide +kernel)⟩
theorem lw_p337 : lw_okq (⟨"DrawingHouseModel", "isBarred", "(III)Z"⟩, 176) := ⟨⟨by decide +kernel, by decide +kernel⟩, List.mem_of_getElem? (i := 2411) (by decide +kernel), List.mem_of_getElem? (i := 3683) (by decide +kernel), List.mem_of_getElem? (i := 3684) (by decide +kernel)⟩
theorem lw_p338 : lw_okq (⟨"DrawingHouseModel", "isInBox", "(III)Z"⟩, 176) := ⟨⟨by decide +kernel, by decide +kernel⟩, List.mem_of_getElem? (i := 2411) (by decide +kernel), List.mem_of_getElem? (i := 3687) (by decide +kernel), List.mem_of_getElem? (i := 3688) (by decide +kernel)⟩
theorem lw_p339 : lw_okq (⟨"DrawingHouseModel", "spread", "(I)V"⟩, 176) := ⟨⟨by decide +kernel, by decide +kernel⟩, List.mem_of_getElem? (i := 2411) (by decide +kernel), List.mem_of_getElem? (i := 3691) (by decide +kernel), List.mem_of_getElem? (i := 3692) (by decide +kernel)⟩
theorem lw_p340 : lw_okq (⟨"DrawingHouseModel", "reached", "(II)V"⟩, 176) := ⟨⟨by decide +kernel, by decide +kernel⟩, List.mem_of_getElem? (i := 2411) (by decide +kernel), List.mem_of_getElem? (i := 3695) (by decide +kernel), List.mem_of_getElem? (i := 3696) (by decide +kernel)⟩
theorem lw_p341 : lw_okq (⟨"DrawingHouseModel", "backFrom", "(II)V"⟩, 176) := ⟨⟨by decide +kernel, by decide +kernel⟩, List.mem_of_getElem? (i := 2411) (by decide +kernel), List.mem_of_getElem? (i := 3699) (by decide +kernel), List.mem_of_getElem? (i := 3700) (by decide +kernel)⟩
theorem lw_p342 : lw_okq (⟨"DrawingHouseModel", "bendsBecome", "(IIII)I"⟩, 176) := ⟨⟨by decide +kernel, by decide +kernel⟩, List.mem_of_getElem? (i := 2411) (by decide +kernel), List.mem_of_getElem? (i := 3709) (by decide +kernel), List.mem_of_getElem? (i := 3710) (by decide +kernel)⟩
theorem lw_p343 : lw_okq (⟨"DrawingHouseModel", "stepTo", "(II)I"⟩, 176) := ⟨⟨by decide +kernel, by decide +kernel⟩, List.mem_of_getElem? (i := 2411) (by decide +kernel), List.mem_of_getElem? (i := 3713) (by decide +kernel), List.mem_of_getElem? (i := 3714) (by decide +kernel)⟩
theorem lw_p344 : lw_okq (⟨"DrawingHouseModel", "finds", "(I)Z"⟩, 176) := ⟨⟨by decide +kernel, by decide +kernel⟩, List.mem_of_getElem? (i := 2411) (by decide +kernel), List.mem_of_getElem? (i := 3721) (by decide +kernel), List.mem_of_getElem? (i := 3722) (by decide +kernel)⟩
theorem lw_p345 : lw_okq (⟨"DrawingHouseModel", "pointsOf", "(I)I"⟩, 176) := ⟨⟨by decide +kernel, by decide +kernel⟩, List.mem_of_getElem? (i := 2411) (by decide +kernel), List.mem_of_getElem? (i := 3725) (by decide +kernel), List.mem_of_getElem? (i := 3726) (by decide +kernel)⟩
theorem lw_p346 : lw_okq (⟨"DrawingHouseModel", "ex", "(II)I"⟩, 176) := ⟨⟨by decide +kernel, by decide +kernel⟩, List.mem_of_getElem? (i := 2411) (by decide +kernel), List.mem_of_getElem? (i := 3729) (by decide +kernel), List.mem_of_getElem? (i := 3730) (by decide +kernel)⟩
theorem lw_p347 : lw_okq (⟨"DrawingHouseModel", "ey", "(II)I"⟩, 176) := ⟨⟨by decide +kernel, by decide +kernel⟩, List.mem_of_getElem? (i := 2411) (by decide +kernel), List.mem_of_getElem? (i := 3733) (by decide +kernel), List.mem_of_getElem? (i := 3734) (by decide +kernel)⟩
theorem lw_p348 : lw_okq (⟨"DrawingHouseModel", "meets", "(IIII)Z"⟩, 176) := ⟨⟨by decide +kernel, by decide +kernel⟩, List.mem_of_getElem? (i := 2411) (by decide +kernel), List.mem_of_getElem? (i := 3741) (by decide +kernel), List.mem_of_getElem? (i := 3742) (by decide +kernel)⟩
theorem lw_p349 : lw_okq (⟨"DrawingHouseModel", "crossAtShared", "(IIJJJJJJJJ)Z"⟩, 176) := ⟨⟨by decide +kernel, by decide +kernel⟩, List.mem_of_getElem? (i := 2411) (by decide +kernel), List.mem_of_getElem? (i := 3751) (by decide +kernel), List.mem_of_getElem? (i := 3752) (by decide +kernel)⟩
theorem lw_p350 : lw_okq (⟨"DrawingHouseModel", "isShared", "(IIJJ)Z"⟩, 176) := ⟨⟨by decide +kernel, by decide +kernel⟩, List.mem_of_getElem? (i := 2411) (by decide +kernel), List.mem_of_getElem? (i := 3760) (by decide +kernel), List.mem_of_getElem? (i := 3761) (by decide +kernel)⟩
theorem lw_p351 : lw_okq (⟨"DrawingHouseModel", "touch", "(II)Z"⟩, 176) := ⟨⟨by decide +kernel, by decide +kernel⟩, List.mem_of_getElem? (i := 2411) (by decide +kernel), List.mem_of_getElem? (i := 3767) (by decide +kernel), List.mem_of_getElem? (i := 3768) (by decide +kernel)⟩
def lw_privs_22 : List (MethodName × Nat) := [(⟨"DrawingHouseModel", "py", "(I)I"⟩, 176), (⟨"DrawingHouseModel", "isBarred", "(III)Z"⟩, 176), (⟨"DrawingHouseModel", "isInBox", "(III)Z"⟩, 176), (⟨"DrawingHouseModel", "spread", "(I)V"⟩, 176), (⟨"DrawingHouseModel", "reached", "(II)V"⟩, 176), (⟨"DrawingHouseModel", "backFrom", "(II)V"⟩, 176), (⟨"DrawingHouseModel", "bendsBecome", "(IIII)I"⟩, 176), (⟨"DrawingHouseModel", "stepTo", "(II)I"⟩, 176), (⟨"DrawingHouseModel", "finds", "(I)Z"⟩, 176), (⟨"DrawingHouseModel", "pointsOf", "(I)I"⟩, 176), (⟨"DrawingHouseModel", "ex", "(II)I"⟩, 176), (⟨"DrawingHouseModel", "ey", "(II)I"⟩, 176), (⟨"DrawingHouseModel", "meets", "(IIII)Z"⟩, 176), (⟨"DrawingHouseModel", "crossAtShared", "(IIJJJJJJJJ)Z"⟩, 176), (⟨"DrawingHouseModel", "isShared", "(IIJJ)Z"⟩, 176), (⟨"DrawingHouseModel", "touch", "(II)Z"⟩, 176)]
theorem lw_r22 : ∀ q ∈ lw_privs_22, lw_okq q := List.forall_mem_cons.mpr ⟨lw_p336, List.forall_mem_cons.mpr ⟨lw_p337, List.forall_mem_cons.mpr ⟨lw_p338, List.forall_mem_cons.mpr ⟨lw_p339, List.forall_mem_cons.mpr ⟨lw_p340, List.forall_mem_cons.mpr ⟨lw_p341, List.forall_mem_cons.mpr ⟨lw_p342, List.forall_mem_cons.mpr ⟨lw_p343, List.forall_mem_cons.mpr ⟨lw_p344, List.forall_mem_cons.mpr ⟨lw_p345, List.forall_mem_cons.mpr ⟨lw_p346, List.forall_mem_cons.mpr ⟨lw_p347, List.forall_mem_cons.mpr ⟨lw_p348, List.forall_mem_cons.mpr ⟨lw_p349, List.forall_mem_cons.mpr ⟨lw_p350, List.forall_mem_cons.mpr ⟨lw_p351, fun _ h => absurd h List.not_mem_nil⟩⟩⟩⟩⟩⟩⟩⟩⟩⟩⟩⟩⟩⟩⟩⟩
theorem lw_p352 : lw_okq (⟨"DrawingHouseModel", "areaOf", "()J"⟩, 176) := ⟨⟨by decide +kernel, by decide +kernel⟩, List.mem_of_getElem? (i := 2411) (by decide +kernel), List.mem_of_getElem? (i := 3773) (by decide +kernel), List.mem_of_getElem? (i := 3774) (by decide +kernel)⟩
theorem lw_p353 : lw_okq (⟨"DrawingHouseModel", "bounds", "()V"⟩, 176) := ⟨⟨by decide +kernel, by decide +kernel⟩, List.mem_of_getElem? (i := 2411) (by decide +kernel), List.mem_of_getElem? (i := 3777) (by decide +kernel), List.mem_of_getElem? (i := 3778) (by decide +kernel)⟩
theorem lw_p354 : lw_okq (⟨"DrawingHouseModel", "bound", "(II)V"⟩, 176) := ⟨⟨by decide +kernel, by decide +kernel⟩, List.mem_of_getElem? (i := 2411) (by decide +kernel), List.mem_of_getElem? (i := 3781) (by decide +kernel), List.mem_of_getElem? (i := 3782) (by decide +kernel)⟩
theorem lw_p355 : lw_okq (⟨"DrawingHouseModel", "leastTriangle", "()J"⟩, 176) := ⟨⟨by decide +kernel, by decide +kernel⟩, List.mem_of_getElem? (i := 2411) (by decide +kernel), List.mem_of_getElem? (i := 3785) (by decide +kernel), List.mem_of_getElem? (i := 3786) (by decide +kernel)⟩
theorem lw_p356 : lw_okq (⟨"DrawingHouseModel", "ofEdge", "(II)J"⟩, 176) := ⟨⟨by decide +kernel, by decide +kernel⟩, List.mem_of_getElem? (i := 2411) (by decide +kernel), List.mem_of_getElem? (i := 3789) (by decide +kernel), List.mem_of_getElem? (i := 3790) (by decide +kernel)⟩
theorem lw_p357 : lw_okq (⟨"DrawingHouseModel", "styleTokens", "(I)V"⟩, 176) := ⟨⟨by decide +kernel, by decide +kernel⟩, List.mem_of_getElem? (i := 2411) (by decide +kernel), List.mem_of_getElem? (i := 3797) (by decide +kernel), List.mem_of_getElem? (i := 3798) (by decide +kernel)⟩
theorem lw_p358 : lw_okq (⟨"DrawingHouseModel", "rule", "()V"⟩, 176) := ⟨⟨by decide +kernel, by decide +kernel⟩, List.mem_of_getElem? (i := 2411) (by decide +kernel), List.mem_of_getElem? (i := 3804) (by decide +kernel), List.mem_of_getElem? (i := 3805) (by decide +kernel)⟩
theorem lw_p359 : lw_okq (⟨"DrawingHouseModel", "word", "(Ljava/lang/String;)Z"⟩, 176) := ⟨⟨by decide +kernel, by decide +kernel⟩, List.mem_of_getElem? (i := 2411) (by decide +kernel), List.mem_of_getElem? (i := 3808) (by decide +kernel), List.mem_of_getElem? (i := 3809) (by decide +kernel)⟩
theorem lw_p360 : lw_okq (⟨"DrawingHouseModel", "test", "()Z"⟩, 176) := ⟨⟨by decide +kernel, by decide +kernel⟩, List.mem_of_getElem? (i := 2411) (by decide +kernel), List.mem_of_getElem? (i := 3814) (by decide +kernel), List.mem_of_getElem? (i := 3815) (by decide +kernel)⟩
theorem lw_p361 : lw_okq (⟨"DrawingHouseModel", "both", "()Z"⟩, 176) := ⟨⟨by decide +kernel, by decide +kernel⟩, List.mem_of_getElem? (i := 2411) (by decide +kernel), List.mem_of_getElem? (i := 3818) (by decide +kernel), List.mem_of_getElem? (i := 3819) (by decide +kernel)⟩
theorem lw_p362 : lw_okq (⟨"DrawingHouseModel", "oneTest", "()Z"⟩, 176) := ⟨⟨by decide +kernel, by decide +kernel⟩, List.mem_of_getElem? (i := 2411) (by decide +kernel), List.mem_of_getElem? (i := 3822) (by decide +kernel), List.mem_of_getElem? (i := 3823) (by decide +kernel)⟩
theorem lw_p363 : lw_okq (⟨"DrawingHouseModel", "styleOpen", "()V"⟩, 176) := ⟨⟨by decide +kernel, by decide +kernel⟩, List.mem_of_getElem? (i := 2411) (by decide +kernel), List.mem_of_getElem? (i := 3827) (by decide +kernel), List.mem_of_getElem? (i := 3828) (by decide +kernel)⟩
theorem lw_p364 : lw_okq (⟨"DrawingHouseModel", "styleSign", "(I)Z"⟩, 176) := ⟨⟨by decide +kernel, by decide +kernel⟩, List.mem_of_getElem? (i := 2411) (by decide +kernel), List.mem_of_getElem? (i := 3831) (by decide +kernel), List.mem_of_getElem? (i := 3832) (by decide +kernel)⟩
theorem lw_p365 : lw_okq (⟨"DrawingHouseModel", "styleNeed", "(I)V"⟩, 176) := ⟨⟨by decide +kernel, by decide +kernel⟩, List.mem_of_getElem? (i := 2411) (by decide +kernel), List.mem_of_getElem? (i := 3835) (by decide +kernel), List.mem_of_getElem? (i := 3836) (by decide +kernel)⟩
theorem lw_p366 : lw_okq (⟨"DrawingHouseModel", "sum", "()J"⟩, 176) := ⟨⟨by decide +kernel, by decide +kernel⟩, List.mem_of_getElem? (i := 2411) (by decide +kernel), List.mem_of_getElem? (i := 3839) (by decide +kernel), List.mem_of_getElem? (i := 3840) (by decide +kernel)⟩
theorem lw_p367 : lw_okq (⟨"DrawingHouseModel", "product", "()J"⟩, 176) := ⟨⟨by decide +kernel, by decide +kernel⟩, List.mem_of_getElem? (i := 2411) (by decide +kernel), List.mem_of_getElem? (i := 3843) (by decide +kernel), List.mem_of_getElem? (i := 3844) (by decide +kernel)⟩
def lw_privs_23 : List (MethodName × Nat) := [(⟨"DrawingHouseModel", "areaOf", "()J"⟩, 176), (⟨"DrawingHouseModel", "bounds", "()V"⟩, 176), (⟨"DrawingHouseModel", "bound", "(II)V"⟩, 176), (⟨"DrawingHouseModel", "leastTriangle", "()J"⟩, 176), (⟨"DrawingHouseModel", "ofEdge", "(II)J"⟩, 176), (⟨"DrawingHouseModel", "styleTokens", "(I)V"⟩, 176), (⟨"DrawingHouseModel", "rule", "()V"⟩, 176), (⟨"DrawingHouseModel", "word", "(Ljava/lang/String;)Z"⟩, 176), (⟨"DrawingHouseModel", "test", "()Z"⟩, 176), (⟨"DrawingHouseModel", "both", "()Z"⟩, 176), (⟨"DrawingHouseModel", "oneTest", "()Z"⟩, 176), (⟨"DrawingHouseModel", "styleOpen", "()V"⟩, 176), (⟨"DrawingHouseModel", "styleSign", "(I)Z"⟩, 176), (⟨"DrawingHouseModel", "styleNeed", "(I)V"⟩, 176), (⟨"DrawingHouseModel", "sum", "()J"⟩, 176), (⟨"DrawingHouseModel", "product", "()J"⟩, 176)]
theorem lw_r23 : ∀ q ∈ lw_privs_23, lw_okq q := List.forall_mem_cons.mpr ⟨lw_p352, List.forall_mem_cons.mpr ⟨lw_p353, List.forall_mem_cons.mpr ⟨lw_p354, List.forall_mem_cons.mpr ⟨lw_p355, List.forall_mem_cons.mpr ⟨lw_p356, List.forall_mem_cons.mpr ⟨lw_p357, List.forall_mem_cons.mpr ⟨lw_p358, List.forall_mem_cons.mpr ⟨lw_p359, List.forall_mem_cons.mpr ⟨lw_p360, List.forall_mem_cons.mpr ⟨lw_p361, List.forall_mem_cons.mpr ⟨lw_p362, List.forall_mem_cons.mpr ⟨lw_p363, List.forall_mem_cons.mpr ⟨lw_p364, List.forall_mem_cons.mpr ⟨lw_p365, List.forall_mem_cons.mpr ⟨lw_p366, List.forall_mem_cons.mpr ⟨lw_p367, fun _ h => absurd h List.not_mem_nil⟩⟩⟩⟩⟩⟩⟩⟩⟩⟩⟩⟩⟩⟩⟩⟩
theorem lw_p368 : lw_okq (⟨"DrawingHouseModel", "styleValue", "()J"⟩, 176) := ⟨⟨by decide +kernel, by decide +kernel⟩, List.mem_of_getElem? (i := 2411) (by decide +kernel), List.mem_of_getElem? (i := 3847) (by decide +kernel), List.mem_of_getElem? (i := 3848) (by decide +kernel)⟩
theorem lw_p369 : lw_okq (⟨"DrawingHouseModel", "nodeWord", "()I"⟩, 176) := ⟨⟨by decide +kernel, by decide +kernel⟩, List.mem_of_getElem? (i := 2411) (by decide +kernel), List.mem_of_getElem? (i := 3851) (by decide +kernel), List.mem_of_getElem? (i := 3852) (by decide +kernel)⟩
theorem lw_p370 : lw_okq (⟨"DrawingHouseModel", "edgeWord", "()I"⟩, 176) := ⟨⟨by decide +kernel, by decide +kernel⟩, List.mem_of_getElem? (i := 2411) (by decide +kernel), List.mem_of_getElem? (i := 3863) (by decide +kernel), List.mem_of_getElem? (i := 3864) (by decide +kernel)⟩
theorem lw_p371 : lw_okq (⟨"DrawingHouseModel", "ofNode", "(I)J"⟩, 176) := ⟨⟨by decide +kernel, by decide +kernel⟩, List.mem_of_getElem? (i := 2411) (by decide +kernel), List.mem_of_getElem? (i := 3874) (by decide +kernel), List.mem_of_getElem? (i := 3875) (by decide +kernel)⟩
theorem lw_p372 : lw_okq (⟨"DrawingHouseModel", "ofEdgeWord", "(I)J"⟩, 176) := ⟨⟨by decide +kernel, by decide +kernel⟩, List.mem_of_getElem? (i := 2411) (by decide +kernel), List.mem_of_getElem? (i := 3878) (by decide +kernel), List.mem_of_getElem? (i := 3879) (by decide +kernel)⟩
theorem lw_p373 : lw_okq (⟨"DrawingHouseModel", "comma", "()Z"⟩, 176) := ⟨⟨by decide +kernel, by decide +kernel⟩, List.mem_of_getElem? (i := 2411) (by decide +kernel), List.mem_of_getElem? (i := 3888) (by decide +kernel), List.mem_of_getElem? (i := 3889) (by decide +kernel)⟩
theorem lw_p374 : lw_okq (⟨"DrawingHouseModel", "prepare", "()V"⟩, 176) := ⟨⟨by decide +kernel, by decide +kernel⟩, List.mem_of_getElem? (i := 2411) (by decide +kernel), List.mem_of_getElem? (i := 3892) (by decide +kernel), List.mem_of_getElem? (i := 3893) (by decide +kernel)⟩
theorem lw_p375 : lw_okq (⟨"DrawingHouseModel", "writeGroup", "(I)V"⟩, 176) := ⟨⟨by decide +kernel, by decide +kernel⟩, List.mem_of_getElem? (i := 2411) (by decide +kernel), List.mem_of_getElem? (i := 3904) (by decide +kernel), List.mem_of_getElem? (i := 3905) (by decide +kernel)⟩
theorem lw_p376 : lw_okq (⟨"DrawingHouseModel", "write", "(Ljava/lang/String;)V"⟩, 176) := ⟨⟨by decide +kernel, by decide +kernel⟩, List.mem_of_getElem? (i := 2411) (by decide +kernel), List.mem_of_getElem? (i := 3909) (by decide +kernel), List.mem_of_getElem? (i := 3910) (by decide +kernel)⟩
theorem lw_p377 : lw_okq (⟨"DrawingHouseModel", "write", "(I)V"⟩, 176) := ⟨⟨by decide +kernel, by decide +kernel⟩, List.mem_of_getElem? (i := 2411) (by decide +kernel), List.mem_of_getElem? (i := 3913) (by decide +kernel), List.mem_of_getElem? (i := 3914) (by decide +kernel)⟩
theorem lw_p378 : lw_okq (⟨"DrawingHouseModel", "writeNode", "(I)V"⟩, 176) := ⟨⟨by decide +kernel, by decide +kernel⟩, List.mem_of_getElem? (i := 2411) (by decide +kernel), List.mem_of_getElem? (i := 3917) (by decide +kernel), List.mem_of_getElem? (i := 3918) (by decide +kernel)⟩
theorem lw_p379 : lw_okq (⟨"DrawingHouseModel", "writeName", "(II)V"⟩, 176) := ⟨⟨by decide +kernel, by decide +kernel⟩, List.mem_of_getElem? (i := 2411) (by decide +kernel), List.mem_of_getElem? (i := 3921) (by decide +kernel), List.mem_of_getElem? (i := 3922) (by decide +kernel)⟩
theorem lw_p380 : lw_okq (⟨"DrawingHouseModel", "writeNumber", "(I)V"⟩, 176) := ⟨⟨by decide +kernel, by decide +kernel⟩, List.mem_of_getElem? (i := 2411) (by decide +kernel), List.mem_of_getElem? (i := 3926) (by decide +kernel), List.mem_of_getElem? (i := 3927) (by decide +kernel)⟩
theorem lw_p381 : lw_okq (⟨"DrawingHouseModel", "writeEdges", "()V"⟩, 176) := ⟨⟨by decide +kernel, by decide +kernel⟩, List.mem_of_getElem? (i := 2411) (by decide +kernel), List.mem_of_getElem? (i := 3936) (by decide +kernel), List.mem_of_getElem? (i := 3937) (by decide +kernel)⟩
theorem lw_p382 : lw_okq (⟨"DrawingHouseModel", "writeDrawing", "()V"⟩, 176) := ⟨⟨by decide +kernel, by decide +kernel⟩, List.mem_of_getElem? (i := 2411) (by decide +kernel), List.mem_of_getElem? (i := 3943) (by decide +kernel), List.mem_of_getElem? (i := 3944) (by decide +kernel)⟩
theorem lw_p383 : lw_okq (⟨"DrawingHouseModel", "dotX", "(I)I"⟩, 176) := ⟨⟨by decide +kernel, by decide +kernel⟩, List.mem_of_getElem? (i := 2411) (by decide +kernel), List.mem_of_getElem? (i := 3955) (by decide +kernel), List.mem_of_getElem? (i := 3956) (by decide +kernel)⟩
def lw_privs_24 : List (MethodName × Nat) := [(⟨"DrawingHouseModel", "styleValue", "()J"⟩, 176), (⟨"DrawingHouseModel", "nodeWord", "()I"⟩, 176), (⟨"DrawingHouseModel", "edgeWord", "()I"⟩, 176), (⟨"DrawingHouseModel", "ofNode", "(I)J"⟩, 176), (⟨"DrawingHouseModel", "ofEdgeWord", "(I)J"⟩, 176), (⟨"DrawingHouseModel", "comma", "()Z"⟩, 176), (⟨"DrawingHouseModel", "prepare", "()V"⟩, 176), (⟨"DrawingHouseModel", "writeGroup", "(I)V"⟩, 176), (⟨"DrawingHouseModel", "write", "(Ljava/lang/String;)V"⟩, 176), (⟨"DrawingHouseModel", "write", "(I)V"⟩, 176), (⟨"DrawingHouseModel", "writeNode", "(I)V"⟩, 176), (⟨"DrawingHouseModel", "writeName", "(II)V"⟩, 176), (⟨"DrawingHouseModel", "writeNumber", "(I)V"⟩, 176), (⟨"DrawingHouseModel", "writeEdges", "()V"⟩, 176), (⟨"DrawingHouseModel", "writeDrawing", "()V"⟩, 176), (⟨"DrawingHouseModel", "dotX", "(I)I"⟩, 176)]
theorem lw_r24 : ∀ q ∈ lw_privs_24, lw_okq q := List.forall_mem_cons.mpr ⟨lw_p368, List.forall_mem_cons.mpr ⟨lw_p369, List.forall_mem_cons.mpr ⟨lw_p370, List.forall_mem_cons.mpr ⟨lw_p371, List.forall_mem_cons.mpr ⟨lw_p372, List.forall_mem_cons.mpr ⟨lw_p373, List.forall_mem_cons.mpr ⟨lw_p374, List.forall_mem_cons.mpr ⟨lw_p375, List.forall_mem_cons.mpr ⟨lw_p376, List.forall_mem_cons.mpr ⟨lw_p377, List.forall_mem_cons.mpr ⟨lw_p378, List.forall_mem_cons.mpr ⟨lw_p379, List.forall_mem_cons.mpr ⟨lw_p380, List.forall_mem_cons.mpr ⟨lw_p381, List.forall_mem_cons.mpr ⟨lw_p382, List.forall_mem_cons.mpr ⟨lw_p383, fun _ h => absurd h List.not_mem_nil⟩⟩⟩⟩⟩⟩⟩⟩⟩⟩⟩⟩⟩⟩⟩⟩
theorem lw_p384 : lw_okq (⟨"DrawingHouseModel", "dotY", "(I)I"⟩, 176) := ⟨⟨by decide +kernel, by decide +kernel⟩, List.mem_of_getElem? (i := 2411) (by decide +kernel), List.mem_of_getElem? (i := 3959) (by decide +kernel), List.mem_of_getElem? (i := 3960) (by decide +kernel)⟩
theorem lw_p385 : lw_okq (⟨"DrawingHouseModel", "dotLine", "(IIIII)V"⟩, 176) := ⟨⟨by decide +kernel, by decide +kernel⟩, List.mem_of_getElem? (i := 2411) (by decide +kernel), List.mem_of_getElem? (i := 3963) (by decide +kernel), List.mem_of_getElem? (i := 3964) (by decide +kernel)⟩
def lw_privs_25 : List (MethodName × Nat) := [(⟨"DrawingHouseModel", "dotY", "(I)I"⟩, 176), (⟨"DrawingHouseModel", "dotLine", "(IIIII)V"⟩, 176)]
theorem lw_r25 : ∀ q ∈ lw_privs_25, lw_okq q := List.forall_mem_cons.mpr ⟨lw_p384, List.forall_mem_cons.mpr ⟨lw_p385, fun _ h => absurd h List.not_mem_nil⟩⟩
def lw_privs : List (MethodName × Nat) := lw_privs_1 ++ (lw_privs_2 ++ (lw_privs_3 ++ (lw_privs_4 ++ (lw_privs_5 ++ (lw_privs_6 ++ (lw_privs_7 ++ (lw_privs_8 ++ (lw_privs_9 ++ (lw_privs_10 ++ (lw_privs_11 ++ (lw_privs_12 ++ (lw_privs_13 ++ (lw_privs_14 ++ (lw_privs_15 ++ (lw_privs_16 ++ (lw_privs_17 ++ (lw_privs_18 ++ (lw_privs_19 ++ (lw_privs_20 ++ (lw_privs_21 ++ (lw_privs_22 ++ (lw_privs_23 ++ (lw_privs_24 ++ (lw_privs_25))))))))))))))))))))))))
def lw_tbl : List Cond := k2_sels lw_privs ++ tables_1
theorem lw_privs_ok : ∀ q ∈ lw_privs, lw_okq q := by
  show ∀ q ∈ lw_privs_1 ++ (lw_privs_2 ++ (lw_privs_3 ++ (lw_privs_4 ++ (lw_privs_5 ++ (lw_privs_6 ++ (lw_privs_7 ++ (lw_privs_8 ++ (lw_privs_9 ++ (lw_privs_10 ++ (lw_privs_11 ++ (lw_privs_12 ++ (lw_privs_13 ++ (lw_privs_14 ++ (lw_privs_15 ++ (lw_privs_16 ++ (lw_privs_17 ++ (lw_privs_18 ++ (lw_privs_19 ++ (lw_privs_20 ++ (lw_privs_21 ++ (lw_privs_22 ++ (lw_privs_23 ++ (lw_privs_24 ++ (lw_privs_25)))))))))))))))))))))))), lw_okq q
  exact List.forall_mem_append.mpr ⟨lw_r1, List.forall_mem_append.mpr ⟨lw_r2, List.forall_mem_append.mpr ⟨lw_r3, List.forall_mem_append.mpr ⟨lw_r4, List.forall_mem_append.mpr ⟨lw_r5, List.forall_mem_append.mpr ⟨lw_r6, List.forall_mem_append.mpr ⟨lw_r7, List.forall_mem_append.mpr ⟨lw_r8, List.forall_mem_append.mpr ⟨lw_r9, List.forall_mem_append.mpr ⟨lw_r10, List.forall_mem_append.mpr ⟨lw_r11, List.forall_mem_append.mpr ⟨lw_r12, List.forall_mem_append.mpr ⟨lw_r13, List.forall_mem_append.mpr ⟨lw_r14, List.forall_mem_append.mpr ⟨lw_r15, List.forall_mem_append.mpr ⟨lw_r16, List.forall_mem_append.mpr ⟨lw_r17, List.forall_mem_append.mpr ⟨lw_r18, List.forall_mem_append.mpr ⟨lw_r19, List.forall_mem_append.mpr ⟨lw_r20, List.forall_mem_append.mpr ⟨lw_r21, List.forall_mem_append.mpr ⟨lw_r22, List.forall_mem_append.mpr ⟨lw_r23, List.forall_mem_append.mpr ⟨lw_r24, lw_r25⟩⟩⟩⟩⟩⟩⟩⟩⟩⟩⟩⟩⟩⟩⟩⟩⟩⟩⟩⟩⟩⟩⟩⟩
end
section
theorem lw_c1 {w : Cond} (h : w ∈ tables_1_1) : w ∈ lw_tbl := List.mem_append_right _ (List.mem_append_left _ h)
theorem lw_c2 {w : Cond} (h : w ∈ tables_1_2) : w ∈ lw_tbl := List.mem_append_right _ (List.mem_append_right _ (List.mem_append_left _ h))
theorem lw_c3 {w : Cond} (h : w ∈ tables_1_3) : w ∈ lw_tbl := List.mem_append_right _ (List.mem_append_right _ (List.mem_append_right _ (List.mem_append_left _ h)))
theorem lw_c4 {w : Cond} (h : w ∈ tables_1_4) : w ∈ lw_tbl := List.mem_append_right _ (List.mem_append_right _ (List.mem_append_right _ (List.mem_append_right _ (List.mem_append_left _ h))))
theorem lw_c5 {w : Cond} (h : w ∈ tables_1_5) : w ∈ lw_tbl := List.mem_append_right _ (List.mem_append_right _ (List.mem_append_right _ (List.mem_append_right _ (List.mem_append_right _ (List.mem_append_left _ h)))))
theorem lw_c6 {w : Cond} (h : w ∈ tables_1_6) : w ∈ lw_tbl := List.mem_append_right _ (List.mem_append_right _ (List.mem_append_right _ (List.mem_append_right _ (List.mem_append_right _ (List.mem_append_right _ (List.mem_append_left _ h))))))
theorem lw_c7 {w : Cond} (h : w ∈ tables_1_7) : w ∈ lw_tbl := List.mem_append_right _ (List.mem_append_right _ (List.mem_append_right _ (List.mem_append_right _ (List.mem_append_right _ (List.mem_append_right _ (List.mem_append_right _ (List.mem_append_left _ h)))))))
theorem lw_c8 {w : Cond} (h : w ∈ tables_1_8) : w ∈ lw_tbl := List.mem_append_right _ (List.mem_append_right _ (List.mem_append_right _ (List.mem_append_right _ (List.mem_append_right _ (List.mem_append_right _ (List.mem_append_right _ (List.mem_append_right _ (List.mem_append_left _ h))))))))
theorem lw_c9 {w : Cond} (h : w ∈ tables_1_9) : w ∈ lw_tbl := List.mem_append_right _ (List.mem_append_right _ (List.mem_append_right _ (List.mem_append_right _ (List.mem_append_right _ (List.mem_append_right _ (List.mem_append_right _ (List.mem_append_right _ (List.mem_append_right _ (List.mem_append_left _ h)))))))))
theorem lw_c10 {w : Cond} (h : w ∈ tables_1_10) : w ∈ lw_tbl := List.mem_append_right _ (List.mem_append_right _ (List.mem_append_right _ (List.mem_append_right _ (List.mem_append_right _ (List.mem_append_right _ (List.mem_append_right _ (List.mem_append_right _ (List.mem_append_right _ (List.mem_append_right _ (List.mem_append_left _ h))))))))))
theorem lw_c11 {w : Cond} (h : w ∈ tables_1_11) : w ∈ lw_tbl := List.mem_append_right _ (List.mem_append_right _ (List.mem_append_right _ (List.mem_append_right _ (List.mem_append_right _ (List.mem_append_right _ (List.mem_append_right _ (List.mem_append_right _ (List.mem_append_right _ (List.mem_append_right _ (List.mem_append_right _ (List.mem_append_left _ h)))))))))))
theorem lw_c12 {w : Cond} (h : w ∈ tables_1_12) : w ∈ lw_tbl := List.mem_append_right _ (List.mem_append_right _ (List.mem_append_right _ (List.mem_append_right _ (List.mem_append_right _ (List.mem_append_right _ (List.mem_append_right _ (List.mem_append_right _ (List.mem_append_right _ (List.mem_append_right _ (List.mem_append_right _ (List.mem_append_right _ (List.mem_append_left _ h))))))))))))
theorem lw_c13 {w : Cond} (h : w ∈ tables_1_13) : w ∈ lw_tbl := List.mem_append_right _ (List.mem_append_right _ (List.mem_append_right _ (List.mem_append_right _ (List.mem_append_right _ (List.mem_append_right _ (List.mem_append_right _ (List.mem_append_right _ (List.mem_append_right _ (List.mem_append_right _ (List.mem_append_right _ (List.mem_append_right _ (List.mem_append_right _ (List.mem_append_left _ h)))))))))))))
theorem lw_c14 {w : Cond} (h : w ∈ tables_1_14) : w ∈ lw_tbl := List.mem_append_right _ (List.mem_append_right _ (List.mem_append_right _ (List.mem_append_right _ (List.mem_append_right _ (List.mem_append_right _ (List.mem_append_right _ (List.mem_append_right _ (List.mem_append_right _ (List.mem_append_right _ (List.mem_append_right _ (List.mem_append_right _ (List.mem_append_right _ (List.mem_append_right _ (List.mem_append_left _ h))))))))))))))
theorem lw_c15 {w : Cond} (h : w ∈ tables_1_15) : w ∈ lw_tbl := List.mem_append_right _ (List.mem_append_right _ (List.mem_append_right _ (List.mem_append_right _ (List.mem_append_right _ (List.mem_append_right _ (List.mem_append_right _ (List.mem_append_right _ (List.mem_append_right _ (List.mem_append_right _ (List.mem_append_right _ (List.mem_append_right _ (List.mem_append_right _ (List.mem_append_right _ (List.mem_append_right _ (List.mem_append_left _ h)))))))))))))))
theorem lw_c16 {w : Cond} (h : w ∈ tables_1_16) : w ∈ lw_tbl := List.mem_append_right _ (List.mem_append_right _ (List.mem_append_right _ (List.mem_append_right _ (List.mem_append_right _ (List.mem_append_right _ (List.mem_append_right _ (List.mem_append_right _ (List.mem_append_right _ (List.mem_append_right _ (List.mem_append_right _ (List.mem_append_right _ (List.mem_append_right _ (List.mem_append_right _ (List.mem_append_right _ (List.mem_append_right _ (List.mem_append_left _ h))))))))))))))))
theorem lw_c17 {w : Cond} (h : w ∈ tables_1_17) : w ∈ lw_tbl := List.mem_append_right _ (List.mem_append_right _ (List.mem_append_right _ (List.mem_append_right _ (List.mem_append_right _ (List.mem_append_right _ (List.mem_append_right _ (List.mem_append_right _ (List.mem_append_right _ (List.mem_append_right _ (List.mem_append_right _ (List.mem_append_right _ (List.mem_append_right _ (List.mem_append_right _ (List.mem_append_right _ (List.mem_append_right _ (List.mem_append_right _ (h)))))))))))))))))
/-! the words: those of lw_tbl that a warmer table keeps -/
def lw_g : List Cond := lw_tbl.filter goodWord
theorem lw_gi {w : Cond} (h : w ∈ lw_tbl) (hg : goodWord w = true) : w ∈ lw_g := List.mem_filter.mpr ⟨h, hg⟩
theorem lw_gg {w : Cond} (h : w ∈ lw_g) : goodWord w = true := (List.mem_filter.mp h).2
theorem lw_gt {w : Cond} (h : w ∈ lw_g) : w ∈ lw_tbl := (List.mem_filter.mp h).1
theorem gd_c {c0 c1 : Cond} (h : c1 ∈ lw_g) : GoodIn (c0 :: lw_g) (c1 :: lw_g) := fun w hw =>
  (List.mem_cons.mp hw).elim (fun e => ⟨List.mem_cons_of_mem _ (e ▸ h), good_of_word (lw_gg (e ▸ h))⟩) (fun h2 => ⟨List.mem_cons_of_mem _ h2, good_of_word (lw_gg h2)⟩)
theorem gd_g {c1 : Cond} (h : c1 ∈ lw_g) : GoodIn lw_g (c1 :: lw_g) := fun w hw =>
  (List.mem_cons.mp hw).elim (fun e => ⟨e ▸ h, good_of_word (lw_gg (e ▸ h))⟩) (fun h2 => ⟨h2, good_of_word (lw_gg h2)⟩)
/-- links to members of nest mates: no word of a method's own, they ride in the world -/
def isNest : Cond → Bool
  | .methodLinkNest _ _ _ _ => true
  | .fieldLinkNest _ _ _ _ _ _ => true
  | .arrayOver (.object _) => true
  | _ => false
def lw_n : List Cond := lw_tbl.filter isNest
theorem lw_ni {w : Cond} (h : w ∈ lw_tbl) (hg : isNest w = true) : w ∈ lw_n := List.mem_filter.mpr ⟨h, hg⟩
def nst (U : State) : Prop := ∀ w ∈ lw_n, va_Nw w U
theorem nst_al {w : Cond} (h : isNest w = true) {s U : State} (hv : s.vm = U.vm) (h2 : va_Nw w s) : va_Nw w U := by
  cases w with
  | methodLinkNest a i x n => exact va_Nw.same rfl hv h2
  | fieldLinkNest a i b n d x => exact va_Nw.same rfl hv h2
  | arrayOver t =>
    cases t with
    | object C => exact va_AO.moved (u := s) (U := U) (by rw [hv]; exact Vm.Alike.refl _) h2
    | _ => simp [isNest] at h
  | _ => simp [isNest] at h
theorem nst_wa {w : Cond} (h : isNest w = true) {s U : State} (hW : s.WarmedH U.vm) (h2 : va_Nw w s) : va_Nw w U := by
  cases w with
  | methodLinkNest a i x n => exact va_Nw.warmM hW h2
  | fieldLinkNest a i b n d x => exact va_Nw.warmF hW h2
  | arrayOver t =>
    cases t with
    | object C => exact va_AO.moved (u := s) (U := U) hW.alike h2
    | _ => simp [isNest] at h
  | _ => simp [isNest] at h
theorem nst.same {u U : State} (h : u.vm = U.vm) (hn : nst u) : nst U := fun w hw => nst_al (List.mem_filter.mp hw).2 h (hn w hw)
theorem nst.warm {s U : State} (hW : s.WarmedH U.vm) (hn : nst s) : nst U := fun w hw => nst_wa (List.mem_filter.mp hw).2 hW (hn w hw)
/-- what a method's body knows all along -/
def cx (p : Program) (s : State) (m : MethodId) (args : Array Value) (meth : Method) (c : Code) (cc : ByteArray) (nL : Nat) (ret : Option FieldType) (own nm : String) : Prop :=
  p.tables.exec = Jvm.exec ∧ c.code = cc ∧ c.maxLocals = nL ∧ s.vm.findClass own = some m.cls ∧ (∀ w ∈ lw_g, w.before args s = true) ∧ meth.sig.returnType = ret ∧ meth.locks = false ∧ meth.name = nm
/-- the world ahead of a method, and behind it -/
def wp (D : va_G) (cl : List vw_C) (tys : List (ClassId × FieldType)) (sz : Nat) (ws : va_W) (U : State) : Prop := U.heap.size = sz ∧ va_P D cl ws U.heap ∧ va_K D cl tys U ∧ va_D (fun _ => True) ws ∧ nst U
def wq (D : va_G) (cl : List vw_C) (tys : List (ClassId × FieldType)) (A : Nat → Prop) (ws : va_W) (t : State) : Prop := va_P D cl ws t.heap ∧ va_K D cl tys t ∧ va_D A ws
/-- a world in segments -/
def cat : List va_W → va_W
  | [] => []
  | x :: r => x ++ cat r
theorem cat_app : ∀ (a b : List va_W), cat (a ++ b) = cat a ++ cat b
  | [], b => rfl
  | x :: a, b => by show x ++ cat (a ++ b) = (x ++ cat a) ++ cat b; rw [cat_app a b, List.append_assoc]
theorem cat_push (a : List va_W) (x : va_W) : cat (a ++ [x]) = cat a ++ x := by rw [cat_app]; show cat a ++ (x ++ []) = _; rw [List.append_nil]
theorem cat_perm {a b : List va_W} (h : a.Perm b) : (cat a).Perm (cat b) := by
  induction h with
  | nil => exact List.Perm.refl _
  | cons x _ ih => exact List.Perm.append_left x ih
  | swap x y l => show (y ++ (x ++ cat l)).Perm (x ++ (y ++ cat l)); rw [← List.append_assoc, ← List.append_assoc]; exact List.Perm.append_right _ List.perm_append_comm
  | trans _ _ h1 h2 => exact h1.trans h2
theorem vP_iff {D : va_G} {cl : List vw_C} {ws : va_W} {H : Heap} : va_P D cl ws H ↔ ∀ q ∈ ws, va_at D cl q H :=
  ⟨fun h q hq => by obtain ⟨i, hi⟩ := List.mem_iff_getElem?.mp hq; exact h i q hi, fun h k q hk => h q (List.mem_of_getElem? hk)⟩
theorem vD_iff {A : Nat → Prop} {ws : va_W} : va_D A ws ↔ (ws.map (fun q => q.1)).Nodup ∧ ∀ q ∈ ws, A q.1 := by
  constructor
  · intro h
    refine ⟨?_, fun q hq => by obtain ⟨i, hi⟩ := List.mem_iff_getElem?.mp hq; exact h.2 i q hi⟩
    refine List.pairwise_iff_getElem.mpr (fun i j hi hj hij e => ?_)
    rw [List.length_map] at hi hj
    rw [List.getElem_map, List.getElem_map] at e
    have := h.1 i j _ _ (List.getElem?_eq_getElem hi) (List.getElem?_eq_getElem hj) e
    omega
  · intro h
    refine ⟨fun i j x y hi hj e => ?_, fun k q hk => h.2 q (List.mem_of_getElem? hk)⟩
    obtain ⟨hi1, hi2⟩ := List.getElem?_eq_some_iff.mp hi
    obtain ⟨hj1, hj2⟩ := List.getElem?_eq_some_iff.mp hj
    have key := List.pairwise_iff_getElem.mp h.1
    rcases Nat.lt_trichotomy i j with q | q | q
    · exact absurd (by rw [List.getElem_map, List.getElem_map, hi2, hj2]; exact e) (key i j (by rw [List.length_map]; exact hi1) (by rw [List.length_map]; exact hj1) q)
    · exact q
    · exact absurd (by rw [List.getElem_map, List.getElem_map, hi2, hj2]; exact e.symm) (key j i (by rw [List.length_map]; exact hj1) (by rw [List.length_map]; exact hi1) q)
theorem vP_perm {D : va_G} {cl : List vw_C} {a b : va_W} {H : Heap} (h : a.Perm b) (hP : va_P D cl a H) : va_P D cl b H := vP_iff.mpr (fun q hq => vP_iff.mp hP q (h.mem_iff.mpr hq))
theorem vD_perm {A : Nat → Prop} {a b : va_W} (h : a.Perm b) (hD : va_D A a) : va_D A b := vD_iff.mpr ⟨(h.map _).nodup_iff.mp (vD_iff.mp hD).1, fun q hq => (vD_iff.mp hD).2 q (h.mem_iff.mpr hq)⟩
/-- segments by their places -/
def sg_at (sg : List va_W) (is : List Nat) : List va_W := is.map (fun i => sg.getD i [])
theorem sg_range (sg : List va_W) : sg_at sg (List.range sg.length) = sg := by
  refine List.ext_getElem? (fun i => ?_)
  unfold sg_at
  rw [List.getElem?_map]
  by_cases h : i < sg.length
  · rw [List.getElem?_range h, List.getElem?_eq_getElem h]; simp [List.getD, h]
  · rw [List.getElem?_eq_none (by rw [List.length_range]; omega), List.getElem?_eq_none (by omega)]; rfl
theorem sg_perm (sg : List va_W) (is : List Nat) (h : is.isPerm (List.range sg.length) = true) : (cat sg).Perm (cat (sg_at sg is)) := by
  have h1 : is.Perm (List.range sg.length) := List.isPerm_iff.mp h
  have h2 : (sg_at sg is).Perm (sg_at sg (List.range sg.length)) := h1.map _
  rw [sg_range] at h2
  exact cat_perm h2.symm
theorem sg_split (sg : List va_W) (isC isR : List Nat) (h : (isR ++ isC).isPerm (List.range sg.length) = true) : (cat sg).Perm (cat (sg_at sg isR) ++ cat (sg_at sg isC)) := by
  have h2 := sg_perm sg (isR ++ isC) h
  have e : sg_at sg (isR ++ isC) = sg_at sg isR ++ sg_at sg isC := by unfold sg_at; rw [List.map_append]
  rw [e, cat_app] at h2
  exact h2
theorem wp_places (a b : va_W) : (List.range b.length).map (fun i => (a ++ b)[a.length + i]?) = b.map some := by
  refine List.ext_getElem? (fun i => ?_)
  rw [List.getElem?_map, List.getElem?_map]
  by_cases h : i < b.length
  · rw [List.getElem?_range h, List.getElem?_eq_getElem h]
    show some ((a ++ b)[a.length + i]?) = some (some b[i])
    rw [List.getElem?_append_right (by omega)]
    simp [h]
  · rw [List.getElem?_eq_none (by rw [List.length_range]; omega), List.getElem?_eq_none (by omega)]; rfl
theorem wp_placesL (a b : va_W) : (List.range a.length).map (fun i => (a ++ b)[i]?) = a.map some := by
  refine List.ext_getElem? (fun i => ?_)
  rw [List.getElem?_map, List.getElem?_map]
  by_cases h : i < a.length
  · rw [List.getElem?_range h, List.getElem?_eq_getElem h]
    show some ((a ++ b)[i]?) = some (some a[i])
    rw [List.getElem?_append_left h, List.getElem?_eq_getElem h]
  · rw [List.getElem?_eq_none (by rw [List.length_range]; omega), List.getElem?_eq_none (by omega)]; rfl
theorem nd_iff : ∀ (l : List Nat), l.Nodup → va_nd l = true
  | [], _ => rfl
  | a :: l, h => by
    have h2 := List.nodup_cons.mp h
    simp only [va_nd, Bool.and_eq_true, decide_eq_true_eq]
    exact ⟨h2.1, nd_iff l h2.2⟩
theorem nd_shift (n k : Nat) : va_nd ((List.range n).map (fun i => k + i)) = true := nd_iff _ (List.pairwise_map.mpr (List.nodup_range.imp (fun h e => h (by omega))))
/-- contracts: nothing, an int, a long is answered -/
abbrev Cv {S : Type} (l : Launch) (y : MethodName) (z : List Cond) (rm : Room) (D : va_G) (cl : List vw_C) (tys : List (ClassId × FieldType)) (av : List Value) (sg : List va_W) (post : S → Prop) (sf : S → List va_W) (mc ms : Nat) : Prop :=
  ∀ sz : Nat, Met l y z rm (va_Pc av (wp D cl tys sz (cat sg))) (va_Qv post (fun u t => wq D cl tys (va_A (cat sg) sz) (cat (sf u)) t) (va_A (cat sg) sz)) mc ms (va_A (cat sg) sz)
abbrev Ci {S : Type} (l : Launch) (y : MethodName) (z : List Cond) (rm : Room) (D : va_G) (cl : List vw_C) (tys : List (ClassId × FieldType)) (av : List Value) (sg : List va_W) (post : Int32 → S → Prop) (sf : S → List va_W) (mc ms : Nat) : Prop :=
  ∀ sz : Nat, Met l y z rm (va_Pc av (wp D cl tys sz (cat sg))) (va_Qi post (fun u t => wq D cl tys (va_A (cat sg) sz) (cat (sf u)) t) (va_A (cat sg) sz)) mc ms (va_A (cat sg) sz)
theorem wp_blind {D : va_G} {cl : List vw_C} {tys : List (ClassId × FieldType)} {sz : Nat} {ws : va_W} {av : List Value} : FrameBlind (va_Pc av (wp D cl tys sz ws)) :=
  fun a U g mk q => by obtain ⟨q0, q1, qP, qK, qD, qN⟩ := q; exact ⟨q0, q1, qP, va_K.moved (u := U) (U := U.calling g mk a) (Vm.Alike.refl U.vm) qK, qD, nst.same (u := U) (U := U.calling g mk a) rfl qN⟩
section KK
variable {p : Program} {l : Launch} {e : Env} {R : Room} {s : State} {m : MethodId} {args : Array Value} {below : List Frame} {meth : Method} {c : Code} {H : Heap} {locs : List Loc} {cells slots : Nat} {Q : State → Prop}
  {D : va_G} {cl : List vw_C} {tys : List (ClassId × FieldType)} {ws : va_W} {A : Nat → Prop} {cc : ByteArray} {nL : Nat} {ret : Option FieldType} {own nm : String} {pc : Nat} {ls : Array Slot} {rest : List Value} {a : Nat}
theorem k_met {y : MethodName} {z : List Cond} {rm : Room} {maxL mc ms : Nat} {av : List Value} {Bp : State → Prop} {Qc : Array Value → State → Outcome → State → Prop} {free : Addr → Prop}
    (hy : plainName y.cls = true) (hz : z = Cond.code y cc maxL ret :: lw_g) (hn : (lg_sl av).length ≤ maxL)
    (body : ∀ (p : Program) (e : Env) (s : State) (m : MethodId) (below : List Frame) (meth : Method) (c : Code) (ls : Array Slot), cx p s m av.toArray meth c cc maxL ret y.cls y.name → lv_has ls maxL (lv_args 0 av) → Bp s → W p l e rm s m av.toArray below meth c s.heap [] 0 0 (MQ below Qc av.toArray s mc ms free) (F0 m 0 ls [])) :
    Met l y z rm (va_Pc av Bp) Qc mc ms free := by
  refine Met.ofW (cc := cc) (maxL := maxL) (ret := ret) hy hz ?_
  intro p e s m args below meth c s₁ B hml hv
  obtain ⟨rfl, hB⟩ := hv
  have hts := atoms_spec (ws := z) B.pre
  have hts2 : ∀ w ∈ lw_g, w.before av.toArray s = true := fun w hw => hts w (by rw [hz]; exact List.mem_cons_of_mem _ hw)
  have hl := lv_entry av (n := maxL) hn
  rw [lg_entry_eq]
  exact body p e s m below meth c _ ⟨B.exec, B.bytes, hml, findClass_of_methodNamed B.named, hts2, B.returns, B.notSynchronized, (name_of_methodNamed B.named B.method).1⟩ hl hB
theorem k_get (X : cx p s m args meth c cc nL ret own nm) (hK : va_K D cl tys s) (hP : va_P D cl ws H) (q0 : Nat) {ci : Nat} {fs : List Value} (he : ws[q0]? = some (a, .inr (ci, fs))) {C : String} {T : u_T} {N : Nat} (hc : cl[ci]? = some (C, T, N)) (hi : ∀ w ∈ u_ws C T N, w ∈ lw_g) (k : Nat) (hk : k < N) {index : Nat}
    (hl : Cond.fieldLink own index C (T k).2.1 (T k).2.2.1 ∈ lw_g) (ho : (T k).1 = C) {v : Value} (hv : fs[k]? = some v) (hdg : decode cc pc = .ok (.getfield index, 3)) (kk : W p l e R s m args below meth c H locs cells slots Q (F0 m (pc + 3) ls (v :: rest))) : W p l e R s m args below meth c H locs cells slots Q (F0 m pc ls (.ref a :: rest)) :=
  va_get X.1 X.2.1 X.2.2.2.2.1 hi X.2.2.2.1 hK hP q0 he hc k hk (X.2.2.2.2.1 _ hl) (fun x h => by rw [ho] at h; exact h) hv hdg kk
theorem k_put (X : cx p s m args meth c cc nL ret own nm) (hK : va_K D cl tys s) (hP : va_P D cl ws H) (hD : va_D A ws) (hS : va_S A s.heap H locs) (q0 : Nat) {ci : Nat} {fs : List Value} (he : ws[q0]? = some (a, .inr (ci, fs))) {C : String} {T : u_T} {N : Nat} (hc : cl[ci]? = some (C, T, N)) (hi : ∀ w ∈ u_ws C T N, w ∈ lw_g) (ty0 : Nat → FieldType) (hty : ∀ k, k < N → parseFieldDescriptor (T k).2.2.1 = some (ty0 k)) (hnm : ∀ a, a < N → ∀ b, b < N → a ≠ b → (T a).2.1 ≠ (T b).2.1) (k : Nat) (hk : k < N) {index : Nat}
    (hl : Cond.fieldLink own index C (T k).2.1 (T k).2.2.1 ∈ lw_g) (ho : (T k).1 = C) (hfin : (T k).2.2.2 = false ∨ (nm = "<init>" ∧ C = own)) {v : Value} (hn : narrow (ty0 k) v = v) (hfit : fits (ty0 k) v = true) (hlen : k < fs.length) (hdg : decode cc pc = .ok (.putfield index, 3))
    (kk : ∀ (H1 : Heap) (locs1 : List Loc), va_P D cl (ws.set q0 (a, .inr (ci, fs.set k v))) H1 → va_D A (ws.set q0 (a, .inr (ci, fs.set k v))) → va_S A s.heap H1 locs1 → W p l e R s m args below meth c H1 locs1 cells slots Q (F0 m (pc + 3) ls rest)) : W p l e R s m args below meth c H locs cells slots Q (F0 m pc ls (v :: .ref a :: rest)) := by
  have hs2 : ∀ x, s.fieldFound? (T k).1 (T k).2.1 (T k).2.2.1 = some x → s.fieldFound? C (T k).2.1 (T k).2.2.1 = some x := fun x h => by rw [ho] at h; exact h
  by_cases hf : (T k).2.2.2 = false
  · exact va_put X.1 X.2.1 X.2.2.2.2.1 hi ty0 hty hnm X.2.2.2.1 hK hP hD hS q0 he hc k hk (X.2.2.2.2.1 _ hl) hs2 hf (hty k hk) hn hfit hlen hdg kk
  · have h2 := hfin.resolve_left hf
    exact va_putF X.1 X.2.1 X.2.2.2.2.1 hi ty0 hty hnm X.2.2.2.1 hK hP hD hS q0 he hc k hk (X.2.2.2.2.1 _ hl) hs2 (by cases h : (T k).2.2.2 <;> simp_all) (by rw [X.2.2.2.2.2.2.2]; exact h2.1) (ho.trans h2.2) (hty k hk) hn hfit hlen hdg kk
theorem k_cls {c1 c2 : ClassId} {ty : FieldType} (hp : refKind ty = false) (h1 : va_RA s c1 ty) (h2 : va_RA s c2 ty) : c1 = c2 := by
  cases ty <;> first | (simp [refKind] at hp; done) | (have e1 : s.vm.findClass _ = some c1 := h1; have e2 : s.vm.findClass _ = some c2 := h2; rw [e1] at e2; exact Option.some.inj e2)
theorem k_newa (X : cx p s m args meth c cc nL ret own nm) {atype : ArrayType} {ty : FieldType} (hty : newarray.typeOf atype = ty) (hp : refKind ty = false) (hw : Cond.arrayClass (newarray.typeOf atype) ∈ lw_g) {sg : List va_W} (hK : va_K D cl tys s) (hP : va_P D cl (cat sg) H) (hD : va_D A (cat sg)) (hS : va_S A s.heap H locs) (hA : ∀ q, s.heap.size ≤ q → A q) (t0 : Nat) {cA : ClassId} (ht : tys[t0]? = some (cA, ty))
    {n : Int32} {N' : Nat} {a0 : vp_A} (ha : ∀ cA : ClassId, vp_cell cA a0 = arrV cA N' (fun _ => defaultValue ty)) (hn : ¬ n < 0) (hN : n.toNatClampNeg = N') (hbytes : N' * componentBytes ty ≤ 536870912) (hcells : cells + 1 ≤ R.cells) (hslots : slots + N' ≤ R.slots) (hdg : decode cc pc = .ok (.newarray atype, 2))
    (kk : ∀ (q : Nat) (H1 : Heap), va_P D cl (cat (sg ++ [[(q, .inl (cA, a0))]])) H1 → va_D A (cat (sg ++ [[(q, .inl (cA, a0))]])) → va_S A s.heap H1 locs → W p l e R s m args below meth c H1 locs (cells + 1) (slots + N') Q (F0 m (pc + 2) ls (.ref q :: rest))) : W p l e R s m args below meth c H locs cells slots Q (F0 m pc ls (.int n :: rest)) := by
  refine va_newa X.1 X.2.1 (X.2.2.2.2.1 _ hw) hty hK hP hD hS hA ha hn hN hbytes hcells hslots hdg (fun q cA' H1 hK' hP' hD' hS' => ?_)
  have e1 : cA' = cA := k_cls hp (hK'.2 tys.length (cA', ty) (by simp)).2 (hK.2 t0 (cA, ty) ht).2
  subst e1
  exact kk q H1 (by rw [cat_push]; exact hP') (by rw [cat_push]; exact hD') hS'
theorem k_RAo {c1 c2 : ClassId} {C : String} (h1 : va_RA s c1 (.object C)) (h2 : va_RA s c2 (.object C)) : c1 = c2 := by
  obtain ⟨_, _, _, _, _, e1⟩ := h1
  obtain ⟨_, _, _, _, _, e2⟩ := h2
  rw [e1] at e2
  exact Option.some.inj e2
theorem k_newq (hNs : nst s) (X : cx p s m args meth c cc nL ret own nm) {C : String} {index : Nat} (hcl : Cond.classLink own index C ∈ lw_g) (hov : Cond.arrayOver (.object C) ∈ lw_n) {sg : List va_W} (hK : va_K D cl tys s) (hP : va_P D cl (cat sg) H) (hD : va_D A (cat sg)) (hS : va_S A s.heap H locs) (hA : ∀ q, s.heap.size ≤ q → A q) (t0 : Nat) {cA : ClassId} (ht : tys[t0]? = some (cA, .object C))
    {n : Int32} {N' : Nat} (hn : ¬ n < 0) (hN : n.toNatClampNeg = N') (hbytes : N' * 4 ≤ 536870912) (hcells : cells + 1 ≤ R.cells) (hslots : slots + N' ≤ R.slots) (hdg : decode cc pc = .ok (.anewarray index, 3))
    (kk : ∀ (q : Nat) (H1 : Heap), va_P D cl (cat (sg ++ [[(q, .inl (cA, N', .inr (.inr (.inr (.inr (fun _ => none))))))]])) H1 → va_D A (cat (sg ++ [[(q, .inl (cA, N', .inr (.inr (.inr (.inr (fun _ => none))))))]])) → va_S A s.heap H1 locs → W p l e R s m args below meth c H1 locs (cells + 1) (slots + N') Q (F0 m (pc + 3) ls (.ref q :: rest))) : W p l e R s m args below meth c H locs cells slots Q (F0 m pc ls (.int n :: rest)) := by
  refine va_newq X.1 X.2.1 X.2.2.2.1 (X.2.2.2.2.1 _ hcl) (hNs _ hov) hK hP hD hS hA hn hN hbytes hcells hslots hdg (fun q cA' H1 hK' hP' hD' hS' => ?_)
  have e1 : cA' = cA := k_RAo (hK'.2 tys.length (cA', .object C) (by simp)).2 (hK.2 t0 (cA, .object C) ht).2
  subst e1
  exact kk q H1 (by rw [cat_push]; exact hP') (by rw [cat_push]; exact hD') hS'
theorem k_new (X : cx p s m args meth c cc nL ret own nm) {C : String} {T : u_T} {N ci index : Nat} (hi : ∀ w ∈ u_ws C T N, w ∈ lw_g) (ty : Nat → FieldType) (hty : ∀ k, k < N → parseFieldDescriptor (T k).2.2.1 = some (ty k)) (hcl : Cond.classLink own index C ∈ lw_g) (hinst : Cond.instantiable C N ∈ lw_g) (hini : Cond.initialized C ∈ lw_g)
    {sg : List va_W} (hK : va_K D cl tys s) (hP : va_P D cl (cat sg) H) (hD : va_D A (cat sg)) (hS : va_S A s.heap H locs) (hA : ∀ q, s.heap.size ≤ q → A q) (hc : cl[ci]? = some (C, T, N)) {fs : List Value} (hfs : ∀ j, j < N → defaultValue (ty j) = vp_V fs j) (hcells : cells + 1 ≤ R.cells) (hslots : slots + N ≤ R.slots) (hdg : decode cc pc = .ok (.new index, 3))
    (kk : ∀ (q : Nat) (H1 : Heap), va_P D cl (cat (sg ++ [[(q, .inr (ci, fs))]])) H1 → va_D A (cat (sg ++ [[(q, .inr (ci, fs))]])) → va_S A s.heap H1 locs → W p l e R s m args below meth c H1 locs (cells + 1) (slots + N) Q (F0 m (pc + 3) ls (.ref q :: rest))) : W p l e R s m args below meth c H locs cells slots Q (F0 m pc ls rest) :=
  va_new X.1 X.2.1 X.2.2.2.2.1 hi ty hty X.2.2.2.1 (X.2.2.2.2.1 _ hcl) (X.2.2.2.2.1 _ hinst) (X.2.2.2.2.1 _ hini) hK hP hD hS hA hc hfs hcells hslots hdg (fun q H1 hP' hD' hS' => kk q H1 (by rw [cat_push]; exact hP') (by rw [cat_push]; exact hD') hS')
/-- behind a call: what came back stands behind the rest, which is unchanged -/
theorem k_goV {S : Type} {post : S → Prop} {sf : S → List va_W} {sg gc gr : List va_W} {st0 : List Value} {mc ms : Nat} {b : Array Value}
    (hr : va_Run p l e R s m args below meth c H locs cells slots mc ms (F0 m pc ls st0) rest (va_Qv post (fun u t => wq D cl tys (va_A (cat gc) H.size) (cat (sf u)) t) (va_A (cat gc) H.size) b) (va_A (cat gc) H.size))
    (hP : va_P D cl (cat sg) H) (hD : va_D A (cat sg)) (hS : va_S A s.heap H locs) (hA : ∀ q, s.heap.size ≤ q → A q) (isC isR : List Nat) (ng : Nat) (hng : sg.length = ng) (hp : (isR ++ isC).isPerm (List.range ng) = true) (hC : sg_at sg isC = gc) (hR : sg_at sg isR = gr)
    (kk : ∀ (u : S) (H1 : Heap) (locs1 : List Loc), post u → va_P D cl (cat (gr ++ sf u)) H1 → va_D A (cat (gr ++ sf u)) → va_S A s.heap H1 locs1 → W p l e R s m args below meth c H1 locs1 (cells + mc) (slots + ms) Q (F0 m (pc + 3) ls rest)) : W p l e R s m args below meth c H locs cells slots Q (F0 m pc ls st0) := by
  subst hng
  have hsp := sg_split sg isC isR hp
  rw [hC, hR] at hsp
  have hP0 := vP_perm hsp hP
  have hD0 := vD_perm hsp hD
  have hCp := wp_places (cat gr) (cat gc)
  have hCq : ((List.range (cat gc).length).map (fun i => (cat gr).length + i)).map (fun i => (cat gr ++ cat gc)[i]?) = (cat gc).map some := by rw [List.map_map]; exact hCp
  have hF := va_free (wc := cat gc) hD0 hS hA _ hCq
  refine va_callv hr hS (fun q _ h => hF q h) hF (fun u t H1 locs1 ht _ hw hB _ hk1 hS1 => ?_)
  obtain ⟨hP1, _, hD1⟩ := hB
  rw [ht] at hP1
  obtain ⟨hP2, hD2⟩ := va_join (wr := cat gr) (w1 := cat (sf u)) hP0 hD0 _ (List.range (cat gr).length) hCq (wp_placesL _ _) (nd_iff _ List.nodup_range) (fun i hi hj => by
    obtain ⟨k, _, e2⟩ := List.mem_map.mp hj
    have := List.mem_range.mp hi
    omega) hk1 hF hP1 hD1
  exact kk u H1 locs1 hw (by rw [cat_app]; exact hP2) (by rw [cat_app]; exact hD2) hS1
theorem k_goI {S : Type} {post : Int32 → S → Prop} {sf : S → List va_W} {sg gc gr : List va_W} {st0 : List Value} {mc ms : Nat} {b : Array Value}
    (hr : va_Run p l e R s m args below meth c H locs cells slots mc ms (F0 m pc ls st0) rest (va_Qi post (fun u t => wq D cl tys (va_A (cat gc) H.size) (cat (sf u)) t) (va_A (cat gc) H.size) b) (va_A (cat gc) H.size))
    (hP : va_P D cl (cat sg) H) (hD : va_D A (cat sg)) (hS : va_S A s.heap H locs) (hA : ∀ q, s.heap.size ≤ q → A q) (isC isR : List Nat) (ng : Nat) (hng : sg.length = ng) (hp : (isR ++ isC).isPerm (List.range ng) = true) (hC : sg_at sg isC = gc) (hR : sg_at sg isR = gr)
    (kk : ∀ (r : Int32) (u : S) (H1 : Heap) (locs1 : List Loc), post r u → va_P D cl (cat (gr ++ sf u)) H1 → va_D A (cat (gr ++ sf u)) → va_S A s.heap H1 locs1 → W p l e R s m args below meth c H1 locs1 (cells + mc) (slots + ms) Q (F0 m (pc + 3) ls (.int r :: rest))) : W p l e R s m args below meth c H locs cells slots Q (F0 m pc ls st0) := by
  subst hng
  have hsp := sg_split sg isC isR hp
  rw [hC, hR] at hsp
  have hP0 := vP_perm hsp hP
  have hD0 := vD_perm hsp hD
  have hCp := wp_places (cat gr) (cat gc)
  have hCq : ((List.range (cat gc).length).map (fun i => (cat gr).length + i)).map (fun i => (cat gr ++ cat gc)[i]?) = (cat gc).map some := by rw [List.map_map]; exact hCp
  have hF := va_free (wc := cat gc) hD0 hS hA _ hCq
  refine va_calli hr hS (fun q _ h => hF q h) hF (fun r u t H1 locs1 ht _ hw hB _ hk1 hS1 => ?_)
  obtain ⟨hP1, _, hD1⟩ := hB
  rw [ht] at hP1
  obtain ⟨hP2, hD2⟩ := va_join (wr := cat gr) (w1 := cat (sf u)) hP0 hD0 _ (List.range (cat gr).length) hCq (wp_placesL _ _) (nd_iff _ List.nodup_range) (fun i hi hj => by
    obtain ⟨k, _, e2⟩ := List.mem_map.mp hj
    have := List.mem_range.mp hi
    omega) hk1 hF hP1 hD1
  exact kk r u H1 locs1 hw (by rw [cat_app]; exact hP2) (by rw [cat_app]; exact hD2) hS1
/-- the world ahead of a call, cut out of the caller's -/
theorem k_pre {sg gc : List va_W} {av : List Value} (hN : nst s) (hK : va_K D cl tys s) (hP : va_P D cl (cat sg) H) (hD : va_D A (cat sg)) (isC isR : List Nat) (ng : Nat) (hng : sg.length = ng) (hp : (isR ++ isC).isPerm (List.range ng) = true) (hC : sg_at sg isC = gc) : PreS s H (va_Pc av (wp D cl tys H.size (cat gc))) av := by
  subst hng
  have hsp := sg_split sg isC isR hp
  rw [hC] at hsp
  have hP0 := vP_iff.mp (vP_perm hsp hP)
  have hD0 := vD_iff.mp (vD_perm hsp hD)
  refine ⟨wp_blind, fun U hU hW => ⟨rfl, by rw [hU], ?_, va_K.moved hW.alike hK, vD_iff.mpr ⟨?_, fun _ _ => trivial⟩, nst.warm hW hN⟩⟩
  · rw [hU]; exact vP_iff.mpr (fun q hq => hP0 q (List.mem_append_right _ hq))
  · have h2 := hD0.1
    rw [List.map_append] at h2
    exact (List.nodup_append.mp h2).2.1
/-- the world behind a method, in another order of its segments -/
theorem k_ord {sg gc : List va_W} (hP : va_P D cl (cat sg) H) (hD : va_D A (cat sg)) (is : List Nat) (ng : Nat) (hng : sg.length = ng) (hp : is.isPerm (List.range ng) = true) (hC : sg_at sg is = gc) : va_P D cl (cat gc) H ∧ va_D A (cat gc) := by
  subst hng
  have h := sg_perm sg is hp
  rw [hC] at h
  exact ⟨vP_perm h hP, vD_perm h hD⟩
theorem k_rI {y : MethodName} {z : List Cond} {rm : Room} {bytes : ByteArray} {maxL mc ms index : Nat} {Pc : Array Value → State → Prop} {Qc : Array Value → State → Outcome → State → Prop} {free : Addr → Prop} {b : Addr} {As st : List Value}
    (X : cx p s m args meth c cc nL ret own nm) (hM : Met l y z rm Pc Qc mc ms free) (hz : z = Cond.code y bytes maxL none :: lw_g) (hc : Cond.code y bytes maxL none ∈ lw_g) (hini : Cond.initialized y.cls ∈ lw_g) (hl : Cond.methodLink own index y ∈ lw_g) (hin : Cond.instanceMethod y ∈ lw_g) (hy1 : y.name = "<init>") (n : Nat)
    (hd : y.cls ≠ "java/lang/invoke/MethodHandle" ∧ y.cls ≠ "java/lang/invoke/VarHandle" ∧ (parseMethodDescriptor y.desc).map (fun d => d.parameters.length) = some n) (hR : rm.frames + 1 ≤ R.frames ∧ 8 + (maxL + 11) + rm.locals ≤ R.locals) (hrc : rm.cells = mc) (hrs : rm.slots = ms)
    (hp : PreS s H Pc (.ref b :: As)) (hn : As.length = n) (hsz : ls.size = nL) (hst : st = As.reverse ++ .ref b :: rest) (hW : (rest.map fun v => v.category).sum ≤ 8) (hdg : decode cc pc = .ok (.invokespecial index, 3)) (hf : cells + mc ≤ R.cells ∧ slots + ms ≤ R.slots) :
    va_Run p l e R s m args below meth c H locs cells slots mc ms (F0 m pc ls st) rest (Qc (Value.ref b :: As).toArray) free :=
  va_runI ⟨X.1, X.2.1, X.2.2.1, X.2.2.2.1, X.2.2.2.2.1⟩ hM (cwI n X.2.2.2.2.1 (by rw [hz]; exact gd_g hc) hz hrc hrs (X.2.2.2.2.1 _ hini) (X.2.2.2.2.1 _ hl) (X.2.2.2.2.1 _ hin) hy1 hd hR) hp rfl hn hsz hst (lv_room hW) hdg hf
theorem k_rIN {y : MethodName} {z : List Cond} {rm : Room} {bytes : ByteArray} {maxL mc ms index : Nat} {host : String} {Pc : Array Value → State → Prop} {Qc : Array Value → State → Outcome → State → Prop} {free : Addr → Prop} {b : Addr} {As st : List Value}
    (hN : nst s) (X : cx p s m args meth c cc nL ret own nm) (hM : Met l y z rm Pc Qc mc ms free) (hz : z = Cond.code y bytes maxL none :: lw_g) (hc : Cond.code y bytes maxL none ∈ lw_g) (hini : Cond.initialized y.cls ∈ lw_g) (hl : Cond.methodLinkNest own index y host ∈ lw_n) (hin : Cond.instanceMethod y ∈ lw_g) (hy1 : y.name = "<init>") (n : Nat)
    (hd : y.cls ≠ "java/lang/invoke/MethodHandle" ∧ y.cls ≠ "java/lang/invoke/VarHandle" ∧ (parseMethodDescriptor y.desc).map (fun d => d.parameters.length) = some n) (hR : rm.frames + 1 ≤ R.frames ∧ 8 + (maxL + 11) + rm.locals ≤ R.locals) (hrc : rm.cells = mc) (hrs : rm.slots = ms)
    (hp : PreS s H Pc (.ref b :: As)) (hn : As.length = n) (hsz : ls.size = nL) (hst : st = As.reverse ++ .ref b :: rest) (hW : (rest.map fun v => v.category).sum ≤ 8) (hdg : decode cc pc = .ok (.invokespecial index, 3)) (hf : cells + mc ≤ R.cells ∧ slots + ms ≤ R.slots) :
    va_Run p l e R s m args below meth c H locs cells slots mc ms (F0 m pc ls st) rest (Qc (Value.ref b :: As).toArray) free :=
  va_runIN ⟨X.1, X.2.1, X.2.2.1, X.2.2.2.1, X.2.2.2.2.1⟩ hM ⟨va_cnB n X.2.2.2.2.1 (by rw [hz]; exact gd_g hc) hz hrc hrs (hN _ hl) (X.2.2.2.2.1 _ hini) hd hR, hy1, X.2.2.2.2.1 _ hin⟩ hp rfl hn hsz hst (lv_room hW) hdg hf
theorem k_rS {y : MethodName} {z : List Cond} {rm : Room} {bytes : ByteArray} {maxL mc ms index : Nat} {ret' : Option FieldType} {Pc : Array Value → State → Prop} {Qc : Array Value → State → Outcome → State → Prop} {free : Addr → Prop} {As st : List Value}
    (X : cx p s m args meth c cc nL ret own nm) (hM : Met l y z rm Pc Qc mc ms free) (hz : z = Cond.code y bytes maxL ret' :: lw_g) (hc : Cond.code y bytes maxL ret' ∈ lw_g) (hini : Cond.initialized y.cls ∈ lw_g) (hl : Cond.methodLink own index y ∈ lw_g) (hin : Cond.static y ∈ lw_g) (n : Nat)
    (hd : y.cls ≠ "java/lang/invoke/MethodHandle" ∧ y.cls ≠ "java/lang/invoke/VarHandle" ∧ (parseMethodDescriptor y.desc).map (fun d => d.parameters.length) = some n) (hR : rm.frames + 1 ≤ R.frames ∧ 8 + (maxL + 11) + rm.locals ≤ R.locals) (hrc : rm.cells = mc) (hrs : rm.slots = ms)
    (hp : PreS s H Pc As) (hn : As.length = n) (hsz : ls.size = nL) (hst : st = As.reverse ++ rest) (hW : (rest.map fun v => v.category).sum ≤ 8) (hdg : decode cc pc = .ok (.invokestatic index, 3)) (hf : cells + mc ≤ R.cells ∧ slots + ms ≤ R.slots) :
    va_Run p l e R s m args below meth c H locs cells slots mc ms (F0 m pc ls st) rest (Qc As.toArray) free :=
  va_runS ⟨X.1, X.2.1, X.2.2.1, X.2.2.2.1, X.2.2.2.2.1⟩ hM ⟨callB_of n X.2.2.2.2.1 (by rw [hz]; exact gd_g hc) hz hrc hrs (X.2.2.2.2.1 _ hini) (X.2.2.2.2.1 _ hl) hd hR, X.2.2.2.2.1 _ hin⟩ hp rfl hn hsz hst (lv_room hW) hdg hf
theorem k_rV {y : MethodName} {z : List Cond} {rm : Room} {bytes : ByteArray} {maxL mc ms index : Nat} {ret' : Option FieldType} {Pc : Array Value → State → Prop} {Qc : Array Value → State → Outcome → State → Prop} {free : Addr → Prop} {b : Addr} {As st : List Value}
    (X : cx p s m args meth c cc nL ret own nm) (hM : Met l y z rm Pc Qc mc ms free) (hz : z = Cond.code y bytes maxL ret' :: lw_g) (hc : Cond.code y bytes maxL ret' ∈ lw_g) (hini : Cond.initialized y.cls ∈ lw_g) (hl : Cond.methodLink own index y ∈ lw_g) (hin : Cond.instanceMethod y ∈ lw_g) (hsel : Cond.selects y.cls y y ∈ lw_g) (n : Nat)
    (hd : y.cls ≠ "java/lang/invoke/MethodHandle" ∧ y.cls ≠ "java/lang/invoke/VarHandle" ∧ (parseMethodDescriptor y.desc).map (fun d => d.parameters.length) = some n) (hR : rm.frames + 1 ≤ R.frames ∧ 8 + (maxL + 11) + rm.locals ≤ R.locals) (hrc : rm.cells = mc) (hrs : rm.slots = ms)
    (hrv : ∃ cellB : Cell, H[b]? = some cellB ∧ cellB.vm.isStatics = false ∧ s.vm.findClass y.cls = some cellB.cls) (hp : PreS s H Pc (.ref b :: As)) (hn : As.length = n) (hsz : ls.size = nL) (hst : st = As.reverse ++ .ref b :: rest) (hW : (rest.map fun v => v.category).sum ≤ 8) (hdg : decode cc pc = .ok (.invokevirtual index, 3)) (hf : cells + mc ≤ R.cells ∧ slots + ms ≤ R.slots) :
    va_Run p l e R s m args below meth c H locs cells slots mc ms (F0 m pc ls st) rest (Qc (Value.ref b :: As).toArray) free :=
  va_runV ⟨X.1, X.2.1, X.2.2.1, X.2.2.2.1, X.2.2.2.2.1⟩ hM ⟨callB_of n X.2.2.2.2.1 (by rw [hz]; exact gd_g hc) hz hrc hrs (X.2.2.2.2.1 _ hini) (X.2.2.2.2.1 _ hl) hd hR, X.2.2.2.2.1 _ hin, X.2.2.2.2.1 _ hsel⟩ ⟨hp.1, hrv, hp.2⟩ rfl hn hsz hst (lv_room hW) hdg hf
end KK
/-- filled up to n -/
def fl (f : Nat → Int32) (n : Nat) (v : Int32) : Nat → Int32 := fun j => if j < n then v else f j
theorem fl_0 (f : Nat → Int32) (v : Int32) : fl f 0 v = f := by funext j; simp [fl]
theorem fl_s (f : Nat → Int32) (n : Nat) (v : Int32) : upd (fl f n v) n v = fl f (n + 1) v := by
  funext j; simp only [upd, fl]
  by_cases h : j = n
  · subst h; simp
  · by_cases h2 : j < n
    · simp [h, h2, Nat.lt_succ_of_lt h2]
    · have h3 : ¬ j < n + 1 := by omega
      simp [h, h2, h3]
end
section
def R_Dr : String := "DrawingHouse$Drawing"
def F_Dr : u_T := fun k => match k with
  | 0 => ("DrawingHouse$Drawing", "graph", "LDrawingHouse$Graph;", true)
  | 1 => ("DrawingHouse$Drawing", "way", "I", false)
  | 2 => ("DrawingHouse$Drawing", "x", "[I", true)
  | 3 => ("DrawingHouse$Drawing", "y", "[I", true)
  | 4 => ("DrawingHouse$Drawing", "bends", "[I", true)
  | 5 => ("DrawingHouse$Drawing", "bendX", "[I", true)
  | 6 => ("DrawingHouse$Drawing", "bendY", "[I", true)
  | 7 => ("DrawingHouse$Drawing", "crossings", "I", false)
  | 8 => ("DrawingHouse$Drawing", "spans", "I", false)
  | 9 => ("DrawingHouse$Drawing", "band", "I", false)
  | 10 => ("DrawingHouse$Drawing", "layer", "[I", true)
  | 11 => ("DrawingHouse$Drawing", "turned", "[Z", true)
  | 12 => ("DrawingHouse$Drawing", "rank", "[I", true)
  | 13 => ("DrawingHouse$Drawing", "area", "[I", true)
  | 14 => ("DrawingHouse$Drawing", "shades", "[I", true)
  | 15 => ("DrawingHouse$Drawing", "labelX", "[I", true)
  | 16 => ("DrawingHouse$Drawing", "labelY", "[I", true)
  | 17 => ("DrawingHouse$Drawing", "leastX", "I", false)
  | 18 => ("DrawingHouse$Drawing", "leastY", "I", false)
  | 19 => ("DrawingHouse$Drawing", "mostX", "I", false)
  | _ => ("DrawingHouse$Drawing", "mostY", "I", false)
def t_Dr : Nat → FieldType := fun k => match k with
  | 0 => .object "DrawingHouse$Graph"
  | 1 => .int
  | 2 => .array .int
  | 3 => .array .int
  | 4 => .array .int
  | 5 => .array .int
  | 6 => .array .int
  | 7 => .int
  | 8 => .int
  | 9 => .int
  | 10 => .array .int
  | 11 => .array .boolean
  | 12 => .array .int
  | 13 => .array .int
  | 14 => .array .int
  | 15 => .array .int
  | 16 => .array .int
  | 17 => .int
  | 18 => .int
  | 19 => .int
  | _ => .int
set_option maxRecDepth 20000 in
theorem n_Dr : ∀ a, a < 21 → ∀ b, b < 21 → a ≠ b → (F_Dr a).2.1 ≠ (F_Dr b).2.1 := by decide +kernel
set_option maxRecDepth 20000 in
theorem t_Dr_ok : ∀ k, k < 21 → parseFieldDescriptor (F_Dr k).2.2.1 = some (t_Dr k) := by decide +kernel
def R_Em : String := "DrawingHouse$Embedder"
def F_Em : u_T := fun k => match k with
  | 0 => ("DrawingHouse$Embedder", "net", "LDrawingHouse$Net;", false)
  | 1 => ("DrawingHouse$Embedder", "probe", "LDrawingHouse$Net;", true)
  | 2 => ("DrawingHouse$Embedder", "block", "[I", true)
  | 3 => ("DrawingHouse$Embedder", "drawn", "[Z", true)
  | 4 => ("DrawingHouse$Embedder", "kept", "[Z", true)
  | 5 => ("DrawingHouse$Embedder", "blockNodes", "I", false)
  | 6 => ("DrawingHouse$Embedder", "drawnNodes", "I", false)
  | 7 => ("DrawingHouse$Embedder", "cycles", "I", false)
  | 8 => ("DrawingHouse$Embedder", "cycle", "[I", true)
  | 9 => ("DrawingHouse$Embedder", "cycleLength", "[I", true)
  | 10 => ("DrawingHouse$Embedder", "cycleNodes", "[I", true)
  | 11 => ("DrawingHouse$Embedder", "fresh", "[I", true)
  | 12 => ("DrawingHouse$Embedder", "after", "[I", true)
  | 13 => ("DrawingHouse$Embedder", "level", "[I", true)
  | 14 => ("DrawingHouse$Embedder", "way", "[I", true)
  | 15 => ("DrawingHouse$Embedder", "wayLength", "I", false)
  | 16 => ("DrawingHouse$Embedder", "pieceNodes", "I", false)
  | 17 => ("DrawingHouse$Embedder", "pieceEnds", "I", false)
  | 18 => ("DrawingHouse$Embedder", "pieceCycle", "I", false)
  | _ => ("DrawingHouse$Embedder", "around", "[I", true)
def t_Em : Nat → FieldType := fun k => match k with
  | 0 => .object "DrawingHouse$Net"
  | 1 => .object "DrawingHouse$Net"
  | 2 => .array .int
  | 3 => .array .boolean
  | 4 => .array .boolean
  | 5 => .int
  | 6 => .int
  | 7 => .int
  | 8 => .array .int
  | 9 => .array .int
  | 10 => .array .int
  | 11 => .array .int
  | 12 => .array .int
  | 13 => .array .int
  | 14 => .array .int
  | 15 => .int
  | 16 => .int
  | 17 => .int
  | 18 => .int
  | _ => .array .int
set_option maxRecDepth 20000 in
theorem n_Em : ∀ a, a < 20 → ∀ b, b < 20 → a ≠ b → (F_Em a).2.1 ≠ (F_Em b).2.1 := by decide +kernel
set_option maxRecDepth 20000 in
theorem t_Em_ok : ∀ k, k < 20 → parseFieldDescriptor (F_Em k).2.2.1 = some (t_Em k) := by decide +kernel
def R_Fa : String := "DrawingHouse$Facts"
def F_Fa : u_T := fun k => match k with
  | 0 => ("DrawingHouse$Facts", "known", "Z", false)
  | 1 => ("DrawingHouse$Facts", "parts", "I", false)
  | 2 => ("DrawingHouse$Facts", "blocks", "I", false)
  | 3 => ("DrawingHouse$Facts", "strongs", "I", false)
  | 4 => ("DrawingHouse$Facts", "part", "[I", true)
  | 5 => ("DrawingHouse$Facts", "block", "[I", true)
  | 6 => ("DrawingHouse$Facts", "strong", "[I", true)
  | 7 => ("DrawingHouse$Facts", "core", "[I", true)
  | 8 => ("DrawingHouse$Facts", "blocksAt", "[I", true)
  | 9 => ("DrawingHouse$Facts", "turned", "[Z", true)
  | 10 => ("DrawingHouse$Facts", "reach", "[I", true)
  | 11 => ("DrawingHouse$Facts", "loop", "[I", true)
  | 12 => ("DrawingHouse$Facts", "rank", "[I", true)
  | 13 => ("DrawingHouse$Facts", "member", "[I", true)
  | _ => ("DrawingHouse$Facts", "least", "[I", true)
def t_Fa : Nat → FieldType := fun k => match k with
  | 0 => .boolean
  | 1 => .int
  | 2 => .int
  | 3 => .int
  | 4 => .array .int
  | 5 => .array .int
  | 6 => .array .int
  | 7 => .array .int
  | 8 => .array .int
  | 9 => .array .boolean
  | 10 => .array .int
  | 11 => .array .int
  | 12 => .array .int
  | 13 => .array .int
  | _ => .array .int
set_option maxRecDepth 20000 in
theorem n_Fa : ∀ a, a < 15 → ∀ b, b < 15 → a ≠ b → (F_Fa a).2.1 ≠ (F_Fa b).2.1 := by decide +kernel
set_option maxRecDepth 20000 in
theorem t_Fa_ok : ∀ k, k < 15 → parseFieldDescriptor (F_Fa k).2.2.1 = some (t_Fa k) := by decide +kernel
def R_Gr : String := "DrawingHouse$Graph"
def F_Gr : u_T := fun k => match k with
  | 0 => ("DrawingHouse$Graph", "nodes", "I", false)
  | 1 => ("DrawingHouse$Graph", "edges", "I", false)
  | 2 => ("DrawingHouse$Graph", "groups", "I", false)
  | 3 => ("DrawingHouse$Graph", "name", "[B", true)
  | 4 => ("DrawingHouse$Graph", "nameLength", "[I", true)
  | 5 => ("DrawingHouse$Graph", "size", "[I", true)
  | 6 => ("DrawingHouse$Graph", "groupOf", "[I", true)
  | 7 => ("DrawingHouse$Graph", "tail", "[I", true)
  | 8 => ("DrawingHouse$Graph", "head", "[I", true)
  | 9 => ("DrawingHouse$Graph", "weight", "[I", true)
  | 10 => ("DrawingHouse$Graph", "oneWay", "[I", true)
  | 11 => ("DrawingHouse$Graph", "within", "[I", true)
  | 12 => ("DrawingHouse$Graph", "groupName", "[B", true)
  | 13 => ("DrawingHouse$Graph", "groupNameLength", "[I", true)
  | 14 => ("DrawingHouse$Graph", "near", "[I", true)
  | 15 => ("DrawingHouse$Graph", "link", "[I", true)
  | 16 => ("DrawingHouse$Graph", "past", "[I", false)
  | 17 => ("DrawingHouse$Graph", "done", "I", false)
  | _ => ("DrawingHouse$Graph", "undone", "I", false)
def t_Gr : Nat → FieldType := fun k => match k with
  | 0 => .int
  | 1 => .int
  | 2 => .int
  | 3 => .array .byte
  | 4 => .array .int
  | 5 => .array .int
  | 6 => .array .int
  | 7 => .array .int
  | 8 => .array .int
  | 9 => .array .int
  | 10 => .array .int
  | 11 => .array .int
  | 12 => .array .byte
  | 13 => .array .int
  | 14 => .array .int
  | 15 => .array .int
  | 16 => .array .int
  | 17 => .int
  | _ => .int
set_option maxRecDepth 20000 in
theorem n_Gr : ∀ a, a < 19 → ∀ b, b < 19 → a ≠ b → (F_Gr a).2.1 ≠ (F_Gr b).2.1 := by decide +kernel
set_option maxRecDepth 20000 in
theorem t_Gr_ok : ∀ k, k < 19 → parseFieldDescriptor (F_Gr k).2.2.1 = some (t_Gr k) := by decide +kernel
def R_La : String := "DrawingHouse$Layers"
def F_La : u_T := fun k => match k with
  | 0 => ("DrawingHouse$Layers", "stretch", "LDrawingHouse$Stretch;", true)
  | 1 => ("DrawingHouse$Layers", "graph", "LDrawingHouse$Graph;", false)
  | 2 => ("DrawingHouse$Layers", "layerCount", "I", false)
  | 3 => ("DrawingHouse$Layers", "items", "I", false)
  | 4 => ("DrawingHouse$Layers", "layerOf", "[I", true)
  | 5 => ("DrawingHouse$Layers", "firstJoint", "[I", true)
  | 6 => ("DrawingHouse$Layers", "pieceUpper", "[I", true)
  | 7 => ("DrawingHouse$Layers", "pieceLower", "[I", true)
  | 8 => ("DrawingHouse$Layers", "pieceWeight", "[I", true)
  | 9 => ("DrawingHouse$Layers", "pieceStart", "[I", true)
  | 10 => ("DrawingHouse$Layers", "layerStart", "[I", true)
  | 11 => ("DrawingHouse$Layers", "listed", "[I", true)
  | 12 => ("DrawingHouse$Layers", "slot", "[I", true)
  | 13 => ("DrawingHouse$Layers", "row", "[I", true)
  | 14 => ("DrawingHouse$Layers", "place", "[I", true)
  | 15 => ("DrawingHouse$Layers", "sum", "[I", true)
  | 16 => ("DrawingHouse$Layers", "joined", "[I", true)
  | 17 => ("DrawingHouse$Layers", "orders", "[I", true)
  | 18 => ("DrawingHouse$Layers", "least", "[I", true)
  | 19 => ("DrawingHouse$Layers", "low", "[I", true)
  | _ => ("DrawingHouse$Layers", "pair", "[I", true)
def t_La : Nat → FieldType := fun k => match k with
  | 0 => .object "DrawingHouse$Stretch"
  | 1 => .object "DrawingHouse$Graph"
  | 2 => .int
  | 3 => .int
  | 4 => .array .int
  | 5 => .array .int
  | 6 => .array .int
  | 7 => .array .int
  | 8 => .array .int
  | 9 => .array .int
  | 10 => .array .int
  | 11 => .array .int
  | 12 => .array .int
  | 13 => .array .int
  | 14 => .array .int
  | 15 => .array .int
  | 16 => .array .int
  | 17 => .array .int
  | 18 => .array .int
  | 19 => .array .int
  | _ => .array .int
set_option maxRecDepth 20000 in
theorem n_La : ∀ a, a < 21 → ∀ b, b < 21 → a ≠ b → (F_La a).2.1 ≠ (F_La b).2.1 := by decide +kernel
set_option maxRecDepth 20000 in
theorem t_La_ok : ∀ k, k < 21 → parseFieldDescriptor (F_La k).2.2.1 = some (t_La k) := by decide +kernel
def R_Ne : String := "DrawingHouse$Net"
def F_Ne : u_T := fun k => match k with
  | 0 => ("DrawingHouse$Net", "planar", "I", false)
  | 1 => ("DrawingHouse$Net", "outer", "I", false)
  | 2 => ("DrawingHouse$Net", "kind", "I", false)
  | 3 => ("DrawingHouse$Net", "barredEdges", "I", false)
  | 4 => ("DrawingHouse$Net", "barred", "[I", true)
  | 5 => ("DrawingHouse$Net", "nodes", "I", false)
  | 6 => ("DrawingHouse$Net", "edges", "I", false)
  | 7 => ("DrawingHouse$Net", "tail", "[I", true)
  | 8 => ("DrawingHouse$Net", "head", "[I", true)
  | 9 => ("DrawingHouse$Net", "near", "[I", true)
  | 10 => ("DrawingHouse$Net", "link", "[I", true)
  | 11 => ("DrawingHouse$Net", "behind", "[I", true)
  | 12 => ("DrawingHouse$Net", "first", "[I", true)
  | 13 => ("DrawingHouse$Net", "faces", "I", false)
  | 14 => ("DrawingHouse$Net", "rowStart", "[I", true)
  | 15 => ("DrawingHouse$Net", "rowNode", "[I", true)
  | _ => ("DrawingHouse$Net", "faceOf", "[I", true)
def t_Ne : Nat → FieldType := fun k => match k with
  | 0 => .int
  | 1 => .int
  | 2 => .int
  | 3 => .int
  | 4 => .array .int
  | 5 => .int
  | 6 => .int
  | 7 => .array .int
  | 8 => .array .int
  | 9 => .array .int
  | 10 => .array .int
  | 11 => .array .int
  | 12 => .array .int
  | 13 => .int
  | 14 => .array .int
  | 15 => .array .int
  | _ => .array .int
set_option maxRecDepth 20000 in
theorem n_Ne : ∀ a, a < 17 → ∀ b, b < 17 → a ≠ b → (F_Ne a).2.1 ≠ (F_Ne b).2.1 := by decide +kernel
set_option maxRecDepth 20000 in
theorem t_Ne_ok : ∀ k, k < 17 → parseFieldDescriptor (F_Ne k).2.2.1 = some (t_Ne k) := by decide +kernel
def R_Pl : String := "DrawingHouse$PlainWays"
def F_Pl : u_T := fun k => match k with
  | 0 => ("DrawingHouse$PlainWays", "graph", "LDrawingHouse$Graph;", false)
  | 1 => ("DrawingHouse$PlainWays", "drawing", "LDrawingHouse$Drawing;", false)
  | 2 => ("DrawingHouse$PlainWays", "order", "[I", true)
  | 3 => ("DrawingHouse$PlainWays", "best", "[I", true)
  | 4 => ("DrawingHouse$PlainWays", "level", "[I", true)
  | 5 => ("DrawingHouse$PlainWays", "parent", "[I", true)
  | 6 => ("DrawingHouse$PlainWays", "under", "[I", true)
  | 7 => ("DrawingHouse$PlainWays", "kids", "[I", true)
  | 8 => ("DrawingHouse$PlainWays", "fewest", "I", false)
  | 9 => ("DrawingHouse$PlainWays", "item", "[I", true)
  | 10 => ("DrawingHouse$PlainWays", "itemSize", "[I", true)
  | 11 => ("DrawingHouse$PlainWays", "items", "I", false)
  | 12 => ("DrawingHouse$PlainWays", "space", "[I", true)
  | 13 => ("DrawingHouse$PlainWays", "shapeLong", "J", false)
  | 14 => ("DrawingHouse$PlainWays", "shapeShort", "J", false)
  | 15 => ("DrawingHouse$PlainWays", "placeX", "[J", true)
  | 16 => ("DrawingHouse$PlainWays", "placeY", "[J", true)
  | 17 => ("DrawingHouse$PlainWays", "pullX", "[J", true)
  | _ => ("DrawingHouse$PlainWays", "pullY", "[J", true)
def t_Pl : Nat → FieldType := fun k => match k with
  | 0 => .object "DrawingHouse$Graph"
  | 1 => .object "DrawingHouse$Drawing"
  | 2 => .array .int
  | 3 => .array .int
  | 4 => .array .int
  | 5 => .array .int
  | 6 => .array .int
  | 7 => .array .int
  | 8 => .int
  | 9 => .array .int
  | 10 => .array .int
  | 11 => .int
  | 12 => .array .int
  | 13 => .long
  | 14 => .long
  | 15 => .array .long
  | 16 => .array .long
  | 17 => .array .long
  | _ => .array .long
set_option maxRecDepth 20000 in
theorem n_Pl : ∀ a, a < 19 → ∀ b, b < 19 → a ≠ b → (F_Pl a).2.1 ≠ (F_Pl b).2.1 := by decide +kernel
set_option maxRecDepth 20000 in
theorem t_Pl_ok : ∀ k, k < 19 → parseFieldDescriptor (F_Pl k).2.2.1 = some (t_Pl k) := by decide +kernel
def R_Pn : String := "DrawingHouse$PlanarWays"
def F_Pn : u_T := fun k => match k with
  | 0 => ("DrawingHouse$PlanarWays", "net", "LDrawingHouse$Net;", true)
  | 1 => ("DrawingHouse$PlanarWays", "order", "[I", true)
  | 2 => ("DrawingHouse$PlanarWays", "line", "[I", true)
  | 3 => ("DrawingHouse$PlanarWays", "lineLength", "I", false)
  | 4 => ("DrawingHouse$PlanarWays", "under", "[I", true)
  | 5 => ("DrawingHouse$PlanarWays", "level", "[I", true)
  | 6 => ("DrawingHouse$PlanarWays", "way", "[I", true)
  | 7 => ("DrawingHouse$PlanarWays", "faceX", "[I", true)
  | _ => ("DrawingHouse$PlanarWays", "edgeX", "[I", true)
def t_Pn : Nat → FieldType := fun k => match k with
  | 0 => .object "DrawingHouse$Net"
  | 1 => .array .int
  | 2 => .array .int
  | 3 => .int
  | 4 => .array .int
  | 5 => .array .int
  | 6 => .array .int
  | 7 => .array .int
  | _ => .array .int
set_option maxRecDepth 20000 in
theorem n_Pn : ∀ a, a < 9 → ∀ b, b < 9 → a ≠ b → (F_Pn a).2.1 ≠ (F_Pn b).2.1 := by decide +kernel
set_option maxRecDepth 20000 in
theorem t_Pn_ok : ∀ k, k < 9 → parseFieldDescriptor (F_Pn k).2.2.1 = some (t_Pn k) := by decide +kernel
def R_Re : String := "DrawingHouse$Reader"
def F_Re : u_T := fun k => match k with
  | 0 => ("DrawingHouse$Reader", "tape", "[B", true)
  | 1 => ("DrawingHouse$Reader", "length", "I", false)
  | 2 => ("DrawingHouse$Reader", "fault", "I", false)
  | 3 => ("DrawingHouse$Reader", "faultPlace", "I", false)
  | 4 => ("DrawingHouse$Reader", "graph", "LDrawingHouse$Graph;", true)
  | 5 => ("DrawingHouse$Reader", "end", "I", false)
  | 6 => ("DrawingHouse$Reader", "next", "I", false)
  | 7 => ("DrawingHouse$Reader", "kind", "I", false)
  | 8 => ("DrawingHouse$Reader", "begin", "I", false)
  | 9 => ("DrawingHouse$Reader", "number", "I", false)
  | 10 => ("DrawingHouse$Reader", "open", "[I", true)
  | _ => ("DrawingHouse$Reader", "depth", "I", false)
def t_Re : Nat → FieldType := fun k => match k with
  | 0 => .array .byte
  | 1 => .int
  | 2 => .int
  | 3 => .int
  | 4 => .object "DrawingHouse$Graph"
  | 5 => .int
  | 6 => .int
  | 7 => .int
  | 8 => .int
  | 9 => .int
  | 10 => .array .int
  | _ => .int
set_option maxRecDepth 20000 in
theorem n_Re : ∀ a, a < 12 → ∀ b, b < 12 → a ≠ b → (F_Re a).2.1 ≠ (F_Re b).2.1 := by decide +kernel
set_option maxRecDepth 20000 in
theorem t_Re_ok : ∀ k, k < 12 → parseFieldDescriptor (F_Re k).2.2.1 = some (t_Re k) := by decide +kernel
def R_Ro : String := "DrawingHouse$Router"
def F_Ro : u_T := fun k => match k with
  | 0 => ("DrawingHouse$Router", "graph", "LDrawingHouse$Graph;", false)
  | 1 => ("DrawingHouse$Router", "drawing", "LDrawingHouse$Drawing;", false)
  | 2 => ("DrawingHouse$Router", "left", "I", false)
  | 3 => ("DrawingHouse$Router", "top", "I", false)
  | 4 => ("DrawingHouse$Router", "width", "I", false)
  | 5 => ("DrawingHouse$Router", "height", "I", false)
  | 6 => ("DrawingHouse$Router", "start", "I", false)
  | 7 => ("DrawingHouse$Router", "goal", "I", false)
  | 8 => ("DrawingHouse$Router", "whole", "I", false)
  | 9 => ("DrawingHouse$Router", "barred", "[Z", true)
  | 10 => ("DrawingHouse$Router", "cost", "[I", true)
  | 11 => ("DrawingHouse$Router", "list", "[I", true)
  | 12 => ("DrawingHouse$Router", "entryState", "[I", true)
  | 13 => ("DrawingHouse$Router", "entryNext", "[I", true)
  | 14 => ("DrawingHouse$Router", "entries", "I", false)
  | 15 => ("DrawingHouse$Router", "turnX", "[I", true)
  | 16 => ("DrawingHouse$Router", "turnY", "[I", true)
  | _ => ("DrawingHouse$Router", "turns", "I", false)
def t_Ro : Nat → FieldType := fun k => match k with
  | 0 => .object "DrawingHouse$Graph"
  | 1 => .object "DrawingHouse$Drawing"
  | 2 => .int
  | 3 => .int
  | 4 => .int
  | 5 => .int
  | 6 => .int
  | 7 => .int
  | 8 => .int
  | 9 => .array .boolean
  | 10 => .array .int
  | 11 => .array .int
  | 12 => .array .int
  | 13 => .array .int
  | 14 => .int
  | 15 => .array .int
  | 16 => .array .int
  | _ => .int
set_option maxRecDepth 20000 in
theorem n_Ro : ∀ a, a < 18 → ∀ b, b < 18 → a ≠ b → (F_Ro a).2.1 ≠ (F_Ro b).2.1 := by decide +kernel
set_option maxRecDepth 20000 in
theorem t_Ro_ok : ∀ k, k < 18 → parseFieldDescriptor (F_Ro k).2.2.1 = some (t_Ro k) := by decide +kernel
def R_St : String := "DrawingHouse$Stretch"
def F_St : u_T := fun k => match k with
  | 0 => ("DrawingHouse$Stretch", "nodes", "I", false)
  | 1 => ("DrawingHouse$Stretch", "arcs", "I", false)
  | 2 => ("DrawingHouse$Stretch", "from", "[I", true)
  | 3 => ("DrawingHouse$Stretch", "to", "[I", true)
  | 4 => ("DrawingHouse$Stretch", "room", "[I", true)
  | 5 => ("DrawingHouse$Stretch", "gain", "[I", true)
  | 6 => ("DrawingHouse$Stretch", "place", "[I", true)
  | 7 => ("DrawingHouse$Stretch", "by", "[I", true)
  | _ => ("DrawingHouse$Stretch", "mark", "[I", true)
def t_St : Nat → FieldType := fun k => match k with
  | 0 => .int
  | 1 => .int
  | 2 => .array .int
  | 3 => .array .int
  | 4 => .array .int
  | 5 => .array .int
  | 6 => .array .int
  | 7 => .array .int
  | _ => .array .int
set_option maxRecDepth 20000 in
theorem n_St : ∀ a, a < 9 → ∀ b, b < 9 → a ≠ b → (F_St a).2.1 ≠ (F_St b).2.1 := by decide +kernel
set_option maxRecDepth 20000 in
theorem t_St_ok : ∀ k, k < 9 → parseFieldDescriptor (F_St k).2.2.1 = some (t_St k) := by decide +kernel
def R_Sy : String := "DrawingHouse$Styler"
def F_Sy : u_T := fun k => match k with
  | 0 => ("DrawingHouse$Styler", "rules", "I", false)
  | 1 => ("DrawingHouse$Styler", "fault", "I", false)
  | 2 => ("DrawingHouse$Styler", "faultPlace", "I", false)
  | 3 => ("DrawingHouse$Styler", "bytes", "[B", false)
  | 4 => ("DrawingHouse$Styler", "end", "I", false)
  | 5 => ("DrawingHouse$Styler", "next", "I", false)
  | 6 => ("DrawingHouse$Styler", "kind", "I", false)
  | 7 => ("DrawingHouse$Styler", "begin", "I", false)
  | 8 => ("DrawingHouse$Styler", "number", "I", false)
  | 9 => ("DrawingHouse$Styler", "words", "Ljava/lang/String;", false)
  | 10 => ("DrawingHouse$Styler", "code", "[I", true)
  | 11 => ("DrawingHouse$Styler", "codeLength", "I", false)
  | 12 => ("DrawingHouse$Styler", "ruleStart", "[I", true)
  | 13 => ("DrawingHouse$Styler", "ruleKind", "[I", true)
  | 14 => ("DrawingHouse$Styler", "stack", "[J", true)
  | 15 => ("DrawingHouse$Styler", "height", "I", false)
  | _ => ("DrawingHouse$Styler", "value", "[J", true)
def t_Sy : Nat → FieldType := fun k => match k with
  | 0 => .int
  | 1 => .int
  | 2 => .int
  | 3 => .array .byte
  | 4 => .int
  | 5 => .int
  | 6 => .int
  | 7 => .int
  | 8 => .int
  | 9 => .object "java/lang/String"
  | 10 => .array .int
  | 11 => .int
  | 12 => .array .int
  | 13 => .array .int
  | 14 => .array .long
  | 15 => .int
  | _ => .array .long
set_option maxRecDepth 20000 in
theorem n_Sy : ∀ a, a < 17 → ∀ b, b < 17 → a ≠ b → (F_Sy a).2.1 ≠ (F_Sy b).2.1 := by decide +kernel
set_option maxRecDepth 20000 in
theorem t_Sy_ok : ∀ k, k < 17 → parseFieldDescriptor (F_Sy k).2.2.1 = some (t_Sy k) := by decide +kernel
def R_Ho : String := "DrawingHouse"
def F_Ho : u_T := fun k => match k with
  | 0 => ("DrawingHouse", "graphs", "[LDrawingHouse$Graph;", true)
  | 1 => ("DrawingHouse", "facts", "[LDrawingHouse$Facts;", true)
  | 2 => ("DrawingHouse", "nets", "[LDrawingHouse$Net;", true)
  | 3 => ("DrawingHouse", "drawings", "[LDrawingHouse$Drawing;", true)
  | 4 => ("DrawingHouse", "reader", "LDrawingHouse$Reader;", true)
  | 5 => ("DrawingHouse", "embedder", "LDrawingHouse$Embedder;", true)
  | 6 => ("DrawingHouse", "became", "[I", true)
  | 7 => ("DrawingHouse", "becameNodes", "I", false)
  | 8 => ("DrawingHouse", "steps", "I", false)
  | 9 => ("DrawingHouse", "written", "[B", false)
  | 10 => ("DrawingHouse", "spare", "[B", false)
  | 11 => ("DrawingHouse", "writtenLength", "I", false)
  | 12 => ("DrawingHouse", "spareLength", "I", false)
  | 13 => ("DrawingHouse", "plane", "[I", true)
  | 14 => ("DrawingHouse", "planeWidth", "I", false)
  | 15 => ("DrawingHouse", "planeHeight", "I", false)
  | 16 => ("DrawingHouse", "styler", "LDrawingHouse$Styler;", false)
  | 17 => ("DrawingHouse", "layers", "LDrawingHouse$Layers;", false)
  | 18 => ("DrawingHouse", "planarWays", "LDrawingHouse$PlanarWays;", false)
  | 19 => ("DrawingHouse", "plainWays", "LDrawingHouse$PlainWays;", false)
  | _ => ("DrawingHouse", "router", "LDrawingHouse$Router;", false)
def t_Ho : Nat → FieldType := fun k => match k with
  | 0 => .array (.object "DrawingHouse$Graph")
  | 1 => .array (.object "DrawingHouse$Facts")
  | 2 => .array (.object "DrawingHouse$Net")
  | 3 => .array (.object "DrawingHouse$Drawing")
  | 4 => .object "DrawingHouse$Reader"
  | 5 => .object "DrawingHouse$Embedder"
  | 6 => .array .int
  | 7 => .int
  | 8 => .int
  | 9 => .array .byte
  | 10 => .array .byte
  | 11 => .int
  | 12 => .int
  | 13 => .array .int
  | 14 => .int
  | 15 => .int
  | 16 => .object "DrawingHouse$Styler"
  | 17 => .object "DrawingHouse$Layers"
  | 18 => .object "DrawingHouse$PlanarWays"
  | 19 => .object "DrawingHouse$PlainWays"
  | _ => .object "DrawingHouse$Router"
set_option maxRecDepth 20000 in
theorem n_Ho : ∀ a, a < 21 → ∀ b, b < 21 → a ≠ b → (F_Ho a).2.1 ≠ (F_Ho b).2.1 := by decide +kernel
set_option maxRecDepth 20000 in
theorem t_Ho_ok : ∀ k, k < 21 → parseFieldDescriptor (F_Ho k).2.2.1 = some (t_Ho k) := by decide +kernel
def R_Mo : String := "DrawingHouseModel"
def F_Mo : u_T := fun k => match k with
  | 0 => ("DrawingHouseModel", "taped", "I", false)
  | 1 => ("DrawingHouseModel", "tape", "[B", true)
  | 2 => ("DrawingHouseModel", "all", "[I", true)
  | 3 => ("DrawingHouseModel", "now", "[I", true)
  | 4 => ("DrawingHouseModel", "latest", "[I", true)
  | 5 => ("DrawingHouseModel", "\x72", "I", false)
  | 6 => ("DrawingHouseModel", "fresh", "[I", true)
  | 7 => ("DrawingHouseModel", "isTold", "Z", false)
  | 8 => ("DrawingHouseModel", "fault", "I", false)
  | 9 => ("DrawingHouseModel", "faultPlace", "I", false)
  | 10 => ("DrawingHouseModel", "limit", "I", false)
  | 11 => ("DrawingHouseModel", "pos", "I", false)
  | 12 => ("DrawingHouseModel", "kind", "I", false)
  | 13 => ("DrawingHouseModel", "place", "I", false)
  | 14 => ("DrawingHouseModel", "value", "I", false)
  | 15 => ("DrawingHouseModel", "from", "I", false)
  | 16 => ("DrawingHouseModel", "partOf", "[I", true)
  | 17 => ("DrawingHouseModel", "blockOf", "[I", true)
  | 18 => ("DrawingHouseModel", "strongOf", "[I", true)
  | 19 => ("DrawingHouseModel", "farOf", "[I", true)
  | 20 => ("DrawingHouseModel", "line", "[I", true)
  | 21 => ("DrawingHouseModel", "reach", "[Z", true)
  | 22 => ("DrawingHouseModel", "left", "[Z", true)
  | 23 => ("DrawingHouseModel", "map", "[I", true)
  | 24 => ("DrawingHouseModel", "mapTried", "[I", true)
  | 25 => ("DrawingHouseModel", "isMapped", "Z", false)
  | 26 => ("DrawingHouseModel", "mapNodes", "I", false)
  | 27 => ("DrawingHouseModel", "steps", "I", false)
  | 28 => ("DrawingHouseModel", "rowA", "I", false)
  | 29 => ("DrawingHouseModel", "rowB", "I", false)
  | 30 => ("DrawingHouseModel", "hasSteps", "Z", false)
  | 31 => ("DrawingHouseModel", "pn", "I", false)
  | 32 => ("DrawingHouseModel", "pm", "I", false)
  | 33 => ("DrawingHouseModel", "pt", "[I", true)
  | 34 => ("DrawingHouseModel", "ph", "[I", true)
  | 35 => ("DrawingHouseModel", "alive", "[Z", true)
  | 36 => ("DrawingHouseModel", "rotMany", "[I", true)
  | 37 => ("DrawingHouseModel", "rot", "[I", true)
  | 38 => ("DrawingHouseModel", "seen", "[Z", true)
  | 39 => ("DrawingHouseModel", "faces", "I", false)
  | 40 => ("DrawingHouseModel", "faceMany", "[I", true)
  | 41 => ("DrawingHouseModel", "face", "[I", true)
  | 42 => ("DrawingHouseModel", "drawnNode", "[Z", true)
  | 43 => ("DrawingHouseModel", "drawnEdge", "[Z", true)
  | 44 => ("DrawingHouseModel", "pieceOf", "[I", true)
  | 45 => ("DrawingHouseModel", "wayMany", "I", false)
  | 46 => ("DrawingHouseModel", "way", "[I", true)
  | 47 => ("DrawingHouseModel", "goal", "I", false)
  | 48 => ("DrawingHouseModel", "toGoal", "[I", true)
  | 49 => ("DrawingHouseModel", "onlyPiece", "I", false)
  | 50 => ("DrawingHouseModel", "ends", "[I", true)
  | 51 => ("DrawingHouseModel", "faceNodes", "[I", true)
  | 52 => ("DrawingHouseModel", "bestWay", "[I", true)
  | 53 => ("DrawingHouseModel", "rounds", "I", false)
  | 54 => ("DrawingHouseModel", "roundOf", "[I", true)
  | 55 => ("DrawingHouseModel", "dartAt", "[I", true)
  | 56 => ("DrawingHouseModel", "roundBegin", "[I", true)
  | 57 => ("DrawingHouseModel", "roundDart", "[I", true)
  | 58 => ("DrawingHouseModel", "barredMany", "I", false)
  | 59 => ("DrawingHouseModel", "barredKind", "I", false)
  | 60 => ("DrawingHouseModel", "barred", "[I", true)
  | 61 => ("DrawingHouseModel", "drawn", "[I", true)
  | 62 => ("DrawingHouseModel", "nodeX", "[I", true)
  | 63 => ("DrawingHouseModel", "nodeY", "[I", true)
  | 64 => ("DrawingHouseModel", "bendMany", "[I", true)
  | 65 => ("DrawingHouseModel", "bendX", "[I", true)
  | 66 => ("DrawingHouseModel", "bendY", "[I", true)
  | 67 => ("DrawingHouseModel", "toldCross", "[I", true)
  | 68 => ("DrawingHouseModel", "toldSum", "[I", true)
  | 69 => ("DrawingHouseModel", "toldLayer", "[I", true)
  | 70 => ("DrawingHouseModel", "toldTurned", "[I", true)
  | 71 => ("DrawingHouseModel", "toldArea", "[I", true)
  | 72 => ("DrawingHouseModel", "toldGroup", "[I", true)
  | 73 => ("DrawingHouseModel", "shades", "[I", true)
  | 74 => ("DrawingHouseModel", "nx", "[I", true)
  | 75 => ("DrawingHouseModel", "ny", "[I", true)
  | 76 => ("DrawingHouseModel", "bm", "[I", true)
  | 77 => ("DrawingHouseModel", "bx", "[I", true)
  | 78 => ("DrawingHouseModel", "by", "[I", true)
  | 79 => ("DrawingHouseModel", "pointMany", "I", false)
  | 80 => ("DrawingHouseModel", "costMany", "I", false)
  | 81 => ("DrawingHouseModel", "apartMany", "I", false)
  | 82 => ("DrawingHouseModel", "spot", "[I", true)
  | 83 => ("DrawingHouseModel", "costA", "[I", true)
  | 84 => ("DrawingHouseModel", "costB", "[I", true)
  | 85 => ("DrawingHouseModel", "costW", "[I", true)
  | 86 => ("DrawingHouseModel", "costPlain", "[Z", true)
  | 87 => ("DrawingHouseModel", "apartA", "[I", true)
  | 88 => ("DrawingHouseModel", "apartB", "[I", true)
  | 89 => ("DrawingHouseModel", "apart", "[I", true)
  | 90 => ("DrawingHouseModel", "flow", "[I", true)
  | 91 => ("DrawingHouseModel", "cameBy", "[I", true)
  | 92 => ("DrawingHouseModel", "queue", "[I", true)
  | 93 => ("DrawingHouseModel", "goes", "[I", true)
  | 94 => ("DrawingHouseModel", "pushes", "I", false)
  | 95 => ("DrawingHouseModel", "turned", "[Z", true)
  | 96 => ("DrawingHouseModel", "order", "[I", true)
  | 97 => ("DrawingHouseModel", "best", "[I", true)
  | 98 => ("DrawingHouseModel", "member", "[I", true)
  | 99 => ("DrawingHouseModel", "members", "I", false)
  | 100 => ("DrawingHouseModel", "items", "I", false)
  | 101 => ("DrawingHouseModel", "layerMany", "I", false)
  | 102 => ("DrawingHouseModel", "itemLayer", "[I", true)
  | 103 => ("DrawingHouseModel", "itemEdge", "[I", true)
  | 104 => ("DrawingHouseModel", "firstJoint", "[I", true)
  | 105 => ("DrawingHouseModel", "layerSize", "[I", true)
  | 106 => ("DrawingHouseModel", "layerItem", "[I", true)
  | 107 => ("DrawingHouseModel", "lines", "I", false)
  | 108 => ("DrawingHouseModel", "lineA", "[I", true)
  | 109 => ("DrawingHouseModel", "lineB", "[I", true)
  | 110 => ("DrawingHouseModel", "permBegin", "[I", true)
  | 111 => ("DrawingHouseModel", "permMany", "[I", true)
  | 112 => ("DrawingHouseModel", "perm", "[B", true)
  | 113 => ("DrawingHouseModel", "rest", "[I", true)
  | 114 => ("DrawingHouseModel", "worse", "[I", true)
  | 115 => ("DrawingHouseModel", "listed", "[I", true)
  | 116 => ("DrawingHouseModel", "inOrder", "[I", true)
  | 117 => ("DrawingHouseModel", "row", "[I", true)
  | 118 => ("DrawingHouseModel", "kept", "[I", true)
  | 119 => ("DrawingHouseModel", "meanA", "[J", true)
  | 120 => ("DrawingHouseModel", "meanB", "[J", true)
  | 121 => ("DrawingHouseModel", "upper", "I", false)
  | 122 => ("DrawingHouseModel", "upperNode", "[I", true)
  | 123 => ("DrawingHouseModel", "under", "[I", true)
  | 124 => ("DrawingHouseModel", "number", "[I", true)
  | 125 => ("DrawingHouseModel", "rowMany", "I", false)
  | 126 => ("DrawingHouseModel", "toldNumber", "[I", true)
  | 127 => ("DrawingHouseModel", "above", "[I", true)
  | 128 => ("DrawingHouseModel", "level", "[I", true)
  | 129 => ("DrawingHouseModel", "root", "[I", true)
  | 130 => ("DrawingHouseModel", "itemOf", "[I", true)
  | 131 => ("DrawingHouseModel", "itemSize", "[I", true)
  | 132 => ("DrawingHouseModel", "itemMany", "I", false)
  | 133 => ("DrawingHouseModel", "shapeA", "J", false)
  | 134 => ("DrawingHouseModel", "shapeB", "J", false)
  | 135 => ("DrawingHouseModel", "fx", "[J", true)
  | 136 => ("DrawingHouseModel", "fy", "[J", true)
  | 137 => ("DrawingHouseModel", "wx", "[J", true)
  | 138 => ("DrawingHouseModel", "wy", "[J", true)
  | 139 => ("DrawingHouseModel", "g0", "I", false)
  | 140 => ("DrawingHouseModel", "costOf", "[I", true)
  | 141 => ("DrawingHouseModel", "bucket", "[I", true)
  | 142 => ("DrawingHouseModel", "bucketMany", "[I", true)
  | 143 => ("DrawingHouseModel", "barredPoint", "[Z", true)
  | 144 => ("DrawingHouseModel", "left0", "I", false)
  | 145 => ("DrawingHouseModel", "top0", "I", false)
  | 146 => ("DrawingHouseModel", "wide", "I", false)
  | 147 => ("DrawingHouseModel", "tall", "I", false)
  | 148 => ("DrawingHouseModel", "turnX", "[I", true)
  | 149 => ("DrawingHouseModel", "turnY", "[I", true)
  | 150 => ("DrawingHouseModel", "labels", "I", false)
  | 151 => ("DrawingHouseModel", "labelX", "[I", true)
  | 152 => ("DrawingHouseModel", "labelY", "[I", true)
  | 153 => ("DrawingHouseModel", "leastX", "I", false)
  | 154 => ("DrawingHouseModel", "mostX", "I", false)
  | 155 => ("DrawingHouseModel", "leastY", "I", false)
  | 156 => ("DrawingHouseModel", "mostY", "I", false)
  | 157 => ("DrawingHouseModel", "tokens", "I", false)
  | 158 => ("DrawingHouseModel", "cur", "I", false)
  | 159 => ("DrawingHouseModel", "opened", "I", false)
  | 160 => ("DrawingHouseModel", "tokenKind", "[I", true)
  | 161 => ("DrawingHouseModel", "tokenValue", "[J", true)
  | 162 => ("DrawingHouseModel", "tokenPlace", "[I", true)
  | 163 => ("DrawingHouseModel", "tokenEnd", "[I", true)
  | 164 => ("DrawingHouseModel", "styleKind", "I", false)
  | 165 => ("DrawingHouseModel", "styleOne", "I", false)
  | 166 => ("DrawingHouseModel", "partOfBlocks", "[I", true)
  | 167 => ("DrawingHouseModel", "coreOf", "[I", true)
  | 168 => ("DrawingHouseModel", "turnedNow", "[Z", true)
  | 169 => ("DrawingHouseModel", "octets", "I", false)
  | 170 => ("DrawingHouseModel", "texts", "I", false)
  | 171 => ("DrawingHouseModel", "octet", "[B", true)
  | 172 => ("DrawingHouseModel", "written", "[B", true)
  | 173 => ("DrawingHouseModel", "dotWide", "I", false)
  | 174 => ("DrawingHouseModel", "dotTall", "I", false)
  | _ => ("DrawingHouseModel", "dots", "[I", true)
def t_Mo : Nat → FieldType := fun k => match k with
  | 0 => .int
  | 1 => .array .byte
  | 2 => .array .int
  | 3 => .array .int
  | 4 => .array .int
  | 5 => .int
  | 6 => .array .int
  | 7 => .boolean
  | 8 => .int
  | 9 => .int
  | 10 => .int
  | 11 => .int
  | 12 => .int
  | 13 => .int
  | 14 => .int
  | 15 => .int
  | 16 => .array .int
  | 17 => .array .int
  | 18 => .array .int
  | 19 => .array .int
  | 20 => .array .int
  | 21 => .array .boolean
  | 22 => .array .boolean
  | 23 => .array .int
  | 24 => .array .int
  | 25 => .boolean
  | 26 => .int
  | 27 => .int
  | 28 => .int
  | 29 => .int
  | 30 => .boolean
  | 31 => .int
  | 32 => .int
  | 33 => .array .int
  | 34 => .array .int
  | 35 => .array .boolean
  | 36 => .array .int
  | 37 => .array .int
  | 38 => .array .boolean
  | 39 => .int
  | 40 => .array .int
  | 41 => .array .int
  | 42 => .array .boolean
  | 43 => .array .boolean
  | 44 => .array .int
  | 45 => .int
  | 46 => .array .int
  | 47 => .int
  | 48 => .array .int
  | 49 => .int
  | 50 => .array .int
  | 51 => .array .int
  | 52 => .array .int
  | 53 => .int
  | 54 => .array .int
  | 55 => .array .int
  | 56 => .array .int
  | 57 => .array .int
  | 58 => .int
  | 59 => .int
  | 60 => .array .int
  | 61 => .array .int
  | 62 => .array .int
  | 63 => .array .int
  | 64 => .array .int
  | 65 => .array .int
  | 66 => .array .int
  | 67 => .array .int
  | 68 => .array .int
  | 69 => .array .int
  | 70 => .array .int
  | 71 => .array .int
  | 72 => .array .int
  | 73 => .array .int
  | 74 => .array .int
  | 75 => .array .int
  | 76 => .array .int
  | 77 => .array .int
  | 78 => .array .int
  | 79 => .int
  | 80 => .int
  | 81 => .int
  | 82 => .array .int
  | 83 => .array .int
  | 84 => .array .int
  | 85 => .array .int
  | 86 => .array .boolean
  | 87 => .array .int
  | 88 => .array .int
  | 89 => .array .int
  | 90 => .array .int
  | 91 => .array .int
  | 92 => .array .int
  | 93 => .array .int
  | 94 => .int
  | 95 => .array .boolean
  | 96 => .array .int
  | 97 => .array .int
  | 98 => .array .int
  | 99 => .int
  | 100 => .int
  | 101 => .int
  | 102 => .array .int
  | 103 => .array .int
  | 104 => .array .int
  | 105 => .array .int
  | 106 => .array .int
  | 107 => .int
  | 108 => .array .int
  | 109 => .array .int
  | 110 => .array .int
  | 111 => .array .int
  | 112 => .array .byte
  | 113 => .array .int
  | 114 => .array .int
  | 115 => .array .int
  | 116 => .array .int
  | 117 => .array .int
  | 118 => .array .int
  | 119 => .array .long
  | 120 => .array .long
  | 121 => .int
  | 122 => .array .int
  | 123 => .array .int
  | 124 => .array .int
  | 125 => .int
  | 126 => .array .int
  | 127 => .array .int
  | 128 => .array .int
  | 129 => .array .int
  | 130 => .array .int
  | 131 => .array .int
  | 132 => .int
  | 133 => .long
  | 134 => .long
  | 135 => .array .long
  | 136 => .array .long
  | 137 => .array .long
  | 138 => .array .long
  | 139 => .int
  | 140 => .array .int
  | 141 => .array .int
  | 142 => .array .int
  | 143 => .array .boolean
  | 144 => .int
  | 145 => .int
  | 146 => .int
  | 147 => .int
  | 148 => .array .int
  | 149 => .array .int
  | 150 => .int
  | 151 => .array .int
  | 152 => .array .int
  | 153 => .int
  | 154 => .int
  | 155 => .int
  | 156 => .int
  | 157 => .int
  | 158 => .int
  | 159 => .int
  | 160 => .array .int
  | 161 => .array .long
  | 162 => .array .int
  | 163 => .array .int
  | 164 => .int
  | 165 => .int
  | 166 => .array .int
  | 167 => .array .int
  | 168 => .array .boolean
  | 169 => .int
  | 170 => .int
  | 171 => .array .byte
  | 172 => .array .byte
  | 173 => .int
  | 174 => .int
  | _ => .array .int
set_option maxRecDepth 20000 in
theorem n_Mo : ∀ a, a < 176 → ∀ b, b < 176 → a ≠ b → (F_Mo a).2.1 ≠ (F_Mo b).2.1 := by decide +kernel
set_option maxRecDepth 20000 in
theorem t_Mo_ok : ∀ k, k < 176 → parseFieldDescriptor (F_Mo k).2.2.1 = some (t_Mo k) := by decide +kernel
abbrev classes : List vw_C := [(R_Dr, F_Dr, 21), (R_Em, F_Em, 20), (R_Fa, F_Fa, 15), (R_Gr, F_Gr, 19), (R_La, F_La, 21), (R_Ne, F_Ne, 17), (R_Pl, F_Pl, 19), (R_Pn, F_Pn, 9), (R_Re, F_Re, 12), (R_Ro, F_Ro, 18), (R_St, F_St, 9), (R_Sy, F_Sy, 17), (R_Ho, F_Ho, 21), (R_Mo, F_Mo, 176)]
def TY (kA : Nat → ClassId) : List (ClassId × FieldType) := [(kA 0, .int), (kA 1, .byte), (kA 2, .boolean), (kA 3, .long), (kA 4, .object "DrawingHouse$Graph"), (kA 5, .object "DrawingHouse$Facts"), (kA 6, .object "DrawingHouse$Net"), (kA 7, .object "DrawingHouse$Drawing")]
theorem wm_153 : (Cond.lays "DrawingHouse$Graph" "DrawingHouse$Graph" "nodes" "I" : Cond) ∈ lw_g := lw_gi (lw_c1 (List.mem_of_getElem? (i := 153) rfl)) rfl
theorem wm_155 : (Cond.lays "DrawingHouse$Graph" "DrawingHouse$Graph" "edges" "I" : Cond) ∈ lw_g := lw_gi (lw_c1 (List.mem_of_getElem? (i := 155) rfl)) rfl
theorem wm_157 : (Cond.lays "DrawingHouse$Graph" "DrawingHouse$Graph" "groups" "I" : Cond) ∈ lw_g := lw_gi (lw_c1 (List.mem_of_getElem? (i := 157) rfl)) rfl
theorem wm_159 : (Cond.laysFinal "DrawingHouse$Graph" "DrawingHouse$Graph" "name" "[B" : Cond) ∈ lw_g := lw_gi (lw_c1 (List.mem_of_getElem? (i := 159) rfl)) rfl
theorem wm_161 : (Cond.laysFinal "DrawingHouse$Graph" "DrawingHouse$Graph" "nameLength" "[I" : Cond) ∈ lw_g := lw_gi (lw_c1 (List.mem_of_getElem? (i := 161) rfl)) rfl
theorem wm_163 : (Cond.laysFinal "DrawingHouse$Graph" "DrawingHouse$Graph" "size" "[I" : Cond) ∈ lw_g := lw_gi (lw_c1 (List.mem_of_getElem? (i := 163) rfl)) rfl
theorem wm_165 : (Cond.laysFinal "DrawingHouse$Graph" "DrawingHouse$Graph" "groupOf" "[I" : Cond) ∈ lw_g := lw_gi (lw_c1 (List.mem_of_getElem? (i := 165) rfl)) rfl
theorem wm_167 : (Cond.laysFinal "DrawingHouse$Graph" "DrawingHouse$Graph" "tail" "[I" : Cond) ∈ lw_g := lw_gi (lw_c1 (List.mem_of_getElem? (i := 167) rfl)) rfl
theorem wm_169 : (Cond.laysFinal "DrawingHouse$Graph" "DrawingHouse$Graph" "head" "[I" : Cond) ∈ lw_g := lw_gi (lw_c1 (List.mem_of_getElem? (i := 169) rfl)) rfl
theorem wm_171 : (Cond.laysFinal "DrawingHouse$Graph" "DrawingHouse$Graph" "weight" "[I" : Cond) ∈ lw_g := lw_gi (lw_c1 (List.mem_of_getElem? (i := 171) rfl)) rfl
theorem wm_173 : (Cond.laysFinal "DrawingHouse$Graph" "DrawingHouse$Graph" "oneWay" "[I" : Cond) ∈ lw_g := lw_gi (lw_c1 (List.mem_of_getElem? (i := 173) rfl)) rfl
theorem wm_175 : (Cond.laysFinal "DrawingHouse$Graph" "DrawingHouse$Graph" "within" "[I" : Cond) ∈ lw_g := lw_gi (lw_c1 (List.mem_of_getElem? (i := 175) rfl)) rfl
theorem wm_177 : (Cond.laysFinal "DrawingHouse$Graph" "DrawingHouse$Graph" "groupName" "[B" : Cond) ∈ lw_g := lw_gi (lw_c1 (List.mem_of_getElem? (i := 177) rfl)) rfl
theorem wm_179 : (Cond.laysFinal "DrawingHouse$Graph" "DrawingHouse$Graph" "groupNameLength" "[I" : Cond) ∈ lw_g := lw_gi (lw_c1 (List.mem_of_getElem? (i := 179) rfl)) rfl
theorem wm_181 : (Cond.laysFinal "DrawingHouse$Graph" "DrawingHouse$Graph" "near" "[I" : Cond) ∈ lw_g := lw_gi (lw_c1 (List.mem_of_getElem? (i := 181) rfl)) rfl
theorem wm_183 : (Cond.laysFinal "DrawingHouse$Graph" "DrawingHouse$Graph" "link" "[I" : Cond) ∈ lw_g := lw_gi (lw_c1 (List.mem_of_getElem? (i := 183) rfl)) rfl
theorem wm_185 : (Cond.lays "DrawingHouse$Graph" "DrawingHouse$Graph" "past" "[I" : Cond) ∈ lw_g := lw_gi (lw_c1 (List.mem_of_getElem? (i := 185) rfl)) rfl
theorem wm_187 : (Cond.lays "DrawingHouse$Graph" "DrawingHouse$Graph" "done" "I" : Cond) ∈ lw_g := lw_gi (lw_c1 (List.mem_of_getElem? (i := 187) rfl)) rfl
theorem wm_189 : (Cond.lays "DrawingHouse$Graph" "DrawingHouse$Graph" "undone" "I" : Cond) ∈ lw_g := lw_gi (lw_c1 (List.mem_of_getElem? (i := 189) rfl)) rfl
theorem wm_211 : (Cond.laysFinal "DrawingHouse$Reader" "DrawingHouse$Reader" "tape" "[B" : Cond) ∈ lw_g := lw_gi (lw_c1 (List.mem_of_getElem? (i := 211) rfl)) rfl
theorem wm_213 : (Cond.lays "DrawingHouse$Reader" "DrawingHouse$Reader" "length" "I" : Cond) ∈ lw_g := lw_gi (lw_c1 (List.mem_of_getElem? (i := 213) rfl)) rfl
theorem wm_215 : (Cond.lays "DrawingHouse$Reader" "DrawingHouse$Reader" "fault" "I" : Cond) ∈ lw_g := lw_gi (lw_c1 (List.mem_of_getElem? (i := 215) rfl)) rfl
theorem wm_217 : (Cond.lays "DrawingHouse$Reader" "DrawingHouse$Reader" "faultPlace" "I" : Cond) ∈ lw_g := lw_gi (lw_c1 (List.mem_of_getElem? (i := 217) rfl)) rfl
theorem wm_219 : (Cond.laysFinal "DrawingHouse$Reader" "DrawingHouse$Reader" "graph" "LDrawingHouse$Graph;" : Cond) ∈ lw_g := lw_gi (lw_c1 (List.mem_of_getElem? (i := 219) rfl)) rfl
theorem wm_221 : (Cond.lays "DrawingHouse$Reader" "DrawingHouse$Reader" "end" "I" : Cond) ∈ lw_g := lw_gi (lw_c1 (List.mem_of_getElem? (i := 221) rfl)) rfl
theorem wm_223 : (Cond.lays "DrawingHouse$Reader" "DrawingHouse$Reader" "next" "I" : Cond) ∈ lw_g := lw_gi (lw_c1 (List.mem_of_getElem? (i := 223) rfl)) rfl
theorem wm_225 : (Cond.lays "DrawingHouse$Reader" "DrawingHouse$Reader" "kind" "I" : Cond) ∈ lw_g := lw_gi (lw_c1 (List.mem_of_getElem? (i := 225) rfl)) rfl
theorem wm_227 : (Cond.lays "DrawingHouse$Reader" "DrawingHouse$Reader" "begin" "I" : Cond) ∈ lw_g := lw_gi (lw_c1 (List.mem_of_getElem? (i := 227) rfl)) rfl
theorem wm_229 : (Cond.lays "DrawingHouse$Reader" "DrawingHouse$Reader" "number" "I" : Cond) ∈ lw_g := lw_gi (lw_c1 (List.mem_of_getElem? (i := 229) rfl)) rfl
theorem wm_231 : (Cond.laysFinal "DrawingHouse$Reader" "DrawingHouse$Reader" "open" "[I" : Cond) ∈ lw_g := lw_gi (lw_c1 (List.mem_of_getElem? (i := 231) rfl)) rfl
theorem wm_233 : (Cond.lays "DrawingHouse$Reader" "DrawingHouse$Reader" "depth" "I" : Cond) ∈ lw_g := lw_gi (lw_c1 (List.mem_of_getElem? (i := 233) rfl)) rfl
theorem wm_291 : (Cond.lays "DrawingHouse$Net" "DrawingHouse$Net" "planar" "I" : Cond) ∈ lw_g := lw_gi (lw_c2 (List.mem_of_getElem? (i := 51) rfl)) rfl
theorem wm_293 : (Cond.lays "DrawingHouse$Net" "DrawingHouse$Net" "outer" "I" : Cond) ∈ lw_g := lw_gi (lw_c2 (List.mem_of_getElem? (i := 53) rfl)) rfl
theorem wm_295 : (Cond.lays "DrawingHouse$Net" "DrawingHouse$Net" "kind" "I" : Cond) ∈ lw_g := lw_gi (lw_c2 (List.mem_of_getElem? (i := 55) rfl)) rfl
theorem wm_297 : (Cond.lays "DrawingHouse$Net" "DrawingHouse$Net" "barredEdges" "I" : Cond) ∈ lw_g := lw_gi (lw_c2 (List.mem_of_getElem? (i := 57) rfl)) rfl
theorem wm_299 : (Cond.laysFinal "DrawingHouse$Net" "DrawingHouse$Net" "barred" "[I" : Cond) ∈ lw_g := lw_gi (lw_c2 (List.mem_of_getElem? (i := 59) rfl)) rfl
theorem wm_301 : (Cond.lays "DrawingHouse$Net" "DrawingHouse$Net" "nodes" "I" : Cond) ∈ lw_g := lw_gi (lw_c2 (List.mem_of_getElem? (i := 61) rfl)) rfl
theorem wm_303 : (Cond.lays "DrawingHouse$Net" "DrawingHouse$Net" "edges" "I" : Cond) ∈ lw_g := lw_gi (lw_c2 (List.mem_of_getElem? (i := 63) rfl)) rfl
theorem wm_305 : (Cond.laysFinal "DrawingHouse$Net" "DrawingHouse$Net" "tail" "[I" : Cond) ∈ lw_g := lw_gi (lw_c2 (List.mem_of_getElem? (i := 65) rfl)) rfl
theorem wm_307 : (Cond.laysFinal "DrawingHouse$Net" "DrawingHouse$Net" "head" "[I" : Cond) ∈ lw_g := lw_gi (lw_c2 (List.mem_of_getElem? (i := 67) rfl)) rfl
theorem wm_309 : (Cond.laysFinal "DrawingHouse$Net" "DrawingHouse$Net" "near" "[I" : Cond) ∈ lw_g := lw_gi (lw_c2 (List.mem_of_getElem? (i := 69) rfl)) rfl
theorem wm_311 : (Cond.laysFinal "DrawingHouse$Net" "DrawingHouse$Net" "link" "[I" : Cond) ∈ lw_g := lw_gi (lw_c2 (List.mem_of_getElem? (i := 71) rfl)) rfl
theorem wm_313 : (Cond.laysFinal "DrawingHouse$Net" "DrawingHouse$Net" "behind" "[I" : Cond) ∈ lw_g := lw_gi (lw_c2 (List.mem_of_getElem? (i := 73) rfl)) rfl
theorem wm_315 : (Cond.laysFinal "DrawingHouse$Net" "DrawingHouse$Net" "first" "[I" : Cond) ∈ lw_g := lw_gi (lw_c2 (List.mem_of_getElem? (i := 75) rfl)) rfl
theorem wm_317 : (Cond.lays "DrawingHouse$Net" "DrawingHouse$Net" "faces" "I" : Cond) ∈ lw_g := lw_gi (lw_c2 (List.mem_of_getElem? (i := 77) rfl)) rfl
theorem wm_319 : (Cond.laysFinal "DrawingHouse$Net" "DrawingHouse$Net" "rowStart" "[I" : Cond) ∈ lw_g := lw_gi (lw_c2 (List.mem_of_getElem? (i := 79) rfl)) rfl
theorem wm_321 : (Cond.laysFinal "DrawingHouse$Net" "DrawingHouse$Net" "rowNode" "[I" : Cond) ∈ lw_g := lw_gi (lw_c2 (List.mem_of_getElem? (i := 81) rfl)) rfl
theorem wm_323 : (Cond.laysFinal "DrawingHouse$Net" "DrawingHouse$Net" "faceOf" "[I" : Cond) ∈ lw_g := lw_gi (lw_c2 (List.mem_of_getElem? (i := 83) rfl)) rfl
theorem wm_346 : (Cond.lays "DrawingHouse$Embedder" "DrawingHouse$Embedder" "net" "LDrawingHouse$Net;" : Cond) ∈ lw_g := lw_gi (lw_c2 (List.mem_of_getElem? (i := 106) rfl)) rfl
theorem wm_348 : (Cond.laysFinal "DrawingHouse$Embedder" "DrawingHouse$Embedder" "probe" "LDrawingHouse$Net;" : Cond) ∈ lw_g := lw_gi (lw_c2 (List.mem_of_getElem? (i := 108) rfl)) rfl
theorem wm_350 : (Cond.laysFinal "DrawingHouse$Embedder" "DrawingHouse$Embedder" "block" "[I" : Cond) ∈ lw_g := lw_gi (lw_c2 (List.mem_of_getElem? (i := 110) rfl)) rfl
theorem wm_352 : (Cond.laysFinal "DrawingHouse$Embedder" "DrawingHouse$Embedder" "drawn" "[Z" : Cond) ∈ lw_g := lw_gi (lw_c2 (List.mem_of_getElem? (i := 112) rfl)) rfl
theorem wm_354 : (Cond.laysFinal "DrawingHouse$Embedder" "DrawingHouse$Embedder" "kept" "[Z" : Cond) ∈ lw_g := lw_gi (lw_c2 (List.mem_of_getElem? (i := 114) rfl)) rfl
theorem wm_356 : (Cond.lays "DrawingHouse$Embedder" "DrawingHouse$Embedder" "blockNodes" "I" : Cond) ∈ lw_g := lw_gi (lw_c2 (List.mem_of_getElem? (i := 116) rfl)) rfl
theorem wm_358 : (Cond.lays "DrawingHouse$Embedder" "DrawingHouse$Embedder" "drawnNodes" "I" : Cond) ∈ lw_g := lw_gi (lw_c2 (List.mem_of_getElem? (i := 118) rfl)) rfl
theorem wm_360 : (Cond.lays "DrawingHouse$Embedder" "DrawingHouse$Embedder" "cycles" "I" : Cond) ∈ lw_g := lw_gi (lw_c2 (List.mem_of_getElem? (i := 120) rfl)) rfl
theorem wm_362 : (Cond.laysFinal "DrawingHouse$Embedder" "DrawingHouse$Embedder" "cycle" "[I" : Cond) ∈ lw_g := lw_gi (lw_c2 (List.mem_of_getElem? (i := 122) rfl)) rfl
theorem wm_364 : (Cond.laysFinal "DrawingHouse$Embedder" "DrawingHouse$Embedder" "cycleLength" "[I" : Cond) ∈ lw_g := lw_gi (lw_c2 (List.mem_of_getElem? (i := 124) rfl)) rfl
theorem wm_366 : (Cond.laysFinal "DrawingHouse$Embedder" "DrawingHouse$Embedder" "cycleNodes" "[I" : Cond) ∈ lw_g := lw_gi (lw_c2 (List.mem_of_getElem? (i := 126) rfl)) rfl
theorem wm_368 : (Cond.laysFinal "DrawingHouse$Embedder" "DrawingHouse$Embedder" "fresh" "[I" : Cond) ∈ lw_g := lw_gi (lw_c2 (List.mem_of_getElem? (i := 128) rfl)) rfl
theorem wm_370 : (Cond.laysFinal "DrawingHouse$Embedder" "DrawingHouse$Embedder" "after" "[I" : Cond) ∈ lw_g := lw_gi (lw_c2 (List.mem_of_getElem? (i := 130) rfl)) rfl
theorem wm_372 : (Cond.laysFinal "DrawingHouse$Embedder" "DrawingHouse$Embedder" "level" "[I" : Cond) ∈ lw_g := lw_gi (lw_c2 (List.mem_of_getElem? (i := 132) rfl)) rfl
theorem wm_374 : (Cond.laysFinal "DrawingHouse$Embedder" "DrawingHouse$Embedder" "way" "[I" : Cond) ∈ lw_g := lw_gi (lw_c2 (List.mem_of_getElem? (i := 134) rfl)) rfl
theorem wm_376 : (Cond.lays "DrawingHouse$Embedder" "DrawingHouse$Embedder" "wayLength" "I" : Cond) ∈ lw_g := lw_gi (lw_c2 (List.mem_of_getElem? (i := 136) rfl)) rfl
theorem wm_378 : (Cond.lays "DrawingHouse$Embedder" "DrawingHouse$Embedder" "pieceNodes" "I" : Cond) ∈ lw_g := lw_gi (lw_c2 (List.mem_of_getElem? (i := 138) rfl)) rfl
theorem wm_380 : (Cond.lays "DrawingHouse$Embedder" "DrawingHouse$Embedder" "pieceEnds" "I" : Cond) ∈ lw_g := lw_gi (lw_c2 (List.mem_of_getElem? (i := 140) rfl)) rfl
theorem wm_382 : (Cond.lays "DrawingHouse$Embedder" "DrawingHouse$Embedder" "pieceCycle" "I" : Cond) ∈ lw_g := lw_gi (lw_c2 (List.mem_of_getElem? (i := 142) rfl)) rfl
theorem wm_384 : (Cond.laysFinal "DrawingHouse$Embedder" "DrawingHouse$Embedder" "around" "[I" : Cond) ∈ lw_g := lw_gi (lw_c2 (List.mem_of_getElem? (i := 144) rfl)) rfl
theorem wm_428 : (Cond.lays "DrawingHouse$Facts" "DrawingHouse$Facts" "known" "Z" : Cond) ∈ lw_g := lw_gi (lw_c2 (List.mem_of_getElem? (i := 188) rfl)) rfl
theorem wm_430 : (Cond.lays "DrawingHouse$Facts" "DrawingHouse$Facts" "parts" "I" : Cond) ∈ lw_g := lw_gi (lw_c2 (List.mem_of_getElem? (i := 190) rfl)) rfl
theorem wm_432 : (Cond.lays "DrawingHouse$Facts" "DrawingHouse$Facts" "blocks" "I" : Cond) ∈ lw_g := lw_gi (lw_c2 (List.mem_of_getElem? (i := 192) rfl)) rfl
theorem wm_434 : (Cond.lays "DrawingHouse$Facts" "DrawingHouse$Facts" "strongs" "I" : Cond) ∈ lw_g := lw_gi (lw_c2 (List.mem_of_getElem? (i := 194) rfl)) rfl
theorem wm_436 : (Cond.laysFinal "DrawingHouse$Facts" "DrawingHouse$Facts" "part" "[I" : Cond) ∈ lw_g := lw_gi (lw_c2 (List.mem_of_getElem? (i := 196) rfl)) rfl
theorem wm_438 : (Cond.laysFinal "DrawingHouse$Facts" "DrawingHouse$Facts" "block" "[I" : Cond) ∈ lw_g := lw_gi (lw_c2 (List.mem_of_getElem? (i := 198) rfl)) rfl
theorem wm_440 : (Cond.laysFinal "DrawingHouse$Facts" "DrawingHouse$Facts" "strong" "[I" : Cond) ∈ lw_g := lw_gi (lw_c2 (List.mem_of_getElem? (i := 200) rfl)) rfl
theorem wm_442 : (Cond.laysFinal "DrawingHouse$Facts" "DrawingHouse$Facts" "core" "[I" : Cond) ∈ lw_g := lw_gi (lw_c2 (List.mem_of_getElem? (i := 202) rfl)) rfl
theorem wm_444 : (Cond.laysFinal "DrawingHouse$Facts" "DrawingHouse$Facts" "blocksAt" "[I" : Cond) ∈ lw_g := lw_gi (lw_c2 (List.mem_of_getElem? (i := 204) rfl)) rfl
theorem wm_446 : (Cond.laysFinal "DrawingHouse$Facts" "DrawingHouse$Facts" "turned" "[Z" : Cond) ∈ lw_g := lw_gi (lw_c2 (List.mem_of_getElem? (i := 206) rfl)) rfl
theorem wm_448 : (Cond.laysFinal "DrawingHouse$Facts" "DrawingHouse$Facts" "reach" "[I" : Cond) ∈ lw_g := lw_gi (lw_c2 (List.mem_of_getElem? (i := 208) rfl)) rfl
theorem wm_450 : (Cond.laysFinal "DrawingHouse$Facts" "DrawingHouse$Facts" "loop" "[I" : Cond) ∈ lw_g := lw_gi (lw_c2 (List.mem_of_getElem? (i := 210) rfl)) rfl
theorem wm_452 : (Cond.laysFinal "DrawingHouse$Facts" "DrawingHouse$Facts" "rank" "[I" : Cond) ∈ lw_g := lw_gi (lw_c2 (List.mem_of_getElem? (i := 212) rfl)) rfl
theorem wm_454 : (Cond.laysFinal "DrawingHouse$Facts" "DrawingHouse$Facts" "member" "[I" : Cond) ∈ lw_g := lw_gi (lw_c2 (List.mem_of_getElem? (i := 214) rfl)) rfl
theorem wm_456 : (Cond.laysFinal "DrawingHouse$Facts" "DrawingHouse$Facts" "least" "[I" : Cond) ∈ lw_g := lw_gi (lw_c2 (List.mem_of_getElem? (i := 216) rfl)) rfl
theorem wm_512 : (Cond.laysFinal "DrawingHouse$Drawing" "DrawingHouse$Drawing" "graph" "LDrawingHouse$Graph;" : Cond) ∈ lw_g := lw_gi (lw_c3 (List.mem_of_getElem? (i := 32) rfl)) rfl
theorem wm_514 : (Cond.lays "DrawingHouse$Drawing" "DrawingHouse$Drawing" "way" "I" : Cond) ∈ lw_g := lw_gi (lw_c3 (List.mem_of_getElem? (i := 34) rfl)) rfl
theorem wm_516 : (Cond.laysFinal "DrawingHouse$Drawing" "DrawingHouse$Drawing" "x" "[I" : Cond) ∈ lw_g := lw_gi (lw_c3 (List.mem_of_getElem? (i := 36) rfl)) rfl
theorem wm_518 : (Cond.laysFinal "DrawingHouse$Drawing" "DrawingHouse$Drawing" "y" "[I" : Cond) ∈ lw_g := lw_gi (lw_c3 (List.mem_of_getElem? (i := 38) rfl)) rfl
theorem wm_520 : (Cond.laysFinal "DrawingHouse$Drawing" "DrawingHouse$Drawing" "bends" "[I" : Cond) ∈ lw_g := lw_gi (lw_c3 (List.mem_of_getElem? (i := 40) rfl)) rfl
theorem wm_522 : (Cond.laysFinal "DrawingHouse$Drawing" "DrawingHouse$Drawing" "bendX" "[I" : Cond) ∈ lw_g := lw_gi (lw_c3 (List.mem_of_getElem? (i := 42) rfl)) rfl
theorem wm_524 : (Cond.laysFinal "DrawingHouse$Drawing" "DrawingHouse$Drawing" "bendY" "[I" : Cond) ∈ lw_g := lw_gi (lw_c3 (List.mem_of_getElem? (i := 44) rfl)) rfl
theorem wm_526 : (Cond.lays "DrawingHouse$Drawing" "DrawingHouse$Drawing" "crossings" "I" : Cond) ∈ lw_g := lw_gi (lw_c3 (List.mem_of_getElem? (i := 46) rfl)) rfl
theorem wm_528 : (Cond.lays "DrawingHouse$Drawing" "DrawingHouse$Drawing" "spans" "I" : Cond) ∈ lw_g := lw_gi (lw_c3 (List.mem_of_getElem? (i := 48) rfl)) rfl
theorem wm_530 : (Cond.lays "DrawingHouse$Drawing" "DrawingHouse$Drawing" "band" "I" : Cond) ∈ lw_g := lw_gi (lw_c3 (List.mem_of_getElem? (i := 50) rfl)) rfl
theorem wm_532 : (Cond.laysFinal "DrawingHouse$Drawing" "DrawingHouse$Drawing" "layer" "[I" : Cond) ∈ lw_g := lw_gi (lw_c3 (List.mem_of_getElem? (i := 52) rfl)) rfl
theorem wm_534 : (Cond.laysFinal "DrawingHouse$Drawing" "DrawingHouse$Drawing" "turned" "[Z" : Cond) ∈ lw_g := lw_gi (lw_c3 (List.mem_of_getElem? (i := 54) rfl)) rfl
theorem wm_536 : (Cond.laysFinal "DrawingHouse$Drawing" "DrawingHouse$Drawing" "rank" "[I" : Cond) ∈ lw_g := lw_gi (lw_c3 (List.mem_of_getElem? (i := 56) rfl)) rfl
theorem wm_538 : (Cond.laysFinal "DrawingHouse$Drawing" "DrawingHouse$Drawing" "area" "[I" : Cond) ∈ lw_g := lw_gi (lw_c3 (List.mem_of_getElem? (i := 58) rfl)) rfl
theorem wm_540 : (Cond.laysFinal "DrawingHouse$Drawing" "DrawingHouse$Drawing" "shades" "[I" : Cond) ∈ lw_g := lw_gi (lw_c3 (List.mem_of_getElem? (i := 60) rfl)) rfl
theorem wm_542 : (Cond.laysFinal "DrawingHouse$Drawing" "DrawingHouse$Drawing" "labelX" "[I" : Cond) ∈ lw_g := lw_gi (lw_c3 (List.mem_of_getElem? (i := 62) rfl)) rfl
theorem wm_544 : (Cond.laysFinal "DrawingHouse$Drawing" "DrawingHouse$Drawing" "labelY" "[I" : Cond) ∈ lw_g := lw_gi (lw_c3 (List.mem_of_getElem? (i := 64) rfl)) rfl
theorem wm_546 : (Cond.lays "DrawingHouse$Drawing" "DrawingHouse$Drawing" "leastX" "I" : Cond) ∈ lw_g := lw_gi (lw_c3 (List.mem_of_getElem? (i := 66) rfl)) rfl
theorem wm_548 : (Cond.lays "DrawingHouse$Drawing" "DrawingHouse$Drawing" "leastY" "I" : Cond) ∈ lw_g := lw_gi (lw_c3 (List.mem_of_getElem? (i := 68) rfl)) rfl
theorem wm_550 : (Cond.lays "DrawingHouse$Drawing" "DrawingHouse$Drawing" "mostX" "I" : Cond) ∈ lw_g := lw_gi (lw_c3 (List.mem_of_getElem? (i := 70) rfl)) rfl
theorem wm_552 : (Cond.lays "DrawingHouse$Drawing" "DrawingHouse$Drawing" "mostY" "I" : Cond) ∈ lw_g := lw_gi (lw_c3 (List.mem_of_getElem? (i := 72) rfl)) rfl
theorem wm_576 : (Cond.laysFinal "DrawingHouse" "DrawingHouse" "graphs" "[LDrawingHouse$Graph;" : Cond) ∈ lw_g := lw_gi (lw_c3 (List.mem_of_getElem? (i := 96) rfl)) rfl
theorem wm_578 : (Cond.laysFinal "DrawingHouse" "DrawingHouse" "facts" "[LDrawingHouse$Facts;" : Cond) ∈ lw_g := lw_gi (lw_c3 (List.mem_of_getElem? (i := 98) rfl)) rfl
theorem wm_580 : (Cond.laysFinal "DrawingHouse" "DrawingHouse" "nets" "[LDrawingHouse$Net;" : Cond) ∈ lw_g := lw_gi (lw_c3 (List.mem_of_getElem? (i := 100) rfl)) rfl
theorem wm_582 : (Cond.laysFinal "DrawingHouse" "DrawingHouse" "drawings" "[LDrawingHouse$Drawing;" : Cond) ∈ lw_g := lw_gi (lw_c3 (List.mem_of_getElem? (i := 102) rfl)) rfl
theorem wm_584 : (Cond.laysFinal "DrawingHouse" "DrawingHouse" "reader" "LDrawingHouse$Reader;" : Cond) ∈ lw_g := lw_gi (lw_c3 (List.mem_of_getElem? (i := 104) rfl)) rfl
theorem wm_586 : (Cond.laysFinal "DrawingHouse" "DrawingHouse" "embedder" "LDrawingHouse$Embedder;" : Cond) ∈ lw_g := lw_gi (lw_c3 (List.mem_of_getElem? (i := 106) rfl)) rfl
theorem wm_588 : (Cond.laysFinal "DrawingHouse" "DrawingHouse" "became" "[I" : Cond) ∈ lw_g := lw_gi (lw_c3 (List.mem_of_getElem? (i := 108) rfl)) rfl
theorem wm_590 : (Cond.lays "DrawingHouse" "DrawingHouse" "becameNodes" "I" : Cond) ∈ lw_g := lw_gi (lw_c3 (List.mem_of_getElem? (i := 110) rfl)) rfl
theorem wm_592 : (Cond.lays "DrawingHouse" "DrawingHouse" "steps" "I" : Cond) ∈ lw_g := lw_gi (lw_c3 (List.mem_of_getElem? (i := 112) rfl)) rfl
theorem wm_594 : (Cond.lays "DrawingHouse" "DrawingHouse" "written" "[B" : Cond) ∈ lw_g := lw_gi (lw_c3 (List.mem_of_getElem? (i := 114) rfl)) rfl
theorem wm_596 : (Cond.lays "DrawingHouse" "DrawingHouse" "spare" "[B" : Cond) ∈ lw_g := lw_gi (lw_c3 (List.mem_of_getElem? (i := 116) rfl)) rfl
theorem wm_598 : (Cond.lays "DrawingHouse" "DrawingHouse" "writtenLength" "I" : Cond) ∈ lw_g := lw_gi (lw_c3 (List.mem_of_getElem? (i := 118) rfl)) rfl
theorem wm_600 : (Cond.lays "DrawingHouse" "DrawingHouse" "spareLength" "I" : Cond) ∈ lw_g := lw_gi (lw_c3 (List.mem_of_getElem? (i := 120) rfl)) rfl
theorem wm_602 : (Cond.laysFinal "DrawingHouse" "DrawingHouse" "plane" "[I" : Cond) ∈ lw_g := lw_gi (lw_c3 (List.mem_of_getElem? (i := 122) rfl)) rfl
theorem wm_604 : (Cond.lays "DrawingHouse" "DrawingHouse" "planeWidth" "I" : Cond) ∈ lw_g := lw_gi (lw_c3 (List.mem_of_getElem? (i := 124) rfl)) rfl
theorem wm_606 : (Cond.lays "DrawingHouse" "DrawingHouse" "planeHeight" "I" : Cond) ∈ lw_g := lw_gi (lw_c3 (List.mem_of_getElem? (i := 126) rfl)) rfl
theorem wm_608 : (Cond.lays "DrawingHouse" "DrawingHouse" "styler" "LDrawingHouse$Styler;" : Cond) ∈ lw_g := lw_gi (lw_c3 (List.mem_of_getElem? (i := 128) rfl)) rfl
theorem wm_610 : (Cond.lays "DrawingHouse" "DrawingHouse" "layers" "LDrawingHouse$Layers;" : Cond) ∈ lw_g := lw_gi (lw_c3 (List.mem_of_getElem? (i := 130) rfl)) rfl
theorem wm_612 : (Cond.lays "DrawingHouse" "DrawingHouse" "planarWays" "LDrawingHouse$PlanarWays;" : Cond) ∈ lw_g := lw_gi (lw_c3 (List.mem_of_getElem? (i := 132) rfl)) rfl
theorem wm_614 : (Cond.lays "DrawingHouse" "DrawingHouse" "plainWays" "LDrawingHouse$PlainWays;" : Cond) ∈ lw_g := lw_gi (lw_c3 (List.mem_of_getElem? (i := 134) rfl)) rfl
theorem wm_616 : (Cond.lays "DrawingHouse" "DrawingHouse" "router" "LDrawingHouse$Router;" : Cond) ∈ lw_g := lw_gi (lw_c3 (List.mem_of_getElem? (i := 136) rfl)) rfl
theorem wm_1209 : (Cond.lays "DrawingHouse$Stretch" "DrawingHouse$Stretch" "nodes" "I" : Cond) ∈ lw_g := lw_gi (lw_c6 (List.mem_of_getElem? (i := 9) rfl)) rfl
theorem wm_1211 : (Cond.lays "DrawingHouse$Stretch" "DrawingHouse$Stretch" "arcs" "I" : Cond) ∈ lw_g := lw_gi (lw_c6 (List.mem_of_getElem? (i := 11) rfl)) rfl
theorem wm_1213 : (Cond.laysFinal "DrawingHouse$Stretch" "DrawingHouse$Stretch" "from" "[I" : Cond) ∈ lw_g := lw_gi (lw_c6 (List.mem_of_getElem? (i := 13) rfl)) rfl
theorem wm_1215 : (Cond.laysFinal "DrawingHouse$Stretch" "DrawingHouse$Stretch" "to" "[I" : Cond) ∈ lw_g := lw_gi (lw_c6 (List.mem_of_getElem? (i := 15) rfl)) rfl
theorem wm_1217 : (Cond.laysFinal "DrawingHouse$Stretch" "DrawingHouse$Stretch" "room" "[I" : Cond) ∈ lw_g := lw_gi (lw_c6 (List.mem_of_getElem? (i := 17) rfl)) rfl
theorem wm_1219 : (Cond.laysFinal "DrawingHouse$Stretch" "DrawingHouse$Stretch" "gain" "[I" : Cond) ∈ lw_g := lw_gi (lw_c6 (List.mem_of_getElem? (i := 19) rfl)) rfl
theorem wm_1221 : (Cond.laysFinal "DrawingHouse$Stretch" "DrawingHouse$Stretch" "place" "[I" : Cond) ∈ lw_g := lw_gi (lw_c6 (List.mem_of_getElem? (i := 21) rfl)) rfl
theorem wm_1223 : (Cond.laysFinal "DrawingHouse$Stretch" "DrawingHouse$Stretch" "by" "[I" : Cond) ∈ lw_g := lw_gi (lw_c6 (List.mem_of_getElem? (i := 23) rfl)) rfl
theorem wm_1225 : (Cond.laysFinal "DrawingHouse$Stretch" "DrawingHouse$Stretch" "mark" "[I" : Cond) ∈ lw_g := lw_gi (lw_c6 (List.mem_of_getElem? (i := 25) rfl)) rfl
theorem wm_1264 : (Cond.laysFinal "DrawingHouse$Layers" "DrawingHouse$Layers" "stretch" "LDrawingHouse$Stretch;" : Cond) ∈ lw_g := lw_gi (lw_c6 (List.mem_of_getElem? (i := 64) rfl)) rfl
theorem wm_1266 : (Cond.lays "DrawingHouse$Layers" "DrawingHouse$Layers" "graph" "LDrawingHouse$Graph;" : Cond) ∈ lw_g := lw_gi (lw_c6 (List.mem_of_getElem? (i := 66) rfl)) rfl
theorem wm_1268 : (Cond.lays "DrawingHouse$Layers" "DrawingHouse$Layers" "layerCount" "I" : Cond) ∈ lw_g := lw_gi (lw_c6 (List.mem_of_getElem? (i := 68) rfl)) rfl
theorem wm_1270 : (Cond.lays "DrawingHouse$Layers" "DrawingHouse$Layers" "items" "I" : Cond) ∈ lw_g := lw_gi (lw_c6 (List.mem_of_getElem? (i := 70) rfl)) rfl
theorem wm_1272 : (Cond.laysFinal "DrawingHouse$Layers" "DrawingHouse$Layers" "layerOf" "[I" : Cond) ∈ lw_g := lw_gi (lw_c6 (List.mem_of_getElem? (i := 72) rfl)) rfl
theorem wm_1274 : (Cond.laysFinal "DrawingHouse$Layers" "DrawingHouse$Layers" "firstJoint" "[I" : Cond) ∈ lw_g := lw_gi (lw_c6 (List.mem_of_getElem? (i := 74) rfl)) rfl
theorem wm_1276 : (Cond.laysFinal "DrawingHouse$Layers" "DrawingHouse$Layers" "pieceUpper" "[I" : Cond) ∈ lw_g := lw_gi (lw_c6 (List.mem_of_getElem? (i := 76) rfl)) rfl
theorem wm_1278 : (Cond.laysFinal "DrawingHouse$Layers" "DrawingHouse$Layers" "pieceLower" "[I" : Cond) ∈ lw_g := lw_gi (lw_c6 (List.mem_of_getElem? (i := 78) rfl)) rfl
theorem wm_1280 : (Cond.laysFinal "DrawingHouse$Layers" "DrawingHouse$Layers" "pieceWeight" "[I" : Cond) ∈ lw_g := lw_gi (lw_c6 (List.mem_of_getElem? (i := 80) rfl)) rfl
theorem wm_1282 : (Cond.laysFinal "DrawingHouse$Layers" "DrawingHouse$Layers" "pieceStart" "[I" : Cond) ∈ lw_g := lw_gi (lw_c6 (List.mem_of_getElem? (i := 82) rfl)) rfl
theorem wm_1284 : (Cond.laysFinal "DrawingHouse$Layers" "DrawingHouse$Layers" "layerStart" "[I" : Cond) ∈ lw_g := lw_gi (lw_c6 (List.mem_of_getElem? (i := 84) rfl)) rfl
theorem wm_1286 : (Cond.laysFinal "DrawingHouse$Layers" "DrawingHouse$Layers" "listed" "[I" : Cond) ∈ lw_g := lw_gi (lw_c6 (List.mem_of_getElem? (i := 86) rfl)) rfl
theorem wm_1288 : (Cond.laysFinal "DrawingHouse$Layers" "DrawingHouse$Layers" "slot" "[I" : Cond) ∈ lw_g := lw_gi (lw_c6 (List.mem_of_getElem? (i := 88) rfl)) rfl
theorem wm_1290 : (Cond.laysFinal "DrawingHouse$Layers" "DrawingHouse$Layers" "row" "[I" : Cond) ∈ lw_g := lw_gi (lw_c6 (List.mem_of_getElem? (i := 90) rfl)) rfl
theorem wm_1292 : (Cond.laysFinal "DrawingHouse$Layers" "DrawingHouse$Layers" "place" "[I" : Cond) ∈ lw_g := lw_gi (lw_c6 (List.mem_of_getElem? (i := 92) rfl)) rfl
theorem wm_1294 : (Cond.laysFinal "DrawingHouse$Layers" "DrawingHouse$Layers" "sum" "[I" : Cond) ∈ lw_g := lw_gi (lw_c6 (List.mem_of_getElem? (i := 94) rfl)) rfl
theorem wm_1296 : (Cond.laysFinal "DrawingHouse$Layers" "DrawingHouse$Layers" "joined" "[I" : Cond) ∈ lw_g := lw_gi (lw_c6 (List.mem_of_getElem? (i := 96) rfl)) rfl
theorem wm_1298 : (Cond.laysFinal "DrawingHouse$Layers" "DrawingHouse$Layers" "orders" "[I" : Cond) ∈ lw_g := lw_gi (lw_c6 (List.mem_of_getElem? (i := 98) rfl)) rfl
theorem wm_1300 : (Cond.laysFinal "DrawingHouse$Layers" "DrawingHouse$Layers" "least" "[I" : Cond) ∈ lw_g := lw_gi (lw_c6 (List.mem_of_getElem? (i := 100) rfl)) rfl
theorem wm_1302 : (Cond.laysFinal "DrawingHouse$Layers" "DrawingHouse$Layers" "low" "[I" : Cond) ∈ lw_g := lw_gi (lw_c6 (List.mem_of_getElem? (i := 102) rfl)) rfl
theorem wm_1304 : (Cond.laysFinal "DrawingHouse$Layers" "DrawingHouse$Layers" "pair" "[I" : Cond) ∈ lw_g := lw_gi (lw_c6 (List.mem_of_getElem? (i := 104) rfl)) rfl
theorem wm_1483 : (Cond.laysFinal "DrawingHouse$PlanarWays" "DrawingHouse$PlanarWays" "net" "LDrawingHouse$Net;" : Cond) ∈ lw_g := lw_gi (lw_c7 (List.mem_of_getElem? (i := 43) rfl)) rfl
theorem wm_1485 : (Cond.laysFinal "DrawingHouse$PlanarWays" "DrawingHouse$PlanarWays" "order" "[I" : Cond) ∈ lw_g := lw_gi (lw_c7 (List.mem_of_getElem? (i := 45) rfl)) rfl
theorem wm_1487 : (Cond.laysFinal "DrawingHouse$PlanarWays" "DrawingHouse$PlanarWays" "line" "[I" : Cond) ∈ lw_g := lw_gi (lw_c7 (List.mem_of_getElem? (i := 47) rfl)) rfl
theorem wm_1489 : (Cond.lays "DrawingHouse$PlanarWays" "DrawingHouse$PlanarWays" "lineLength" "I" : Cond) ∈ lw_g := lw_gi (lw_c7 (List.mem_of_getElem? (i := 49) rfl)) rfl
theorem wm_1491 : (Cond.laysFinal "DrawingHouse$PlanarWays" "DrawingHouse$PlanarWays" "under" "[I" : Cond) ∈ lw_g := lw_gi (lw_c7 (List.mem_of_getElem? (i := 51) rfl)) rfl
theorem wm_1493 : (Cond.laysFinal "DrawingHouse$PlanarWays" "DrawingHouse$PlanarWays" "level" "[I" : Cond) ∈ lw_g := lw_gi (lw_c7 (List.mem_of_getElem? (i := 53) rfl)) rfl
theorem wm_1495 : (Cond.laysFinal "DrawingHouse$PlanarWays" "DrawingHouse$PlanarWays" "way" "[I" : Cond) ∈ lw_g := lw_gi (lw_c7 (List.mem_of_getElem? (i := 55) rfl)) rfl
theorem wm_1497 : (Cond.laysFinal "DrawingHouse$PlanarWays" "DrawingHouse$PlanarWays" "faceX" "[I" : Cond) ∈ lw_g := lw_gi (lw_c7 (List.mem_of_getElem? (i := 57) rfl)) rfl
theorem wm_1499 : (Cond.laysFinal "DrawingHouse$PlanarWays" "DrawingHouse$PlanarWays" "edgeX" "[I" : Cond) ∈ lw_g := lw_gi (lw_c7 (List.mem_of_getElem? (i := 59) rfl)) rfl
theorem wm_1645 : (Cond.lays "DrawingHouse$PlainWays" "DrawingHouse$PlainWays" "graph" "LDrawingHouse$Graph;" : Cond) ∈ lw_g := lw_gi (lw_c7 (List.mem_of_getElem? (i := 205) rfl)) rfl
theorem wm_1647 : (Cond.lays "DrawingHouse$PlainWays" "DrawingHouse$PlainWays" "drawing" "LDrawingHouse$Drawing;" : Cond) ∈ lw_g := lw_gi (lw_c7 (List.mem_of_getElem? (i := 207) rfl)) rfl
theorem wm_1649 : (Cond.laysFinal "DrawingHouse$PlainWays" "DrawingHouse$PlainWays" "order" "[I" : Cond) ∈ lw_g := lw_gi (lw_c7 (List.mem_of_getElem? (i := 209) rfl)) rfl
theorem wm_1651 : (Cond.laysFinal "DrawingHouse$PlainWays" "DrawingHouse$PlainWays" "best" "[I" : Cond) ∈ lw_g := lw_gi (lw_c7 (List.mem_of_getElem? (i := 211) rfl)) rfl
theorem wm_1653 : (Cond.laysFinal "DrawingHouse$PlainWays" "DrawingHouse$PlainWays" "level" "[I" : Cond) ∈ lw_g := lw_gi (lw_c7 (List.mem_of_getElem? (i := 213) rfl)) rfl
theorem wm_1655 : (Cond.laysFinal "DrawingHouse$PlainWays" "DrawingHouse$PlainWays" "parent" "[I" : Cond) ∈ lw_g := lw_gi (lw_c7 (List.mem_of_getElem? (i := 215) rfl)) rfl
theorem wm_1657 : (Cond.laysFinal "DrawingHouse$PlainWays" "DrawingHouse$PlainWays" "under" "[I" : Cond) ∈ lw_g := lw_gi (lw_c7 (List.mem_of_getElem? (i := 217) rfl)) rfl
theorem wm_1659 : (Cond.laysFinal "DrawingHouse$PlainWays" "DrawingHouse$PlainWays" "kids" "[I" : Cond) ∈ lw_g := lw_gi (lw_c7 (List.mem_of_getElem? (i := 219) rfl)) rfl
theorem wm_1661 : (Cond.lays "DrawingHouse$PlainWays" "DrawingHouse$PlainWays" "fewest" "I" : Cond) ∈ lw_g := lw_gi (lw_c7 (List.mem_of_getElem? (i := 221) rfl)) rfl
theorem wm_1663 : (Cond.laysFinal "DrawingHouse$PlainWays" "DrawingHouse$PlainWays" "item" "[I" : Cond) ∈ lw_g := lw_gi (lw_c7 (List.mem_of_getElem? (i := 223) rfl)) rfl
theorem wm_1665 : (Cond.laysFinal "DrawingHouse$PlainWays" "DrawingHouse$PlainWays" "itemSize" "[I" : Cond) ∈ lw_g := lw_gi (lw_c7 (List.mem_of_getElem? (i := 225) rfl)) rfl
theorem wm_1667 : (Cond.lays "DrawingHouse$PlainWays" "DrawingHouse$PlainWays" "items" "I" : Cond) ∈ lw_g := lw_gi (lw_c7 (List.mem_of_getElem? (i := 227) rfl)) rfl
theorem wm_1669 : (Cond.laysFinal "DrawingHouse$PlainWays" "DrawingHouse$PlainWays" "space" "[I" : Cond) ∈ lw_g := lw_gi (lw_c7 (List.mem_of_getElem? (i := 229) rfl)) rfl
theorem wm_1671 : (Cond.lays "DrawingHouse$PlainWays" "DrawingHouse$PlainWays" "shapeLong" "J" : Cond) ∈ lw_g := lw_gi (lw_c7 (List.mem_of_getElem? (i := 231) rfl)) rfl
theorem wm_1673 : (Cond.lays "DrawingHouse$PlainWays" "DrawingHouse$PlainWays" "shapeShort" "J" : Cond) ∈ lw_g := lw_gi (lw_c7 (List.mem_of_getElem? (i := 233) rfl)) rfl
theorem wm_1675 : (Cond.laysFinal "DrawingHouse$PlainWays" "DrawingHouse$PlainWays" "placeX" "[J" : Cond) ∈ lw_g := lw_gi (lw_c7 (List.mem_of_getElem? (i := 235) rfl)) rfl
theorem wm_1677 : (Cond.laysFinal "DrawingHouse$PlainWays" "DrawingHouse$PlainWays" "placeY" "[J" : Cond) ∈ lw_g := lw_gi (lw_c7 (List.mem_of_getElem? (i := 237) rfl)) rfl
theorem wm_1679 : (Cond.laysFinal "DrawingHouse$PlainWays" "DrawingHouse$PlainWays" "pullX" "[J" : Cond) ∈ lw_g := lw_gi (lw_c7 (List.mem_of_getElem? (i := 239) rfl)) rfl
theorem wm_1681 : (Cond.laysFinal "DrawingHouse$PlainWays" "DrawingHouse$PlainWays" "pullY" "[J" : Cond) ∈ lw_g := lw_gi (lw_c8 (List.mem_of_getElem? (i := 1) rfl)) rfl
theorem wm_1886 : (Cond.lays "DrawingHouse$Router" "DrawingHouse$Router" "graph" "LDrawingHouse$Graph;" : Cond) ∈ lw_g := lw_gi (lw_c8 (List.mem_of_getElem? (i := 206) rfl)) rfl
theorem wm_1888 : (Cond.lays "DrawingHouse$Router" "DrawingHouse$Router" "drawing" "LDrawingHouse$Drawing;" : Cond) ∈ lw_g := lw_gi (lw_c8 (List.mem_of_getElem? (i := 208) rfl)) rfl
theorem wm_1890 : (Cond.lays "DrawingHouse$Router" "DrawingHouse$Router" "left" "I" : Cond) ∈ lw_g := lw_gi (lw_c8 (List.mem_of_getElem? (i := 210) rfl)) rfl
theorem wm_1892 : (Cond.lays "DrawingHouse$Router" "DrawingHouse$Router" "top" "I" : Cond) ∈ lw_g := lw_gi (lw_c8 (List.mem_of_getElem? (i := 212) rfl)) rfl
theorem wm_1894 : (Cond.lays "DrawingHouse$Router" "DrawingHouse$Router" "width" "I" : Cond) ∈ lw_g := lw_gi (lw_c8 (List.mem_of_getElem? (i := 214) rfl)) rfl
theorem wm_1896 : (Cond.lays "DrawingHouse$Router" "DrawingHouse$Router" "height" "I" : Cond) ∈ lw_g := lw_gi (lw_c8 (List.mem_of_getElem? (i := 216) rfl)) rfl
theorem wm_1898 : (Cond.lays "DrawingHouse$Router" "DrawingHouse$Router" "start" "I" : Cond) ∈ lw_g := lw_gi (lw_c8 (List.mem_of_getElem? (i := 218) rfl)) rfl
theorem wm_1900 : (Cond.lays "DrawingHouse$Router" "DrawingHouse$Router" "goal" "I" : Cond) ∈ lw_g := lw_gi (lw_c8 (List.mem_of_getElem? (i := 220) rfl)) rfl
theorem wm_1902 : (Cond.lays "DrawingHouse$Router" "DrawingHouse$Router" "whole" "I" : Cond) ∈ lw_g := lw_gi (lw_c8 (List.mem_of_getElem? (i := 222) rfl)) rfl
theorem wm_1904 : (Cond.laysFinal "DrawingHouse$Router" "DrawingHouse$Router" "barred" "[Z" : Cond) ∈ lw_g := lw_gi (lw_c8 (List.mem_of_getElem? (i := 224) rfl)) rfl
theorem wm_1906 : (Cond.laysFinal "DrawingHouse$Router" "DrawingHouse$Router" "cost" "[I" : Cond) ∈ lw_g := lw_gi (lw_c8 (List.mem_of_getElem? (i := 226) rfl)) rfl
theorem wm_1908 : (Cond.laysFinal "DrawingHouse$Router" "DrawingHouse$Router" "list" "[I" : Cond) ∈ lw_g := lw_gi (lw_c8 (List.mem_of_getElem? (i := 228) rfl)) rfl
theorem wm_1910 : (Cond.laysFinal "DrawingHouse$Router" "DrawingHouse$Router" "entryState" "[I" : Cond) ∈ lw_g := lw_gi (lw_c8 (List.mem_of_getElem? (i := 230) rfl)) rfl
theorem wm_1912 : (Cond.laysFinal "DrawingHouse$Router" "DrawingHouse$Router" "entryNext" "[I" : Cond) ∈ lw_g := lw_gi (lw_c8 (List.mem_of_getElem? (i := 232) rfl)) rfl
theorem wm_1914 : (Cond.lays "DrawingHouse$Router" "DrawingHouse$Router" "entries" "I" : Cond) ∈ lw_g := lw_gi (lw_c8 (List.mem_of_getElem? (i := 234) rfl)) rfl
theorem wm_1916 : (Cond.laysFinal "DrawingHouse$Router" "DrawingHouse$Router" "turnX" "[I" : Cond) ∈ lw_g := lw_gi (lw_c8 (List.mem_of_getElem? (i := 236) rfl)) rfl
theorem wm_1918 : (Cond.laysFinal "DrawingHouse$Router" "DrawingHouse$Router" "turnY" "[I" : Cond) ∈ lw_g := lw_gi (lw_c8 (List.mem_of_getElem? (i := 238) rfl)) rfl
theorem wm_1920 : (Cond.lays "DrawingHouse$Router" "DrawingHouse$Router" "turns" "I" : Cond) ∈ lw_g := lw_gi (lw_c9 (List.mem_of_getElem? (i := 0) rfl)) rfl
theorem wm_2117 : (Cond.lays "DrawingHouse$Styler" "DrawingHouse$Styler" "rules" "I" : Cond) ∈ lw_g := lw_gi (lw_c9 (List.mem_of_getElem? (i := 197) rfl)) rfl
theorem wm_2119 : (Cond.lays "DrawingHouse$Styler" "DrawingHouse$Styler" "fault" "I" : Cond) ∈ lw_g := lw_gi (lw_c9 (List.mem_of_getElem? (i := 199) rfl)) rfl
theorem wm_2121 : (Cond.lays "DrawingHouse$Styler" "DrawingHouse$Styler" "faultPlace" "I" : Cond) ∈ lw_g := lw_gi (lw_c9 (List.mem_of_getElem? (i := 201) rfl)) rfl
theorem wm_2123 : (Cond.lays "DrawingHouse$Styler" "DrawingHouse$Styler" "bytes" "[B" : Cond) ∈ lw_g := lw_gi (lw_c9 (List.mem_of_getElem? (i := 203) rfl)) rfl
theorem wm_2125 : (Cond.lays "DrawingHouse$Styler" "DrawingHouse$Styler" "end" "I" : Cond) ∈ lw_g := lw_gi (lw_c9 (List.mem_of_getElem? (i := 205) rfl)) rfl
theorem wm_2127 : (Cond.lays "DrawingHouse$Styler" "DrawingHouse$Styler" "next" "I" : Cond) ∈ lw_g := lw_gi (lw_c9 (List.mem_of_getElem? (i := 207) rfl)) rfl
theorem wm_2129 : (Cond.lays "DrawingHouse$Styler" "DrawingHouse$Styler" "kind" "I" : Cond) ∈ lw_g := lw_gi (lw_c9 (List.mem_of_getElem? (i := 209) rfl)) rfl
theorem wm_2131 : (Cond.lays "DrawingHouse$Styler" "DrawingHouse$Styler" "begin" "I" : Cond) ∈ lw_g := lw_gi (lw_c9 (List.mem_of_getElem? (i := 211) rfl)) rfl
theorem wm_2133 : (Cond.lays "DrawingHouse$Styler" "DrawingHouse$Styler" "number" "I" : Cond) ∈ lw_g := lw_gi (lw_c9 (List.mem_of_getElem? (i := 213) rfl)) rfl
theorem wm_2135 : (Cond.lays "DrawingHouse$Styler" "DrawingHouse$Styler" "words" "Ljava/lang/String;" : Cond) ∈ lw_g := lw_gi (lw_c9 (List.mem_of_getElem? (i := 215) rfl)) rfl
theorem wm_2137 : (Cond.laysFinal "DrawingHouse$Styler" "DrawingHouse$Styler" "code" "[I" : Cond) ∈ lw_g := lw_gi (lw_c9 (List.mem_of_getElem? (i := 217) rfl)) rfl
theorem wm_2139 : (Cond.lays "DrawingHouse$Styler" "DrawingHouse$Styler" "codeLength" "I" : Cond) ∈ lw_g := lw_gi (lw_c9 (List.mem_of_getElem? (i := 219) rfl)) rfl
theorem wm_2141 : (Cond.laysFinal "DrawingHouse$Styler" "DrawingHouse$Styler" "ruleStart" "[I" : Cond) ∈ lw_g := lw_gi (lw_c9 (List.mem_of_getElem? (i := 221) rfl)) rfl
theorem wm_2143 : (Cond.laysFinal "DrawingHouse$Styler" "DrawingHouse$Styler" "ruleKind" "[I" : Cond) ∈ lw_g := lw_gi (lw_c9 (List.mem_of_getElem? (i := 223) rfl)) rfl
theorem wm_2145 : (Cond.laysFinal "DrawingHouse$Styler" "DrawingHouse$Styler" "stack" "[J" : Cond) ∈ lw_g := lw_gi (lw_c9 (List.mem_of_getElem? (i := 225) rfl)) rfl
theorem wm_2147 : (Cond.lays "DrawingHouse$Styler" "DrawingHouse$Styler" "height" "I" : Cond) ∈ lw_g := lw_gi (lw_c9 (List.mem_of_getElem? (i := 227) rfl)) rfl
theorem wm_2149 : (Cond.laysFinal "DrawingHouse$Styler" "DrawingHouse$Styler" "value" "[J" : Cond) ∈ lw_g := lw_gi (lw_c9 (List.mem_of_getElem? (i := 229) rfl)) rfl
theorem wm_2609 : (Cond.lays "DrawingHouseModel" "DrawingHouseModel" "taped" "I" : Cond) ∈ lw_g := lw_gi (lw_c11 (List.mem_of_getElem? (i := 209) rfl)) rfl
theorem wm_2611 : (Cond.laysFinal "DrawingHouseModel" "DrawingHouseModel" "tape" "[B" : Cond) ∈ lw_g := lw_gi (lw_c11 (List.mem_of_getElem? (i := 211) rfl)) rfl
theorem wm_2613 : (Cond.laysFinal "DrawingHouseModel" "DrawingHouseModel" "all" "[I" : Cond) ∈ lw_g := lw_gi (lw_c11 (List.mem_of_getElem? (i := 213) rfl)) rfl
theorem wm_2615 : (Cond.laysFinal "DrawingHouseModel" "DrawingHouseModel" "now" "[I" : Cond) ∈ lw_g := lw_gi (lw_c11 (List.mem_of_getElem? (i := 215) rfl)) rfl
theorem wm_2617 : (Cond.laysFinal "DrawingHouseModel" "DrawingHouseModel" "latest" "[I" : Cond) ∈ lw_g := lw_gi (lw_c11 (List.mem_of_getElem? (i := 217) rfl)) rfl
theorem wm_2619 : (Cond.lays "DrawingHouseModel" "DrawingHouseModel" "\x72" "I" : Cond) ∈ lw_g := lw_gi (lw_c11 (List.mem_of_getElem? (i := 219) rfl)) rfl
theorem wm_2621 : (Cond.laysFinal "DrawingHouseModel" "DrawingHouseModel" "fresh" "[I" : Cond) ∈ lw_g := lw_gi (lw_c11 (List.mem_of_getElem? (i := 221) rfl)) rfl
theorem wm_2623 : (Cond.lays "DrawingHouseModel" "DrawingHouseModel" "isTold" "Z" : Cond) ∈ lw_g := lw_gi (lw_c11 (List.mem_of_getElem? (i := 223) rfl)) rfl
theorem wm_2625 : (Cond.lays "DrawingHouseModel" "DrawingHouseModel" "fault" "I" : Cond) ∈ lw_g := lw_gi (lw_c11 (List.mem_of_getElem? (i := 225) rfl)) rfl
theorem wm_2627 : (Cond.lays "DrawingHouseModel" "DrawingHouseModel" "faultPlace" "I" : Cond) ∈ lw_g := lw_gi (lw_c11 (List.mem_of_getElem? (i := 227) rfl)) rfl
theorem wm_2629 : (Cond.lays "DrawingHouseModel" "DrawingHouseModel" "limit" "I" : Cond) ∈ lw_g := lw_gi (lw_c11 (List.mem_of_getElem? (i := 229) rfl)) rfl
theorem wm_2631 : (Cond.lays "DrawingHouseModel" "DrawingHouseModel" "pos" "I" : Cond) ∈ lw_g := lw_gi (lw_c11 (List.mem_of_getElem? (i := 231) rfl)) rfl
theorem wm_2633 : (Cond.lays "DrawingHouseModel" "DrawingHouseModel" "kind" "I" : Cond) ∈ lw_g := lw_gi (lw_c11 (List.mem_of_getElem? (i := 233) rfl)) rfl
theorem wm_2635 : (Cond.lays "DrawingHouseModel" "DrawingHouseModel" "place" "I" : Cond) ∈ lw_g := lw_gi (lw_c11 (List.mem_of_getElem? (i := 235) rfl)) rfl
theorem wm_2637 : (Cond.lays "DrawingHouseModel" "DrawingHouseModel" "value" "I" : Cond) ∈ lw_g := lw_gi (lw_c11 (List.mem_of_getElem? (i := 237) rfl)) rfl
theorem wm_2639 : (Cond.lays "DrawingHouseModel" "DrawingHouseModel" "from" "I" : Cond) ∈ lw_g := lw_gi (lw_c11 (List.mem_of_getElem? (i := 239) rfl)) rfl
theorem wm_2641 : (Cond.laysFinal "DrawingHouseModel" "DrawingHouseModel" "partOf" "[I" : Cond) ∈ lw_g := lw_gi (lw_c12 (List.mem_of_getElem? (i := 1) rfl)) rfl
theorem wm_2643 : (Cond.laysFinal "DrawingHouseModel" "DrawingHouseModel" "blockOf" "[I" : Cond) ∈ lw_g := lw_gi (lw_c12 (List.mem_of_getElem? (i := 3) rfl)) rfl
theorem wm_2645 : (Cond.laysFinal "DrawingHouseModel" "DrawingHouseModel" "strongOf" "[I" : Cond) ∈ lw_g := lw_gi (lw_c12 (List.mem_of_getElem? (i := 5) rfl)) rfl
theorem wm_2647 : (Cond.laysFinal "DrawingHouseModel" "DrawingHouseModel" "farOf" "[I" : Cond) ∈ lw_g := lw_gi (lw_c12 (List.mem_of_getElem? (i := 7) rfl)) rfl
theorem wm_2649 : (Cond.laysFinal "DrawingHouseModel" "DrawingHouseModel" "line" "[I" : Cond) ∈ lw_g := lw_gi (lw_c12 (List.mem_of_getElem? (i := 9) rfl)) rfl
theorem wm_2651 : (Cond.laysFinal "DrawingHouseModel" "DrawingHouseModel" "reach" "[Z" : Cond) ∈ lw_g := lw_gi (lw_c12 (List.mem_of_getElem? (i := 11) rfl)) rfl
theorem wm_2653 : (Cond.laysFinal "DrawingHouseModel" "DrawingHouseModel" "left" "[Z" : Cond) ∈ lw_g := lw_gi (lw_c12 (List.mem_of_getElem? (i := 13) rfl)) rfl
theorem wm_2655 : (Cond.laysFinal "DrawingHouseModel" "DrawingHouseModel" "map" "[I" : Cond) ∈ lw_g := lw_gi (lw_c12 (List.mem_of_getElem? (i := 15) rfl)) rfl
theorem wm_2657 : (Cond.laysFinal "DrawingHouseModel" "DrawingHouseModel" "mapTried" "[I" : Cond) ∈ lw_g := lw_gi (lw_c12 (List.mem_of_getElem? (i := 17) rfl)) rfl
theorem wm_2659 : (Cond.lays "DrawingHouseModel" "DrawingHouseModel" "isMapped" "Z" : Cond) ∈ lw_g := lw_gi (lw_c12 (List.mem_of_getElem? (i := 19) rfl)) rfl
theorem wm_2661 : (Cond.lays "DrawingHouseModel" "DrawingHouseModel" "mapNodes" "I" : Cond) ∈ lw_g := lw_gi (lw_c12 (List.mem_of_getElem? (i := 21) rfl)) rfl
theorem wm_2663 : (Cond.lays "DrawingHouseModel" "DrawingHouseModel" "steps" "I" : Cond) ∈ lw_g := lw_gi (lw_c12 (List.mem_of_getElem? (i := 23) rfl)) rfl
theorem wm_2665 : (Cond.lays "DrawingHouseModel" "DrawingHouseModel" "rowA" "I" : Cond) ∈ lw_g := lw_gi (lw_c12 (List.mem_of_getElem? (i := 25) rfl)) rfl
theorem wm_2667 : (Cond.lays "DrawingHouseModel" "DrawingHouseModel" "rowB" "I" : Cond) ∈ lw_g := lw_gi (lw_c12 (List.mem_of_getElem? (i := 27) rfl)) rfl
theorem wm_2669 : (Cond.lays "DrawingHouseModel" "DrawingHouseModel" "hasSteps" "Z" : Cond) ∈ lw_g := lw_gi (lw_c12 (List.mem_of_getElem? (i := 29) rfl)) rfl
theorem wm_2671 : (Cond.lays "DrawingHouseModel" "DrawingHouseModel" "pn" "I" : Cond) ∈ lw_g := lw_gi (lw_c12 (List.mem_of_getElem? (i := 31) rfl)) rfl
theorem wm_2673 : (Cond.lays "DrawingHouseModel" "DrawingHouseModel" "pm" "I" : Cond) ∈ lw_g := lw_gi (lw_c12 (List.mem_of_getElem? (i := 33) rfl)) rfl
theorem wm_2675 : (Cond.laysFinal "DrawingHouseModel" "DrawingHouseModel" "pt" "[I" : Cond) ∈ lw_g := lw_gi (lw_c12 (List.mem_of_getElem? (i := 35) rfl)) rfl
theorem wm_2677 : (Cond.laysFinal "DrawingHouseModel" "DrawingHouseModel" "ph" "[I" : Cond) ∈ lw_g := lw_gi (lw_c12 (List.mem_of_getElem? (i := 37) rfl)) rfl
theorem wm_2679 : (Cond.laysFinal "DrawingHouseModel" "DrawingHouseModel" "alive" "[Z" : Cond) ∈ lw_g := lw_gi (lw_c12 (List.mem_of_getElem? (i := 39) rfl)) rfl
theorem wm_2681 : (Cond.laysFinal "DrawingHouseModel" "DrawingHouseModel" "rotMany" "[I" : Cond) ∈ lw_g := lw_gi (lw_c12 (List.mem_of_getElem? (i := 41) rfl)) rfl
theorem wm_2683 : (Cond.laysFinal "DrawingHouseModel" "DrawingHouseModel" "rot" "[I" : Cond) ∈ lw_g := lw_gi (lw_c12 (List.mem_of_getElem? (i := 43) rfl)) rfl
theorem wm_2685 : (Cond.laysFinal "DrawingHouseModel" "DrawingHouseModel" "seen" "[Z" : Cond) ∈ lw_g := lw_gi (lw_c12 (List.mem_of_getElem? (i := 45) rfl)) rfl
theorem wm_2687 : (Cond.lays "DrawingHouseModel" "DrawingHouseModel" "faces" "I" : Cond) ∈ lw_g := lw_gi (lw_c12 (List.mem_of_getElem? (i := 47) rfl)) rfl
theorem wm_2689 : (Cond.laysFinal "DrawingHouseModel" "DrawingHouseModel" "faceMany" "[I" : Cond) ∈ lw_g := lw_gi (lw_c12 (List.mem_of_getElem? (i := 49) rfl)) rfl
theorem wm_2691 : (Cond.laysFinal "DrawingHouseModel" "DrawingHouseModel" "face" "[I" : Cond) ∈ lw_g := lw_gi (lw_c12 (List.mem_of_getElem? (i := 51) rfl)) rfl
theorem wm_2693 : (Cond.laysFinal "DrawingHouseModel" "DrawingHouseModel" "drawnNode" "[Z" : Cond) ∈ lw_g := lw_gi (lw_c12 (List.mem_of_getElem? (i := 53) rfl)) rfl
theorem wm_2695 : (Cond.laysFinal "DrawingHouseModel" "DrawingHouseModel" "drawnEdge" "[Z" : Cond) ∈ lw_g := lw_gi (lw_c12 (List.mem_of_getElem? (i := 55) rfl)) rfl
theorem wm_2697 : (Cond.laysFinal "DrawingHouseModel" "DrawingHouseModel" "pieceOf" "[I" : Cond) ∈ lw_g := lw_gi (lw_c12 (List.mem_of_getElem? (i := 57) rfl)) rfl
theorem wm_2699 : (Cond.lays "DrawingHouseModel" "DrawingHouseModel" "wayMany" "I" : Cond) ∈ lw_g := lw_gi (lw_c12 (List.mem_of_getElem? (i := 59) rfl)) rfl
theorem wm_2701 : (Cond.laysFinal "DrawingHouseModel" "DrawingHouseModel" "way" "[I" : Cond) ∈ lw_g := lw_gi (lw_c12 (List.mem_of_getElem? (i := 61) rfl)) rfl
theorem wm_2703 : (Cond.lays "DrawingHouseModel" "DrawingHouseModel" "goal" "I" : Cond) ∈ lw_g := lw_gi (lw_c12 (List.mem_of_getElem? (i := 63) rfl)) rfl
theorem wm_2705 : (Cond.laysFinal "DrawingHouseModel" "DrawingHouseModel" "toGoal" "[I" : Cond) ∈ lw_g := lw_gi (lw_c12 (List.mem_of_getElem? (i := 65) rfl)) rfl
theorem wm_2707 : (Cond.lays "DrawingHouseModel" "DrawingHouseModel" "onlyPiece" "I" : Cond) ∈ lw_g := lw_gi (lw_c12 (List.mem_of_getElem? (i := 67) rfl)) rfl
theorem wm_2709 : (Cond.laysFinal "DrawingHouseModel" "DrawingHouseModel" "ends" "[I" : Cond) ∈ lw_g := lw_gi (lw_c12 (List.mem_of_getElem? (i := 69) rfl)) rfl
theorem wm_2711 : (Cond.laysFinal "DrawingHouseModel" "DrawingHouseModel" "faceNodes" "[I" : Cond) ∈ lw_g := lw_gi (lw_c12 (List.mem_of_getElem? (i := 71) rfl)) rfl
theorem wm_2713 : (Cond.laysFinal "DrawingHouseModel" "DrawingHouseModel" "bestWay" "[I" : Cond) ∈ lw_g := lw_gi (lw_c12 (List.mem_of_getElem? (i := 73) rfl)) rfl
theorem wm_2715 : (Cond.lays "DrawingHouseModel" "DrawingHouseModel" "rounds" "I" : Cond) ∈ lw_g := lw_gi (lw_c12 (List.mem_of_getElem? (i := 75) rfl)) rfl
theorem wm_2717 : (Cond.laysFinal "DrawingHouseModel" "DrawingHouseModel" "roundOf" "[I" : Cond) ∈ lw_g := lw_gi (lw_c12 (List.mem_of_getElem? (i := 77) rfl)) rfl
theorem wm_2719 : (Cond.laysFinal "DrawingHouseModel" "DrawingHouseModel" "dartAt" "[I" : Cond) ∈ lw_g := lw_gi (lw_c12 (List.mem_of_getElem? (i := 79) rfl)) rfl
theorem wm_2721 : (Cond.laysFinal "DrawingHouseModel" "DrawingHouseModel" "roundBegin" "[I" : Cond) ∈ lw_g := lw_gi (lw_c12 (List.mem_of_getElem? (i := 81) rfl)) rfl
theorem wm_2723 : (Cond.laysFinal "DrawingHouseModel" "DrawingHouseModel" "roundDart" "[I" : Cond) ∈ lw_g := lw_gi (lw_c12 (List.mem_of_getElem? (i := 83) rfl)) rfl
theorem wm_2725 : (Cond.lays "DrawingHouseModel" "DrawingHouseModel" "barredMany" "I" : Cond) ∈ lw_g := lw_gi (lw_c12 (List.mem_of_getElem? (i := 85) rfl)) rfl
theorem wm_2727 : (Cond.lays "DrawingHouseModel" "DrawingHouseModel" "barredKind" "I" : Cond) ∈ lw_g := lw_gi (lw_c12 (List.mem_of_getElem? (i := 87) rfl)) rfl
theorem wm_2729 : (Cond.laysFinal "DrawingHouseModel" "DrawingHouseModel" "barred" "[I" : Cond) ∈ lw_g := lw_gi (lw_c12 (List.mem_of_getElem? (i := 89) rfl)) rfl
theorem wm_2731 : (Cond.laysFinal "DrawingHouseModel" "DrawingHouseModel" "drawn" "[I" : Cond) ∈ lw_g := lw_gi (lw_c12 (List.mem_of_getElem? (i := 91) rfl)) rfl
theorem wm_2733 : (Cond.laysFinal "DrawingHouseModel" "DrawingHouseModel" "nodeX" "[I" : Cond) ∈ lw_g := lw_gi (lw_c12 (List.mem_of_getElem? (i := 93) rfl)) rfl
theorem wm_2735 : (Cond.laysFinal "DrawingHouseModel" "DrawingHouseModel" "nodeY" "[I" : Cond) ∈ lw_g := lw_gi (lw_c12 (List.mem_of_getElem? (i := 95) rfl)) rfl
theorem wm_2737 : (Cond.laysFinal "DrawingHouseModel" "DrawingHouseModel" "bendMany" "[I" : Cond) ∈ lw_g := lw_gi (lw_c12 (List.mem_of_getElem? (i := 97) rfl)) rfl
theorem wm_2739 : (Cond.laysFinal "DrawingHouseModel" "DrawingHouseModel" "bendX" "[I" : Cond) ∈ lw_g := lw_gi (lw_c12 (List.mem_of_getElem? (i := 99) rfl)) rfl
theorem wm_2741 : (Cond.laysFinal "DrawingHouseModel" "DrawingHouseModel" "bendY" "[I" : Cond) ∈ lw_g := lw_gi (lw_c12 (List.mem_of_getElem? (i := 101) rfl)) rfl
theorem wm_2743 : (Cond.laysFinal "DrawingHouseModel" "DrawingHouseModel" "toldCross" "[I" : Cond) ∈ lw_g := lw_gi (lw_c12 (List.mem_of_getElem? (i := 103) rfl)) rfl
theorem wm_2745 : (Cond.laysFinal "DrawingHouseModel" "DrawingHouseModel" "toldSum" "[I" : Cond) ∈ lw_g := lw_gi (lw_c12 (List.mem_of_getElem? (i := 105) rfl)) rfl
theorem wm_2747 : (Cond.laysFinal "DrawingHouseModel" "DrawingHouseModel" "toldLayer" "[I" : Cond) ∈ lw_g := lw_gi (lw_c12 (List.mem_of_getElem? (i := 107) rfl)) rfl
theorem wm_2749 : (Cond.laysFinal "DrawingHouseModel" "DrawingHouseModel" "toldTurned" "[I" : Cond) ∈ lw_g := lw_gi (lw_c12 (List.mem_of_getElem? (i := 109) rfl)) rfl
theorem wm_2751 : (Cond.laysFinal "DrawingHouseModel" "DrawingHouseModel" "toldArea" "[I" : Cond) ∈ lw_g := lw_gi (lw_c12 (List.mem_of_getElem? (i := 111) rfl)) rfl
theorem wm_2753 : (Cond.laysFinal "DrawingHouseModel" "DrawingHouseModel" "toldGroup" "[I" : Cond) ∈ lw_g := lw_gi (lw_c12 (List.mem_of_getElem? (i := 113) rfl)) rfl
theorem wm_2755 : (Cond.laysFinal "DrawingHouseModel" "DrawingHouseModel" "shades" "[I" : Cond) ∈ lw_g := lw_gi (lw_c12 (List.mem_of_getElem? (i := 115) rfl)) rfl
theorem wm_2757 : (Cond.laysFinal "DrawingHouseModel" "DrawingHouseModel" "nx" "[I" : Cond) ∈ lw_g := lw_gi (lw_c12 (List.mem_of_getElem? (i := 117) rfl)) rfl
theorem wm_2759 : (Cond.laysFinal "DrawingHouseModel" "DrawingHouseModel" "ny" "[I" : Cond) ∈ lw_g := lw_gi (lw_c12 (List.mem_of_getElem? (i := 119) rfl)) rfl
theorem wm_2761 : (Cond.laysFinal "DrawingHouseModel" "DrawingHouseModel" "bm" "[I" : Cond) ∈ lw_g := lw_gi (lw_c12 (List.mem_of_getElem? (i := 121) rfl)) rfl
theorem wm_2763 : (Cond.laysFinal "DrawingHouseModel" "DrawingHouseModel" "bx" "[I" : Cond) ∈ lw_g := lw_gi (lw_c12 (List.mem_of_getElem? (i := 123) rfl)) rfl
theorem wm_2765 : (Cond.laysFinal "DrawingHouseModel" "DrawingHouseModel" "by" "[I" : Cond) ∈ lw_g := lw_gi (lw_c12 (List.mem_of_getElem? (i := 125) rfl)) rfl
theorem wm_2767 : (Cond.lays "DrawingHouseModel" "DrawingHouseModel" "pointMany" "I" : Cond) ∈ lw_g := lw_gi (lw_c12 (List.mem_of_getElem? (i := 127) rfl)) rfl
theorem wm_2769 : (Cond.lays "DrawingHouseModel" "DrawingHouseModel" "costMany" "I" : Cond) ∈ lw_g := lw_gi (lw_c12 (List.mem_of_getElem? (i := 129) rfl)) rfl
theorem wm_2771 : (Cond.lays "DrawingHouseModel" "DrawingHouseModel" "apartMany" "I" : Cond) ∈ lw_g := lw_gi (lw_c12 (List.mem_of_getElem? (i := 131) rfl)) rfl
theorem wm_2773 : (Cond.laysFinal "DrawingHouseModel" "DrawingHouseModel" "spot" "[I" : Cond) ∈ lw_g := lw_gi (lw_c12 (List.mem_of_getElem? (i := 133) rfl)) rfl
theorem wm_2775 : (Cond.laysFinal "DrawingHouseModel" "DrawingHouseModel" "costA" "[I" : Cond) ∈ lw_g := lw_gi (lw_c12 (List.mem_of_getElem? (i := 135) rfl)) rfl
theorem wm_2777 : (Cond.laysFinal "DrawingHouseModel" "DrawingHouseModel" "costB" "[I" : Cond) ∈ lw_g := lw_gi (lw_c12 (List.mem_of_getElem? (i := 137) rfl)) rfl
theorem wm_2779 : (Cond.laysFinal "DrawingHouseModel" "DrawingHouseModel" "costW" "[I" : Cond) ∈ lw_g := lw_gi (lw_c12 (List.mem_of_getElem? (i := 139) rfl)) rfl
theorem wm_2781 : (Cond.laysFinal "DrawingHouseModel" "DrawingHouseModel" "costPlain" "[Z" : Cond) ∈ lw_g := lw_gi (lw_c12 (List.mem_of_getElem? (i := 141) rfl)) rfl
theorem wm_2783 : (Cond.laysFinal "DrawingHouseModel" "DrawingHouseModel" "apartA" "[I" : Cond) ∈ lw_g := lw_gi (lw_c12 (List.mem_of_getElem? (i := 143) rfl)) rfl
theorem wm_2785 : (Cond.laysFinal "DrawingHouseModel" "DrawingHouseModel" "apartB" "[I" : Cond) ∈ lw_g := lw_gi (lw_c12 (List.mem_of_getElem? (i := 145) rfl)) rfl
theorem wm_2787 : (Cond.laysFinal "DrawingHouseModel" "DrawingHouseModel" "apart" "[I" : Cond) ∈ lw_g := lw_gi (lw_c12 (List.mem_of_getElem? (i := 147) rfl)) rfl
theorem wm_2789 : (Cond.laysFinal "DrawingHouseModel" "DrawingHouseModel" "flow" "[I" : Cond) ∈ lw_g := lw_gi (lw_c12 (List.mem_of_getElem? (i := 149) rfl)) rfl
theorem wm_2791 : (Cond.laysFinal "DrawingHouseModel" "DrawingHouseModel" "cameBy" "[I" : Cond) ∈ lw_g := lw_gi (lw_c12 (List.mem_of_getElem? (i := 151) rfl)) rfl
theorem wm_2793 : (Cond.laysFinal "DrawingHouseModel" "DrawingHouseModel" "queue" "[I" : Cond) ∈ lw_g := lw_gi (lw_c12 (List.mem_of_getElem? (i := 153) rfl)) rfl
theorem wm_2795 : (Cond.laysFinal "DrawingHouseModel" "DrawingHouseModel" "goes" "[I" : Cond) ∈ lw_g := lw_gi (lw_c12 (List.mem_of_getElem? (i := 155) rfl)) rfl
theorem wm_2797 : (Cond.lays "DrawingHouseModel" "DrawingHouseModel" "pushes" "I" : Cond) ∈ lw_g := lw_gi (lw_c12 (List.mem_of_getElem? (i := 157) rfl)) rfl
theorem wm_2799 : (Cond.laysFinal "DrawingHouseModel" "DrawingHouseModel" "turned" "[Z" : Cond) ∈ lw_g := lw_gi (lw_c12 (List.mem_of_getElem? (i := 159) rfl)) rfl
theorem wm_2801 : (Cond.laysFinal "DrawingHouseModel" "DrawingHouseModel" "order" "[I" : Cond) ∈ lw_g := lw_gi (lw_c12 (List.mem_of_getElem? (i := 161) rfl)) rfl
theorem wm_2803 : (Cond.laysFinal "DrawingHouseModel" "DrawingHouseModel" "best" "[I" : Cond) ∈ lw_g := lw_gi (lw_c12 (List.mem_of_getElem? (i := 163) rfl)) rfl
theorem wm_2805 : (Cond.laysFinal "DrawingHouseModel" "DrawingHouseModel" "member" "[I" : Cond) ∈ lw_g := lw_gi (lw_c12 (List.mem_of_getElem? (i := 165) rfl)) rfl
theorem wm_2807 : (Cond.lays "DrawingHouseModel" "DrawingHouseModel" "members" "I" : Cond) ∈ lw_g := lw_gi (lw_c12 (List.mem_of_getElem? (i := 167) rfl)) rfl
theorem wm_2809 : (Cond.lays "DrawingHouseModel" "DrawingHouseModel" "items" "I" : Cond) ∈ lw_g := lw_gi (lw_c12 (List.mem_of_getElem? (i := 169) rfl)) rfl
theorem wm_2811 : (Cond.lays "DrawingHouseModel" "DrawingHouseModel" "layerMany" "I" : Cond) ∈ lw_g := lw_gi (lw_c12 (List.mem_of_getElem? (i := 171) rfl)) rfl
theorem wm_2813 : (Cond.laysFinal "DrawingHouseModel" "DrawingHouseModel" "itemLayer" "[I" : Cond) ∈ lw_g := lw_gi (lw_c12 (List.mem_of_getElem? (i := 173) rfl)) rfl
theorem wm_2815 : (Cond.laysFinal "DrawingHouseModel" "DrawingHouseModel" "itemEdge" "[I" : Cond) ∈ lw_g := lw_gi (lw_c12 (List.mem_of_getElem? (i := 175) rfl)) rfl
theorem wm_2817 : (Cond.laysFinal "DrawingHouseModel" "DrawingHouseModel" "firstJoint" "[I" : Cond) ∈ lw_g := lw_gi (lw_c12 (List.mem_of_getElem? (i := 177) rfl)) rfl
theorem wm_2819 : (Cond.laysFinal "DrawingHouseModel" "DrawingHouseModel" "layerSize" "[I" : Cond) ∈ lw_g := lw_gi (lw_c12 (List.mem_of_getElem? (i := 179) rfl)) rfl
theorem wm_2821 : (Cond.laysFinal "DrawingHouseModel" "DrawingHouseModel" "layerItem" "[I" : Cond) ∈ lw_g := lw_gi (lw_c12 (List.mem_of_getElem? (i := 181) rfl)) rfl
theorem wm_2823 : (Cond.lays "DrawingHouseModel" "DrawingHouseModel" "lines" "I" : Cond) ∈ lw_g := lw_gi (lw_c12 (List.mem_of_getElem? (i := 183) rfl)) rfl
theorem wm_2825 : (Cond.laysFinal "DrawingHouseModel" "DrawingHouseModel" "lineA" "[I" : Cond) ∈ lw_g := lw_gi (lw_c12 (List.mem_of_getElem? (i := 185) rfl)) rfl
theorem wm_2827 : (Cond.laysFinal "DrawingHouseModel" "DrawingHouseModel" "lineB" "[I" : Cond) ∈ lw_g := lw_gi (lw_c12 (List.mem_of_getElem? (i := 187) rfl)) rfl
theorem wm_2829 : (Cond.laysFinal "DrawingHouseModel" "DrawingHouseModel" "permBegin" "[I" : Cond) ∈ lw_g := lw_gi (lw_c12 (List.mem_of_getElem? (i := 189) rfl)) rfl
theorem wm_2831 : (Cond.laysFinal "DrawingHouseModel" "DrawingHouseModel" "permMany" "[I" : Cond) ∈ lw_g := lw_gi (lw_c12 (List.mem_of_getElem? (i := 191) rfl)) rfl
theorem wm_2833 : (Cond.laysFinal "DrawingHouseModel" "DrawingHouseModel" "perm" "[B" : Cond) ∈ lw_g := lw_gi (lw_c12 (List.mem_of_getElem? (i := 193) rfl)) rfl
theorem wm_2835 : (Cond.laysFinal "DrawingHouseModel" "DrawingHouseModel" "rest" "[I" : Cond) ∈ lw_g := lw_gi (lw_c12 (List.mem_of_getElem? (i := 195) rfl)) rfl
theorem wm_2837 : (Cond.laysFinal "DrawingHouseModel" "DrawingHouseModel" "worse" "[I" : Cond) ∈ lw_g := lw_gi (lw_c12 (List.mem_of_getElem? (i := 197) rfl)) rfl
theorem wm_2839 : (Cond.laysFinal "DrawingHouseModel" "DrawingHouseModel" "listed" "[I" : Cond) ∈ lw_g := lw_gi (lw_c12 (List.mem_of_getElem? (i := 199) rfl)) rfl
theorem wm_2841 : (Cond.laysFinal "DrawingHouseModel" "DrawingHouseModel" "inOrder" "[I" : Cond) ∈ lw_g := lw_gi (lw_c12 (List.mem_of_getElem? (i := 201) rfl)) rfl
theorem wm_2843 : (Cond.laysFinal "DrawingHouseModel" "DrawingHouseModel" "row" "[I" : Cond) ∈ lw_g := lw_gi (lw_c12 (List.mem_of_getElem? (i := 203) rfl)) rfl
theorem wm_2845 : (Cond.laysFinal "DrawingHouseModel" "DrawingHouseModel" "kept" "[I" : Cond) ∈ lw_g := lw_gi (lw_c12 (List.mem_of_getElem? (i := 205) rfl)) rfl
theorem wm_2847 : (Cond.laysFinal "DrawingHouseModel" "DrawingHouseModel" "meanA" "[J" : Cond) ∈ lw_g := lw_gi (lw_c12 (List.mem_of_getElem? (i := 207) rfl)) rfl
theorem wm_2849 : (Cond.laysFinal "DrawingHouseModel" "DrawingHouseModel" "meanB" "[J" : Cond) ∈ lw_g := lw_gi (lw_c12 (List.mem_of_getElem? (i := 209) rfl)) rfl
theorem wm_2851 : (Cond.lays "DrawingHouseModel" "DrawingHouseModel" "upper" "I" : Cond) ∈ lw_g := lw_gi (lw_c12 (List.mem_of_getElem? (i := 211) rfl)) rfl
theorem wm_2853 : (Cond.laysFinal "DrawingHouseModel" "DrawingHouseModel" "upperNode" "[I" : Cond) ∈ lw_g := lw_gi (lw_c12 (List.mem_of_getElem? (i := 213) rfl)) rfl
theorem wm_2855 : (Cond.laysFinal "DrawingHouseModel" "DrawingHouseModel" "under" "[I" : Cond) ∈ lw_g := lw_gi (lw_c12 (List.mem_of_getElem? (i := 215) rfl)) rfl
theorem wm_2857 : (Cond.laysFinal "DrawingHouseModel" "DrawingHouseModel" "number" "[I" : Cond) ∈ lw_g := lw_gi (lw_c12 (List.mem_of_getElem? (i := 217) rfl)) rfl
theorem wm_2859 : (Cond.lays "DrawingHouseModel" "DrawingHouseModel" "rowMany" "I" : Cond) ∈ lw_g := lw_gi (lw_c12 (List.mem_of_getElem? (i := 219) rfl)) rfl
theorem wm_2861 : (Cond.laysFinal "DrawingHouseModel" "DrawingHouseModel" "toldNumber" "[I" : Cond) ∈ lw_g := lw_gi (lw_c12 (List.mem_of_getElem? (i := 221) rfl)) rfl
theorem wm_2863 : (Cond.laysFinal "DrawingHouseModel" "DrawingHouseModel" "above" "[I" : Cond) ∈ lw_g := lw_gi (lw_c12 (List.mem_of_getElem? (i := 223) rfl)) rfl
theorem wm_2865 : (Cond.laysFinal "DrawingHouseModel" "DrawingHouseModel" "level" "[I" : Cond) ∈ lw_g := lw_gi (lw_c12 (List.mem_of_getElem? (i := 225) rfl)) rfl
theorem wm_2867 : (Cond.laysFinal "DrawingHouseModel" "DrawingHouseModel" "root" "[I" : Cond) ∈ lw_g := lw_gi (lw_c12 (List.mem_of_getElem? (i := 227) rfl)) rfl
theorem wm_2869 : (Cond.laysFinal "DrawingHouseModel" "DrawingHouseModel" "itemOf" "[I" : Cond) ∈ lw_g := lw_gi (lw_c12 (List.mem_of_getElem? (i := 229) rfl)) rfl
theorem wm_2871 : (Cond.laysFinal "DrawingHouseModel" "DrawingHouseModel" "itemSize" "[I" : Cond) ∈ lw_g := lw_gi (lw_c12 (List.mem_of_getElem? (i := 231) rfl)) rfl
theorem wm_2873 : (Cond.lays "DrawingHouseModel" "DrawingHouseModel" "itemMany" "I" : Cond) ∈ lw_g := lw_gi (lw_c12 (List.mem_of_getElem? (i := 233) rfl)) rfl
theorem wm_2875 : (Cond.lays "DrawingHouseModel" "DrawingHouseModel" "shapeA" "J" : Cond) ∈ lw_g := lw_gi (lw_c12 (List.mem_of_getElem? (i := 235) rfl)) rfl
theorem wm_2877 : (Cond.lays "DrawingHouseModel" "DrawingHouseModel" "shapeB" "J" : Cond) ∈ lw_g := lw_gi (lw_c12 (List.mem_of_getElem? (i := 237) rfl)) rfl
theorem wm_2879 : (Cond.laysFinal "DrawingHouseModel" "DrawingHouseModel" "fx" "[J" : Cond) ∈ lw_g := lw_gi (lw_c12 (List.mem_of_getElem? (i := 239) rfl)) rfl
theorem wm_2881 : (Cond.laysFinal "DrawingHouseModel" "DrawingHouseModel" "fy" "[J" : Cond) ∈ lw_g := lw_gi (lw_c13 (List.mem_of_getElem? (i := 1) rfl)) rfl
theorem wm_2883 : (Cond.laysFinal "DrawingHouseModel" "DrawingHouseModel" "wx" "[J" : Cond) ∈ lw_g := lw_gi (lw_c13 (List.mem_of_getElem? (i := 3) rfl)) rfl
theorem wm_2885 : (Cond.laysFinal "DrawingHouseModel" "DrawingHouseModel" "wy" "[J" : Cond) ∈ lw_g := lw_gi (lw_c13 (List.mem_of_getElem? (i := 5) rfl)) rfl
theorem wm_2887 : (Cond.lays "DrawingHouseModel" "DrawingHouseModel" "g0" "I" : Cond) ∈ lw_g := lw_gi (lw_c13 (List.mem_of_getElem? (i := 7) rfl)) rfl
theorem wm_2889 : (Cond.laysFinal "DrawingHouseModel" "DrawingHouseModel" "costOf" "[I" : Cond) ∈ lw_g := lw_gi (lw_c13 (List.mem_of_getElem? (i := 9) rfl)) rfl
theorem wm_2891 : (Cond.laysFinal "DrawingHouseModel" "DrawingHouseModel" "bucket" "[I" : Cond) ∈ lw_g := lw_gi (lw_c13 (List.mem_of_getElem? (i := 11) rfl)) rfl
theorem wm_2893 : (Cond.laysFinal "DrawingHouseModel" "DrawingHouseModel" "bucketMany" "[I" : Cond) ∈ lw_g := lw_gi (lw_c13 (List.mem_of_getElem? (i := 13) rfl)) rfl
theorem wm_2895 : (Cond.laysFinal "DrawingHouseModel" "DrawingHouseModel" "barredPoint" "[Z" : Cond) ∈ lw_g := lw_gi (lw_c13 (List.mem_of_getElem? (i := 15) rfl)) rfl
theorem wm_2897 : (Cond.lays "DrawingHouseModel" "DrawingHouseModel" "left0" "I" : Cond) ∈ lw_g := lw_gi (lw_c13 (List.mem_of_getElem? (i := 17) rfl)) rfl
theorem wm_2899 : (Cond.lays "DrawingHouseModel" "DrawingHouseModel" "top0" "I" : Cond) ∈ lw_g := lw_gi (lw_c13 (List.mem_of_getElem? (i := 19) rfl)) rfl
theorem wm_2901 : (Cond.lays "DrawingHouseModel" "DrawingHouseModel" "wide" "I" : Cond) ∈ lw_g := lw_gi (lw_c13 (List.mem_of_getElem? (i := 21) rfl)) rfl
theorem wm_2903 : (Cond.lays "DrawingHouseModel" "DrawingHouseModel" "tall" "I" : Cond) ∈ lw_g := lw_gi (lw_c13 (List.mem_of_getElem? (i := 23) rfl)) rfl
theorem wm_2905 : (Cond.laysFinal "DrawingHouseModel" "DrawingHouseModel" "turnX" "[I" : Cond) ∈ lw_g := lw_gi (lw_c13 (List.mem_of_getElem? (i := 25) rfl)) rfl
theorem wm_2907 : (Cond.laysFinal "DrawingHouseModel" "DrawingHouseModel" "turnY" "[I" : Cond) ∈ lw_g := lw_gi (lw_c13 (List.mem_of_getElem? (i := 27) rfl)) rfl
theorem wm_2909 : (Cond.lays "DrawingHouseModel" "DrawingHouseModel" "labels" "I" : Cond) ∈ lw_g := lw_gi (lw_c13 (List.mem_of_getElem? (i := 29) rfl)) rfl
theorem wm_2911 : (Cond.laysFinal "DrawingHouseModel" "DrawingHouseModel" "labelX" "[I" : Cond) ∈ lw_g := lw_gi (lw_c13 (List.mem_of_getElem? (i := 31) rfl)) rfl
theorem wm_2913 : (Cond.laysFinal "DrawingHouseModel" "DrawingHouseModel" "labelY" "[I" : Cond) ∈ lw_g := lw_gi (lw_c13 (List.mem_of_getElem? (i := 33) rfl)) rfl
theorem wm_2915 : (Cond.lays "DrawingHouseModel" "DrawingHouseModel" "leastX" "I" : Cond) ∈ lw_g := lw_gi (lw_c13 (List.mem_of_getElem? (i := 35) rfl)) rfl
theorem wm_2917 : (Cond.lays "DrawingHouseModel" "DrawingHouseModel" "mostX" "I" : Cond) ∈ lw_g := lw_gi (lw_c13 (List.mem_of_getElem? (i := 37) rfl)) rfl
theorem wm_2919 : (Cond.lays "DrawingHouseModel" "DrawingHouseModel" "leastY" "I" : Cond) ∈ lw_g := lw_gi (lw_c13 (List.mem_of_getElem? (i := 39) rfl)) rfl
theorem wm_2921 : (Cond.lays "DrawingHouseModel" "DrawingHouseModel" "mostY" "I" : Cond) ∈ lw_g := lw_gi (lw_c13 (List.mem_of_getElem? (i := 41) rfl)) rfl
theorem wm_2923 : (Cond.lays "DrawingHouseModel" "DrawingHouseModel" "tokens" "I" : Cond) ∈ lw_g := lw_gi (lw_c13 (List.mem_of_getElem? (i := 43) rfl)) rfl
theorem wm_2925 : (Cond.lays "DrawingHouseModel" "DrawingHouseModel" "cur" "I" : Cond) ∈ lw_g := lw_gi (lw_c13 (List.mem_of_getElem? (i := 45) rfl)) rfl
theorem wm_2927 : (Cond.lays "DrawingHouseModel" "DrawingHouseModel" "opened" "I" : Cond) ∈ lw_g := lw_gi (lw_c13 (List.mem_of_getElem? (i := 47) rfl)) rfl
theorem wm_2929 : (Cond.laysFinal "DrawingHouseModel" "DrawingHouseModel" "tokenKind" "[I" : Cond) ∈ lw_g := lw_gi (lw_c13 (List.mem_of_getElem? (i := 49) rfl)) rfl
theorem wm_2931 : (Cond.laysFinal "DrawingHouseModel" "DrawingHouseModel" "tokenValue" "[J" : Cond) ∈ lw_g := lw_gi (lw_c13 (List.mem_of_getElem? (i := 51) rfl)) rfl
theorem wm_2933 : (Cond.laysFinal "DrawingHouseModel" "DrawingHouseModel" "tokenPlace" "[I" : Cond) ∈ lw_g := lw_gi (lw_c13 (List.mem_of_getElem? (i := 53) rfl)) rfl
theorem wm_2935 : (Cond.laysFinal "DrawingHouseModel" "DrawingHouseModel" "tokenEnd" "[I" : Cond) ∈ lw_g := lw_gi (lw_c13 (List.mem_of_getElem? (i := 55) rfl)) rfl
theorem wm_2937 : (Cond.lays "DrawingHouseModel" "DrawingHouseModel" "styleKind" "I" : Cond) ∈ lw_g := lw_gi (lw_c13 (List.mem_of_getElem? (i := 57) rfl)) rfl
theorem wm_2939 : (Cond.lays "DrawingHouseModel" "DrawingHouseModel" "styleOne" "I" : Cond) ∈ lw_g := lw_gi (lw_c13 (List.mem_of_getElem? (i := 59) rfl)) rfl
theorem wm_2941 : (Cond.laysFinal "DrawingHouseModel" "DrawingHouseModel" "partOfBlocks" "[I" : Cond) ∈ lw_g := lw_gi (lw_c13 (List.mem_of_getElem? (i := 61) rfl)) rfl
theorem wm_2943 : (Cond.laysFinal "DrawingHouseModel" "DrawingHouseModel" "coreOf" "[I" : Cond) ∈ lw_g := lw_gi (lw_c13 (List.mem_of_getElem? (i := 63) rfl)) rfl
theorem wm_2945 : (Cond.laysFinal "DrawingHouseModel" "DrawingHouseModel" "turnedNow" "[Z" : Cond) ∈ lw_g := lw_gi (lw_c13 (List.mem_of_getElem? (i := 65) rfl)) rfl
theorem wm_2947 : (Cond.lays "DrawingHouseModel" "DrawingHouseModel" "octets" "I" : Cond) ∈ lw_g := lw_gi (lw_c13 (List.mem_of_getElem? (i := 67) rfl)) rfl
theorem wm_2949 : (Cond.lays "DrawingHouseModel" "DrawingHouseModel" "texts" "I" : Cond) ∈ lw_g := lw_gi (lw_c13 (List.mem_of_getElem? (i := 69) rfl)) rfl
theorem wm_2951 : (Cond.laysFinal "DrawingHouseModel" "DrawingHouseModel" "octet" "[B" : Cond) ∈ lw_g := lw_gi (lw_c13 (List.mem_of_getElem? (i := 71) rfl)) rfl
theorem wm_2953 : (Cond.laysFinal "DrawingHouseModel" "DrawingHouseModel" "written" "[B" : Cond) ∈ lw_g := lw_gi (lw_c13 (List.mem_of_getElem? (i := 73) rfl)) rfl
theorem wm_2955 : (Cond.lays "DrawingHouseModel" "DrawingHouseModel" "dotWide" "I" : Cond) ∈ lw_g := lw_gi (lw_c13 (List.mem_of_getElem? (i := 75) rfl)) rfl
theorem wm_2957 : (Cond.lays "DrawingHouseModel" "DrawingHouseModel" "dotTall" "I" : Cond) ∈ lw_g := lw_gi (lw_c13 (List.mem_of_getElem? (i := 77) rfl)) rfl
theorem wm_2959 : (Cond.laysFinal "DrawingHouseModel" "DrawingHouseModel" "dots" "[I" : Cond) ∈ lw_g := lw_gi (lw_c13 (List.mem_of_getElem? (i := 79) rfl)) rfl
set_option maxRecDepth 20000 in
theorem i_Dr : ∀ w ∈ u_ws R_Dr F_Dr 21, w ∈ lw_g := List.forall_mem_cons.mpr ⟨wm_512, List.forall_mem_cons.mpr ⟨wm_514, List.forall_mem_cons.mpr ⟨wm_516, List.forall_mem_cons.mpr ⟨wm_518, List.forall_mem_cons.mpr ⟨wm_520, List.forall_mem_cons.mpr ⟨wm_522, List.forall_mem_cons.mpr ⟨wm_524, List.forall_mem_cons.mpr ⟨wm_526, List.forall_mem_cons.mpr ⟨wm_528, List.forall_mem_cons.mpr ⟨wm_530, List.forall_mem_cons.mpr ⟨wm_532, List.forall_mem_cons.mpr ⟨wm_534, List.forall_mem_cons.mpr ⟨wm_536, List.forall_mem_cons.mpr ⟨wm_538, List.forall_mem_cons.mpr ⟨wm_540, List.forall_mem_cons.mpr ⟨wm_542, List.forall_mem_cons.mpr ⟨wm_544, List.forall_mem_cons.mpr ⟨wm_546, List.forall_mem_cons.mpr ⟨wm_548, List.forall_mem_cons.mpr ⟨wm_550, List.forall_mem_cons.mpr ⟨wm_552, List.forall_mem_nil _⟩⟩⟩⟩⟩⟩⟩⟩⟩⟩⟩⟩⟩⟩⟩⟩⟩⟩⟩⟩⟩
set_option maxRecDepth 20000 in
theorem i_Em : ∀ w ∈ u_ws R_Em F_Em 20, w ∈ lw_g := List.forall_mem_cons.mpr ⟨wm_346, List.forall_mem_cons.mpr ⟨wm_348, List.forall_mem_cons.mpr ⟨wm_350, List.forall_mem_cons.mpr ⟨wm_352, List.forall_mem_cons.mpr ⟨wm_354, List.forall_mem_cons.mpr ⟨wm_356, List.forall_mem_cons.mpr ⟨wm_358, List.forall_mem_cons.mpr ⟨wm_360, List.forall_mem_cons.mpr ⟨wm_362, List.forall_mem_cons.mpr ⟨wm_364, List.forall_mem_cons.mpr ⟨wm_366, List.forall_mem_cons.mpr ⟨wm_368, List.forall_mem_cons.mpr ⟨wm_370, List.forall_mem_cons.mpr ⟨wm_372, List.forall_mem_cons.mpr ⟨wm_374, List.forall_mem_cons.mpr ⟨wm_376, List.forall_mem_cons.mpr ⟨wm_378, List.forall_mem_cons.mpr ⟨wm_380, List.forall_mem_cons.mpr ⟨wm_382, List.forall_mem_cons.mpr ⟨wm_384, List.forall_mem_nil _⟩⟩⟩⟩⟩⟩⟩⟩⟩⟩⟩⟩⟩⟩⟩⟩⟩⟩⟩⟩
set_option maxRecDepth 20000 in
theorem i_Fa : ∀ w ∈ u_ws R_Fa F_Fa 15, w ∈ lw_g := List.forall_mem_cons.mpr ⟨wm_428, List.forall_mem_cons.mpr ⟨wm_430, List.forall_mem_cons.mpr ⟨wm_432, List.forall_mem_cons.mpr ⟨wm_434, List.forall_mem_cons.mpr ⟨wm_436, List.forall_mem_cons.mpr ⟨wm_438, List.forall_mem_cons.mpr ⟨wm_440, List.forall_mem_cons.mpr ⟨wm_442, List.forall_mem_cons.mpr ⟨wm_444, List.forall_mem_cons.mpr ⟨wm_446, List.forall_mem_cons.mpr ⟨wm_448, List.forall_mem_cons.mpr ⟨wm_450, List.forall_mem_cons.mpr ⟨wm_452, List.forall_mem_cons.mpr ⟨wm_454, List.forall_mem_cons.mpr ⟨wm_456, List.forall_mem_nil _⟩⟩⟩⟩⟩⟩⟩⟩⟩⟩⟩⟩⟩⟩⟩
set_option maxRecDepth 20000 in
theorem i_Gr : ∀ w ∈ u_ws R_Gr F_Gr 19, w ∈ lw_g := List.forall_mem_cons.mpr ⟨wm_153, List.forall_mem_cons.mpr ⟨wm_155, List.forall_mem_cons.mpr ⟨wm_157, List.forall_mem_cons.mpr ⟨wm_159, List.forall_mem_cons.mpr ⟨wm_161, List.forall_mem_cons.mpr ⟨wm_163, List.forall_mem_cons.mpr ⟨wm_165, List.forall_mem_cons.mpr ⟨wm_167, List.forall_mem_cons.mpr ⟨wm_169, List.forall_mem_cons.mpr ⟨wm_171, List.forall_mem_cons.mpr ⟨wm_173, List.forall_mem_cons.mpr ⟨wm_175, List.forall_mem_cons.mpr ⟨wm_177, List.forall_mem_cons.mpr ⟨wm_179, List.forall_mem_cons.mpr ⟨wm_181, List.forall_mem_cons.mpr ⟨wm_183, List.forall_mem_cons.mpr ⟨wm_185, List.forall_mem_cons.mpr ⟨wm_187, List.forall_mem_cons.mpr ⟨wm_189, List.forall_mem_nil _⟩⟩⟩⟩⟩⟩⟩⟩⟩⟩⟩⟩⟩⟩⟩⟩⟩⟩⟩
set_option maxRecDepth 20000 in
theorem i_La : ∀ w ∈ u_ws R_La F_La 21, w ∈ lw_g := List.forall_mem_cons.mpr ⟨wm_1264, List.forall_mem_cons.mpr ⟨wm_1266, List.forall_mem_cons.mpr ⟨wm_1268, List.forall_mem_cons.mpr ⟨wm_1270, List.forall_mem_cons.mpr ⟨wm_1272, List.forall_mem_cons.mpr ⟨wm_1274, List.forall_mem_cons.mpr ⟨wm_1276, List.forall_mem_cons.mpr ⟨wm_1278, List.forall_mem_cons.mpr ⟨wm_1280, List.forall_mem_cons.mpr ⟨wm_1282, List.forall_mem_cons.mpr ⟨wm_1284, List.forall_mem_cons.mpr ⟨wm_1286, List.forall_mem_cons.mpr ⟨wm_1288, List.forall_mem_cons.mpr ⟨wm_1290, List.forall_mem_cons.mpr ⟨wm_1292, List.forall_mem_cons.mpr ⟨wm_1294, List.forall_mem_cons.mpr ⟨wm_1296, List.forall_mem_cons.mpr ⟨wm_1298, List.forall_mem_cons.mpr ⟨wm_1300, List.forall_mem_cons.mpr ⟨wm_1302, List.forall_mem_cons.mpr ⟨wm_1304, List.forall_mem_nil _⟩⟩⟩⟩⟩⟩⟩⟩⟩⟩⟩⟩⟩⟩⟩⟩⟩⟩⟩⟩⟩
set_option maxRecDepth 20000 in
theorem i_Ne : ∀ w ∈ u_ws R_Ne F_Ne 17, w ∈ lw_g := List.forall_mem_cons.mpr ⟨wm_291, List.forall_mem_cons.mpr ⟨wm_293, List.forall_mem_cons.mpr ⟨wm_295, List.forall_mem_cons.mpr ⟨wm_297, List.forall_mem_cons.mpr ⟨wm_299, List.forall_mem_cons.mpr ⟨wm_301, List.forall_mem_cons.mpr ⟨wm_303, List.forall_mem_cons.mpr ⟨wm_305, List.forall_mem_cons.mpr ⟨wm_307, List.forall_mem_cons.mpr ⟨wm_309, List.forall_mem_cons.mpr ⟨wm_311, List.forall_mem_cons.mpr ⟨wm_313, List.forall_mem_cons.mpr ⟨wm_315, List.forall_mem_cons.mpr ⟨wm_317, List.forall_mem_cons.mpr ⟨wm_319, List.forall_mem_cons.mpr ⟨wm_321, List.forall_mem_cons.mpr ⟨wm_323, List.forall_mem_nil _⟩⟩⟩⟩⟩⟩⟩⟩⟩⟩⟩⟩⟩⟩⟩⟩⟩
set_option maxRecDepth 20000 in
theorem i_Pl : ∀ w ∈ u_ws R_Pl F_Pl 19, w ∈ lw_g := List.forall_mem_cons.mpr ⟨wm_1645, List.forall_mem_cons.mpr ⟨wm_1647, List.forall_mem_cons.mpr ⟨wm_1649, List.forall_mem_cons.mpr ⟨wm_1651, List.forall_mem_cons.mpr ⟨wm_1653, List.forall_mem_cons.mpr ⟨wm_1655, List.forall_mem_cons.mpr ⟨wm_1657, List.forall_mem_cons.mpr ⟨wm_1659, List.forall_mem_cons.mpr ⟨wm_1661, List.forall_mem_cons.mpr ⟨wm_1663, List.forall_mem_cons.mpr ⟨wm_1665, List.forall_mem_cons.mpr ⟨wm_1667, List.forall_mem_cons.mpr ⟨wm_1669, List.forall_mem_cons.mpr ⟨wm_1671, List.forall_mem_cons.mpr ⟨wm_1673, List.forall_mem_cons.mpr ⟨wm_1675, List.forall_mem_cons.mpr ⟨wm_1677, List.forall_mem_cons.mpr ⟨wm_1679, List.forall_mem_cons.mpr ⟨wm_1681, List.forall_mem_nil _⟩⟩⟩⟩⟩⟩⟩⟩⟩⟩⟩⟩⟩⟩⟩⟩⟩⟩⟩
set_option maxRecDepth 20000 in
theorem i_Pn : ∀ w ∈ u_ws R_Pn F_Pn 9, w ∈ lw_g := List.forall_mem_cons.mpr ⟨wm_1483, List.forall_mem_cons.mpr ⟨wm_1485, List.forall_mem_cons.mpr ⟨wm_1487, List.forall_mem_cons.mpr ⟨wm_1489, List.forall_mem_cons.mpr ⟨wm_1491, List.forall_mem_cons.mpr ⟨wm_1493, List.forall_mem_cons.mpr ⟨wm_1495, List.forall_mem_cons.mpr ⟨wm_1497, List.forall_mem_cons.mpr ⟨wm_1499, List.forall_mem_nil _⟩⟩⟩⟩⟩⟩⟩⟩⟩
set_option maxRecDepth 20000 in
theorem i_Re : ∀ w ∈ u_ws R_Re F_Re 12, w ∈ lw_g := List.forall_mem_cons.mpr ⟨wm_211, List.forall_mem_cons.mpr ⟨wm_213, List.forall_mem_cons.mpr ⟨wm_215, List.forall_mem_cons.mpr ⟨wm_217, List.forall_mem_cons.mpr ⟨wm_219, List.forall_mem_cons.mpr ⟨wm_221, List.forall_mem_cons.mpr ⟨wm_223, List.forall_mem_cons.mpr ⟨wm_225, List.forall_mem_cons.mpr ⟨wm_227, List.forall_mem_cons.mpr ⟨wm_229, List.forall_mem_cons.mpr ⟨wm_231, List.forall_mem_cons.mpr ⟨wm_233, List.forall_mem_nil _⟩⟩⟩⟩⟩⟩⟩⟩⟩⟩⟩⟩
set_option maxRecDepth 20000 in
theorem i_Ro : ∀ w ∈ u_ws R_Ro F_Ro 18, w ∈ lw_g := List.forall_mem_cons.mpr ⟨wm_1886, List.forall_mem_cons.mpr ⟨wm_1888, List.forall_mem_cons.mpr ⟨wm_1890, List.forall_mem_cons.mpr ⟨wm_1892, List.forall_mem_cons.mpr ⟨wm_1894, List.forall_mem_cons.mpr ⟨wm_1896, List.forall_mem_cons.mpr ⟨wm_1898, List.forall_mem_cons.mpr ⟨wm_1900, List.forall_mem_cons.mpr ⟨wm_1902, List.forall_mem_cons.mpr ⟨wm_1904, List.forall_mem_cons.mpr ⟨wm_1906, List.forall_mem_cons.mpr ⟨wm_1908, List.forall_mem_cons.mpr ⟨wm_1910, List.forall_mem_cons.mpr ⟨wm_1912, List.forall_mem_cons.mpr ⟨wm_1914, List.forall_mem_cons.mpr ⟨wm_1916, List.forall_mem_cons.mpr ⟨wm_1918, List.forall_mem_cons.mpr ⟨wm_1920, List.forall_mem_nil _⟩⟩⟩⟩⟩⟩⟩⟩⟩⟩⟩⟩⟩⟩⟩⟩⟩⟩
set_option maxRecDepth 20000 in
theorem i_St : ∀ w ∈ u_ws R_St F_St 9, w ∈ lw_g := List.forall_mem_cons.mpr ⟨wm_1209, List.forall_mem_cons.mpr ⟨wm_1211, List.forall_mem_cons.mpr ⟨wm_1213, List.forall_mem_cons.mpr ⟨wm_1215, List.forall_mem_cons.mpr ⟨wm_1217, List.forall_mem_cons.mpr ⟨wm_1219, List.forall_mem_cons.mpr ⟨wm_1221, List.forall_mem_cons.mpr ⟨wm_1223, List.forall_mem_cons.mpr ⟨wm_1225, List.forall_mem_nil _⟩⟩⟩⟩⟩⟩⟩⟩⟩
set_option maxRecDepth 20000 in
theorem i_Sy : ∀ w ∈ u_ws R_Sy F_Sy 17, w ∈ lw_g := List.forall_mem_cons.mpr ⟨wm_2117, List.forall_mem_cons.mpr ⟨wm_2119, List.forall_mem_cons.mpr ⟨wm_2121, List.forall_mem_cons.mpr ⟨wm_2123, List.forall_mem_cons.mpr ⟨wm_2125, List.forall_mem_cons.mpr ⟨wm_2127, List.forall_mem_cons.mpr ⟨wm_2129, List.forall_mem_cons.mpr ⟨wm_2131, List.forall_mem_cons.mpr ⟨wm_2133, List.forall_mem_cons.mpr ⟨wm_2135, List.forall_mem_cons.mpr ⟨wm_2137, List.forall_mem_cons.mpr ⟨wm_2139, List.forall_mem_cons.mpr ⟨wm_2141, List.forall_mem_cons.mpr ⟨wm_2143, List.forall_mem_cons.mpr ⟨wm_2145, List.forall_mem_cons.mpr ⟨wm_2147, List.forall_mem_cons.mpr ⟨wm_2149, List.forall_mem_nil _⟩⟩⟩⟩⟩⟩⟩⟩⟩⟩⟩⟩⟩⟩⟩⟩⟩
set_option maxRecDepth 20000 in
theorem i_Ho : ∀ w ∈ u_ws R_Ho F_Ho 21, w ∈ lw_g := List.forall_mem_cons.mpr ⟨wm_576, List.forall_mem_cons.mpr ⟨wm_578, List.forall_mem_cons.mpr ⟨wm_580, List.forall_mem_cons.mpr ⟨wm_582, List.forall_mem_cons.mpr ⟨wm_584, List.forall_mem_cons.mpr ⟨wm_586, List.forall_mem_cons.mpr ⟨wm_588, List.forall_mem_cons.mpr ⟨wm_590, List.forall_mem_cons.mpr ⟨wm_592, List.forall_mem_cons.mpr ⟨wm_594, List.forall_mem_cons.mpr ⟨wm_596, List.forall_mem_cons.mpr ⟨wm_598, List.forall_mem_cons.mpr ⟨wm_600, List.forall_mem_cons.mpr ⟨wm_602, List.forall_mem_cons.mpr ⟨wm_604, List.forall_mem_cons.mpr ⟨wm_606, List.forall_mem_cons.mpr ⟨wm_608, List.forall_mem_cons.mpr ⟨wm_610, List.forall_mem_cons.mpr ⟨wm_612, List.forall_mem_cons.mpr ⟨wm_614, List.forall_mem_cons.mpr ⟨wm_616, List.forall_mem_nil _⟩⟩⟩⟩⟩⟩⟩⟩⟩⟩⟩⟩⟩⟩⟩⟩⟩⟩⟩⟩⟩
set_option maxRecDepth 20000 in
theorem i_Mo : ∀ w ∈ u_ws R_Mo F_Mo 176, w ∈ lw_g := List.forall_mem_cons.mpr ⟨wm_2609, List.forall_mem_cons.mpr ⟨wm_2611, List.forall_mem_cons.mpr ⟨wm_2613, List.forall_mem_cons.mpr ⟨wm_2615, List.forall_mem_cons.mpr ⟨wm_2617, List.forall_mem_cons.mpr ⟨wm_2619, List.forall_mem_cons.mpr ⟨wm_2621, List.forall_mem_cons.mpr ⟨wm_2623, List.forall_mem_cons.mpr ⟨wm_2625, List.forall_mem_cons.mpr ⟨wm_2627, List.forall_mem_cons.mpr ⟨wm_2629, List.forall_mem_cons.mpr ⟨wm_2631, List.forall_mem_cons.mpr ⟨wm_2633, List.forall_mem_cons.mpr ⟨wm_2635, List.forall_mem_cons.mpr ⟨wm_2637, List.forall_mem_cons.mpr ⟨wm_2639, List.forall_mem_cons.mpr ⟨wm_2641, List.forall_mem_cons.mpr ⟨wm_2643, List.forall_mem_cons.mpr ⟨wm_2645, List.forall_mem_cons.mpr ⟨wm_2647, List.forall_mem_cons.mpr ⟨wm_2649, List.forall_mem_cons.mpr ⟨wm_2651, List.forall_mem_cons.mpr ⟨wm_2653, List.forall_mem_cons.mpr ⟨wm_2655, List.forall_mem_cons.mpr ⟨wm_2657, List.forall_mem_cons.mpr ⟨wm_2659, List.forall_mem_cons.mpr ⟨wm_2661, List.forall_mem_cons.mpr ⟨wm_2663, List.forall_mem_cons.mpr ⟨wm_2665, List.forall_mem_cons.mpr ⟨wm_2667, List.forall_mem_cons.mpr ⟨wm_2669, List.forall_mem_cons.mpr ⟨wm_2671, List.forall_mem_cons.mpr ⟨wm_2673, List.forall_mem_cons.mpr ⟨wm_2675, List.forall_mem_cons.mpr ⟨wm_2677, List.forall_mem_cons.mpr ⟨wm_2679, List.forall_mem_cons.mpr ⟨wm_2681, List.forall_mem_cons.mpr ⟨wm_2683, List.forall_mem_cons.mpr ⟨wm_2685, List.forall_mem_cons.mpr ⟨wm_2687, List.forall_mem_cons.mpr ⟨wm_2689, List.forall_mem_cons.mpr ⟨wm_2691, List.forall_mem_cons.mpr ⟨wm_2693, List.forall_mem_cons.mpr ⟨wm_2695, List.forall_mem_cons.mpr ⟨wm_2697, List.forall_mem_cons.mpr ⟨wm_2699, List.forall_mem_cons.mpr ⟨wm_2701, List.forall_mem_cons.mpr ⟨wm_2703, List.forall_mem_cons.mpr ⟨wm_2705, List.forall_mem_cons.mpr ⟨wm_2707, List.forall_mem_cons.mpr ⟨wm_2709, List.forall_mem_cons.mpr ⟨wm_2711, List.forall_mem_cons.mpr ⟨wm_2713, List.forall_mem_cons.mpr ⟨wm_2715, List.forall_mem_cons.mpr ⟨wm_2717, List.forall_mem_cons.mpr ⟨wm_2719, List.forall_mem_cons.mpr ⟨wm_2721, List.forall_mem_cons.mpr ⟨wm_2723, List.forall_mem_cons.mpr ⟨wm_2725, List.forall_mem_cons.mpr ⟨wm_2727, List.forall_mem_cons.mpr ⟨wm_2729, List.forall_mem_cons.mpr ⟨wm_2731, List.forall_mem_cons.mpr ⟨wm_2733, List.forall_mem_cons.mpr ⟨wm_2735, List.forall_mem_cons.mpr ⟨wm_2737, List.forall_mem_cons.mpr ⟨wm_2739, List.forall_mem_cons.mpr ⟨wm_2741, List.forall_mem_cons.mpr ⟨wm_2743, List.forall_mem_cons.mpr ⟨wm_2745, List.forall_mem_cons.mpr ⟨wm_2747, List.forall_mem_cons.mpr ⟨wm_2749, List.forall_mem_cons.mpr ⟨wm_2751, List.forall_mem_cons.mpr ⟨wm_2753, List.forall_mem_cons.mpr ⟨wm_2755, List.forall_mem_cons.mpr ⟨wm_2757, List.forall_mem_cons.mpr ⟨wm_2759, List.forall_mem_cons.mpr ⟨wm_2761, List.forall_mem_cons.mpr ⟨wm_2763, List.forall_mem_cons.mpr ⟨wm_2765, List.forall_mem_cons.mpr ⟨wm_2767, List.forall_mem_cons.mpr ⟨wm_2769, List.forall_mem_cons.mpr ⟨wm_2771, List.forall_mem_cons.mpr ⟨wm_2773, List.forall_mem_cons.mpr ⟨wm_2775, List.forall_mem_cons.mpr ⟨wm_2777, List.forall_mem_cons.mpr ⟨wm_2779, List.forall_mem_cons.mpr ⟨wm_2781, List.forall_mem_cons.mpr ⟨wm_2783, List.forall_mem_cons.mpr ⟨wm_2785, List.forall_mem_cons.mpr ⟨wm_2787, List.forall_mem_cons.mpr ⟨wm_2789, List.forall_mem_cons.mpr ⟨wm_2791, List.forall_mem_cons.mpr ⟨wm_2793, List.forall_mem_cons.mpr ⟨wm_2795, List.forall_mem_cons.mpr ⟨wm_2797, List.forall_mem_cons.mpr ⟨wm_2799, List.forall_mem_cons.mpr ⟨wm_2801, List.forall_mem_cons.mpr ⟨wm_2803, List.forall_mem_cons.mpr ⟨wm_2805, List.forall_mem_cons.mpr ⟨wm_2807, List.forall_mem_cons.mpr ⟨wm_2809, List.forall_mem_cons.mpr ⟨wm_2811, List.forall_mem_cons.mpr ⟨wm_2813, List.forall_mem_cons.mpr ⟨wm_2815, List.forall_mem_cons.mpr ⟨wm_2817, List.forall_mem_cons.mpr ⟨wm_2819, List.forall_mem_cons.mpr ⟨wm_2821, List.forall_mem_cons.mpr ⟨wm_2823, List.forall_mem_cons.mpr ⟨wm_2825, List.forall_mem_cons.mpr ⟨wm_2827, List.forall_mem_cons.mpr ⟨wm_2829, List.forall_mem_cons.mpr ⟨wm_2831, List.forall_mem_cons.mpr ⟨wm_2833, List.forall_mem_cons.mpr ⟨wm_2835, List.forall_mem_cons.mpr ⟨wm_2837, List.forall_mem_cons.mpr ⟨wm_2839, List.forall_mem_cons.mpr ⟨wm_2841, List.forall_mem_cons.mpr ⟨wm_2843, List.forall_mem_cons.mpr ⟨wm_2845, List.forall_mem_cons.mpr ⟨wm_2847, List.forall_mem_cons.mpr ⟨wm_2849, List.forall_mem_cons.mpr ⟨wm_2851, List.forall_mem_cons.mpr ⟨wm_2853, List.forall_mem_cons.mpr ⟨wm_2855, List.forall_mem_cons.mpr ⟨wm_2857, List.forall_mem_cons.mpr ⟨wm_2859, List.forall_mem_cons.mpr ⟨wm_2861, List.forall_mem_cons.mpr ⟨wm_2863, List.forall_mem_cons.mpr ⟨wm_2865, List.forall_mem_cons.mpr ⟨wm_2867, List.forall_mem_cons.mpr ⟨wm_2869, List.forall_mem_cons.mpr ⟨wm_2871, List.forall_mem_cons.mpr ⟨wm_2873, List.forall_mem_cons.mpr ⟨wm_2875, List.forall_mem_cons.mpr ⟨wm_2877, List.forall_mem_cons.mpr ⟨wm_2879, List.forall_mem_cons.mpr ⟨wm_2881, List.forall_mem_cons.mpr ⟨wm_2883, List.forall_mem_cons.mpr ⟨wm_2885, List.forall_mem_cons.mpr ⟨wm_2887, List.forall_mem_cons.mpr ⟨wm_2889, List.forall_mem_cons.mpr ⟨wm_2891, List.forall_mem_cons.mpr ⟨wm_2893, List.forall_mem_cons.mpr ⟨wm_2895, List.forall_mem_cons.mpr ⟨wm_2897, List.forall_mem_cons.mpr ⟨wm_2899, List.forall_mem_cons.mpr ⟨wm_2901, List.forall_mem_cons.mpr ⟨wm_2903, List.forall_mem_cons.mpr ⟨wm_2905, List.forall_mem_cons.mpr ⟨wm_2907, List.forall_mem_cons.mpr ⟨wm_2909, List.forall_mem_cons.mpr ⟨wm_2911, List.forall_mem_cons.mpr ⟨wm_2913, List.forall_mem_cons.mpr ⟨wm_2915, List.forall_mem_cons.mpr ⟨wm_2917, List.forall_mem_cons.mpr ⟨wm_2919, List.forall_mem_cons.mpr ⟨wm_2921, List.forall_mem_cons.mpr ⟨wm_2923, List.forall_mem_cons.mpr ⟨wm_2925, List.forall_mem_cons.mpr ⟨wm_2927, List.forall_mem_cons.mpr ⟨wm_2929, List.forall_mem_cons.mpr ⟨wm_2931, List.forall_mem_cons.mpr ⟨wm_2933, List.forall_mem_cons.mpr ⟨wm_2935, List.forall_mem_cons.mpr ⟨wm_2937, List.forall_mem_cons.mpr ⟨wm_2939, List.forall_mem_cons.mpr ⟨wm_2941, List.forall_mem_cons.mpr ⟨wm_2943, List.forall_mem_cons.mpr ⟨wm_2945, List.forall_mem_cons.mpr ⟨wm_2947, List.forall_mem_cons.mpr ⟨wm_2949, List.forall_mem_cons.mpr ⟨wm_2951, List.forall_mem_cons.mpr ⟨wm_2953, List.forall_mem_cons.mpr ⟨wm_2955, List.forall_mem_cons.mpr ⟨wm_2957, List.forall_mem_cons.mpr ⟨wm_2959, List.forall_mem_nil _⟩⟩⟩⟩⟩⟩⟩⟩⟩⟩⟩⟩⟩⟩⟩⟩⟩⟩⟩⟩⟩⟩⟩⟩⟩⟩⟩⟩⟩⟩⟩⟩⟩⟩⟩⟩⟩⟩⟩⟩⟩⟩⟩⟩⟩⟩⟩⟩⟩⟩⟩⟩⟩⟩⟩⟩⟩⟩⟩⟩⟩⟩⟩⟩⟩⟩⟩⟩⟩⟩⟩⟩⟩⟩⟩⟩⟩⟩⟩⟩⟩⟩⟩⟩⟩⟩⟩⟩⟩⟩⟩⟩⟩⟩⟩⟩⟩⟩⟩⟩⟩⟩⟩⟩⟩⟩⟩⟩⟩⟩⟩⟩⟩⟩⟩⟩⟩⟩⟩⟩⟩⟩⟩⟩⟩⟩⟩⟩⟩⟩⟩⟩⟩⟩⟩⟩⟩⟩⟩⟩⟩⟩⟩⟩⟩⟩⟩⟩⟩⟩⟩⟩⟩⟩⟩⟩⟩⟩⟩⟩⟩⟩⟩⟩⟩⟩⟩⟩⟩⟩⟩⟩⟩⟩⟩⟩
end
section
abbrev b_jArr_fill1 : ByteArray := prog_24_method_103_code
def y_jArr_fill1 : MethodName := ⟨"java/util/Arrays", "fill", "([II)V"⟩
abbrev z_jArr_fill1 : List Cond := Cond.code y_jArr_fill1 b_jArr_fill1 4 none :: lw_g
theorem d_jArr_fill1_0 : decode b_jArr_fill1 0 = .ok (.iconst 0, 1) := by decide +kernel
theorem d_jArr_fill1_1 : decode b_jArr_fill1 1 = .ok (.istore_n 2, 1) := by decide +kernel
theorem d_jArr_fill1_2 : decode b_jArr_fill1 2 = .ok (.aload_n 0, 1) := by decide +kernel
theorem d_jArr_fill1_3 : decode b_jArr_fill1 3 = .ok (.arraylength, 1) := by decide +kernel
theorem d_jArr_fill1_4 : decode b_jArr_fill1 4 = .ok (.istore_n 3, 1) := by decide +kernel
theorem d_jArr_fill1_5 : decode b_jArr_fill1 5 = .ok (.iload_n 2, 1) := by decide +kernel
theorem d_jArr_fill1_6 : decode b_jArr_fill1 6 = .ok (.iload_n 3, 1) := by decide +kernel
theorem d_jArr_fill1_7 : decode b_jArr_fill1 7 = .ok (.if_icmp .ge 13, 3) := by decide +kernel
theorem d_jArr_fill1_10 : decode b_jArr_fill1 10 = .ok (.aload_n 0, 1) := by decide +kernel
theorem d_jArr_fill1_11 : decode b_jArr_fill1 11 = .ok (.iload_n 2, 1) := by decide +kernel
theorem d_jArr_fill1_12 : decode b_jArr_fill1 12 = .ok (.iload_n 1, 1) := by decide +kernel
theorem d_jArr_fill1_13 : decode b_jArr_fill1 13 = .ok (.iastore, 1) := by decide +kernel
theorem d_jArr_fill1_14 : decode b_jArr_fill1 14 = .ok (.iinc 2 1, 3) := by decide +kernel
theorem d_jArr_fill1_17 : decode b_jArr_fill1 17 = .ok (.goto (-12), 3) := by decide +kernel
theorem d_jArr_fill1_20 : decode b_jArr_fill1 20 = .ok (.return_, 1) := by decide +kernel
set_option maxRecDepth 100000 in
set_option maxHeartbeats 4000000 in
/-- Arrays.fill(int[], int) -/
theorem c_fillI (l : Launch) (D : va_G) (tys : List (ClassId × FieldType)) (t0 : Nat) (cA : ClassId) (ht0 : tys[t0]? = some (cA, .int)) (a n : Nat) (hn : n < 2 ^ 31) (f : Nat → Int32) (v : Int32) :
    Cv l y_jArr_fill1 z_jArr_fill1 { frames := 0, cells := 0, slots := 0, locals := 0 } D classes tys [.ref a, .int v] [[(a, .inl (cA, n, .inl f))]] (fun _ : Unit => True) (fun _ => [[(a, .inl (cA, n, .inl (fl f n v)))]]) 0 0 := by
  intro sz
  refine k_met (cc := b_jArr_fill1) (maxL := 4) (ret := none) (by decide) rfl (Nat.le_of_ble_eq_true rfl) (fun p e s m below meth c ls X hl hB => ?_)
  obtain ⟨hsz, hP, hK, hD0, hN⟩ := hB
  subst hsz
  have hD := hD0.self (sz := s.heap.size)
  generalize hAe : va_A (cat [[(a, .inl (cA, n, .inl f))]]) s.heap.size = A at hD ⊢
  have hA : ∀ q : Nat, s.heap.size ≤ q → A q := fun q h => by rw [← hAe]; exact Or.inr h
  have hS : va_S A s.heap s.heap [] := va_S.rf
  obtain ⟨hx, hb, hml, hown, hts, hr, hlk, hnm⟩ := id X
  have hl : lv_has ls 4 [(0, .ref a), (1, .int v)] := hl
  refine lv_iconst (pc := 0) (v := 0) hx hb d_jArr_fill1_0 (by decide) ?_
  refine lv_istore_n (pc := 1) (lv' := [(2, .int 0), (0, .ref a), (1, .int v)]) hx hb d_jArr_fill1_1 rfl hl (by decide) rfl (fun ls hl => ?_)
  refine lv_aload_n (pc := 2) hx hb d_jArr_fill1_2 rfl (lv_at hl 1 rfl) ?_
  refine va_alen (pc := 3) hx hb hK hP 0 t0 rfl ht0 (v := nI n) rfl d_jArr_fill1_3 ?_
  refine lv_istore_n (pc := 4) (lv' := [(3, .int (nI n)), (2, .int 0), (0, .ref a), (1, .int v)]) hx hb d_jArr_fill1_4 rfl hl (by decide) rfl (fun ls hl => ?_)
  have loop : ∀ (k i : Nat), i + k = n → ∀ (H : Heap) (locs : List Loc) (ls : Array Slot), va_P D classes [(a, .inl (cA, n, .inl (fl f i v)))] H → va_D A [(a, .inl (cA, n, .inl (fl f i v)))] → va_S A s.heap H locs → lv_has ls 4 [(3, .int (nI n)), (2, .int (nI i)), (0, .ref a), (1, .int v)] →
      W p l e { frames := 0, cells := 0, slots := 0, locals := 0 } s m [Value.ref a, Value.int v].toArray below meth c H locs 0 0 (MQ below (va_Qv (fun _ : Unit => True) (fun u t => wq D classes tys A (cat [[(a, .inl (cA, n, .inl (fl f n v)))]]) t) A) [Value.ref a, Value.int v].toArray s 0 0 A) (F0 m 5 ls []) := by
    intro k
    induction k with
    | zero =>
      intro i hi H locs ls hP hD hS hl
      have hi : i = n := hi
      subst hi
      refine lv_iload_n (pc := 5) hx hb d_jArr_fill1_5 rfl (lv_at hl 1 rfl) ?_
      refine lv_iload_n (pc := 6) hx hb d_jArr_fill1_6 rfl (lv_at hl 0 rfl) ?_
      refine lv_icmp_ge (pc := 7) (tgt := 20) hx hb d_jArr_fill1_7 (by decide) (fun _ => ?_) (fun c1 => absurd (nI_le (Nat.le_refl _) hn) c1)
      exact W.vret hx hb hr (fun t ht hW => ⟨⟨(), rfl, trivial, by rw [ht]; exact hP, va_K.moved hW.alike hK, hD⟩, hS.F ht⟩) hS.2.2 d_jArr_fill1_20
    | succ k ih =>
      intro i hi H locs ls hP hD hS hl
      have hlt : i < n := by omega
      refine lv_iload_n (pc := 5) hx hb d_jArr_fill1_5 rfl (lv_at hl 1 rfl) ?_
      refine lv_iload_n (pc := 6) hx hb d_jArr_fill1_6 rfl (lv_at hl 0 rfl) ?_
      refine lv_icmp_ge (pc := 7) (tgt := 20) hx hb d_jArr_fill1_7 (by decide) (fun c1 => absurd c1 (nI_ge hlt hn)) (fun _ => ?_)
      refine lv_aload_n (pc := 10) hx hb d_jArr_fill1_10 rfl (lv_at hl 2 rfl) ?_
      refine lv_iload_n (pc := 11) hx hb d_jArr_fill1_11 rfl (lv_at hl 1 rfl) ?_
      refine lv_iload_n (pc := 12) hx hb d_jArr_fill1_12 rfl (lv_at hl 3 rfl) ?_
      refine va_iast (pc := 13) hx hb hK hP hD hS 0 t0 rfl ht0 (vp_in_nI hlt hn) d_jArr_fill1_13 (fun H locs hP hD hS => ?_)
      rw [nI_clamp (by omega), fl_s] at hP hD
      refine lv_iinc (pc := 14) (v := nI (i + 1)) (lv' := [(2, .int (nI (i + 1))), (3, .int (nI n)), (0, .ref a), (1, .int v)]) hx hb d_jArr_fill1_14 hl (k := 1) rfl (by rw [← nI_1]; rfl) (by decide) rfl (fun ls hl => ?_)
      refine lv_goto (pc := 17) (tgt := 5) hx hb d_jArr_fill1_17 (by decide) ?_
      exact ih (i + 1) (by omega) H locs ls hP hD hS (lv_sub hl [1, 0, 2, 3] rfl)
  exact loop n 0 (by omega) _ _ ls (by rw [fl_0]; exact hP) (by rw [fl_0]; exact hD) hS hl
end
section
theorem wm_4 : (Cond.initialized "java/util/Arrays" : Cond) ∈ lw_g := lw_gi (lw_c1 (List.mem_of_getElem? (i := 4) rfl)) rfl
theorem wm_31 : (Cond.instanceMethod ({ cls := "java/lang/Object", name := "<init>", desc := "()V" } : MethodName) : Cond) ∈ lw_g := lw_gi (lw_c1 (List.mem_of_getElem? (i := 31) rfl)) rfl
theorem wm_32 : (Cond.code ({ cls := "java/lang/Object", name := "<init>", desc := "()V" } : MethodName) object_method_1_code (1 : Nat) (Option.none : Option ClassFile.FieldType) : Cond) ∈ lw_g := lw_gi (lw_c1 (List.mem_of_getElem? (i := 32) rfl)) rfl
theorem wm_51 : (Cond.code ({ cls := "DrawingHouse$Graph", name := "<init>", desc := "()V" } : MethodName) prog_5_method_1_code (1 : Nat) (Option.none : Option ClassFile.FieldType) : Cond) ∈ lw_g := lw_gi (lw_c1 (List.mem_of_getElem? (i := 51) rfl)) rfl
theorem wm_52 : (Cond.methodLink "DrawingHouse$Graph" (3 : Nat) ({ cls := "java/lang/Object", name := "<init>", desc := "()V" } : MethodName) : Cond) ∈ lw_g := lw_gi (lw_c1 (List.mem_of_getElem? (i := 52) rfl)) rfl
theorem wm_53 : (Cond.methodLink "DrawingHouse$Graph" (71 : Nat) ({ cls := "java/util/Arrays", name := "fill", desc := "([II)V" } : MethodName) : Cond) ∈ lw_g := lw_gi (lw_c1 (List.mem_of_getElem? (i := 53) rfl)) rfl
theorem wm_54 : (Cond.static ({ cls := "java/util/Arrays", name := "fill", desc := "([II)V" } : MethodName) : Cond) ∈ lw_g := lw_gi (lw_c1 (List.mem_of_getElem? (i := 54) rfl)) rfl
theorem wm_55 : (Cond.code ({ cls := "java/util/Arrays", name := "fill", desc := "([II)V" } : MethodName) prog_24_method_103_code (4 : Nat) (Option.none : Option ClassFile.FieldType) : Cond) ∈ lw_g := lw_gi (lw_c1 (List.mem_of_getElem? (i := 55) rfl)) rfl
theorem wm_56 : (Cond.fieldLink "DrawingHouse$Graph" (9 : Nat) "DrawingHouse$Graph" "nodes" "I" : Cond) ∈ lw_g := lw_gi (lw_c1 (List.mem_of_getElem? (i := 56) rfl)) rfl
theorem wm_68 : (Cond.fieldLink "DrawingHouse$Graph" (15 : Nat) "DrawingHouse$Graph" "edges" "I" : Cond) ∈ lw_g := lw_gi (lw_c1 (List.mem_of_getElem? (i := 68) rfl)) rfl
theorem wm_79 : (Cond.fieldLink "DrawingHouse$Graph" (18 : Nat) "DrawingHouse$Graph" "groups" "I" : Cond) ∈ lw_g := lw_gi (lw_c1 (List.mem_of_getElem? (i := 79) rfl)) rfl
theorem wm_83 : (Cond.fieldLink "DrawingHouse$Graph" (21 : Nat) "DrawingHouse$Graph" "name" "[B" : Cond) ∈ lw_g := lw_gi (lw_c1 (List.mem_of_getElem? (i := 83) rfl)) rfl
theorem wm_85 : (Cond.fieldLink "DrawingHouse$Graph" (25 : Nat) "DrawingHouse$Graph" "nameLength" "[I" : Cond) ∈ lw_g := lw_gi (lw_c1 (List.mem_of_getElem? (i := 85) rfl)) rfl
theorem wm_87 : (Cond.fieldLink "DrawingHouse$Graph" (29 : Nat) "DrawingHouse$Graph" "size" "[I" : Cond) ∈ lw_g := lw_gi (lw_c1 (List.mem_of_getElem? (i := 87) rfl)) rfl
theorem wm_92 : (Cond.fieldLink "DrawingHouse$Graph" (32 : Nat) "DrawingHouse$Graph" "groupOf" "[I" : Cond) ∈ lw_g := lw_gi (lw_c1 (List.mem_of_getElem? (i := 92) rfl)) rfl
theorem wm_96 : (Cond.fieldLink "DrawingHouse$Graph" (35 : Nat) "DrawingHouse$Graph" "tail" "[I" : Cond) ∈ lw_g := lw_gi (lw_c1 (List.mem_of_getElem? (i := 96) rfl)) rfl
theorem wm_107 : (Cond.fieldLink "DrawingHouse$Graph" (38 : Nat) "DrawingHouse$Graph" "head" "[I" : Cond) ∈ lw_g := lw_gi (lw_c1 (List.mem_of_getElem? (i := 107) rfl)) rfl
theorem wm_118 : (Cond.fieldLink "DrawingHouse$Graph" (41 : Nat) "DrawingHouse$Graph" "weight" "[I" : Cond) ∈ lw_g := lw_gi (lw_c1 (List.mem_of_getElem? (i := 118) rfl)) rfl
theorem wm_126 : (Cond.fieldLink "DrawingHouse$Graph" (44 : Nat) "DrawingHouse$Graph" "oneWay" "[I" : Cond) ∈ lw_g := lw_gi (lw_c1 (List.mem_of_getElem? (i := 126) rfl)) rfl
theorem wm_130 : (Cond.fieldLink "DrawingHouse$Graph" (47 : Nat) "DrawingHouse$Graph" "within" "[I" : Cond) ∈ lw_g := lw_gi (lw_c1 (List.mem_of_getElem? (i := 130) rfl)) rfl
theorem wm_134 : (Cond.fieldLink "DrawingHouse$Graph" (50 : Nat) "DrawingHouse$Graph" "groupName" "[B" : Cond) ∈ lw_g := lw_gi (lw_c1 (List.mem_of_getElem? (i := 134) rfl)) rfl
theorem wm_137 : (Cond.fieldLink "DrawingHouse$Graph" (53 : Nat) "DrawingHouse$Graph" "groupNameLength" "[I" : Cond) ∈ lw_g := lw_gi (lw_c1 (List.mem_of_getElem? (i := 137) rfl)) rfl
theorem wm_140 : (Cond.fieldLink "DrawingHouse$Graph" (56 : Nat) "DrawingHouse$Graph" "near" "[I" : Cond) ∈ lw_g := lw_gi (lw_c1 (List.mem_of_getElem? (i := 140) rfl)) rfl
theorem wm_147 : (Cond.fieldLink "DrawingHouse$Graph" (59 : Nat) "DrawingHouse$Graph" "link" "[I" : Cond) ∈ lw_g := lw_gi (lw_c1 (List.mem_of_getElem? (i := 147) rfl)) rfl
theorem wm_148 : (Cond.fieldLink "DrawingHouse$Graph" (62 : Nat) "DrawingHouse$Graph" "past" "[I" : Cond) ∈ lw_g := lw_gi (lw_c1 (List.mem_of_getElem? (i := 148) rfl)) rfl
theorem wm_149 : (Cond.fieldLink "DrawingHouse$Graph" (65 : Nat) "DrawingHouse$Graph" "done" "I" : Cond) ∈ lw_g := lw_gi (lw_c1 (List.mem_of_getElem? (i := 149) rfl)) rfl
theorem wm_151 : (Cond.fieldLink "DrawingHouse$Graph" (68 : Nat) "DrawingHouse$Graph" "undone" "I" : Cond) ∈ lw_g := lw_gi (lw_c1 (List.mem_of_getElem? (i := 151) rfl)) rfl
theorem wm_192 : (Cond.arrayClass ClassFile.FieldType.byte : Cond) ∈ lw_g := lw_gi (lw_c1 (List.mem_of_getElem? (i := 192) rfl)) rfl
theorem wm_193 : (Cond.arrayClass ClassFile.FieldType.int : Cond) ∈ lw_g := lw_gi (lw_c1 (List.mem_of_getElem? (i := 193) rfl)) rfl
abbrev b_Gr_init : ByteArray := prog_5_method_1_code
def y_Gr_init : MethodName := ⟨"DrawingHouse$Graph", "<init>", "()V"⟩
abbrev z_Gr_init : List Cond := Cond.code y_Gr_init b_Gr_init 1 none :: lw_g
theorem d_Gr_init_0 : decode b_Gr_init 0 = .ok (.aload_n 0, 1) := by decide +kernel
theorem d_Gr_init_1 : decode b_Gr_init 1 = .ok (.invokespecial 3, 3) := by decide +kernel
theorem d_Gr_init_4 : decode b_Gr_init 4 = .ok (.aload_n 0, 1) := by decide +kernel
theorem d_Gr_init_5 : decode b_Gr_init 5 = .ok (.iconst 0, 1) := by decide +kernel
theorem d_Gr_init_6 : decode b_Gr_init 6 = .ok (.putfield 9, 3) := by decide +kernel
theorem d_Gr_init_9 : decode b_Gr_init 9 = .ok (.aload_n 0, 1) := by decide +kernel
theorem d_Gr_init_10 : decode b_Gr_init 10 = .ok (.iconst 0, 1) := by decide +kernel
theorem d_Gr_init_11 : decode b_Gr_init 11 = .ok (.putfield 15, 3) := by decide +kernel
theorem d_Gr_init_14 : decode b_Gr_init 14 = .ok (.aload_n 0, 1) := by decide +kernel
theorem d_Gr_init_15 : decode b_Gr_init 15 = .ok (.iconst 1, 1) := by decide +kernel
theorem d_Gr_init_16 : decode b_Gr_init 16 = .ok (.putfield 18, 3) := by decide +kernel
theorem d_Gr_init_19 : decode b_Gr_init 19 = .ok (.aload_n 0, 1) := by decide +kernel
theorem d_Gr_init_20 : decode b_Gr_init 20 = .ok (.sipush 192, 3) := by decide +kernel
theorem d_Gr_init_23 : decode b_Gr_init 23 = .ok (.newarray .byte, 2) := by decide +kernel
theorem d_Gr_init_25 : decode b_Gr_init 25 = .ok (.putfield 21, 3) := by decide +kernel
theorem d_Gr_init_28 : decode b_Gr_init 28 = .ok (.aload_n 0, 1) := by decide +kernel
theorem d_Gr_init_29 : decode b_Gr_init 29 = .ok (.bipush 24, 2) := by decide +kernel
theorem d_Gr_init_31 : decode b_Gr_init 31 = .ok (.newarray .int, 2) := by decide +kernel
theorem d_Gr_init_33 : decode b_Gr_init 33 = .ok (.putfield 25, 3) := by decide +kernel
theorem d_Gr_init_36 : decode b_Gr_init 36 = .ok (.aload_n 0, 1) := by decide +kernel
theorem d_Gr_init_37 : decode b_Gr_init 37 = .ok (.bipush 24, 2) := by decide +kernel
theorem d_Gr_init_39 : decode b_Gr_init 39 = .ok (.newarray .int, 2) := by decide +kernel
theorem d_Gr_init_41 : decode b_Gr_init 41 = .ok (.putfield 29, 3) := by decide +kernel
theorem d_Gr_init_44 : decode b_Gr_init 44 = .ok (.aload_n 0, 1) := by decide +kernel
theorem d_Gr_init_45 : decode b_Gr_init 45 = .ok (.bipush 24, 2) := by decide +kernel
theorem d_Gr_init_47 : decode b_Gr_init 47 = .ok (.newarray .int, 2) := by decide +kernel
theorem d_Gr_init_49 : decode b_Gr_init 49 = .ok (.putfield 32, 3) := by decide +kernel
theorem d_Gr_init_52 : decode b_Gr_init 52 = .ok (.aload_n 0, 1) := by decide +kernel
theorem d_Gr_init_53 : decode b_Gr_init 53 = .ok (.bipush 48, 2) := by decide +kernel
theorem d_Gr_init_55 : decode b_Gr_init 55 = .ok (.newarray .int, 2) := by decide +kernel
theorem d_Gr_init_57 : decode b_Gr_init 57 = .ok (.putfield 35, 3) := by decide +kernel
theorem d_Gr_init_60 : decode b_Gr_init 60 = .ok (.aload_n 0, 1) := by decide +kernel
theorem d_Gr_init_61 : decode b_Gr_init 61 = .ok (.bipush 48, 2) := by decide +kernel
theorem d_Gr_init_63 : decode b_Gr_init 63 = .ok (.newarray .int, 2) := by decide +kernel
theorem d_Gr_init_65 : decode b_Gr_init 65 = .ok (.putfield 38, 3) := by decide +kernel
theorem d_Gr_init_68 : decode b_Gr_init 68 = .ok (.aload_n 0, 1) := by decide +kernel
theorem d_Gr_init_69 : decode b_Gr_init 69 = .ok (.bipush 48, 2) := by decide +kernel
theorem d_Gr_init_71 : decode b_Gr_init 71 = .ok (.newarray .int, 2) := by decide +kernel
theorem d_Gr_init_73 : decode b_Gr_init 73 = .ok (.putfield 41, 3) := by decide +kernel
theorem d_Gr_init_76 : decode b_Gr_init 76 = .ok (.aload_n 0, 1) := by decide +kernel
theorem d_Gr_init_77 : decode b_Gr_init 77 = .ok (.bipush 48, 2) := by decide +kernel
theorem d_Gr_init_79 : decode b_Gr_init 79 = .ok (.newarray .int, 2) := by decide +kernel
theorem d_Gr_init_81 : decode b_Gr_init 81 = .ok (.putfield 44, 3) := by decide +kernel
theorem d_Gr_init_84 : decode b_Gr_init 84 = .ok (.aload_n 0, 1) := by decide +kernel
theorem d_Gr_init_85 : decode b_Gr_init 85 = .ok (.bipush 8, 2) := by decide +kernel
theorem d_Gr_init_87 : decode b_Gr_init 87 = .ok (.newarray .int, 2) := by decide +kernel
theorem d_Gr_init_89 : decode b_Gr_init 89 = .ok (.putfield 47, 3) := by decide +kernel
theorem d_Gr_init_92 : decode b_Gr_init 92 = .ok (.aload_n 0, 1) := by decide +kernel
theorem d_Gr_init_93 : decode b_Gr_init 93 = .ok (.bipush 64, 2) := by decide +kernel
theorem d_Gr_init_95 : decode b_Gr_init 95 = .ok (.newarray .byte, 2) := by decide +kernel
theorem d_Gr_init_97 : decode b_Gr_init 97 = .ok (.putfield 50, 3) := by decide +kernel
theorem d_Gr_init_100 : decode b_Gr_init 100 = .ok (.aload_n 0, 1) := by decide +kernel
theorem d_Gr_init_101 : decode b_Gr_init 101 = .ok (.bipush 8, 2) := by decide +kernel
theorem d_Gr_init_103 : decode b_Gr_init 103 = .ok (.newarray .int, 2) := by decide +kernel
theorem d_Gr_init_105 : decode b_Gr_init 105 = .ok (.putfield 53, 3) := by decide +kernel
theorem d_Gr_init_108 : decode b_Gr_init 108 = .ok (.aload_n 0, 1) := by decide +kernel
theorem d_Gr_init_109 : decode b_Gr_init 109 = .ok (.bipush 24, 2) := by decide +kernel
theorem d_Gr_init_111 : decode b_Gr_init 111 = .ok (.newarray .int, 2) := by decide +kernel
theorem d_Gr_init_113 : decode b_Gr_init 113 = .ok (.putfield 56, 3) := by decide +kernel
theorem d_Gr_init_116 : decode b_Gr_init 116 = .ok (.aload_n 0, 1) := by decide +kernel
theorem d_Gr_init_117 : decode b_Gr_init 117 = .ok (.sipush 576, 3) := by decide +kernel
theorem d_Gr_init_120 : decode b_Gr_init 120 = .ok (.newarray .int, 2) := by decide +kernel
theorem d_Gr_init_122 : decode b_Gr_init 122 = .ok (.putfield 59, 3) := by decide +kernel
theorem d_Gr_init_125 : decode b_Gr_init 125 = .ok (.aload_n 0, 1) := by decide +kernel
theorem d_Gr_init_126 : decode b_Gr_init 126 = .ok (.aconst_null, 1) := by decide +kernel
theorem d_Gr_init_127 : decode b_Gr_init 127 = .ok (.putfield 62, 3) := by decide +kernel
theorem d_Gr_init_130 : decode b_Gr_init 130 = .ok (.aload_n 0, 1) := by decide +kernel
theorem d_Gr_init_131 : decode b_Gr_init 131 = .ok (.iconst 0, 1) := by decide +kernel
theorem d_Gr_init_132 : decode b_Gr_init 132 = .ok (.putfield 65, 3) := by decide +kernel
theorem d_Gr_init_135 : decode b_Gr_init 135 = .ok (.aload_n 0, 1) := by decide +kernel
theorem d_Gr_init_136 : decode b_Gr_init 136 = .ok (.iconst 0, 1) := by decide +kernel
theorem d_Gr_init_137 : decode b_Gr_init 137 = .ok (.putfield 68, 3) := by decide +kernel
theorem d_Gr_init_140 : decode b_Gr_init 140 = .ok (.aload_n 0, 1) := by decide +kernel
theorem d_Gr_init_141 : decode b_Gr_init 141 = .ok (.getfield 47, 3) := by decide +kernel
theorem d_Gr_init_144 : decode b_Gr_init 144 = .ok (.iconst 0, 1) := by decide +kernel
theorem d_Gr_init_145 : decode b_Gr_init 145 = .ok (.iconst (-1), 1) := by decide +kernel
theorem d_Gr_init_146 : decode b_Gr_init 146 = .ok (.iastore, 1) := by decide +kernel
theorem d_Gr_init_147 : decode b_Gr_init 147 = .ok (.aload_n 0, 1) := by decide +kernel
theorem d_Gr_init_148 : decode b_Gr_init 148 = .ok (.getfield 59, 3) := by decide +kernel
theorem d_Gr_init_151 : decode b_Gr_init 151 = .ok (.iconst (-1), 1) := by decide +kernel
theorem d_Gr_init_152 : decode b_Gr_init 152 = .ok (.invokestatic 71, 3) := by decide +kernel
theorem d_Gr_init_155 : decode b_Gr_init 155 = .ok (.return_, 1) := by decide +kernel
abbrev f0Gr : List Value := [.int 0, .int 0, .int 0, .null, .null, .null, .null, .null, .null, .null, .null, .null, .null, .null, .null, .null, .null, .int 0, .int 0]
set_option maxRecDepth 20000 in
theorem f0Gr_ok : ∀ j, j < 19 → defaultValue (t_Gr j) = vp_V f0Gr j := by decide +kernel
def wGr (kA : Nat → ClassId) (h : Nat) (q : Nat → Nat) (x : Nat → Int32) (a : Nat → Nat → Int32) (o16 : Option Nat) : va_W := [(h, .inr (3, [.int (x 0), .int (x 1), .int (x 2), .ref (q 3), .ref (q 4), .ref (q 5), .ref (q 6), .ref (q 7), .ref (q 8), .ref (q 9), .ref (q 10), .ref (q 11), .ref (q 12), .ref (q 13), .ref (q 14), .ref (q 15), va_rf o16, .int (x 17), .int (x 18)])), (q 3, .inl (kA 1, 192, .inl (a 3))), (q 4, .inl (kA 0, 24, .inl (a 4))), (q 5, .inl (kA 0, 24, .inl (a 5))), (q 6, .inl (kA 0, 24, .inl (a 6))), (q 7, .inl (kA 0, 48, .inl (a 7))), (q 8, .inl (kA 0, 48, .inl (a 8))), (q 9, .inl (kA 0, 48, .inl (a 9))), (q 10, .inl (kA 0, 48, .inl (a 10))), (q 11, .inl (kA 0, 8, .inl (a 11))), (q 12, .inl (kA 1, 64, .inl (a 12))), (q 13, .inl (kA 0, 8, .inl (a 13))), (q 14, .inl (kA 0, 24, .inl (a 14))), (q 15, .inl (kA 0, 576, .inl (a 15)))]
def x0Gr : Nat → Int32 := fun k => match k with | 2 => 1 | _ => 0
def a0Gr : Nat → Nat → Int32 := fun k => match k with | 11 => upd (fun _ => 0) 0 (-1) | 15 => fl (fun _ => 0) 576 (-1) | _ => fun _ => 0
set_option maxRecDepth 100000 in
set_option maxHeartbeats 4000000 in
/-- DrawingHouse$Graph()V -/
theorem c_Gr_init (l : Launch) (D : va_G) (kA : Nat → ClassId) (h : Nat) : Cv l y_Gr_init z_Gr_init { frames := 1, cells := 13, slots := 1136, locals := 23 } D classes (TY kA) [.ref h] [[(h, .inr (3, f0Gr))]] (fun u : (Nat → Nat) => True) (fun u => [wGr kA h u x0Gr a0Gr none]) 13 1136 := by
  intro sz
  refine k_met (cc := b_Gr_init) (maxL := 1) (ret := none) (by decide) rfl (Nat.le_of_ble_eq_true rfl) (fun p e s m below meth c ls X hl hB => ?_)
  obtain ⟨hsz, hP, hK, hD0, hN⟩ := hB
  subst hsz
  have hD := hD0.self (sz := s.heap.size)
  generalize hAe : va_A (cat [[(h, .inr (3, [.int 0, .int 0, .int 0, .null, .null, .null, .null, .null, .null, .null, .null, .null, .null, .null, .null, .null, .null, .int 0, .int 0]))]]) s.heap.size = A at hD ⊢
  have hA : ∀ q : Nat, s.heap.size ≤ q → A q := fun q h => by rw [← hAe]; exact Or.inr h
  have hS : va_S A s.heap s.heap [] := va_S.rf
  obtain ⟨hx, hb, hml, hown, hts, hr, hlk, hnm⟩ := id X
  have hl : lv_has ls 1 [(0, .ref h)] := hl
  have hP : va_P D classes (cat [[(h, .inr (3, [.int 0, .int 0, .int 0, .null, .null, .null, .null, .null, .null, .null, .null, .null, .null, .null, .null, .null, .null, .int 0, .int 0]))]]) s.heap := hP
  have hK : va_K D classes (TY kA) s := hK
  refine lv_aload_n (pc := 0) hx hb d_Gr_init_0 rfl (lv_at hl 0 rfl) ?_
  refine W.objInit hx hb hown (hts _ wm_52) (hts _ wm_31) (hts _ wm_32) rfl (by rw [hml]; exact hl.1) rfl d_Gr_init_1 (Nat.le_of_ble_eq_true rfl) (Nat.le_of_ble_eq_true rfl) ?_
  refine W.eq (g2 := F0 m 4 ls []) rfl ?_
  refine lv_aload_n (pc := 4) hx hb d_Gr_init_4 rfl (lv_at hl 0 rfl) ?_
  refine lv_iconst (pc := 5) (v := 0) hx hb d_Gr_init_5 (by decide) ?_
  refine k_put (pc := 6) X hK hP hD hS 0 rfl rfl i_Gr t_Gr t_Gr_ok n_Gr 0 (by decide) wm_56 rfl (Or.inl rfl) rfl rfl (Nat.le_of_ble_eq_true rfl) d_Gr_init_6 (fun H locs hP hD hS => ?_)
  have hP : va_P D classes (cat [[(h, .inr (3, [.int 0, .int 0, .int 0, .null, .null, .null, .null, .null, .null, .null, .null, .null, .null, .null, .null, .null, .null, .int 0, .int 0]))]]) H := hP
  have hD : va_D A (cat [[(h, .inr (3, [.int 0, .int 0, .int 0, .null, .null, .null, .null, .null, .null, .null, .null, .null, .null, .null, .null, .null, .null, .int 0, .int 0]))]]) := hD
  refine lv_aload_n (pc := 9) hx hb d_Gr_init_9 rfl (lv_at hl 0 rfl) ?_
  refine lv_iconst (pc := 10) (v := 0) hx hb d_Gr_init_10 (by decide) ?_
  refine k_put (pc := 11) X hK hP hD hS 0 rfl rfl i_Gr t_Gr t_Gr_ok n_Gr 1 (by decide) wm_68 rfl (Or.inl rfl) rfl rfl (Nat.le_of_ble_eq_true rfl) d_Gr_init_11 (fun H locs hP hD hS => ?_)
  have hP : va_P D classes (cat [[(h, .inr (3, [.int 0, .int 0, .int 0, .null, .null, .null, .null, .null, .null, .null, .null, .null, .null, .null, .null, .null, .null, .int 0, .int 0]))]]) H := hP
  have hD : va_D A (cat [[(h, .inr (3, [.int 0, .int 0, .int 0, .null, .null, .null, .null, .null, .null, .null, .null, .null, .null, .null, .null, .null, .null, .int 0, .int 0]))]]) := hD
  refine lv_aload_n (pc := 14) hx hb d_Gr_init_14 rfl (lv_at hl 0 rfl) ?_
  refine lv_iconst (pc := 15) (v := 1) hx hb d_Gr_init_15 (by decide) ?_
  refine k_put (pc := 16) X hK hP hD hS 0 rfl rfl i_Gr t_Gr t_Gr_ok n_Gr 2 (by decide) wm_79 rfl (Or.inl rfl) rfl rfl (Nat.le_of_ble_eq_true rfl) d_Gr_init_16 (fun H locs hP hD hS => ?_)
  have hP : va_P D classes (cat [[(h, .inr (3, [.int 0, .int 0, .int 1, .null, .null, .null, .null, .null, .null, .null, .null, .null, .null, .null, .null, .null, .null, .int 0, .int 0]))]]) H := hP
  have hD : va_D A (cat [[(h, .inr (3, [.int 0, .int 0, .int 1, .null, .null, .null, .null, .null, .null, .null, .null, .null, .null, .null, .null, .null, .null, .int 0, .int 0]))]]) := hD
  refine lv_aload_n (pc := 19) hx hb d_Gr_init_19 rfl (lv_at hl 0 rfl) ?_
  refine lv_sipush (pc := 20) (v := 192) hx hb d_Gr_init_20 (by decide) ?_
  refine k_newa (pc := 23) (atype := .byte) X (ty := .byte) (a0 := (192, .inl (fun _ => 0))) rfl rfl wm_192 hK hP hD hS hA 1 rfl (fun _ => rfl) (by decide) rfl (by decide) (Nat.le_of_ble_eq_true rfl) (Nat.le_of_ble_eq_true rfl) d_Gr_init_23 (fun q1 H hP hD hS => ?_)
  have hP : va_P D classes (cat [[(h, .inr (3, [.int 0, .int 0, .int 1, .null, .null, .null, .null, .null, .null, .null, .null, .null, .null, .null, .null, .null, .null, .int 0, .int 0]))], [(q1, .inl (kA 1, 192, .inl (fun _ => 0)))]]) H := hP
  have hD : va_D A (cat [[(h, .inr (3, [.int 0, .int 0, .int 1, .null, .null, .null, .null, .null, .null, .null, .null, .null, .null, .null, .null, .null, .null, .int 0, .int 0]))], [(q1, .inl (kA 1, 192, .inl (fun _ => 0)))]]) := hD
  refine W.widen (k := 1) (n := 192) (by omega) (by omega) ?_
  refine k_put (pc := 25) X hK hP hD hS 0 rfl rfl i_Gr t_Gr t_Gr_ok n_Gr 3 (by decide) wm_83 rfl (Or.inr ⟨rfl, rfl⟩) rfl rfl (Nat.le_of_ble_eq_true rfl) d_Gr_init_25 (fun H locs hP hD hS => ?_)
  have hP : va_P D classes (cat [[(h, .inr (3, [.int 0, .int 0, .int 1, .ref q1, .null, .null, .null, .null, .null, .null, .null, .null, .null, .null, .null, .null, .null, .int 0, .int 0]))], [(q1, .inl (kA 1, 192, .inl (fun _ => 0)))]]) H := hP
  have hD : va_D A (cat [[(h, .inr (3, [.int 0, .int 0, .int 1, .ref q1, .null, .null, .null, .null, .null, .null, .null, .null, .null, .null, .null, .null, .null, .int 0, .int 0]))], [(q1, .inl (kA 1, 192, .inl (fun _ => 0)))]]) := hD
  refine lv_aload_n (pc := 28) hx hb d_Gr_init_28 rfl (lv_at hl 0 rfl) ?_
  refine lv_bipush (pc := 29) (v := 24) hx hb d_Gr_init_29 (by decide) ?_
  refine k_newa (pc := 31) (atype := .int) X (ty := .int) (a0 := (24, .inl (fun _ => 0))) rfl rfl wm_193 hK hP hD hS hA 0 rfl (fun _ => rfl) (by decide) rfl (by decide) (Nat.le_of_ble_eq_true rfl) (Nat.le_of_ble_eq_true rfl) d_Gr_init_31 (fun q2 H hP hD hS => ?_)
  have hP : va_P D classes (cat [[(h, .inr (3, [.int 0, .int 0, .int 1, .ref q1, .null, .null, .null, .null, .null, .null, .null, .null, .null, .null, .null, .null, .null, .int 0, .int 0]))], [(q1, .inl (kA 1, 192, .inl (fun _ => 0)))], [(q2, .inl (kA 0, 24, .inl (fun _ => 0)))]]) H := hP
  have hD : va_D A (cat [[(h, .inr (3, [.int 0, .int 0, .int 1, .ref q1, .null, .null, .null, .null, .null, .null, .null, .null, .null, .null, .null, .null, .null, .int 0, .int 0]))], [(q1, .inl (kA 1, 192, .inl (fun _ => 0)))], [(q2, .inl (kA 0, 24, .inl (fun _ => 0)))]]) := hD
  refine W.widen (k := 2) (n := 216) (by omega) (by omega) ?_
  refine k_put (pc := 33) X hK hP hD hS 0 rfl rfl i_Gr t_Gr t_Gr_ok n_Gr 4 (by decide) wm_85 rfl (Or.inr ⟨rfl, rfl⟩) rfl rfl (Nat.le_of_ble_eq_true rfl) d_Gr_init_33 (fun H locs hP hD hS => ?_)
  have hP : va_P D classes (cat [[(h, .inr (3, [.int 0, .int 0, .int 1, .ref q1, .ref q2, .null, .null, .null, .null, .null, .null, .null, .null, .null, .null, .null, .null, .int 0, .int 0]))], [(q1, .inl (kA 1, 192, .inl (fun _ => 0)))], [(q2, .inl (kA 0, 24, .inl (fun _ => 0)))]]) H := hP
  have hD : va_D A (cat [[(h, .inr (3, [.int 0, .int 0, .int 1, .ref q1, .ref q2, .null, .null, .null, .null, .null, .null, .null, .null, .null, .null, .null, .null, .int 0, .int 0]))], [(q1, .inl (kA 1, 192, .inl (fun _ => 0)))], [(q2, .inl (kA 0, 24, .inl (fun _ => 0)))]]) := hD
  refine lv_aload_n (pc := 36) hx hb d_Gr_init_36 rfl (lv_at hl 0 rfl) ?_
  refine lv_bipush (pc := 37) (v := 24) hx hb d_Gr_init_37 (by decide) ?_
  refine k_newa (pc := 39) (atype := .int) X (ty := .int) (a0 := (24, .inl (fun _ => 0))) rfl rfl wm_193 hK hP hD hS hA 0 rfl (fun _ => rfl) (by decide) rfl (by decide) (Nat.le_of_ble_eq_true rfl) (Nat.le_of_ble_eq_true rfl) d_Gr_init_39 (fun q3 H hP hD hS => ?_)
  have hP : va_P D classes (cat [[(h, .inr (3, [.int 0, .int 0, .int 1, .ref q1, .ref q2, .null, .null, .null, .null, .null, .null, .null, .null, .null, .null, .null, .null, .int 0, .int 0]))], [(q1, .inl (kA 1, 192, .inl (fun _ => 0)))], [(q2, .inl (kA 0, 24, .inl (fun _ => 0)))], [(q3, .inl (kA 0, 24, .inl (fun _ => 0)))]]) H := hP
  have hD : va_D A (cat [[(h, .inr (3, [.int 0, .int 0, .int 1, .ref q1, .ref q2, .null, .null, .null, .null, .null, .null, .null, .null, .null, .null, .null, .null, .int 0, .int 0]))], [(q1, .inl (kA 1, 192, .inl (fun _ => 0)))], [(q2, .inl (kA 0, 24, .inl (fun _ => 0)))], [(q3, .inl (kA 0, 24, .inl (fun _ => 0)))]]) := hD
  refine W.widen (k := 3) (n := 240) (by omega) (by omega) ?_
  refine k_put (pc := 41) X hK hP hD hS 0 rfl rfl i_Gr t_Gr t_Gr_ok n_Gr 5 (by decide) wm_87 rfl (Or.inr ⟨rfl, rfl⟩) rfl rfl (Nat.le_of_ble_eq_true rfl) d_Gr_init_41 (fun H locs hP hD hS => ?_)
  have hP : va_P D classes (cat [[(h, .inr (3, [.int 0, .int 0, .int 1, .ref q1, .ref q2, .ref q3, .null, .null, .null, .null, .null, .null, .null, .null, .null, .null, .null, .int 0, .int 0]))], [(q1, .inl (kA 1, 192, .inl (fun _ => 0)))], [(q2, .inl (kA 0, 24, .inl (fun _ => 0)))], [(q3, .inl (kA 0, 24, .inl (fun _ => 0)))]]) H := hP
  have hD : va_D A (cat [[(h, .inr (3, [.int 0, .int 0, .int 1, .ref q1, .ref q2, .ref q3, .null, .null, .null, .null, .null, .null, .null, .null, .null, .null, .null, .int 0, .int 0]))], [(q1, .inl (kA 1, 192, .inl (fun _ => 0)))], [(q2, .inl (kA 0, 24, .inl (fun _ => 0)))], [(q3, .inl (kA 0, 24, .inl (fun _ => 0)))]]) := hD
  refine lv_aload_n (pc := 44) hx hb d_Gr_init_44 rfl (lv_at hl 0 rfl) ?_
  refine lv_bipush (pc := 45) (v := 24) hx hb d_Gr_init_45 (by decide) ?_
  refine k_newa (pc := 47) (atype := .int) X (ty := .int) (a0 := (24, .inl (fun _ => 0))) rfl rfl wm_193 hK hP hD hS hA 0 rfl (fun _ => rfl) (by decide) rfl (by decide) (Nat.le_of_ble_eq_true rfl) (Nat.le_of_ble_eq_true rfl) d_Gr_init_47 (fun q4 H hP hD hS => ?_)
  have hP : va_P D classes (cat [[(h, .inr (3, [.int 0, .int 0, .int 1, .ref q1, .ref q2, .ref q3, .null, .null, .null, .null, .null, .null, .null, .null, .null, .null, .null, .int 0, .int 0]))], [(q1, .inl (kA 1, 192, .inl (fun _ => 0)))], [(q2, .inl (kA 0, 24, .inl (fun _ => 0)))], [(q3, .inl (kA 0, 24, .inl (fun _ => 0)))], [(q4, .inl (kA 0, 24, .inl (fun _ => 0)))]]) H := hP
  have hD : va_D A (cat [[(h, .inr (3, [.int 0, .int 0, .int 1, .ref q1, .ref q2, .ref q3, .null, .null, .null, .null, .null, .null, .null, .null, .null, .null, .null, .int 0, .int 0]))], [(q1, .inl (kA 1, 192, .inl (fun _ => 0)))], [(q2, .inl (kA 0, 24, .inl (fun _ => 0)))], [(q3, .inl (kA 0, 24, .inl (fun _ => 0)))], [(q4, .inl (kA 0, 24, .inl (fun _ => 0)))]]) := hD
  refine W.widen (k := 4) (n := 264) (by omega) (by omega) ?_
  refine k_put (pc := 49) X hK hP hD hS 0 rfl rfl i_Gr t_Gr t_Gr_ok n_Gr 6 (by decide) wm_92 rfl (Or.inr ⟨rfl, rfl⟩) rfl rfl (Nat.le_of_ble_eq_true rfl) d_Gr_init_49 (fun H locs hP hD hS => ?_)
  have hP : va_P D classes (cat [[(h, .inr (3, [.int 0, .int 0, .int 1, .ref q1, .ref q2, .ref q3, .ref q4, .null, .null, .null, .null, .null, .null, .null, .null, .null, .null, .int 0, .int 0]))], [(q1, .inl (kA 1, 192, .inl (fun _ => 0)))], [(q2, .inl (kA 0, 24, .inl (fun _ => 0)))], [(q3, .inl (kA 0, 24, .inl (fun _ => 0)))], [(q4, .inl (kA 0, 24, .inl (fun _ => 0)))]]) H := hP
  have hD : va_D A (cat [[(h, .inr (3, [.int 0, .int 0, .int 1, .ref q1, .ref q2, .ref q3, .ref q4, .null, .null, .null, .null, .null, .null, .null, .null, .null, .null, .int 0, .int 0]))], [(q1, .inl (kA 1, 192, .inl (fun _ => 0)))], [(q2, .inl (kA 0, 24, .inl (fun _ => 0)))], [(q3, .inl (kA 0, 24, .inl (fun _ => 0)))], [(q4, .inl (kA 0, 24, .inl (fun _ => 0)))]]) := hD
  refine lv_aload_n (pc := 52) hx hb d_Gr_init_52 rfl (lv_at hl 0 rfl) ?_
  refine lv_bipush (pc := 53) (v := 48) hx hb d_Gr_init_53 (by decide) ?_
  refine k_newa (pc := 55) (atype := .int) X (ty := .int) (a0 := (48, .inl (fun _ => 0))) rfl rfl wm_193 hK hP hD hS hA 0 rfl (fun _ => rfl) (by decide) rfl (by decide) (Nat.le_of_ble_eq_true rfl) (Nat.le_of_ble_eq_true rfl) d_Gr_init_55 (fun q5 H hP hD hS => ?_)
  have hP : va_P D classes (cat [[(h, .inr (3, [.int 0, .int 0, .int 1, .ref q1, .ref q2, .ref q3, .ref q4, .null, .null, .null, .null, .null, .null, .null, .null, .null, .null, .int 0, .int 0]))], [(q1, .inl (kA 1, 192, .inl (fun _ => 0)))], [(q2, .inl (kA 0, 24, .inl (fun _ => 0)))], [(q3, .inl (kA 0, 24, .inl (fun _ => 0)))], [(q4, .inl (kA 0, 24, .inl (fun _ => 0)))], [(q5, .inl (kA 0, 48, .inl (fun _ => 0)))]]) H := hP
  have hD : va_D A (cat [[(h, .inr (3, [.int 0, .int 0, .int 1, .ref q1, .ref q2, .ref q3, .ref q4, .null, .null, .null, .null, .null, .null, .null, .null, .null, .null, .int 0, .int 0]))], [(q1, .inl (kA 1, 192, .inl (fun _ => 0)))], [(q2, .inl (kA 0, 24, .inl (fun _ => 0)))], [(q3, .inl (kA 0, 24, .inl (fun _ => 0)))], [(q4, .inl (kA 0, 24, .inl (fun _ => 0)))], [(q5, .inl (kA 0, 48, .inl (fun _ => 0)))]]) := hD
  refine W.widen (k := 5) (n := 312) (by omega) (by omega) ?_
  refine k_put (pc := 57) X hK hP hD hS 0 rfl rfl i_Gr t_Gr t_Gr_ok n_Gr 7 (by decide) wm_96 rfl (Or.inr ⟨rfl, rfl⟩) rfl rfl (Nat.le_of_ble_eq_true rfl) d_Gr_init_57 (fun H locs hP hD hS => ?_)
  have hP : va_P D classes (cat [[(h, .inr (3, [.int 0, .int 0, .int 1, .ref q1, .ref q2, .ref q3, .ref q4, .ref q5, .null, .null, .null, .null, .null, .null, .null, .null, .null, .int 0, .int 0]))], [(q1, .inl (kA 1, 192, .inl (fun _ => 0)))], [(q2, .inl (kA 0, 24, .inl (fun _ => 0)))], [(q3, .inl (kA 0, 24, .inl (fun _ => 0)))], [(q4, .inl (kA 0, 24, .inl (fun _ => 0)))], [(q5, .inl (kA 0, 48, .inl (fun _ => 0)))]]) H := hP
  have hD : va_D A (cat [[(h, .inr (3, [.int 0, .int 0, .int 1, .ref q1, .ref q2, .ref q3, .ref q4, .ref q5, .null, .null, .null, .null, .null, .null, .null, .null, .null, .int 0, .int 0]))], [(q1, .inl (kA 1, 192, .inl (fun _ => 0)))], [(q2, .inl (kA 0, 24, .inl (fun _ => 0)))], [(q3, .inl (kA 0, 24, .inl (fun _ => 0)))], [(q4, .inl (kA 0, 24, .inl (fun _ => 0)))], [(q5, .inl (kA 0, 48, .inl (fun _ => 0)))]]) := hD
  refine lv_aload_n (pc := 60) hx hb d_Gr_init_60 rfl (lv_at hl 0 rfl) ?_
  refine lv_bipush (pc := 61) (v := 48) hx hb d_Gr_init_61 (by decide) ?_
  refine k_newa (pc := 63) (atype := .int) X (ty := .int) (a0 := (48, .inl (fun _ => 0))) rfl rfl wm_193 hK hP hD hS hA 0 rfl (fun _ => rfl) (by decide) rfl (by decide) (Nat.le_of_ble_eq_true rfl) (Nat.le_of_ble_eq_true rfl) d_Gr_init_63 (fun q6 H hP hD hS => ?_)
  have hP : va_P D classes (cat [[(h, .inr (3, [.int 0, .int 0, .int 1, .ref q1, .ref q2, .ref q3, .ref q4, .ref q5, .null, .null, .null, .null, .null, .null, .null, .null, .null, .int 0, .int 0]))], [(q1, .inl (kA 1, 192, .inl (fun _ => 0)))], [(q2, .inl (kA 0, 24, .inl (fun _ => 0)))], [(q3, .inl (kA 0, 24, .inl (fun _ => 0)))], [(q4, .inl (kA 0, 24, .inl (fun _ => 0)))], [(q5, .inl (kA 0, 48, .inl (fun _ => 0)))], [(q6, .inl (kA 0, 48, .inl (fun _ => 0)))]]) H := hP
  have hD : va_D A (cat [[(h, .inr (3, [.int 0, .int 0, .int 1, .ref q1, .ref q2, .ref q3, .ref q4, .ref q5, .null, .null, .null, .null, .null, .null, .null, .null, .null, .int 0, .int 0]))], [(q1, .inl (kA 1, 192, .inl (fun _ => 0)))], [(q2, .inl (kA 0, 24, .inl (fun _ => 0)))], [(q3, .inl (kA 0, 24, .inl (fun _ => 0)))], [(q4, .inl (kA 0, 24, .inl (fun _ => 0)))], [(q5, .inl (kA 0, 48, .inl (fun _ => 0)))], [(q6, .inl (kA 0, 48, .inl (fun _ => 0)))]]) := hD
  refine W.widen (k := 6) (n := 360) (by omega) (by omega) ?_
  refine k_put (pc := 65) X hK hP hD hS 0 rfl rfl i_Gr t_Gr t_Gr_ok n_Gr 8 (by decide) wm_107 rfl (Or.inr ⟨rfl, rfl⟩) rfl rfl (Nat.le_of_ble_eq_true rfl) d_Gr_init_65 (fun H locs hP hD hS => ?_)
  have hP : va_P D classes (cat [[(h, .inr (3, [.int 0, .int 0, .int 1, .ref q1, .ref q2, .ref q3, .ref q4, .ref q5, .ref q6, .null, .null, .null, .null, .null, .null, .null, .null, .int 0, .int 0]))], [(q1, .inl (kA 1, 192, .inl (fun _ => 0)))], [(q2, .inl (kA 0, 24, .inl (fun _ => 0)))], [(q3, .inl (kA 0, 24, .inl (fun _ => 0)))], [(q4, .inl (kA 0, 24, .inl (fun _ => 0)))], [(q5, .inl (kA 0, 48, .inl (fun _ => 0)))], [(q6, .inl (kA 0, 48, .inl (fun _ => 0)))]]) H := hP
  have hD : va_D A (cat [[(h, .inr (3, [.int 0, .int 0, .int 1, .ref q1, .ref q2, .ref q3, .ref q4, .ref q5, .ref q6, .null, .null, .null, .null, .null, .null, .null, .null, .int 0, .int 0]))], [(q1, .inl (kA 1, 192, .inl (fun _ => 0)))], [(q2, .inl (kA 0, 24, .inl (fun _ => 0)))], [(q3, .inl (kA 0, 24, .inl (fun _ => 0)))], [(q4, .inl (kA 0, 24, .inl (fun _ => 0)))], [(q5, .inl (kA 0, 48, .inl (fun _ => 0)))], [(q6, .inl (kA 0, 48, .inl (fun _ => 0)))]]) := hD
  refine lv_aload_n (pc := 68) hx hb d_Gr_init_68 rfl (lv_at hl 0 rfl) ?_
  refine lv_bipush (pc := 69) (v := 48) hx hb d_Gr_init_69 (by decide) ?_
  refine k_newa (pc := 71) (atype := .int) X (ty := .int) (a0 := (48, .inl (fun _ => 0))) rfl rfl wm_193 hK hP hD hS hA 0 rfl (fun _ => rfl) (by decide) rfl (by decide) (Nat.le_of_ble_eq_true rfl) (Nat.le_of_ble_eq_true rfl) d_Gr_init_71 (fun q7 H hP hD hS => ?_)
  have hP : va_P D classes (cat [[(h, .inr (3, [.int 0, .int 0, .int 1, .ref q1, .ref q2, .ref q3, .ref q4, .ref q5, .ref q6, .null, .null, .null, .null, .null, .null, .null, .null, .int 0, .int 0]))], [(q1, .inl (kA 1, 192, .inl (fun _ => 0)))], [(q2, .inl (kA 0, 24, .inl (fun _ => 0)))], [(q3, .inl (kA 0, 24, .inl (fun _ => 0)))], [(q4, .inl (kA 0, 24, .inl (fun _ => 0)))], [(q5, .inl (kA 0, 48, .inl (fun _ => 0)))], [(q6, .inl (kA 0, 48, .inl (fun _ => 0)))], [(q7, .inl (kA 0, 48, .inl (fun _ => 0)))]]) H := hP
  have hD : va_D A (cat [[(h, .inr (3, [.int 0, .int 0, .int 1, .ref q1, .ref q2, .ref q3, .ref q4, .ref q5, .ref q6, .null, .null, .null, .null, .null, .null, .null, .null, .int 0, .int 0]))], [(q1, .inl (kA 1, 192, .inl (fun _ => 0)))], [(q2, .inl (kA 0, 24, .inl (fun _ => 0)))], [(q3, .inl (kA 0, 24, .inl (fun _ => 0)))], [(q4, .inl (kA 0, 24, .inl (fun _ => 0)))], [(q5, .inl (kA 0, 48, .inl (fun _ => 0)))], [(q6, .inl (kA 0, 48, .inl (fun _ => 0)))], [(q7, .inl (kA 0, 48, .inl (fun _ => 0)))]]) := hD
  refine W.widen (k := 7) (n := 408) (by omega) (by omega) ?_
  refine k_put (pc := 73) X hK hP hD hS 0 rfl rfl i_Gr t_Gr t_Gr_ok n_Gr 9 (by decide) wm_118 rfl (Or.inr ⟨rfl, rfl⟩) rfl rfl (Nat.le_of_ble_eq_true rfl) d_Gr_init_73 (fun H locs hP hD hS => ?_)
  have hP : va_P D classes (cat [[(h, .inr (3, [.int 0, .int 0, .int 1, .ref q1, .ref q2, .ref q3, .ref q4, .ref q5, .ref q6, .ref q7, .null, .null, .null, .null, .null, .null, .null, .int 0, .int 0]))], [(q1, .inl (kA 1, 192, .inl (fun _ => 0)))], [(q2, .inl (kA 0, 24, .inl (fun _ => 0)))], [(q3, .inl (kA 0, 24, .inl (fun _ => 0)))], [(q4, .inl (kA 0, 24, .inl (fun _ => 0)))], [(q5, .inl (kA 0, 48, .inl (fun _ => 0)))], [(q6, .inl (kA 0, 48, .inl (fun _ => 0)))], [(q7, .inl (kA 0, 48, .inl (fun _ => 0)))]]) H := hP
  have hD : va_D A (cat [[(h, .inr (3, [.int 0, .int 0, .int 1, .ref q1, .ref q2, .ref q3, .ref q4, .ref q5, .ref q6, .ref q7, .null, .null, .null, .null, .null, .null, .null, .int 0, .int 0]))], [(q1, .inl (kA 1, 192, .inl (fun _ => 0)))], [(q2, .inl (kA 0, 24, .inl (fun _ => 0)))], [(q3, .inl (kA 0, 24, .inl (fun _ => 0)))], [(q4, .inl (kA 0, 24, .inl (fun _ => 0)))], [(q5, .inl (kA 0, 48, .inl (fun _ => 0)))], [(q6, .inl (kA 0, 48, .inl (fun _ => 0)))], [(q7, .inl (kA 0, 48, .inl (fun _ => 0)))]]) := hD
  refine lv_aload_n (pc := 76) hx hb d_Gr_init_76 rfl (lv_at hl 0 rfl) ?_
  refine lv_bipush (pc := 77) (v := 48) hx hb d_Gr_init_77 (by decide) ?_
  refine k_newa (pc := 79) (atype := .int) X (ty := .int) (a0 := (48, .inl (fun _ => 0))) rfl rfl wm_193 hK hP hD hS hA 0 rfl (fun _ => rfl) (by decide) rfl (by decide) (Nat.le_of_ble_eq_true rfl) (Nat.le_of_ble_eq_true rfl) d_Gr_init_79 (fun q8 H hP hD hS => ?_)
  have hP : va_P D classes (cat [[(h, .inr (3, [.int 0, .int 0, .int 1, .ref q1, .ref q2, .ref q3, .ref q4, .ref q5, .ref q6, .ref q7, .null, .null, .null, .null, .null, .null, .null, .int 0, .int 0]))], [(q1, .inl (kA 1, 192, .inl (fun _ => 0)))], [(q2, .inl (kA 0, 24, .inl (fun _ => 0)))], [(q3, .inl (kA 0, 24, .inl (fun _ => 0)))], [(q4, .inl (kA 0, 24, .inl (fun _ => 0)))], [(q5, .inl (kA 0, 48, .inl (fun _ => 0)))], [(q6, .inl (kA 0, 48, .inl (fun _ => 0)))], [(q7, .inl (kA 0, 48, .inl (fun _ => 0)))], [(q8, .inl (kA 0, 48, .inl (fun _ => 0)))]]) H := hP
  have hD : va_D A (cat [[(h, .inr (3, [.int 0, .int 0, .int 1, .ref q1, .ref q2, .ref q3, .ref q4, .ref q5, .ref q6, .ref q7, .null, .null, .null, .null, .null, .null, .null, .int 0, .int 0]))], [(q1, .inl (kA 1, 192, .inl (fun _ => 0)))], [(q2, .inl (kA 0, 24, .inl (fun _ => 0)))], [(q3, .inl (kA 0, 24, .inl (fun _ => 0)))], [(q4, .inl (kA 0, 24, .inl (fun _ => 0)))], [(q5, .inl (kA 0, 48, .inl (fun _ => 0)))], [(q6, .inl (kA 0, 48, .inl (fun _ => 0)))], [(q7, .inl (kA 0, 48, .inl (fun _ => 0)))], [(q8, .inl (kA 0, 48, .inl (fun _ => 0)))]]) := hD
  refine W.widen (k := 8) (n := 456) (by omega) (by omega) ?_
  refine k_put (pc := 81) X hK hP hD hS 0 rfl rfl i_Gr t_Gr t_Gr_ok n_Gr 10 (by decide) wm_126 rfl (Or.inr ⟨rfl, rfl⟩) rfl rfl (Nat.le_of_ble_eq_true rfl) d_Gr_init_81 (fun H locs hP hD hS => ?_)
  have hP : va_P D classes (cat [[(h, .inr (3, [.int 0, .int 0, .int 1, .ref q1, .ref q2, .ref q3, .ref q4, .ref q5, .ref q6, .ref q7, .ref q8, .null, .null, .null, .null, .null, .null, .int 0, .int 0]))], [(q1, .inl (kA 1, 192, .inl (fun _ => 0)))], [(q2, .inl (kA 0, 24, .inl (fun _ => 0)))], [(q3, .inl (kA 0, 24, .inl (fun _ => 0)))], [(q4, .inl (kA 0, 24, .inl (fun _ => 0)))], [(q5, .inl (kA 0, 48, .inl (fun _ => 0)))], [(q6, .inl (kA 0, 48, .inl (fun _ => 0)))], [(q7, .inl (kA 0, 48, .inl (fun _ => 0)))], [(q8, .inl (kA 0, 48, .inl (fun _ => 0)))]]) H := hP
  have hD : va_D A (cat [[(h, .inr (3, [.int 0, .int 0, .int 1, .ref q1, .ref q2, .ref q3, .ref q4, .ref q5, .ref q6, .ref q7, .ref q8, .null, .null, .null, .null, .null, .null, .int 0, .int 0]))], [(q1, .inl (kA 1, 192, .inl (fun _ => 0)))], [(q2, .inl (kA 0, 24, .inl (fun _ => 0)))], [(q3, .inl (kA 0, 24, .inl (fun _ => 0)))], [(q4, .inl (kA 0, 24, .inl (fun _ => 0)))], [(q5, .inl (kA 0, 48, .inl (fun _ => 0)))], [(q6, .inl (kA 0, 48, .inl (fun _ => 0)))], [(q7, .inl (kA 0, 48, .inl (fun _ => 0)))], [(q8, .inl (kA 0, 48, .inl (fun _ => 0)))]]) := hD
  refine lv_aload_n (pc := 84) hx hb d_Gr_init_84 rfl (lv_at hl 0 rfl) ?_
  refine lv_bipush (pc := 85) (v := 8) hx hb d_Gr_init_85 (by decide) ?_
  refine k_newa (pc := 87) (atype := .int) X (ty := .int) (a0 := (8, .inl (fun _ => 0))) rfl rfl wm_193 hK hP hD hS hA 0 rfl (fun _ => rfl) (by decide) rfl (by decide) (Nat.le_of_ble_eq_true rfl) (Nat.le_of_ble_eq_true rfl) d_Gr_init_87 (fun q9 H hP hD hS => ?_)
  have hP : va_P D classes (cat [[(h, .inr (3, [.int 0, .int 0, .int 1, .ref q1, .ref q2, .ref q3, .ref q4, .ref q5, .ref q6, .ref q7, .ref q8, .null, .null, .null, .null, .null, .null, .int 0, .int 0]))], [(q1, .inl (kA 1, 192, .inl (fun _ => 0)))], [(q2, .inl (kA 0, 24, .inl (fun _ => 0)))], [(q3, .inl (kA 0, 24, .inl (fun _ => 0)))], [(q4, .inl (kA 0, 24, .inl (fun _ => 0)))], [(q5, .inl (kA 0, 48, .inl (fun _ => 0)))], [(q6, .inl (kA 0, 48, .inl (fun _ => 0)))], [(q7, .inl (kA 0, 48, .inl (fun _ => 0)))], [(q8, .inl (kA 0, 48, .inl (fun _ => 0)))], [(q9, .inl (kA 0, 8, .inl (fun _ => 0)))]]) H := hP
  have hD : va_D A (cat [[(h, .inr (3, [.int 0, .int 0, .int 1, .ref q1, .ref q2, .ref q3, .ref q4, .ref q5, .ref q6, .ref q7, .ref q8, .null, .null, .null, .null, .null, .null, .int 0, .int 0]))], [(q1, .inl (kA 1, 192, .inl (fun _ => 0)))], [(q2, .inl (kA 0, 24, .inl (fun _ => 0)))], [(q3, .inl (kA 0, 24, .inl (fun _ => 0)))], [(q4, .inl (kA 0, 24, .inl (fun _ => 0)))], [(q5, .inl (kA 0, 48, .inl (fun _ => 0)))], [(q6, .inl (kA 0, 48, .inl (fun _ => 0)))], [(q7, .inl (kA 0, 48, .inl (fun _ => 0)))], [(q8, .inl (kA 0, 48, .inl (fun _ => 0)))], [(q9, .inl (kA 0, 8, .inl (fun _ => 0)))]]) := hD
  refine W.widen (k := 9) (n := 464) (by omega) (by omega) ?_
  refine k_put (pc := 89) X hK hP hD hS 0 rfl rfl i_Gr t_Gr t_Gr_ok n_Gr 11 (by decide) wm_130 rfl (Or.inr ⟨rfl, rfl⟩) rfl rfl (Nat.le_of_ble_eq_true rfl) d_Gr_init_89 (fun H locs hP hD hS => ?_)
  have hP : va_P D classes (cat [[(h, .inr (3, [.int 0, .int 0, .int 1, .ref q1, .ref q2, .ref q3, .ref q4, .ref q5, .ref q6, .ref q7, .ref q8, .ref q9, .null, .null, .null, .null, .null, .int 0, .int 0]))], [(q1, .inl (kA 1, 192, .inl (fun _ => 0)))], [(q2, .inl (kA 0, 24, .inl (fun _ => 0)))], [(q3, .inl (kA 0, 24, .inl (fun _ => 0)))], [(q4, .inl (kA 0, 24, .inl (fun _ => 0)))], [(q5, .inl (kA 0, 48, .inl (fun _ => 0)))], [(q6, .inl (kA 0, 48, .inl (fun _ => 0)))], [(q7, .inl (kA 0, 48, .inl (fun _ => 0)))], [(q8, .inl (kA 0, 48, .inl (fun _ => 0)))], [(q9, .inl (kA 0, 8, .inl (fun _ => 0)))]]) H := hP
  have hD : va_D A (cat [[(h, .inr (3, [.int 0, .int 0, .int 1, .ref q1, .ref q2, .ref q3, .ref q4, .ref q5, .ref q6, .ref q7, .ref q8, .ref q9, .null, .null, .null, .null, .null, .int 0, .int 0]))], [(q1, .inl (kA 1, 192, .inl (fun _ => 0)))], [(q2, .inl (kA 0, 24, .inl (fun _ => 0)))], [(q3, .inl (kA 0, 24, .inl (fun _ => 0)))], [(q4, .inl (kA 0, 24, .inl (fun _ => 0)))], [(q5, .inl (kA 0, 48, .inl (fun _ => 0)))], [(q6, .inl (kA 0, 48, .inl (fun _ => 0)))], [(q7, .inl (kA 0, 48, .inl (fun _ => 0)))], [(q8, .inl (kA 0, 48, .inl (fun _ => 0)))], [(q9, .inl (kA 0, 8, .inl (fun _ => 0)))]]) := hD
  refine lv_aload_n (pc := 92) hx hb d_Gr_init_92 rfl (lv_at hl 0 rfl) ?_
  refine lv_bipush (pc := 93) (v := 64) hx hb d_Gr_init_93 (by decide) ?_
  refine k_newa (pc := 95) (atype := .byte) X (ty := .byte) (a0 := (64, .inl (fun _ => 0))) rfl rfl wm_192 hK hP hD hS hA 1 rfl (fun _ => rfl) (by decide) rfl (by decide) (Nat.le_of_ble_eq_true rfl) (Nat.le_of_ble_eq_true rfl) d_Gr_init_95 (fun q10 H hP hD hS => ?_)
  have hP : va_P D classes (cat [[(h, .inr (3, [.int 0, .int 0, .int 1, .ref q1, .ref q2, .ref q3, .ref q4, .ref q5, .ref q6, .ref q7, .ref q8, .ref q9, .null, .null, .null, .null, .null, .int 0, .int 0]))], [(q1, .inl (kA 1, 192, .inl (fun _ => 0)))], [(q2, .inl (kA 0, 24, .inl (fun _ => 0)))], [(q3, .inl (kA 0, 24, .inl (fun _ => 0)))], [(q4, .inl (kA 0, 24, .inl (fun _ => 0)))], [(q5, .inl (kA 0, 48, .inl (fun _ => 0)))], [(q6, .inl (kA 0, 48, .inl (fun _ => 0)))], [(q7, .inl (kA 0, 48, .inl (fun _ => 0)))], [(q8, .inl (kA 0, 48, .inl (fun _ => 0)))], [(q9, .inl (kA 0, 8, .inl (fun _ => 0)))], [(q10, .inl (kA 1, 64, .inl (fun _ => 0)))]]) H := hP
  have hD : va_D A (cat [[(h, .inr (3, [.int 0, .int 0, .int 1, .ref q1, .ref q2, .ref q3, .ref q4, .ref q5, .ref q6, .ref q7, .ref q8, .ref q9, .null, .null, .null, .null, .null, .int 0, .int 0]))], [(q1, .inl (kA 1, 192, .inl (fun _ => 0)))], [(q2, .inl (kA 0, 24, .inl (fun _ => 0)))], [(q3, .inl (kA 0, 24, .inl (fun _ => 0)))], [(q4, .inl (kA 0, 24, .inl (fun _ => 0)))], [(q5, .inl (kA 0, 48, .inl (fun _ => 0)))], [(q6, .inl (kA 0, 48, .inl (fun _ => 0)))], [(q7, .inl (kA 0, 48, .inl (fun _ => 0)))], [(q8, .inl (kA 0, 48, .inl (fun _ => 0)))], [(q9, .inl (kA 0, 8, .inl (fun _ => 0)))], [(q10, .inl (kA 1, 64, .inl (fun _ => 0)))]]) := hD
  refine W.widen (k := 10) (n := 528) (by omega) (by omega) ?_
  refine k_put (pc := 97) X hK hP hD hS 0 rfl rfl i_Gr t_Gr t_Gr_ok n_Gr 12 (by decide) wm_134 rfl (Or.inr ⟨rfl, rfl⟩) rfl rfl (Nat.le_of_ble_eq_true rfl) d_Gr_init_97 (fun H locs hP hD hS => ?_)
  have hP : va_P D classes (cat [[(h, .inr (3, [.int 0, .int 0, .int 1, .ref q1, .ref q2, .ref q3, .ref q4, .ref q5, .ref q6, .ref q7, .ref q8, .ref q9, .ref q10, .null, .null, .null, .null, .int 0, .int 0]))], [(q1, .inl (kA 1, 192, .inl (fun _ => 0)))], [(q2, .inl (kA 0, 24, .inl (fun _ => 0)))], [(q3, .inl (kA 0, 24, .inl (fun _ => 0)))], [(q4, .inl (kA 0, 24, .inl (fun _ => 0)))], [(q5, .inl (kA 0, 48, .inl (fun _ => 0)))], [(q6, .inl (kA 0, 48, .inl (fun _ => 0)))], [(q7, .inl (kA 0, 48, .inl (fun _ => 0)))], [(q8, .inl (kA 0, 48, .inl (fun _ => 0)))], [(q9, .inl (kA 0, 8, .inl (fun _ => 0)))], [(q10, .inl (kA 1, 64, .inl (fun _ => 0)))]]) H := hP
  have hD : va_D A (cat [[(h, .inr (3, [.int 0, .int 0, .int 1, .ref q1, .ref q2, .ref q3, .ref q4, .ref q5, .ref q6, .ref q7, .ref q8, .ref q9, .ref q10, .null, .null, .null, .null, .int 0, .int 0]))], [(q1, .inl (kA 1, 192, .inl (fun _ => 0)))], [(q2, .inl (kA 0, 24, .inl (fun _ => 0)))], [(q3, .inl (kA 0, 24, .inl (fun _ => 0)))], [(q4, .inl (kA 0, 24, .inl (fun _ => 0)))], [(q5, .inl (kA 0, 48, .inl (fun _ => 0)))], [(q6, .inl (kA 0, 48, .inl (fun _ => 0)))], [(q7, .inl (kA 0, 48, .inl (fun _ => 0)))], [(q8, .inl (kA 0, 48, .inl (fun _ => 0)))], [(q9, .inl (kA 0, 8, .inl (fun _ => 0)))], [(q10, .inl (kA 1, 64, .inl (fun _ => 0)))]]) := hD
  refine lv_aload_n (pc := 100) hx hb d_Gr_init_100 rfl (lv_at hl 0 rfl) ?_
  refine lv_bipush (pc := 101) (v := 8) hx hb d_Gr_init_101 (by decide) ?_
  refine k_newa (pc := 103) (atype := .int) X (ty := .int) (a0 := (8, .inl (fun _ => 0))) rfl rfl wm_193 hK hP hD hS hA 0 rfl (fun _ => rfl) (by decide) rfl (by decide) (Nat.le_of_ble_eq_true rfl) (Nat.le_of_ble_eq_true rfl) d_Gr_init_103 (fun q11 H hP hD hS => ?_)
  have hP : va_P D classes (cat [[(h, .inr (3, [.int 0, .int 0, .int 1, .ref q1, .ref q2, .ref q3, .ref q4, .ref q5, .ref q6, .ref q7, .ref q8, .ref q9, .ref q10, .null, .null, .null, .null, .int 0, .int 0]))], [(q1, .inl (kA 1, 192, .inl (fun _ => 0)))], [(q2, .inl (kA 0, 24, .inl (fun _ => 0)))], [(q3, .inl (kA 0, 24, .inl (fun _ => 0)))], [(q4, .inl (kA 0, 24, .inl (fun _ => 0)))], [(q5, .inl (kA 0, 48, .inl (fun _ => 0)))], [(q6, .inl (kA 0, 48, .inl (fun _ => 0)))], [(q7, .inl (kA 0, 48, .inl (fun _ => 0)))], [(q8, .inl (kA 0, 48, .inl (fun _ => 0)))], [(q9, .inl (kA 0, 8, .inl (fun _ => 0)))], [(q10, .inl (kA 1, 64, .inl (fun _ => 0)))], [(q11, .inl (kA 0, 8, .inl (fun _ => 0)))]]) H := hP
  have hD : va_D A (cat [[(h, .inr (3, [.int 0, .int 0, .int 1, .ref q1, .ref q2, .ref q3, .ref q4, .ref q5, .ref q6, .ref q7, .ref q8, .ref q9, .ref q10, .null, .null, .null, .null, .int 0, .int 0]))], [(q1, .inl (kA 1, 192, .inl (fun _ => 0)))], [(q2, .inl (kA 0, 24, .inl (fun _ => 0)))], [(q3, .inl (kA 0, 24, .inl (fun _ => 0)))], [(q4, .inl (kA 0, 24, .inl (fun _ => 0)))], [(q5, .inl (kA 0, 48, .inl (fun _ => 0)))], [(q6, .inl (kA 0, 48, .inl (fun _ => 0)))], [(q7, .inl (kA 0, 48, .inl (fun _ => 0)))], [(q8, .inl (kA 0, 48, .inl (fun _ => 0)))], [(q9, .inl (kA 0, 8, .inl (fun _ => 0)))], [(q10, .inl (kA 1, 64, .inl (fun _ => 0)))], [(q11, .inl (kA 0, 8, .inl (fun _ => 0)))]]) := hD
  refine W.widen (k := 11) (n := 536) (by omega) (by omega) ?_
  refine k_put (pc := 105) X hK hP hD hS 0 rfl rfl i_Gr t_Gr t_Gr_ok n_Gr 13 (by decide) wm_137 rfl (Or.inr ⟨rfl, rfl⟩) rfl rfl (Nat.le_of_ble_eq_true rfl) d_Gr_init_105 (fun H locs hP hD hS => ?_)
  have hP : va_P D classes (cat [[(h, .inr (3, [.int 0, .int 0, .int 1, .ref q1, .ref q2, .ref q3, .ref q4, .ref q5, .ref q6, .ref q7, .ref q8, .ref q9, .ref q10, .ref q11, .null, .null, .null, .int 0, .int 0]))], [(q1, .inl (kA 1, 192, .inl (fun _ => 0)))], [(q2, .inl (kA 0, 24, .inl (fun _ => 0)))], [(q3, .inl (kA 0, 24, .inl (fun _ => 0)))], [(q4, .inl (kA 0, 24, .inl (fun _ => 0)))], [(q5, .inl (kA 0, 48, .inl (fun _ => 0)))], [(q6, .inl (kA 0, 48, .inl (fun _ => 0)))], [(q7, .inl (kA 0, 48, .inl (fun _ => 0)))], [(q8, .inl (kA 0, 48, .inl (fun _ => 0)))], [(q9, .inl (kA 0, 8, .inl (fun _ => 0)))], [(q10, .inl (kA 1, 64, .inl (fun _ => 0)))], [(q11, .inl (kA 0, 8, .inl (fun _ => 0)))]]) H := hP
  have hD : va_D A (cat [[(h, .inr (3, [.int 0, .int 0, .int 1, .ref q1, .ref q2, .ref q3, .ref q4, .ref q5, .ref q6, .ref q7, .ref q8, .ref q9, .ref q10, .ref q11, .null, .null, .null, .int 0, .int 0]))], [(q1, .inl (kA 1, 192, .inl (fun _ => 0)))], [(q2, .inl (kA 0, 24, .inl (fun _ => 0)))], [(q3, .inl (kA 0, 24, .inl (fun _ => 0)))], [(q4, .inl (kA 0, 24, .inl (fun _ => 0)))], [(q5, .inl (kA 0, 48, .inl (fun _ => 0)))], [(q6, .inl (kA 0, 48, .inl (fun _ => 0)))], [(q7, .inl (kA 0, 48, .inl (fun _ => 0)))], [(q8, .inl (kA 0, 48, .inl (fun _ => 0)))], [(q9, .inl (kA 0, 8, .inl (fun _ => 0)))], [(q10, .inl (kA 1, 64, .inl (fun _ => 0)))], [(q11, .inl (kA 0, 8, .inl (fun _ => 0)))]]) := hD
  refine lv_aload_n (pc := 108) hx hb d_Gr_init_108 rfl (lv_at hl 0 rfl) ?_
  refine lv_bipush (pc := 109) (v := 24) hx hb d_Gr_init_109 (by decide) ?_
  refine k_newa (pc := 111) (atype := .int) X (ty := .int) (a0 := (24, .inl (fun _ => 0))) rfl rfl wm_193 hK hP hD hS hA 0 rfl (fun _ => rfl) (by decide) rfl (by decide) (Nat.le_of_ble_eq_true rfl) (Nat.le_of_ble_eq_true rfl) d_Gr_init_111 (fun q12 H hP hD hS => ?_)
  have hP : va_P D classes (cat [[(h, .inr (3, [.int 0, .int 0, .int 1, .ref q1, .ref q2, .ref q3, .ref q4, .ref q5, .ref q6, .ref q7, .ref q8, .ref q9, .ref q10, .ref q11, .null, .null, .null, .int 0, .int 0]))], [(q1, .inl (kA 1, 192, .inl (fun _ => 0)))], [(q2, .inl (kA 0, 24, .inl (fun _ => 0)))], [(q3, .inl (kA 0, 24, .inl (fun _ => 0)))], [(q4, .inl (kA 0, 24, .inl (fun _ => 0)))], [(q5, .inl (kA 0, 48, .inl (fun _ => 0)))], [(q6, .inl (kA 0, 48, .inl (fun _ => 0)))], [(q7, .inl (kA 0, 48, .inl (fun _ => 0)))], [(q8, .inl (kA 0, 48, .inl (fun _ => 0)))], [(q9, .inl (kA 0, 8, .inl (fun _ => 0)))], [(q10, .inl (kA 1, 64, .inl (fun _ => 0)))], [(q11, .inl (kA 0, 8, .inl (fun _ => 0)))], [(q12, .inl (kA 0, 24, .inl (fun _ => 0)))]]) H := hP
  have hD : va_D A (cat [[(h, .inr (3, [.int 0, .int 0, .int 1, .ref q1, .ref q2, .ref q3, .ref q4, .ref q5, .ref q6, .ref q7, .ref q8, .ref q9, .ref q10, .ref q11, .null, .null, .null, .int 0, .int 0]))], [(q1, .inl (kA 1, 192, .inl (fun _ => 0)))], [(q2, .inl (kA 0, 24, .inl (fun _ => 0)))], [(q3, .inl (kA 0, 24, .inl (fun _ => 0)))], [(q4, .inl (kA 0, 24, .inl (fun _ => 0)))], [(q5, .inl (kA 0, 48, .inl (fun _ => 0)))], [(q6, .inl (kA 0, 48, .inl (fun _ => 0)))], [(q7, .inl (kA 0, 48, .inl (fun _ => 0)))], [(q8, .inl (kA 0, 48, .inl (fun _ => 0)))], [(q9, .inl (kA 0, 8, .inl (fun _ => 0)))], [(q10, .inl (kA 1, 64, .inl (fun _ => 0)))], [(q11, .inl (kA 0, 8, .inl (fun _ => 0)))], [(q12, .inl (kA 0, 24, .inl (fun _ => 0)))]]) := hD
  refine W.widen (k := 12) (n := 560) (by omega) (by omega) ?_
  refine k_put (pc := 113) X hK hP hD hS 0 rfl rfl i_Gr t_Gr t_Gr_ok n_Gr 14 (by decide) wm_140 rfl (Or.inr ⟨rfl, rfl⟩) rfl rfl (Nat.le_of_ble_eq_true rfl) d_Gr_init_113 (fun H locs hP hD hS => ?_)
  have hP : va_P D classes (cat [[(h, .inr (3, [.int 0, .int 0, .int 1, .ref q1, .ref q2, .ref q3, .ref q4, .ref q5, .ref q6, .ref q7, .ref q8, .ref q9, .ref q10, .ref q11, .ref q12, .null, .null, .int 0, .int 0]))], [(q1, .inl (kA 1, 192, .inl (fun _ => 0)))], [(q2, .inl (kA 0, 24, .inl (fun _ => 0)))], [(q3, .inl (kA 0, 24, .inl (fun _ => 0)))], [(q4, .inl (kA 0, 24, .inl (fun _ => 0)))], [(q5, .inl (kA 0, 48, .inl (fun _ => 0)))], [(q6, .inl (kA 0, 48, .inl (fun _ => 0)))], [(q7, .inl (kA 0, 48, .inl (fun _ => 0)))], [(q8, .inl (kA 0, 48, .inl (fun _ => 0)))], [(q9, .inl (kA 0, 8, .inl (fun _ => 0)))], [(q10, .inl (kA 1, 64, .inl (fun _ => 0)))], [(q11, .inl (kA 0, 8, .inl (fun _ => 0)))], [(q12, .inl (kA 0, 24, .inl (fun _ => 0)))]]) H := hP
  have hD : va_D A (cat [[(h, .inr (3, [.int 0, .int 0, .int 1, .ref q1, .ref q2, .ref q3, .ref q4, .ref q5, .ref q6, .ref q7, .ref q8, .ref q9, .ref q10, .ref q11, .ref q12, .null, .null, .int 0, .int 0]))], [(q1, .inl (kA 1, 192, .inl (fun _ => 0)))], [(q2, .inl (kA 0, 24, .inl (fun _ => 0)))], [(q3, .inl (kA 0, 24, .inl (fun _ => 0)))], [(q4, .inl (kA 0, 24, .inl (fun _ => 0)))], [(q5, .inl (kA 0, 48, .inl (fun _ => 0)))], [(q6, .inl (kA 0, 48, .inl (fun _ => 0)))], [(q7, .inl (kA 0, 48, .inl (fun _ => 0)))], [(q8, .inl (kA 0, 48, .inl (fun _ => 0)))], [(q9, .inl (kA 0, 8, .inl (fun _ => 0)))], [(q10, .inl (kA 1, 64, .inl (fun _ => 0)))], [(q11, .inl (kA 0, 8, .inl (fun _ => 0)))], [(q12, .inl (kA 0, 24, .inl (fun _ => 0)))]]) := hD
  refine lv_aload_n (pc := 116) hx hb d_Gr_init_116 rfl (lv_at hl 0 rfl) ?_
  refine lv_sipush (pc := 117) (v := 576) hx hb d_Gr_init_117 (by decide) ?_
  refine k_newa (pc := 120) (atype := .int) X (ty := .int) (a0 := (576, .inl (fun _ => 0))) rfl rfl wm_193 hK hP hD hS hA 0 rfl (fun _ => rfl) (by decide) rfl (by decide) (Nat.le_of_ble_eq_true rfl) (Nat.le_of_ble_eq_true rfl) d_Gr_init_120 (fun q13 H hP hD hS => ?_)
  have hP : va_P D classes (cat [[(h, .inr (3, [.int 0, .int 0, .int 1, .ref q1, .ref q2, .ref q3, .ref q4, .ref q5, .ref q6, .ref q7, .ref q8, .ref q9, .ref q10, .ref q11, .ref q12, .null, .null, .int 0, .int 0]))], [(q1, .inl (kA 1, 192, .inl (fun _ => 0)))], [(q2, .inl (kA 0, 24, .inl (fun _ => 0)))], [(q3, .inl (kA 0, 24, .inl (fun _ => 0)))], [(q4, .inl (kA 0, 24, .inl (fun _ => 0)))], [(q5, .inl (kA 0, 48, .inl (fun _ => 0)))], [(q6, .inl (kA 0, 48, .inl (fun _ => 0)))], [(q7, .inl (kA 0, 48, .inl (fun _ => 0)))], [(q8, .inl (kA 0, 48, .inl (fun _ => 0)))], [(q9, .inl (kA 0, 8, .inl (fun _ => 0)))], [(q10, .inl (kA 1, 64, .inl (fun _ => 0)))], [(q11, .inl (kA 0, 8, .inl (fun _ => 0)))], [(q12, .inl (kA 0, 24, .inl (fun _ => 0)))], [(q13, .inl (kA 0, 576, .inl (fun _ => 0)))]]) H := hP
  have hD : va_D A (cat [[(h, .inr (3, [.int 0, .int 0, .int 1, .ref q1, .ref q2, .ref q3, .ref q4, .ref q5, .ref q6, .ref q7, .ref q8, .ref q9, .ref q10, .ref q11, .ref q12, .null, .null, .int 0, .int 0]))], [(q1, .inl (kA 1, 192, .inl (fun _ => 0)))], [(q2, .inl (kA 0, 24, .inl (fun _ => 0)))], [(q3, .inl (kA 0, 24, .inl (fun _ => 0)))], [(q4, .inl (kA 0, 24, .inl (fun _ => 0)))], [(q5, .inl (kA 0, 48, .inl (fun _ => 0)))], [(q6, .inl (kA 0, 48, .inl (fun _ => 0)))], [(q7, .inl (kA 0, 48, .inl (fun _ => 0)))], [(q8, .inl (kA 0, 48, .inl (fun _ => 0)))], [(q9, .inl (kA 0, 8, .inl (fun _ => 0)))], [(q10, .inl (kA 1, 64, .inl (fun _ => 0)))], [(q11, .inl (kA 0, 8, .inl (fun _ => 0)))], [(q12, .inl (kA 0, 24, .inl (fun _ => 0)))], [(q13, .inl (kA 0, 576, .inl (fun _ => 0)))]]) := hD
  refine W.widen (k := 13) (n := 1136) (by omega) (by omega) ?_
  refine k_put (pc := 122) X hK hP hD hS 0 rfl rfl i_Gr t_Gr t_Gr_ok n_Gr 15 (by decide) wm_147 rfl (Or.inr ⟨rfl, rfl⟩) rfl rfl (Nat.le_of_ble_eq_true rfl) d_Gr_init_122 (fun H locs hP hD hS => ?_)
  have hP : va_P D classes (cat [[(h, .inr (3, [.int 0, .int 0, .int 1, .ref q1, .ref q2, .ref q3, .ref q4, .ref q5, .ref q6, .ref q7, .ref q8, .ref q9, .ref q10, .ref q11, .ref q12, .ref q13, .null, .int 0, .int 0]))], [(q1, .inl (kA 1, 192, .inl (fun _ => 0)))], [(q2, .inl (kA 0, 24, .inl (fun _ => 0)))], [(q3, .inl (kA 0, 24, .inl (fun _ => 0)))], [(q4, .inl (kA 0, 24, .inl (fun _ => 0)))], [(q5, .inl (kA 0, 48, .inl (fun _ => 0)))], [(q6, .inl (kA 0, 48, .inl (fun _ => 0)))], [(q7, .inl (kA 0, 48, .inl (fun _ => 0)))], [(q8, .inl (kA 0, 48, .inl (fun _ => 0)))], [(q9, .inl (kA 0, 8, .inl (fun _ => 0)))], [(q10, .inl (kA 1, 64, .inl (fun _ => 0)))], [(q11, .inl (kA 0, 8, .inl (fun _ => 0)))], [(q12, .inl (kA 0, 24, .inl (fun _ => 0)))], [(q13, .inl (kA 0, 576, .inl (fun _ => 0)))]]) H := hP
  have hD : va_D A (cat [[(h, .inr (3, [.int 0, .int 0, .int 1, .ref q1, .ref q2, .ref q3, .ref q4, .ref q5, .ref q6, .ref q7, .ref q8, .ref q9, .ref q10, .ref q11, .ref q12, .ref q13, .null, .int 0, .int 0]))], [(q1, .inl (kA 1, 192, .inl (fun _ => 0)))], [(q2, .inl (kA 0, 24, .inl (fun _ => 0)))], [(q3, .inl (kA 0, 24, .inl (fun _ => 0)))], [(q4, .inl (kA 0, 24, .inl (fun _ => 0)))], [(q5, .inl (kA 0, 48, .inl (fun _ => 0)))], [(q6, .inl (kA 0, 48, .inl (fun _ => 0)))], [(q7, .inl (kA 0, 48, .inl (fun _ => 0)))], [(q8, .inl (kA 0, 48, .inl (fun _ => 0)))], [(q9, .inl (kA 0, 8, .inl (fun _ => 0)))], [(q10, .inl (kA 1, 64, .inl (fun _ => 0)))], [(q11, .inl (kA 0, 8, .inl (fun _ => 0)))], [(q12, .inl (kA 0, 24, .inl (fun _ => 0)))], [(q13, .inl (kA 0, 576, .inl (fun _ => 0)))]]) := hD
  refine lv_aload_n (pc := 125) hx hb d_Gr_init_125 rfl (lv_at hl 0 rfl) ?_
  refine lv_null (pc := 126) hx hb d_Gr_init_126 ?_
  refine k_put (pc := 127) X hK hP hD hS 0 rfl rfl i_Gr t_Gr t_Gr_ok n_Gr 16 (by decide) wm_148 rfl (Or.inl rfl) rfl rfl (Nat.le_of_ble_eq_true rfl) d_Gr_init_127 (fun H locs hP hD hS => ?_)
  have hP : va_P D classes (cat [[(h, .inr (3, [.int 0, .int 0, .int 1, .ref q1, .ref q2, .ref q3, .ref q4, .ref q5, .ref q6, .ref q7, .ref q8, .ref q9, .ref q10, .ref q11, .ref q12, .ref q13, .null, .int 0, .int 0]))], [(q1, .inl (kA 1, 192, .inl (fun _ => 0)))], [(q2, .inl (kA 0, 24, .inl (fun _ => 0)))], [(q3, .inl (kA 0, 24, .inl (fun _ => 0)))], [(q4, .inl (kA 0, 24, .inl (fun _ => 0)))], [(q5, .inl (kA 0, 48, .inl (fun _ => 0)))], [(q6, .inl (kA 0, 48, .inl (fun _ => 0)))], [(q7, .inl (kA 0, 48, .inl (fun _ => 0)))], [(q8, .inl (kA 0, 48, .inl (fun _ => 0)))], [(q9, .inl (kA 0, 8, .inl (fun _ => 0)))], [(q10, .inl (kA 1, 64, .inl (fun _ => 0)))], [(q11, .inl (kA 0, 8, .inl (fun _ => 0)))], [(q12, .inl (kA 0, 24, .inl (fun _ => 0)))], [(q13, .inl (kA 0, 576, .inl (fun _ => 0)))]]) H := hP
  have hD : va_D A (cat [[(h, .inr (3, [.int 0, .int 0, .int 1, .ref q1, .ref q2, .ref q3, .ref q4, .ref q5, .ref q6, .ref q7, .ref q8, .ref q9, .ref q10, .ref q11, .ref q12, .ref q13, .null, .int 0, .int 0]))], [(q1, .inl (kA 1, 192, .inl (fun _ => 0)))], [(q2, .inl (kA 0, 24, .inl (fun _ => 0)))], [(q3, .inl (kA 0, 24, .inl (fun _ => 0)))], [(q4, .inl (kA 0, 24, .inl (fun _ => 0)))], [(q5, .inl (kA 0, 48, .inl (fun _ => 0)))], [(q6, .inl (kA 0, 48, .inl (fun _ => 0)))], [(q7, .inl (kA 0, 48, .inl (fun _ => 0)))], [(q8, .inl (kA 0, 48, .inl (fun _ => 0)))], [(q9, .inl (kA 0, 8, .inl (fun _ => 0)))], [(q10, .inl (kA 1, 64, .inl (fun _ => 0)))], [(q11, .inl (kA 0, 8, .inl (fun _ => 0)))], [(q12, .inl (kA 0, 24, .inl (fun _ => 0)))], [(q13, .inl (kA 0, 576, .inl (fun _ => 0)))]]) := hD
  refine lv_aload_n (pc := 130) hx hb d_Gr_init_130 rfl (lv_at hl 0 rfl) ?_
  refine lv_iconst (pc := 131) (v := 0) hx hb d_Gr_init_131 (by decide) ?_
  refine k_put (pc := 132) X hK hP hD hS 0 rfl rfl i_Gr t_Gr t_Gr_ok n_Gr 17 (by decide) wm_149 rfl (Or.inl rfl) rfl rfl (Nat.le_of_ble_eq_true rfl) d_Gr_init_132 (fun H locs hP hD hS => ?_)
  have hP : va_P D classes (cat [[(h, .inr (3, [.int 0, .int 0, .int 1, .ref q1, .ref q2, .ref q3, .ref q4, .ref q5, .ref q6, .ref q7, .ref q8, .ref q9, .ref q10, .ref q11, .ref q12, .ref q13, .null, .int 0, .int 0]))], [(q1, .inl (kA 1, 192, .inl (fun _ => 0)))], [(q2, .inl (kA 0, 24, .inl (fun _ => 0)))], [(q3, .inl (kA 0, 24, .inl (fun _ => 0)))], [(q4, .inl (kA 0, 24, .inl (fun _ => 0)))], [(q5, .inl (kA 0, 48, .inl (fun _ => 0)))], [(q6, .inl (kA 0, 48, .inl (fun _ => 0)))], [(q7, .inl (kA 0, 48, .inl (fun _ => 0)))], [(q8, .inl (kA 0, 48, .inl (fun _ => 0)))], [(q9, .inl (kA 0, 8, .inl (fun _ => 0)))], [(q10, .inl (kA 1, 64, .inl (fun _ => 0)))], [(q11, .inl (kA 0, 8, .inl (fun _ => 0)))], [(q12, .inl (kA 0, 24, .inl (fun _ => 0)))], [(q13, .inl (kA 0, 576, .inl (fun _ => 0)))]]) H := hP
  have hD : va_D A (cat [[(h, .inr (3, [.int 0, .int 0, .int 1, .ref q1, .ref q2, .ref q3, .ref q4, .ref q5, .ref q6, .ref q7, .ref q8, .ref q9, .ref q10, .ref q11, .ref q12, .ref q13, .null, .int 0, .int 0]))], [(q1, .inl (kA 1, 192, .inl (fun _ => 0)))], [(q2, .inl (kA 0, 24, .inl (fun _ => 0)))], [(q3, .inl (kA 0, 24, .inl (fun _ => 0)))], [(q4, .inl (kA 0, 24, .inl (fun _ => 0)))], [(q5, .inl (kA 0, 48, .inl (fun _ => 0)))], [(q6, .inl (kA 0, 48, .inl (fun _ => 0)))], [(q7, .inl (kA 0, 48, .inl (fun _ => 0)))], [(q8, .inl (kA 0, 48, .inl (fun _ => 0)))], [(q9, .inl (kA 0, 8, .inl (fun _ => 0)))], [(q10, .inl (kA 1, 64, .inl (fun _ => 0)))], [(q11, .inl (kA 0, 8, .inl (fun _ => 0)))], [(q12, .inl (kA 0, 24, .inl (fun _ => 0)))], [(q13, .inl (kA 0, 576, .inl (fun _ => 0)))]]) := hD
  refine lv_aload_n (pc := 135) hx hb d_Gr_init_135 rfl (lv_at hl 0 rfl) ?_
  refine lv_iconst (pc := 136) (v := 0) hx hb d_Gr_init_136 (by decide) ?_
  refine k_put (pc := 137) X hK hP hD hS 0 rfl rfl i_Gr t_Gr t_Gr_ok n_Gr 18 (by decide) wm_151 rfl (Or.inl rfl) rfl rfl (Nat.le_of_ble_eq_true rfl) d_Gr_init_137 (fun H locs hP hD hS => ?_)
  have hP : va_P D classes (cat [[(h, .inr (3, [.int 0, .int 0, .int 1, .ref q1, .ref q2, .ref q3, .ref q4, .ref q5, .ref q6, .ref q7, .ref q8, .ref q9, .ref q10, .ref q11, .ref q12, .ref q13, .null, .int 0, .int 0]))], [(q1, .inl (kA 1, 192, .inl (fun _ => 0)))], [(q2, .inl (kA 0, 24, .inl (fun _ => 0)))], [(q3, .inl (kA 0, 24, .inl (fun _ => 0)))], [(q4, .inl (kA 0, 24, .inl (fun _ => 0)))], [(q5, .inl (kA 0, 48, .inl (fun _ => 0)))], [(q6, .inl (kA 0, 48, .inl (fun _ => 0)))], [(q7, .inl (kA 0, 48, .inl (fun _ => 0)))], [(q8, .inl (kA 0, 48, .inl (fun _ => 0)))], [(q9, .inl (kA 0, 8, .inl (fun _ => 0)))], [(q10, .inl (kA 1, 64, .inl (fun _ => 0)))], [(q11, .inl (kA 0, 8, .inl (fun _ => 0)))], [(q12, .inl (kA 0, 24, .inl (fun _ => 0)))], [(q13, .inl (kA 0, 576, .inl (fun _ => 0)))]]) H := hP
  have hD : va_D A (cat [[(h, .inr (3, [.int 0, .int 0, .int 1, .ref q1, .ref q2, .ref q3, .ref q4, .ref q5, .ref q6, .ref q7, .ref q8, .ref q9, .ref q10, .ref q11, .ref q12, .ref q13, .null, .int 0, .int 0]))], [(q1, .inl (kA 1, 192, .inl (fun _ => 0)))], [(q2, .inl (kA 0, 24, .inl (fun _ => 0)))], [(q3, .inl (kA 0, 24, .inl (fun _ => 0)))], [(q4, .inl (kA 0, 24, .inl (fun _ => 0)))], [(q5, .inl (kA 0, 48, .inl (fun _ => 0)))], [(q6, .inl (kA 0, 48, .inl (fun _ => 0)))], [(q7, .inl (kA 0, 48, .inl (fun _ => 0)))], [(q8, .inl (kA 0, 48, .inl (fun _ => 0)))], [(q9, .inl (kA 0, 8, .inl (fun _ => 0)))], [(q10, .inl (kA 1, 64, .inl (fun _ => 0)))], [(q11, .inl (kA 0, 8, .inl (fun _ => 0)))], [(q12, .inl (kA 0, 24, .inl (fun _ => 0)))], [(q13, .inl (kA 0, 576, .inl (fun _ => 0)))]]) := hD
  refine lv_aload_n (pc := 140) hx hb d_Gr_init_140 rfl (lv_at hl 0 rfl) ?_
  refine k_get (pc := 141) X hK hP 0 rfl rfl i_Gr 11 (by decide) wm_130 rfl rfl d_Gr_init_141 ?_
  refine lv_iconst (pc := 144) (v := 0) hx hb d_Gr_init_144 (by decide) ?_
  refine lv_iconst (pc := 145) (v := -1) hx hb d_Gr_init_145 (by decide) ?_
  refine va_iast (pc := 146) hx hb hK hP hD hS 9 0 rfl rfl (by unfold vp_in; decide) d_Gr_init_146 (fun H locs hP hD hS => ?_)
  have hP : va_P D classes (cat [[(h, .inr (3, [.int 0, .int 0, .int 1, .ref q1, .ref q2, .ref q3, .ref q4, .ref q5, .ref q6, .ref q7, .ref q8, .ref q9, .ref q10, .ref q11, .ref q12, .ref q13, .null, .int 0, .int 0]))], [(q1, .inl (kA 1, 192, .inl (fun _ => 0)))], [(q2, .inl (kA 0, 24, .inl (fun _ => 0)))], [(q3, .inl (kA 0, 24, .inl (fun _ => 0)))], [(q4, .inl (kA 0, 24, .inl (fun _ => 0)))], [(q5, .inl (kA 0, 48, .inl (fun _ => 0)))], [(q6, .inl (kA 0, 48, .inl (fun _ => 0)))], [(q7, .inl (kA 0, 48, .inl (fun _ => 0)))], [(q8, .inl (kA 0, 48, .inl (fun _ => 0)))], [(q9, .inl (kA 0, 8, .inl (upd (fun _ => 0) 0 (-1))))], [(q10, .inl (kA 1, 64, .inl (fun _ => 0)))], [(q11, .inl (kA 0, 8, .inl (fun _ => 0)))], [(q12, .inl (kA 0, 24, .inl (fun _ => 0)))], [(q13, .inl (kA 0, 576, .inl (fun _ => 0)))]]) H := hP
  have hD : va_D A (cat [[(h, .inr (3, [.int 0, .int 0, .int 1, .ref q1, .ref q2, .ref q3, .ref q4, .ref q5, .ref q6, .ref q7, .ref q8, .ref q9, .ref q10, .ref q11, .ref q12, .ref q13, .null, .int 0, .int 0]))], [(q1, .inl (kA 1, 192, .inl (fun _ => 0)))], [(q2, .inl (kA 0, 24, .inl (fun _ => 0)))], [(q3, .inl (kA 0, 24, .inl (fun _ => 0)))], [(q4, .inl (kA 0, 24, .inl (fun _ => 0)))], [(q5, .inl (kA 0, 48, .inl (fun _ => 0)))], [(q6, .inl (kA 0, 48, .inl (fun _ => 0)))], [(q7, .inl (kA 0, 48, .inl (fun _ => 0)))], [(q8, .inl (kA 0, 48, .inl (fun _ => 0)))], [(q9, .inl (kA 0, 8, .inl (upd (fun _ => 0) 0 (-1))))], [(q10, .inl (kA 1, 64, .inl (fun _ => 0)))], [(q11, .inl (kA 0, 8, .inl (fun _ => 0)))], [(q12, .inl (kA 0, 24, .inl (fun _ => 0)))], [(q13, .inl (kA 0, 576, .inl (fun _ => 0)))]]) := hD
  refine lv_aload_n (pc := 147) hx hb d_Gr_init_147 rfl (lv_at hl 0 rfl) ?_
  refine k_get (pc := 148) X hK hP 0 rfl rfl i_Gr 15 (by decide) wm_147 rfl rfl d_Gr_init_148 ?_
  refine lv_iconst (pc := 151) (v := -1) hx hb d_Gr_init_151 (by decide) ?_
  refine k_goV (gr := [[(h, .inr (3, [.int 0, .int 0, .int 1, .ref q1, .ref q2, .ref q3, .ref q4, .ref q5, .ref q6, .ref q7, .ref q8, .ref q9, .ref q10, .ref q11, .ref q12, .ref q13, .null, .int 0, .int 0]))], [(q1, .inl (kA 1, 192, .inl (fun _ => 0)))], [(q2, .inl (kA 0, 24, .inl (fun _ => 0)))], [(q3, .inl (kA 0, 24, .inl (fun _ => 0)))], [(q4, .inl (kA 0, 24, .inl (fun _ => 0)))], [(q5, .inl (kA 0, 48, .inl (fun _ => 0)))], [(q6, .inl (kA 0, 48, .inl (fun _ => 0)))], [(q7, .inl (kA 0, 48, .inl (fun _ => 0)))], [(q8, .inl (kA 0, 48, .inl (fun _ => 0)))], [(q9, .inl (kA 0, 8, .inl (upd (fun _ => 0) 0 (-1))))], [(q10, .inl (kA 1, 64, .inl (fun _ => 0)))], [(q11, .inl (kA 0, 8, .inl (fun _ => 0)))], [(q12, .inl (kA 0, 24, .inl (fun _ => 0)))]]) (k_rS (pc := 152) (As := [.ref q13, .int ((-1))]) (rest := []) X (c_fillI l D (TY kA) 0 (kA 0) rfl q13 576 (by decide) (fun _ => 0) (-1) H.size) rfl wm_55 wm_4 wm_53 wm_54 2 (by decide +kernel) ⟨Nat.le_of_ble_eq_true rfl, Nat.le_of_ble_eq_true rfl⟩ rfl rfl (k_pre hN hK hP hD [13] [0, 1, 2, 3, 4, 5, 6, 7, 8, 9, 10, 11, 12] 14 rfl (by decide) rfl) rfl hl.1 rfl (Nat.le_of_ble_eq_true rfl) d_Gr_init_152 ⟨Nat.le_of_ble_eq_true rfl, Nat.le_of_ble_eq_true rfl⟩) hP hD hS hA [13] [0, 1, 2, 3, 4, 5, 6, 7, 8, 9, 10, 11, 12] 14 rfl (by decide) rfl rfl (fun u14 H locs hu14 hP hD hS => ?_)
  have hP : va_P D classes (cat [[(h, .inr (3, [.int 0, .int 0, .int 1, .ref q1, .ref q2, .ref q3, .ref q4, .ref q5, .ref q6, .ref q7, .ref q8, .ref q9, .ref q10, .ref q11, .ref q12, .ref q13, .null, .int 0, .int 0]))], [(q1, .inl (kA 1, 192, .inl (fun _ => 0)))], [(q2, .inl (kA 0, 24, .inl (fun _ => 0)))], [(q3, .inl (kA 0, 24, .inl (fun _ => 0)))], [(q4, .inl (kA 0, 24, .inl (fun _ => 0)))], [(q5, .inl (kA 0, 48, .inl (fun _ => 0)))], [(q6, .inl (kA 0, 48, .inl (fun _ => 0)))], [(q7, .inl (kA 0, 48, .inl (fun _ => 0)))], [(q8, .inl (kA 0, 48, .inl (fun _ => 0)))], [(q9, .inl (kA 0, 8, .inl (upd (fun _ => 0) 0 (-1))))], [(q10, .inl (kA 1, 64, .inl (fun _ => 0)))], [(q11, .inl (kA 0, 8, .inl (fun _ => 0)))], [(q12, .inl (kA 0, 24, .inl (fun _ => 0)))], [(q13, .inl (kA 0, 576, .inl (fl (fun _ => 0) 576 (-1))))]]) H := hP
  have hD : va_D A (cat [[(h, .inr (3, [.int 0, .int 0, .int 1, .ref q1, .ref q2, .ref q3, .ref q4, .ref q5, .ref q6, .ref q7, .ref q8, .ref q9, .ref q10, .ref q11, .ref q12, .ref q13, .null, .int 0, .int 0]))], [(q1, .inl (kA 1, 192, .inl (fun _ => 0)))], [(q2, .inl (kA 0, 24, .inl (fun _ => 0)))], [(q3, .inl (kA 0, 24, .inl (fun _ => 0)))], [(q4, .inl (kA 0, 24, .inl (fun _ => 0)))], [(q5, .inl (kA 0, 48, .inl (fun _ => 0)))], [(q6, .inl (kA 0, 48, .inl (fun _ => 0)))], [(q7, .inl (kA 0, 48, .inl (fun _ => 0)))], [(q8, .inl (kA 0, 48, .inl (fun _ => 0)))], [(q9, .inl (kA 0, 8, .inl (upd (fun _ => 0) 0 (-1))))], [(q10, .inl (kA 1, 64, .inl (fun _ => 0)))], [(q11, .inl (kA 0, 8, .inl (fun _ => 0)))], [(q12, .inl (kA 0, 24, .inl (fun _ => 0)))], [(q13, .inl (kA 0, 576, .inl (fl (fun _ => 0) 576 (-1))))]]) := hD
  obtain ⟨hP, hD⟩ := k_ord (gc := [[(h, .inr (3, [.int 0, .int 0, .int 1, .ref q1, .ref q2, .ref q3, .ref q4, .ref q5, .ref q6, .ref q7, .ref q8, .ref q9, .ref q10, .ref q11, .ref q12, .ref q13, .null, .int 0, .int 0]))], [(q1, .inl (kA 1, 192, .inl (fun _ => 0)))], [(q2, .inl (kA 0, 24, .inl (fun _ => 0)))], [(q3, .inl (kA 0, 24, .inl (fun _ => 0)))], [(q4, .inl (kA 0, 24, .inl (fun _ => 0)))], [(q5, .inl (kA 0, 48, .inl (fun _ => 0)))], [(q6, .inl (kA 0, 48, .inl (fun _ => 0)))], [(q7, .inl (kA 0, 48, .inl (fun _ => 0)))], [(q8, .inl (kA 0, 48, .inl (fun _ => 0)))], [(q9, .inl (kA 0, 8, .inl (upd (fun _ => 0) 0 (-1))))], [(q10, .inl (kA 1, 64, .inl (fun _ => 0)))], [(q11, .inl (kA 0, 8, .inl (fun _ => 0)))], [(q12, .inl (kA 0, 24, .inl (fun _ => 0)))], [(q13, .inl (kA 0, 576, .inl (fl (fun _ => 0) 576 (-1))))]]) hP hD [0, 1, 2, 3, 4, 5, 6, 7, 8, 9, 10, 11, 12, 13] 14 rfl (by decide) rfl
  refine W.widen (k := 13) (n := 1136) (Nat.le_of_ble_eq_true rfl) (Nat.le_of_ble_eq_true rfl) ?_
  exact W.vret hx hb hr (fun t ht hW => ⟨⟨(fun k => match k with | 3 => q1 | 4 => q2 | 5 => q3 | 6 => q4 | 7 => q5 | 8 => q6 | 9 => q7 | 10 => q8 | 11 => q9 | 12 => q10 | 13 => q11 | 14 => q12 | 15 => q13 | _ => 0), rfl, trivial, by rw [ht]; exact hP, va_K.moved hW.alike hK, hD⟩, hS.F ht⟩) hS.2.2 d_Gr_init_155
end
section
theorem wm_387 : (Cond.arrayClass ClassFile.FieldType.boolean : Cond) ∈ lw_g := lw_gi (lw_c2 (List.mem_of_getElem? (i := 147) rfl)) rfl
theorem wm_392 : (Cond.code ({ cls := "DrawingHouse$Facts", name := "<init>", desc := "()V" } : MethodName) prog_4_method_1_code (1 : Nat) (Option.none : Option ClassFile.FieldType) : Cond) ∈ lw_g := lw_gi (lw_c2 (List.mem_of_getElem? (i := 152) rfl)) rfl
theorem wm_393 : (Cond.methodLink "DrawingHouse$Facts" (3 : Nat) ({ cls := "java/lang/Object", name := "<init>", desc := "()V" } : MethodName) : Cond) ∈ lw_g := lw_gi (lw_c2 (List.mem_of_getElem? (i := 153) rfl)) rfl
theorem wm_394 : (Cond.fieldLink "DrawingHouse$Facts" (9 : Nat) "DrawingHouse$Facts" "known" "Z" : Cond) ∈ lw_g := lw_gi (lw_c2 (List.mem_of_getElem? (i := 154) rfl)) rfl
theorem wm_396 : (Cond.fieldLink "DrawingHouse$Facts" (15 : Nat) "DrawingHouse$Facts" "parts" "I" : Cond) ∈ lw_g := lw_gi (lw_c2 (List.mem_of_getElem? (i := 156) rfl)) rfl
theorem wm_400 : (Cond.fieldLink "DrawingHouse$Facts" (19 : Nat) "DrawingHouse$Facts" "blocks" "I" : Cond) ∈ lw_g := lw_gi (lw_c2 (List.mem_of_getElem? (i := 160) rfl)) rfl
theorem wm_403 : (Cond.fieldLink "DrawingHouse$Facts" (22 : Nat) "DrawingHouse$Facts" "strongs" "I" : Cond) ∈ lw_g := lw_gi (lw_c2 (List.mem_of_getElem? (i := 163) rfl)) rfl
theorem wm_405 : (Cond.fieldLink "DrawingHouse$Facts" (25 : Nat) "DrawingHouse$Facts" "part" "[I" : Cond) ∈ lw_g := lw_gi (lw_c2 (List.mem_of_getElem? (i := 165) rfl)) rfl
theorem wm_409 : (Cond.fieldLink "DrawingHouse$Facts" (29 : Nat) "DrawingHouse$Facts" "block" "[I" : Cond) ∈ lw_g := lw_gi (lw_c2 (List.mem_of_getElem? (i := 169) rfl)) rfl
theorem wm_412 : (Cond.fieldLink "DrawingHouse$Facts" (32 : Nat) "DrawingHouse$Facts" "strong" "[I" : Cond) ∈ lw_g := lw_gi (lw_c2 (List.mem_of_getElem? (i := 172) rfl)) rfl
theorem wm_414 : (Cond.fieldLink "DrawingHouse$Facts" (35 : Nat) "DrawingHouse$Facts" "core" "[I" : Cond) ∈ lw_g := lw_gi (lw_c2 (List.mem_of_getElem? (i := 174) rfl)) rfl
theorem wm_417 : (Cond.fieldLink "DrawingHouse$Facts" (38 : Nat) "DrawingHouse$Facts" "blocksAt" "[I" : Cond) ∈ lw_g := lw_gi (lw_c2 (List.mem_of_getElem? (i := 177) rfl)) rfl
theorem wm_420 : (Cond.fieldLink "DrawingHouse$Facts" (41 : Nat) "DrawingHouse$Facts" "turned" "[Z" : Cond) ∈ lw_g := lw_gi (lw_c2 (List.mem_of_getElem? (i := 180) rfl)) rfl
theorem wm_423 : (Cond.fieldLink "DrawingHouse$Facts" (45 : Nat) "DrawingHouse$Facts" "reach" "[I" : Cond) ∈ lw_g := lw_gi (lw_c2 (List.mem_of_getElem? (i := 183) rfl)) rfl
theorem wm_424 : (Cond.fieldLink "DrawingHouse$Facts" (48 : Nat) "DrawingHouse$Facts" "loop" "[I" : Cond) ∈ lw_g := lw_gi (lw_c2 (List.mem_of_getElem? (i := 184) rfl)) rfl
theorem wm_425 : (Cond.fieldLink "DrawingHouse$Facts" (51 : Nat) "DrawingHouse$Facts" "rank" "[I" : Cond) ∈ lw_g := lw_gi (lw_c2 (List.mem_of_getElem? (i := 185) rfl)) rfl
theorem wm_426 : (Cond.fieldLink "DrawingHouse$Facts" (54 : Nat) "DrawingHouse$Facts" "member" "[I" : Cond) ∈ lw_g := lw_gi (lw_c2 (List.mem_of_getElem? (i := 186) rfl)) rfl
theorem wm_427 : (Cond.fieldLink "DrawingHouse$Facts" (57 : Nat) "DrawingHouse$Facts" "least" "[I" : Cond) ∈ lw_g := lw_gi (lw_c2 (List.mem_of_getElem? (i := 187) rfl)) rfl
abbrev b_Fa_init : ByteArray := prog_4_method_1_code
def y_Fa_init : MethodName := ⟨"DrawingHouse$Facts", "<init>", "()V"⟩
abbrev z_Fa_init : List Cond := Cond.code y_Fa_init b_Fa_init 1 none :: lw_g
theorem d_Fa_init_0 : decode b_Fa_init 0 = .ok (.aload_n 0, 1) := by decide +kernel
theorem d_Fa_init_1 : decode b_Fa_init 1 = .ok (.invokespecial 3, 3) := by decide +kernel
theorem d_Fa_init_4 : decode b_Fa_init 4 = .ok (.aload_n 0, 1) := by decide +kernel
theorem d_Fa_init_5 : decode b_Fa_init 5 = .ok (.iconst 0, 1) := by decide +kernel
theorem d_Fa_init_6 : decode b_Fa_init 6 = .ok (.putfield 9, 3) := by decide +kernel
theorem d_Fa_init_9 : decode b_Fa_init 9 = .ok (.aload_n 0, 1) := by decide +kernel
theorem d_Fa_init_10 : decode b_Fa_init 10 = .ok (.iconst 0, 1) := by decide +kernel
theorem d_Fa_init_11 : decode b_Fa_init 11 = .ok (.putfield 15, 3) := by decide +kernel
theorem d_Fa_init_14 : decode b_Fa_init 14 = .ok (.aload_n 0, 1) := by decide +kernel
theorem d_Fa_init_15 : decode b_Fa_init 15 = .ok (.iconst 0, 1) := by decide +kernel
theorem d_Fa_init_16 : decode b_Fa_init 16 = .ok (.putfield 19, 3) := by decide +kernel
theorem d_Fa_init_19 : decode b_Fa_init 19 = .ok (.aload_n 0, 1) := by decide +kernel
theorem d_Fa_init_20 : decode b_Fa_init 20 = .ok (.iconst 0, 1) := by decide +kernel
theorem d_Fa_init_21 : decode b_Fa_init 21 = .ok (.putfield 22, 3) := by decide +kernel
theorem d_Fa_init_24 : decode b_Fa_init 24 = .ok (.aload_n 0, 1) := by decide +kernel
theorem d_Fa_init_25 : decode b_Fa_init 25 = .ok (.bipush 24, 2) := by decide +kernel
theorem d_Fa_init_27 : decode b_Fa_init 27 = .ok (.newarray .int, 2) := by decide +kernel
theorem d_Fa_init_29 : decode b_Fa_init 29 = .ok (.putfield 25, 3) := by decide +kernel
theorem d_Fa_init_32 : decode b_Fa_init 32 = .ok (.aload_n 0, 1) := by decide +kernel
theorem d_Fa_init_33 : decode b_Fa_init 33 = .ok (.bipush 48, 2) := by decide +kernel
theorem d_Fa_init_35 : decode b_Fa_init 35 = .ok (.newarray .int, 2) := by decide +kernel
theorem d_Fa_init_37 : decode b_Fa_init 37 = .ok (.putfield 29, 3) := by decide +kernel
theorem d_Fa_init_40 : decode b_Fa_init 40 = .ok (.aload_n 0, 1) := by decide +kernel
theorem d_Fa_init_41 : decode b_Fa_init 41 = .ok (.bipush 24, 2) := by decide +kernel
theorem d_Fa_init_43 : decode b_Fa_init 43 = .ok (.newarray .int, 2) := by decide +kernel
theorem d_Fa_init_45 : decode b_Fa_init 45 = .ok (.putfield 32, 3) := by decide +kernel
theorem d_Fa_init_48 : decode b_Fa_init 48 = .ok (.aload_n 0, 1) := by decide +kernel
theorem d_Fa_init_49 : decode b_Fa_init 49 = .ok (.bipush 24, 2) := by decide +kernel
theorem d_Fa_init_51 : decode b_Fa_init 51 = .ok (.newarray .int, 2) := by decide +kernel
theorem d_Fa_init_53 : decode b_Fa_init 53 = .ok (.putfield 35, 3) := by decide +kernel
theorem d_Fa_init_56 : decode b_Fa_init 56 = .ok (.aload_n 0, 1) := by decide +kernel
theorem d_Fa_init_57 : decode b_Fa_init 57 = .ok (.bipush 24, 2) := by decide +kernel
theorem d_Fa_init_59 : decode b_Fa_init 59 = .ok (.newarray .int, 2) := by decide +kernel
theorem d_Fa_init_61 : decode b_Fa_init 61 = .ok (.putfield 38, 3) := by decide +kernel
theorem d_Fa_init_64 : decode b_Fa_init 64 = .ok (.aload_n 0, 1) := by decide +kernel
theorem d_Fa_init_65 : decode b_Fa_init 65 = .ok (.bipush 48, 2) := by decide +kernel
theorem d_Fa_init_67 : decode b_Fa_init 67 = .ok (.newarray .boolean, 2) := by decide +kernel
theorem d_Fa_init_69 : decode b_Fa_init 69 = .ok (.putfield 41, 3) := by decide +kernel
theorem d_Fa_init_72 : decode b_Fa_init 72 = .ok (.aload_n 0, 1) := by decide +kernel
theorem d_Fa_init_73 : decode b_Fa_init 73 = .ok (.bipush 24, 2) := by decide +kernel
theorem d_Fa_init_75 : decode b_Fa_init 75 = .ok (.newarray .int, 2) := by decide +kernel
theorem d_Fa_init_77 : decode b_Fa_init 77 = .ok (.putfield 45, 3) := by decide +kernel
theorem d_Fa_init_80 : decode b_Fa_init 80 = .ok (.aload_n 0, 1) := by decide +kernel
theorem d_Fa_init_81 : decode b_Fa_init 81 = .ok (.bipush 24, 2) := by decide +kernel
theorem d_Fa_init_83 : decode b_Fa_init 83 = .ok (.newarray .int, 2) := by decide +kernel
theorem d_Fa_init_85 : decode b_Fa_init 85 = .ok (.putfield 48, 3) := by decide +kernel
theorem d_Fa_init_88 : decode b_Fa_init 88 = .ok (.aload_n 0, 1) := by decide +kernel
theorem d_Fa_init_89 : decode b_Fa_init 89 = .ok (.bipush 24, 2) := by decide +kernel
theorem d_Fa_init_91 : decode b_Fa_init 91 = .ok (.newarray .int, 2) := by decide +kernel
theorem d_Fa_init_93 : decode b_Fa_init 93 = .ok (.putfield 51, 3) := by decide +kernel
theorem d_Fa_init_96 : decode b_Fa_init 96 = .ok (.aload_n 0, 1) := by decide +kernel
theorem d_Fa_init_97 : decode b_Fa_init 97 = .ok (.bipush 24, 2) := by decide +kernel
theorem d_Fa_init_99 : decode b_Fa_init 99 = .ok (.newarray .int, 2) := by decide +kernel
theorem d_Fa_init_101 : decode b_Fa_init 101 = .ok (.putfield 54, 3) := by decide +kernel
theorem d_Fa_init_104 : decode b_Fa_init 104 = .ok (.aload_n 0, 1) := by decide +kernel
theorem d_Fa_init_105 : decode b_Fa_init 105 = .ok (.sipush 128, 3) := by decide +kernel
theorem d_Fa_init_108 : decode b_Fa_init 108 = .ok (.newarray .int, 2) := by decide +kernel
theorem d_Fa_init_110 : decode b_Fa_init 110 = .ok (.putfield 57, 3) := by decide +kernel
theorem d_Fa_init_113 : decode b_Fa_init 113 = .ok (.return_, 1) := by decide +kernel
abbrev f0Fa : List Value := [.int 0, .int 0, .int 0, .int 0, .null, .null, .null, .null, .null, .null, .null, .null, .null, .null, .null]
set_option maxRecDepth 20000 in
theorem f0Fa_ok : ∀ j, j < 15 → defaultValue (t_Fa j) = vp_V f0Fa j := by decide +kernel
def wFa (kA : Nat → ClassId) (h : Nat) (q : Nat → Nat) (x : Nat → Int32) (a : Nat → Nat → Int32) : va_W := [(h, .inr (2, [.int (x 0), .int (x 1), .int (x 2), .int (x 3), .ref (q 4), .ref (q 5), .ref (q 6), .ref (q 7), .ref (q 8), .ref (q 9), .ref (q 10), .ref (q 11), .ref (q 12), .ref (q 13), .ref (q 14)])), (q 4, .inl (kA 0, 24, .inl (a 4))), (q 5, .inl (kA 0, 48, .inl (a 5))), (q 6, .inl (kA 0, 24, .inl (a 6))), (q 7, .inl (kA 0, 24, .inl (a 7))), (q 8, .inl (kA 0, 24, .inl (a 8))), (q 9, .inl (kA 2, 48, .inl (a 9))), (q 10, .inl (kA 0, 24, .inl (a 10))), (q 11, .inl (kA 0, 24, .inl (a 11))), (q 12, .inl (kA 0, 24, .inl (a 12))), (q 13, .inl (kA 0, 24, .inl (a 13))), (q 14, .inl (kA 0, 128, .inl (a 14)))]
def x0Fa : Nat → Int32 := fun _ => 0
def a0Fa : Nat → Nat → Int32 := fun _ => fun _ => 0
set_option maxRecDepth 100000 in
set_option maxHeartbeats 4000000 in
/-- DrawingHouse$Facts()V -/
theorem c_Fa_init (l : Launch) (D : va_G) (kA : Nat → ClassId) (h : Nat) : Cv l y_Fa_init z_Fa_init { frames := 1, cells := 11, slots := 416, locals := 12 } D classes (TY kA) [.ref h] [[(h, .inr (2, f0Fa))]] (fun u : (Nat → Nat) => True) (fun u => [wFa kA h u x0Fa a0Fa]) 11 416 := by
  intro sz
  refine k_met (cc := b_Fa_init) (maxL := 1) (ret := none) (by decide) rfl (Nat.le_of_ble_eq_true rfl) (fun p e s m below meth c ls X hl hB => ?_)
  obtain ⟨hsz, hP, hK, hD0, hN⟩ := hB
  subst hsz
  have hD := hD0.self (sz := s.heap.size)
  generalize hAe : va_A (cat [[(h, .inr (2, [.int 0, .int 0, .int 0, .int 0, .null, .null, .null, .null, .null, .null, .null, .null, .null, .null, .null]))]]) s.heap.size = A at hD ⊢
  have hA : ∀ q : Nat, s.heap.size ≤ q → A q := fun q h => by rw [← hAe]; exact Or.inr h
  have hS : va_S A s.heap s.heap [] := va_S.rf
  obtain ⟨hx, hb, hml, hown, hts, hr, hlk, hnm⟩ := id X
  have hl : lv_has ls 1 [(0, .ref h)] := hl
  have hP : va_P D classes (cat [[(h, .inr (2, [.int 0, .int 0, .int 0, .int 0, .null, .null, .null, .null, .null, .null, .null, .null, .null, .null, .null]))]]) s.heap := hP
  have hK : va_K D classes (TY kA) s := hK
  refine lv_aload_n (pc := 0) hx hb d_Fa_init_0 rfl (lv_at hl 0 rfl) ?_
  refine W.objInit hx hb hown (hts _ wm_393) (hts _ wm_31) (hts _ wm_32) rfl (by rw [hml]; exact hl.1) rfl d_Fa_init_1 (Nat.le_of_ble_eq_true rfl) (Nat.le_of_ble_eq_true rfl) ?_
  refine W.eq (g2 := F0 m 4 ls []) rfl ?_
  refine lv_aload_n (pc := 4) hx hb d_Fa_init_4 rfl (lv_at hl 0 rfl) ?_
  refine lv_iconst (pc := 5) (v := 0) hx hb d_Fa_init_5 (by decide) ?_
  refine k_put (pc := 6) X hK hP hD hS 0 rfl rfl i_Fa t_Fa t_Fa_ok n_Fa 0 (by decide) wm_394 rfl (Or.inl rfl) rfl rfl (Nat.le_of_ble_eq_true rfl) d_Fa_init_6 (fun H locs hP hD hS => ?_)
  have hP : va_P D classes (cat [[(h, .inr (2, [.int 0, .int 0, .int 0, .int 0, .null, .null, .null, .null, .null, .null, .null, .null, .null, .null, .null]))]]) H := hP
  have hD : va_D A (cat [[(h, .inr (2, [.int 0, .int 0, .int 0, .int 0, .null, .null, .null, .null, .null, .null, .null, .null, .null, .null, .null]))]]) := hD
  refine lv_aload_n (pc := 9) hx hb d_Fa_init_9 rfl (lv_at hl 0 rfl) ?_
  refine lv_iconst (pc := 10) (v := 0) hx hb d_Fa_init_10 (by decide) ?_
  refine k_put (pc := 11) X hK hP hD hS 0 rfl rfl i_Fa t_Fa t_Fa_ok n_Fa 1 (by decide) wm_396 rfl (Or.inl rfl) rfl rfl (Nat.le_of_ble_eq_true rfl) d_Fa_init_11 (fun H locs hP hD hS => ?_)
  have hP : va_P D classes (cat [[(h, .inr (2, [.int 0, .int 0, .int 0, .int 0, .null, .null, .null, .null, .null, .null, .null, .null, .null, .null, .null]))]]) H := hP
  have hD : va_D A (cat [[(h, .inr (2, [.int 0, .int 0, .int 0, .int 0, .null, .null, .null, .null, .null, .null, .null, .null, .null, .null, .null]))]]) := hD
  refine lv_aload_n (pc := 14) hx hb d_Fa_init_14 rfl (lv_at hl 0 rfl) ?_
  refine lv_iconst (pc := 15) (v := 0) hx hb d_Fa_init_15 (by decide) ?_
  refine k_put (pc := 16) X hK hP hD hS 0 rfl rfl i_Fa t_Fa t_Fa_ok n_Fa 2 (by decide) wm_400 rfl (Or.inl rfl) rfl rfl (Nat.le_of_ble_eq_true rfl) d_Fa_init_16 (fun H locs hP hD hS => ?_)
  have hP : va_P D classes (cat [[(h, .inr (2, [.int 0, .int 0, .int 0, .int 0, .null, .null, .null, .null, .null, .null, .null, .null, .null, .null, .null]))]]) H := hP
  have hD : va_D A (cat [[(h, .inr (2, [.int 0, .int 0, .int 0, .int 0, .null, .null, .null, .null, .null, .null, .null, .null, .null, .null, .null]))]]) := hD
  refine lv_aload_n (pc := 19) hx hb d_Fa_init_19 rfl (lv_at hl 0 rfl) ?_
  refine lv_iconst (pc := 20) (v := 0) hx hb d_Fa_init_20 (by decide) ?_
  refine k_put (pc := 21) X hK hP hD hS 0 rfl rfl i_Fa t_Fa t_Fa_ok n_Fa 3 (by decide) wm_403 rfl (Or.inl rfl) rfl rfl (Nat.le_of_ble_eq_true rfl) d_Fa_init_21 (fun H locs hP hD hS => ?_)
  have hP : va_P D classes (cat [[(h, .inr (2, [.int 0, .int 0, .int 0, .int 0, .null, .null, .null, .null, .null, .null, .null, .null, .null, .null, .null]))]]) H := hP
  have hD : va_D A (cat [[(h, .inr (2, [.int 0, .int 0, .int 0, .int 0, .null, .null, .null, .null, .null, .null, .null, .null, .null, .null, .null]))]]) := hD
  refine lv_aload_n (pc := 24) hx hb d_Fa_init_24 rfl (lv_at hl 0 rfl) ?_
  refine lv_bipush (pc := 25) (v := 24) hx hb d_Fa_init_25 (by decide) ?_
  refine k_newa (pc := 27) (atype := .int) X (ty := .int) (a0 := (24, .inl (fun _ => 0))) rfl rfl wm_193 hK hP hD hS hA 0 rfl (fun _ => rfl) (by decide) rfl (by decide) (Nat.le_of_ble_eq_true rfl) (Nat.le_of_ble_eq_true rfl) d_Fa_init_27 (fun q1 H hP hD hS => ?_)
  have hP : va_P D classes (cat [[(h, .inr (2, [.int 0, .int 0, .int 0, .int 0, .null, .null, .null, .null, .null, .null, .null, .null, .null, .null, .null]))], [(q1, .inl (kA 0, 24, .inl (fun _ => 0)))]]) H := hP
  have hD : va_D A (cat [[(h, .inr (2, [.int 0, .int 0, .int 0, .int 0, .null, .null, .null, .null, .null, .null, .null, .null, .null, .null, .null]))], [(q1, .inl (kA 0, 24, .inl (fun _ => 0)))]]) := hD
  refine W.widen (k := 1) (n := 24) (by omega) (by omega) ?_
  refine k_put (pc := 29) X hK hP hD hS 0 rfl rfl i_Fa t_Fa t_Fa_ok n_Fa 4 (by decide) wm_405 rfl (Or.inr ⟨rfl, rfl⟩) rfl rfl (Nat.le_of_ble_eq_true rfl) d_Fa_init_29 (fun H locs hP hD hS => ?_)
  have hP : va_P D classes (cat [[(h, .inr (2, [.int 0, .int 0, .int 0, .int 0, .ref q1, .null, .null, .null, .null, .null, .null, .null, .null, .null, .null]))], [(q1, .inl (kA 0, 24, .inl (fun _ => 0)))]]) H := hP
  have hD : va_D A (cat [[(h, .inr (2, [.int 0, .int 0, .int 0, .int 0, .ref q1, .null, .null, .null, .null, .null, .null, .null, .null, .null, .null]))], [(q1, .inl (kA 0, 24, .inl (fun _ => 0)))]]) := hD
  refine lv_aload_n (pc := 32) hx hb d_Fa_init_32 rfl (lv_at hl 0 rfl) ?_
  refine lv_bipush (pc := 33) (v := 48) hx hb d_Fa_init_33 (by decide) ?_
  refine k_newa (pc := 35) (atype := .int) X (ty := .int) (a0 := (48, .inl (fun _ => 0))) rfl rfl wm_193 hK hP hD hS hA 0 rfl (fun _ => rfl) (by decide) rfl (by decide) (Nat.le_of_ble_eq_true rfl) (Nat.le_of_ble_eq_true rfl) d_Fa_init_35 (fun q2 H hP hD hS => ?_)
  have hP : va_P D classes (cat [[(h, .inr (2, [.int 0, .int 0, .int 0, .int 0, .ref q1, .null, .null, .null, .null, .null, .null, .null, .null, .null, .null]))], [(q1, .inl (kA 0, 24, .inl (fun _ => 0)))], [(q2, .inl (kA 0, 48, .inl (fun _ => 0)))]]) H := hP
  have hD : va_D A (cat [[(h, .inr (2, [.int 0, .int 0, .int 0, .int 0, .ref q1, .null, .null, .null, .null, .null, .null, .null, .null, .null, .null]))], [(q1, .inl (kA 0, 24, .inl (fun _ => 0)))], [(q2, .inl (kA 0, 48, .inl (fun _ => 0)))]]) := hD
  refine W.widen (k := 2) (n := 72) (by omega) (by omega) ?_
  refine k_put (pc := 37) X hK hP hD hS 0 rfl rfl i_Fa t_Fa t_Fa_ok n_Fa 5 (by decide) wm_409 rfl (Or.inr ⟨rfl, rfl⟩) rfl rfl (Nat.le_of_ble_eq_true rfl) d_Fa_init_37 (fun H locs hP hD hS => ?_)
  have hP : va_P D classes (cat [[(h, .inr (2, [.int 0, .int 0, .int 0, .int 0, .ref q1, .ref q2, .null, .null, .null, .null, .null, .null, .null, .null, .null]))], [(q1, .inl (kA 0, 24, .inl (fun _ => 0)))], [(q2, .inl (kA 0, 48, .inl (fun _ => 0)))]]) H := hP
  have hD : va_D A (cat [[(h, .inr (2, [.int 0, .int 0, .int 0, .int 0, .ref q1, .ref q2, .null, .null, .null, .null, .null, .null, .null, .null, .null]))], [(q1, .inl (kA 0, 24, .inl (fun _ => 0)))], [(q2, .inl (kA 0, 48, .inl (fun _ => 0)))]]) := hD
  refine lv_aload_n (pc := 40) hx hb d_Fa_init_40 rfl (lv_at hl 0 rfl) ?_
  refine lv_bipush (pc := 41) (v := 24) hx hb d_Fa_init_41 (by decide) ?_
  refine k_newa (pc := 43) (atype := .int) X (ty := .int) (a0 := (24, .inl (fun _ => 0))) rfl rfl wm_193 hK hP hD hS hA 0 rfl (fun _ => rfl) (by decide) rfl (by decide) (Nat.le_of_ble_eq_true rfl) (Nat.le_of_ble_eq_true rfl) d_Fa_init_43 (fun q3 H hP hD hS => ?_)
  have hP : va_P D classes (cat [[(h, .inr (2, [.int 0, .int 0, .int 0, .int 0, .ref q1, .ref q2, .null, .null, .null, .null, .null, .null, .null, .null, .null]))], [(q1, .inl (kA 0, 24, .inl (fun _ => 0)))], [(q2, .inl (kA 0, 48, .inl (fun _ => 0)))], [(q3, .inl (kA 0, 24, .inl (fun _ => 0)))]]) H := hP
  have hD : va_D A (cat [[(h, .inr (2, [.int 0, .int 0, .int 0, .int 0, .ref q1, .ref q2, .null, .null, .null, .null, .null, .null, .null, .null, .null]))], [(q1, .inl (kA 0, 24, .inl (fun _ => 0)))], [(q2, .inl (kA 0, 48, .inl (fun _ => 0)))], [(q3, .inl (kA 0, 24, .inl (fun _ => 0)))]]) := hD
  refine W.widen (k := 3) (n := 96) (by omega) (by omega) ?_
  refine k_put (pc := 45) X hK hP hD hS 0 rfl rfl i_Fa t_Fa t_Fa_ok n_Fa 6 (by decide) wm_412 rfl (Or.inr ⟨rfl, rfl⟩) rfl rfl (Nat.le_of_ble_eq_true rfl) d_Fa_init_45 (fun H locs hP hD hS => ?_)
  have hP : va_P D classes (cat [[(h, .inr (2, [.int 0, .int 0, .int 0, .int 0, .ref q1, .ref q2, .ref q3, .null, .null, .null, .null, .null, .null, .null, .null]))], [(q1, .inl (kA 0, 24, .inl (fun _ => 0)))], [(q2, .inl (kA 0, 48, .inl (fun _ => 0)))], [(q3, .inl (kA 0, 24, .inl (fun _ => 0)))]]) H := hP
  have hD : va_D A (cat [[(h, .inr (2, [.int 0, .int 0, .int 0, .int 0, .ref q1, .ref q2, .ref q3, .null, .null, .null, .null, .null, .null, .null, .null]))], [(q1, .inl (kA 0, 24, .inl (fun _ => 0)))], [(q2, .inl (kA 0, 48, .inl (fun _ => 0)))], [(q3, .inl (kA 0, 24, .inl (fun _ => 0)))]]) := hD
  refine lv_aload_n (pc := 48) hx hb d_Fa_init_48 rfl (lv_at hl 0 rfl) ?_
  refine lv_bipush (pc := 49) (v := 24) hx hb d_Fa_init_49 (by decide) ?_
  refine k_newa (pc := 51) (atype := .int) X (ty := .int) (a0 := (24, .inl (fun _ => 0))) rfl rfl wm_193 hK hP hD hS hA 0 rfl (fun _ => rfl) (by decide) rfl (by decide) (Nat.le_of_ble_eq_true rfl) (Nat.le_of_ble_eq_true rfl) d_Fa_init_51 (fun q4 H hP hD hS => ?_)
  have hP : va_P D classes (cat [[(h, .inr (2, [.int 0, .int 0, .int 0, .int 0, .ref q1, .ref q2, .ref q3, .null, .null, .null, .null, .null, .null, .null, .null]))], [(q1, .inl (kA 0, 24, .inl (fun _ => 0)))], [(q2, .inl (kA 0, 48, .inl (fun _ => 0)))], [(q3, .inl (kA 0, 24, .inl (fun _ => 0)))], [(q4, .inl (kA 0, 24, .inl (fun _ => 0)))]]) H := hP
  have hD : va_D A (cat [[(h, .inr (2, [.int 0, .int 0, .int 0, .int 0, .ref q1, .ref q2, .ref q3, .null, .null, .null, .null, .null, .null, .null, .null]))], [(q1, .inl (kA 0, 24, .inl (fun _ => 0)))], [(q2, .inl (kA 0, 48, .inl (fun _ => 0)))], [(q3, .inl (kA 0, 24, .inl (fun _ => 0)))], [(q4, .inl (kA 0, 24, .inl (fun _ => 0)))]]) := hD
  refine W.widen (k := 4) (n := 120) (by omega) (by omega) ?_
  refine k_put (pc := 53) X hK hP hD hS 0 rfl rfl i_Fa t_Fa t_Fa_ok n_Fa 7 (by decide) wm_414 rfl (Or.inr ⟨rfl, rfl⟩) rfl rfl (Nat.le_of_ble_eq_true rfl) d_Fa_init_53 (fun H locs hP hD hS => ?_)
  have hP : va_P D classes (cat [[(h, .inr (2, [.int 0, .int 0, .int 0, .int 0, .ref q1, .ref q2, .ref q3, .ref q4, .null, .null, .null, .null, .null, .null, .null]))], [(q1, .inl (kA 0, 24, .inl (fun _ => 0)))], [(q2, .inl (kA 0, 48, .inl (fun _ => 0)))], [(q3, .inl (kA 0, 24, .inl (fun _ => 0)))], [(q4, .inl (kA 0, 24, .inl (fun _ => 0)))]]) H := hP
  have hD : va_D A (cat [[(h, .inr (2, [.int 0, .int 0, .int 0, .int 0, .ref q1, .ref q2, .ref q3, .ref q4, .null, .null, .null, .null, .null, .null, .null]))], [(q1, .inl (kA 0, 24, .inl (fun _ => 0)))], [(q2, .inl (kA 0, 48, .inl (fun _ => 0)))], [(q3, .inl (kA 0, 24, .inl (fun _ => 0)))], [(q4, .inl (kA 0, 24, .inl (fun _ => 0)))]]) := hD
  refine lv_aload_n (pc := 56) hx hb d_Fa_init_56 rfl (lv_at hl 0 rfl) ?_
  refine lv_bipush (pc := 57) (v := 24) hx hb d_Fa_init_57 (by decide) ?_
  refine k_newa (pc := 59) (atype := .int) X (ty := .int) (a0 := (24, .inl (fun _ => 0))) rfl rfl wm_193 hK hP hD hS hA 0 rfl (fun _ => rfl) (by decide) rfl (by decide) (Nat.le_of_ble_eq_true rfl) (Nat.le_of_ble_eq_true rfl) d_Fa_init_59 (fun q5 H hP hD hS => ?_)
  have hP : va_P D classes (cat [[(h, .inr (2, [.int 0, .int 0, .int 0, .int 0, .ref q1, .ref q2, .ref q3, .ref q4, .null, .null, .null, .null, .null, .null, .null]))], [(q1, .inl (kA 0, 24, .inl (fun _ => 0)))], [(q2, .inl (kA 0, 48, .inl (fun _ => 0)))], [(q3, .inl (kA 0, 24, .inl (fun _ => 0)))], [(q4, .inl (kA 0, 24, .inl (fun _ => 0)))], [(q5, .inl (kA 0, 24, .inl (fun _ => 0)))]]) H := hP
  have hD : va_D A (cat [[(h, .inr (2, [.int 0, .int 0, .int 0, .int 0, .ref q1, .ref q2, .ref q3, .ref q4, .null, .null, .null, .null, .null, .null, .null]))], [(q1, .inl (kA 0, 24, .inl (fun _ => 0)))], [(q2, .inl (kA 0, 48, .inl (fun _ => 0)))], [(q3, .inl (kA 0, 24, .inl (fun _ => 0)))], [(q4, .inl (kA 0, 24, .inl (fun _ => 0)))], [(q5, .inl (kA 0, 24, .inl (fun _ => 0)))]]) := hD
  refine W.widen (k := 5) (n := 144) (by omega) (by omega) ?_
  refine k_put (pc := 61) X hK hP hD hS 0 rfl rfl i_Fa t_Fa t_Fa_ok n_Fa 8 (by decide) wm_417 rfl (Or.inr ⟨rfl, rfl⟩) rfl rfl (Nat.le_of_ble_eq_true rfl) d_Fa_init_61 (fun H locs hP hD hS => ?_)
  have hP : va_P D classes (cat [[(h, .inr (2, [.int 0, .int 0, .int 0, .int 0, .ref q1, .ref q2, .ref q3, .ref q4, .ref q5, .null, .null, .null, .null, .null, .null]))], [(q1, .inl (kA 0, 24, .inl (fun _ => 0)))], [(q2, .inl (kA 0, 48, .inl (fun _ => 0)))], [(q3, .inl (kA 0, 24, .inl (fun _ => 0)))], [(q4, .inl (kA 0, 24, .inl (fun _ => 0)))], [(q5, .inl (kA 0, 24, .inl (fun _ => 0)))]]) H := hP
  have hD : va_D A (cat [[(h, .inr (2, [.int 0, .int 0, .int 0, .int 0, .ref q1, .ref q2, .ref q3, .ref q4, .ref q5, .null, .null, .null, .null, .null, .null]))], [(q1, .inl (kA 0, 24, .inl (fun _ => 0)))], [(q2, .inl (kA 0, 48, .inl (fun _ => 0)))], [(q3, .inl (kA 0, 24, .inl (fun _ => 0)))], [(q4, .inl (kA 0, 24, .inl (fun _ => 0)))], [(q5, .inl (kA 0, 24, .inl (fun _ => 0)))]]) := hD
  refine lv_aload_n (pc := 64) hx hb d_Fa_init_64 rfl (lv_at hl 0 rfl) ?_
  refine lv_bipush (pc := 65) (v := 48) hx hb d_Fa_init_65 (by decide) ?_
  refine k_newa (pc := 67) (atype := .boolean) X (ty := .boolean) (a0 := (48, .inl (fun _ => 0))) rfl rfl wm_387 hK hP hD hS hA 2 rfl (fun _ => rfl) (by decide) rfl (by decide) (Nat.le_of_ble_eq_true rfl) (Nat.le_of_ble_eq_true rfl) d_Fa_init_67 (fun q6 H hP hD hS => ?_)
  have hP : va_P D classes (cat [[(h, .inr (2, [.int 0, .int 0, .int 0, .int 0, .ref q1, .ref q2, .ref q3, .ref q4, .ref q5, .null, .null, .null, .null, .null, .null]))], [(q1, .inl (kA 0, 24, .inl (fun _ => 0)))], [(q2, .inl (kA 0, 48, .inl (fun _ => 0)))], [(q3, .inl (kA 0, 24, .inl (fun _ => 0)))], [(q4, .inl (kA 0, 24, .inl (fun _ => 0)))], [(q5, .inl (kA 0, 24, .inl (fun _ => 0)))], [(q6, .inl (kA 2, 48, .inl (fun _ => 0)))]]) H := hP
  have hD : va_D A (cat [[(h, .inr (2, [.int 0, .int 0, .int 0, .int 0, .ref q1, .ref q2, .ref q3, .ref q4, .ref q5, .null, .null, .null, .null, .null, .null]))], [(q1, .inl (kA 0, 24, .inl (fun _ => 0)))], [(q2, .inl (kA 0, 48, .inl (fun _ => 0)))], [(q3, .inl (kA 0, 24, .inl (fun _ => 0)))], [(q4, .inl (kA 0, 24, .inl (fun _ => 0)))], [(q5, .inl (kA 0, 24, .inl (fun _ => 0)))], [(q6, .inl (kA 2, 48, .inl (fun _ => 0)))]]) := hD
  refine W.widen (k := 6) (n := 192) (by omega) (by omega) ?_
  refine k_put (pc := 69) X hK hP hD hS 0 rfl rfl i_Fa t_Fa t_Fa_ok n_Fa 9 (by decide) wm_420 rfl (Or.inr ⟨rfl, rfl⟩) rfl rfl (Nat.le_of_ble_eq_true rfl) d_Fa_init_69 (fun H locs hP hD hS => ?_)
  have hP : va_P D classes (cat [[(h, .inr (2, [.int 0, .int 0, .int 0, .int 0, .ref q1, .ref q2, .ref q3, .ref q4, .ref q5, .ref q6, .null, .null, .null, .null, .null]))], [(q1, .inl (kA 0, 24, .inl (fun _ => 0)))], [(q2, .inl (kA 0, 48, .inl (fun _ => 0)))], [(q3, .inl (kA 0, 24, .inl (fun _ => 0)))], [(q4, .inl (kA 0, 24, .inl (fun _ => 0)))], [(q5, .inl (kA 0, 24, .inl (fun _ => 0)))], [(q6, .inl (kA 2, 48, .inl (fun _ => 0)))]]) H := hP
  have hD : va_D A (cat [[(h, .inr (2, [.int 0, .int 0, .int 0, .int 0, .ref q1, .ref q2, .ref q3, .ref q4, .ref q5, .ref q6, .null, .null, .null, .null, .null]))], [(q1, .inl (kA 0, 24, .inl (fun _ => 0)))], [(q2, .inl (kA 0, 48, .inl (fun _ => 0)))], [(q3, .inl (kA 0, 24, .inl (fun _ => 0)))], [(q4, .inl (kA 0, 24, .inl (fun _ => 0)))], [(q5, .inl (kA 0, 24, .inl (fun _ => 0)))], [(q6, .inl (kA 2, 48, .inl (fun _ => 0)))]]) := hD
  refine lv_aload_n (pc := 72) hx hb d_Fa_init_72 rfl (lv_at hl 0 rfl) ?_
  refine lv_bipush (pc := 73) (v := 24) hx hb d_Fa_init_73 (by decide) ?_
  refine k_newa (pc := 75) (atype := .int) X (ty := .int) (a0 := (24, .inl (fun _ => 0))) rfl rfl wm_193 hK hP hD hS hA 0 rfl (fun _ => rfl) (by decide) rfl (by decide) (Nat.le_of_ble_eq_true rfl) (Nat.le_of_ble_eq_true rfl) d_Fa_init_75 (fun q7 H hP hD hS => ?_)
  have hP : va_P D classes (cat [[(h, .inr (2, [.int 0, .int 0, .int 0, .int 0, .ref q1, .ref q2, .ref q3, .ref q4, .ref q5, .ref q6, .null, .null, .null, .null, .null]))], [(q1, .inl (kA 0, 24, .inl (fun _ => 0)))], [(q2, .inl (kA 0, 48, .inl (fun _ => 0)))], [(q3, .inl (kA 0, 24, .inl (fun _ => 0)))], [(q4, .inl (kA 0, 24, .inl (fun _ => 0)))], [(q5, .inl (kA 0, 24, .inl (fun _ => 0)))], [(q6, .inl (kA 2, 48, .inl (fun _ => 0)))], [(q7, .inl (kA 0, 24, .inl (fun _ => 0)))]]) H := hP
  have hD : va_D A (cat [[(h, .inr (2, [.int 0, .int 0, .int 0, .int 0, .ref q1, .ref q2, .ref q3, .ref q4, .ref q5, .ref q6, .null, .null, .null, .null, .null]))], [(q1, .inl (kA 0, 24, .inl (fun _ => 0)))], [(q2, .inl (kA 0, 48, .inl (fun _ => 0)))], [(q3, .inl (kA 0, 24, .inl (fun _ => 0)))], [(q4, .inl (kA 0, 24, .inl (fun _ => 0)))], [(q5, .inl (kA 0, 24, .inl (fun _ => 0)))], [(q6, .inl (kA 2, 48, .inl (fun _ => 0)))], [(q7, .inl (kA 0, 24, .inl (fun _ => 0)))]]) := hD
  refine W.widen (k := 7) (n := 216) (by omega) (by omega) ?_
  refine k_put (pc := 77) X hK hP hD hS 0 rfl rfl i_Fa t_Fa t_Fa_ok n_Fa 10 (by decide) wm_423 rfl (Or.inr ⟨rfl, rfl⟩) rfl rfl (Nat.le_of_ble_eq_true rfl) d_Fa_init_77 (fun H locs hP hD hS => ?_)
  have hP : va_P D classes (cat [[(h, .inr (2, [.int 0, .int 0, .int 0, .int 0, .ref q1, .ref q2, .ref q3, .ref q4, .ref q5, .ref q6, .ref q7, .null, .null, .null, .null]))], [(q1, .inl (kA 0, 24, .inl (fun _ => 0)))], [(q2, .inl (kA 0, 48, .inl (fun _ => 0)))], [(q3, .inl (kA 0, 24, .inl (fun _ => 0)))], [(q4, .inl (kA 0, 24, .inl (fun _ => 0)))], [(q5, .inl (kA 0, 24, .inl (fun _ => 0)))], [(q6, .inl (kA 2, 48, .inl (fun _ => 0)))], [(q7, .inl (kA 0, 24, .inl (fun _ => 0)))]]) H := hP
  have hD : va_D A (cat [[(h, .inr (2, [.int 0, .int 0, .int 0, .int 0, .ref q1, .ref q2, .ref q3, .ref q4, .ref q5, .ref q6, .ref q7, .null, .null, .null, .null]))], [(q1, .inl (kA 0, 24, .inl (fun _ => 0)))], [(q2, .inl (kA 0, 48, .inl (fun _ => 0)))], [(q3, .inl (kA 0, 24, .inl (fun _ => 0)))], [(q4, .inl (kA 0, 24, .inl (fun _ => 0)))], [(q5, .inl (kA 0, 24, .inl (fun _ => 0)))], [(q6, .inl (kA 2, 48, .inl (fun _ => 0)))], [(q7, .inl (kA 0, 24, .inl (fun _ => 0)))]]) := hD
  refine lv_aload_n (pc := 80) hx hb d_Fa_init_80 rfl (lv_at hl 0 rfl) ?_
  refine lv_bipush (pc := 81) (v := 24) hx hb d_Fa_init_81 (by decide) ?_
  refine k_newa (pc := 83) (atype := .int) X (ty := .int) (a0 := (24, .inl (fun _ => 0))) rfl rfl wm_193 hK hP hD hS hA 0 rfl (fun _ => rfl) (by decide) rfl (by decide) (Nat.le_of_ble_eq_true rfl) (Nat.le_of_ble_eq_true rfl) d_Fa_init_83 (fun q8 H hP hD hS => ?_)
  have hP : va_P D classes (cat [[(h, .inr (2, [.int 0, .int 0, .int 0, .int 0, .ref q1, .ref q2, .ref q3, .ref q4, .ref q5, .ref q6, .ref q7, .null, .null, .null, .null]))], [(q1, .inl (kA 0, 24, .inl (fun _ => 0)))], [(q2, .inl (kA 0, 48, .inl (fun _ => 0)))], [(q3, .inl (kA 0, 24, .inl (fun _ => 0)))], [(q4, .inl (kA 0, 24, .inl (fun _ => 0)))], [(q5, .inl (kA 0, 24, .inl (fun _ => 0)))], [(q6, .inl (kA 2, 48, .inl (fun _ => 0)))], [(q7, .inl (kA 0, 24, .inl (fun _ => 0)))], [(q8, .inl (kA 0, 24, .inl (fun _ => 0)))]]) H := hP
  have hD : va_D A (cat [[(h, .inr (2, [.int 0, .int 0, .int 0, .int 0, .ref q1, .ref q2, .ref q3, .ref q4, .ref q5, .ref q6, .ref q7, .null, .null, .null, .null]))], [(q1, .inl (kA 0, 24, .inl (fun _ => 0)))], [(q2, .inl (kA 0, 48, .inl (fun _ => 0)))], [(q3, .inl (kA 0, 24, .inl (fun _ => 0)))], [(q4, .inl (kA 0, 24, .inl (fun _ => 0)))], [(q5, .inl (kA 0, 24, .inl (fun _ => 0)))], [(q6, .inl (kA 2, 48, .inl (fun _ => 0)))], [(q7, .inl (kA 0, 24, .inl (fun _ => 0)))], [(q8, .inl (kA 0, 24, .inl (fun _ => 0)))]]) := hD
  refine W.widen (k := 8) (n := 240) (by omega) (by omega) ?_
  refine k_put (pc := 85) X hK hP hD hS 0 rfl rfl i_Fa t_Fa t_Fa_ok n_Fa 11 (by decide) wm_424 rfl (Or.inr ⟨rfl, rfl⟩) rfl rfl (Nat.le_of_ble_eq_true rfl) d_Fa_init_85 (fun H locs hP hD hS => ?_)
  have hP : va_P D classes (cat [[(h, .inr (2, [.int 0, .int 0, .int 0, .int 0, .ref q1, .ref q2, .ref q3, .ref q4, .ref q5, .ref q6, .ref q7, .ref q8, .null, .null, .null]))], [(q1, .inl (kA 0, 24, .inl (fun _ => 0)))], [(q2, .inl (kA 0, 48, .inl (fun _ => 0)))], [(q3, .inl (kA 0, 24, .inl (fun _ => 0)))], [(q4, .inl (kA 0, 24, .inl (fun _ => 0)))], [(q5, .inl (kA 0, 24, .inl (fun _ => 0)))], [(q6, .inl (kA 2, 48, .inl (fun _ => 0)))], [(q7, .inl (kA 0, 24, .inl (fun _ => 0)))], [(q8, .inl (kA 0, 24, .inl (fun _ => 0)))]]) H := hP
  have hD : va_D A (cat [[(h, .inr (2, [.int 0, .int 0, .int 0, .int 0, .ref q1, .ref q2, .ref q3, .ref q4, .ref q5, .ref q6, .ref q7, .ref q8, .null, .null, .null]))], [(q1, .inl (kA 0, 24, .inl (fun _ => 0)))], [(q2, .inl (kA 0, 48, .inl (fun _ => 0)))], [(q3, .inl (kA 0, 24, .inl (fun _ => 0)))], [(q4, .inl (kA 0, 24, .inl (fun _ => 0)))], [(q5, .inl (kA 0, 24, .inl (fun _ => 0)))], [(q6, .inl (kA 2, 48, .inl (fun _ => 0)))], [(q7, .inl (kA 0, 24, .inl (fun _ => 0)))], [(q8, .inl (kA 0, 24, .inl (fun _ => 0)))]]) := hD
  refine lv_aload_n (pc := 88) hx hb d_Fa_init_88 rfl (lv_at hl 0 rfl) ?_
  refine lv_bipush (pc := 89) (v := 24) hx hb d_Fa_init_89 (by decide) ?_
  refine k_newa (pc := 91) (atype := .int) X (ty := .int) (a0 := (24, .inl (fun _ => 0))) rfl rfl wm_193 hK hP hD hS hA 0 rfl (fun _ => rfl) (by decide) rfl (by decide) (Nat.le_of_ble_eq_true rfl) (Nat.le_of_ble_eq_true rfl) d_Fa_init_91 (fun q9 H hP hD hS => ?_)
  have hP : va_P D classes (cat [[(h, .inr (2, [.int 0, .int 0, .int 0, .int 0, .ref q1, .ref q2, .ref q3, .ref q4, .ref q5, .ref q6, .ref q7, .ref q8, .null, .null, .null]))], [(q1, .inl (kA 0, 24, .inl (fun _ => 0)))], [(q2, .inl (kA 0, 48, .inl (fun _ => 0)))], [(q3, .inl (kA 0, 24, .inl (fun _ => 0)))], [(q4, .inl (kA 0, 24, .inl (fun _ => 0)))], [(q5, .inl (kA 0, 24, .inl (fun _ => 0)))], [(q6, .inl (kA 2, 48, .inl (fun _ => 0)))], [(q7, .inl (kA 0, 24, .inl (fun _ => 0)))], [(q8, .inl (kA 0, 24, .inl (fun _ => 0)))], [(q9, .inl (kA 0, 24, .inl (fun _ => 0)))]]) H := hP
  have hD : va_D A (cat [[(h, .inr (2, [.int 0, .int 0, .int 0, .int 0, .ref q1, .ref q2, .ref q3, .ref q4, .ref q5, .ref q6, .ref q7, .ref q8, .null, .null, .null]))], [(q1, .inl (kA 0, 24, .inl (fun _ => 0)))], [(q2, .inl (kA 0, 48, .inl (fun _ => 0)))], [(q3, .inl (kA 0, 24, .inl (fun _ => 0)))], [(q4, .inl (kA 0, 24, .inl (fun _ => 0)))], [(q5, .inl (kA 0, 24, .inl (fun _ => 0)))], [(q6, .inl (kA 2, 48, .inl (fun _ => 0)))], [(q7, .inl (kA 0, 24, .inl (fun _ => 0)))], [(q8, .inl (kA 0, 24, .inl (fun _ => 0)))], [(q9, .inl (kA 0, 24, .inl (fun _ => 0)))]]) := hD
  refine W.widen (k := 9) (n := 264) (by omega) (by omega) ?_
  refine k_put (pc := 93) X hK hP hD hS 0 rfl rfl i_Fa t_Fa t_Fa_ok n_Fa 12 (by decide) wm_425 rfl (Or.inr ⟨rfl, rfl⟩) rfl rfl (Nat.le_of_ble_eq_true rfl) d_Fa_init_93 (fun H locs hP hD hS => ?_)
  have hP : va_P D classes (cat [[(h, .inr (2, [.int 0, .int 0, .int 0, .int 0, .ref q1, .ref q2, .ref q3, .ref q4, .ref q5, .ref q6, .ref q7, .ref q8, .ref q9, .null, .null]))], [(q1, .inl (kA 0, 24, .inl (fun _ => 0)))], [(q2, .inl (kA 0, 48, .inl (fun _ => 0)))], [(q3, .inl (kA 0, 24, .inl (fun _ => 0)))], [(q4, .inl (kA 0, 24, .inl (fun _ => 0)))], [(q5, .inl (kA 0, 24, .inl (fun _ => 0)))], [(q6, .inl (kA 2, 48, .inl (fun _ => 0)))], [(q7, .inl (kA 0, 24, .inl (fun _ => 0)))], [(q8, .inl (kA 0, 24, .inl (fun _ => 0)))], [(q9, .inl (kA 0, 24, .inl (fun _ => 0)))]]) H := hP
  have hD : va_D A (cat [[(h, .inr (2, [.int 0, .int 0, .int 0, .int 0, .ref q1, .ref q2, .ref q3, .ref q4, .ref q5, .ref q6, .ref q7, .ref q8, .ref q9, .null, .null]))], [(q1, .inl (kA 0, 24, .inl (fun _ => 0)))], [(q2, .inl (kA 0, 48, .inl (fun _ => 0)))], [(q3, .inl (kA 0, 24, .inl (fun _ => 0)))], [(q4, .inl (kA 0, 24, .inl (fun _ => 0)))], [(q5, .inl (kA 0, 24, .inl (fun _ => 0)))], [(q6, .inl (kA 2, 48, .inl (fun _ => 0)))], [(q7, .inl (kA 0, 24, .inl (fun _ => 0)))], [(q8, .inl (kA 0, 24, .inl (fun _ => 0)))], [(q9, .inl (kA 0, 24, .inl (fun _ => 0)))]]) := hD
  refine lv_aload_n (pc := 96) hx hb d_Fa_init_96 rfl (lv_at hl 0 rfl) ?_
  refine lv_bipush (pc := 97) (v := 24) hx hb d_Fa_init_97 (by decide) ?_
  refine k_newa (pc := 99) (atype := .int) X (ty := .int) (a0 := (24, .inl (fun _ => 0))) rfl rfl wm_193 hK hP hD hS hA 0 rfl (fun _ => rfl) (by decide) rfl (by decide) (Nat.le_of_ble_eq_true rfl) (Nat.le_of_ble_eq_true rfl) d_Fa_init_99 (fun q10 H hP hD hS => ?_)
  have hP : va_P D classes (cat [[(h, .inr (2, [.int 0, .int 0, .int 0, .int 0, .ref q1, .ref q2, .ref q3, .ref q4, .ref q5, .ref q6, .ref q7, .ref q8, .ref q9, .null, .null]))], [(q1, .inl (kA 0, 24, .inl (fun _ => 0)))], [(q2, .inl (kA 0, 48, .inl (fun _ => 0)))], [(q3, .inl (kA 0, 24, .inl (fun _ => 0)))], [(q4, .inl (kA 0, 24, .inl (fun _ => 0)))], [(q5, .inl (kA 0, 24, .inl (fun _ => 0)))], [(q6, .inl (kA 2, 48, .inl (fun _ => 0)))], [(q7, .inl (kA 0, 24, .inl (fun _ => 0)))], [(q8, .inl (kA 0, 24, .inl (fun _ => 0)))], [(q9, .inl (kA 0, 24, .inl (fun _ => 0)))], [(q10, .inl (kA 0, 24, .inl (fun _ => 0)))]]) H := hP
  have hD : va_D A (cat [[(h, .inr (2, [.int 0, .int 0, .int 0, .int 0, .ref q1, .ref q2, .ref q3, .ref q4, .ref q5, .ref q6, .ref q7, .ref q8, .ref q9, .null, .null]))], [(q1, .inl (kA 0, 24, .inl (fun _ => 0)))], [(q2, .inl (kA 0, 48, .inl (fun _ => 0)))], [(q3, .inl (kA 0, 24, .inl (fun _ => 0)))], [(q4, .inl (kA 0, 24, .inl (fun _ => 0)))], [(q5, .inl (kA 0, 24, .inl (fun _ => 0)))], [(q6, .inl (kA 2, 48, .inl (fun _ => 0)))], [(q7, .inl (kA 0, 24, .inl (fun _ => 0)))], [(q8, .inl (kA 0, 24, .inl (fun _ => 0)))], [(q9, .inl (kA 0, 24, .inl (fun _ => 0)))], [(q10, .inl (kA 0, 24, .inl (fun _ => 0)))]]) := hD
  refine W.widen (k := 10) (n := 288) (by omega) (by omega) ?_
  refine k_put (pc := 101) X hK hP hD hS 0 rfl rfl i_Fa t_Fa t_Fa_ok n_Fa 13 (by decide) wm_426 rfl (Or.inr ⟨rfl, rfl⟩) rfl rfl (Nat.le_of_ble_eq_true rfl) d_Fa_init_101 (fun H locs hP hD hS => ?_)
  have hP : va_P D classes (cat [[(h, .inr (2, [.int 0, .int 0, .int 0, .int 0, .ref q1, .ref q2, .ref q3, .ref q4, .ref q5, .ref q6, .ref q7, .ref q8, .ref q9, .ref q10, .null]))], [(q1, .inl (kA 0, 24, .inl (fun _ => 0)))], [(q2, .inl (kA 0, 48, .inl (fun _ => 0)))], [(q3, .inl (kA 0, 24, .inl (fun _ => 0)))], [(q4, .inl (kA 0, 24, .inl (fun _ => 0)))], [(q5, .inl (kA 0, 24, .inl (fun _ => 0)))], [(q6, .inl (kA 2, 48, .inl (fun _ => 0)))], [(q7, .inl (kA 0, 24, .inl (fun _ => 0)))], [(q8, .inl (kA 0, 24, .inl (fun _ => 0)))], [(q9, .inl (kA 0, 24, .inl (fun _ => 0)))], [(q10, .inl (kA 0, 24, .inl (fun _ => 0)))]]) H := hP
  have hD : va_D A (cat [[(h, .inr (2, [.int 0, .int 0, .int 0, .int 0, .ref q1, .ref q2, .ref q3, .ref q4, .ref q5, .ref q6, .ref q7, .ref q8, .ref q9, .ref q10, .null]))], [(q1, .inl (kA 0, 24, .inl (fun _ => 0)))], [(q2, .inl (kA 0, 48, .inl (fun _ => 0)))], [(q3, .inl (kA 0, 24, .inl (fun _ => 0)))], [(q4, .inl (kA 0, 24, .inl (fun _ => 0)))], [(q5, .inl (kA 0, 24, .inl (fun _ => 0)))], [(q6, .inl (kA 2, 48, .inl (fun _ => 0)))], [(q7, .inl (kA 0, 24, .inl (fun _ => 0)))], [(q8, .inl (kA 0, 24, .inl (fun _ => 0)))], [(q9, .inl (kA 0, 24, .inl (fun _ => 0)))], [(q10, .inl (kA 0, 24, .inl (fun _ => 0)))]]) := hD
  refine lv_aload_n (pc := 104) hx hb d_Fa_init_104 rfl (lv_at hl 0 rfl) ?_
  refine lv_sipush (pc := 105) (v := 128) hx hb d_Fa_init_105 (by decide) ?_
  refine k_newa (pc := 108) (atype := .int) X (ty := .int) (a0 := (128, .inl (fun _ => 0))) rfl rfl wm_193 hK hP hD hS hA 0 rfl (fun _ => rfl) (by decide) rfl (by decide) (Nat.le_of_ble_eq_true rfl) (Nat.le_of_ble_eq_true rfl) d_Fa_init_108 (fun q11 H hP hD hS => ?_)
  have hP : va_P D classes (cat [[(h, .inr (2, [.int 0, .int 0, .int 0, .int 0, .ref q1, .ref q2, .ref q3, .ref q4, .ref q5, .ref q6, .ref q7, .ref q8, .ref q9, .ref q10, .null]))], [(q1, .inl (kA 0, 24, .inl (fun _ => 0)))], [(q2, .inl (kA 0, 48, .inl (fun _ => 0)))], [(q3, .inl (kA 0, 24, .inl (fun _ => 0)))], [(q4, .inl (kA 0, 24, .inl (fun _ => 0)))], [(q5, .inl (kA 0, 24, .inl (fun _ => 0)))], [(q6, .inl (kA 2, 48, .inl (fun _ => 0)))], [(q7, .inl (kA 0, 24, .inl (fun _ => 0)))], [(q8, .inl (kA 0, 24, .inl (fun _ => 0)))], [(q9, .inl (kA 0, 24, .inl (fun _ => 0)))], [(q10, .inl (kA 0, 24, .inl (fun _ => 0)))], [(q11, .inl (kA 0, 128, .inl (fun _ => 0)))]]) H := hP
  have hD : va_D A (cat [[(h, .inr (2, [.int 0, .int 0, .int 0, .int 0, .ref q1, .ref q2, .ref q3, .ref q4, .ref q5, .ref q6, .ref q7, .ref q8, .ref q9, .ref q10, .null]))], [(q1, .inl (kA 0, 24, .inl (fun _ => 0)))], [(q2, .inl (kA 0, 48, .inl (fun _ => 0)))], [(q3, .inl (kA 0, 24, .inl (fun _ => 0)))], [(q4, .inl (kA 0, 24, .inl (fun _ => 0)))], [(q5, .inl (kA 0, 24, .inl (fun _ => 0)))], [(q6, .inl (kA 2, 48, .inl (fun _ => 0)))], [(q7, .inl (kA 0, 24, .inl (fun _ => 0)))], [(q8, .inl (kA 0, 24, .inl (fun _ => 0)))], [(q9, .inl (kA 0, 24, .inl (fun _ => 0)))], [(q10, .inl (kA 0, 24, .inl (fun _ => 0)))], [(q11, .inl (kA 0, 128, .inl (fun _ => 0)))]]) := hD
  refine W.widen (k := 11) (n := 416) (by omega) (by omega) ?_
  refine k_put (pc := 110) X hK hP hD hS 0 rfl rfl i_Fa t_Fa t_Fa_ok n_Fa 14 (by decide) wm_427 rfl (Or.inr ⟨rfl, rfl⟩) rfl rfl (Nat.le_of_ble_eq_true rfl) d_Fa_init_110 (fun H locs hP hD hS => ?_)
  have hP : va_P D classes (cat [[(h, .inr (2, [.int 0, .int 0, .int 0, .int 0, .ref q1, .ref q2, .ref q3, .ref q4, .ref q5, .ref q6, .ref q7, .ref q8, .ref q9, .ref q10, .ref q11]))], [(q1, .inl (kA 0, 24, .inl (fun _ => 0)))], [(q2, .inl (kA 0, 48, .inl (fun _ => 0)))], [(q3, .inl (kA 0, 24, .inl (fun _ => 0)))], [(q4, .inl (kA 0, 24, .inl (fun _ => 0)))], [(q5, .inl (kA 0, 24, .inl (fun _ => 0)))], [(q6, .inl (kA 2, 48, .inl (fun _ => 0)))], [(q7, .inl (kA 0, 24, .inl (fun _ => 0)))], [(q8, .inl (kA 0, 24, .inl (fun _ => 0)))], [(q9, .inl (kA 0, 24, .inl (fun _ => 0)))], [(q10, .inl (kA 0, 24, .inl (fun _ => 0)))], [(q11, .inl (kA 0, 128, .inl (fun _ => 0)))]]) H := hP
  have hD : va_D A (cat [[(h, .inr (2, [.int 0, .int 0, .int 0, .int 0, .ref q1, .ref q2, .ref q3, .ref q4, .ref q5, .ref q6, .ref q7, .ref q8, .ref q9, .ref q10, .ref q11]))], [(q1, .inl (kA 0, 24, .inl (fun _ => 0)))], [(q2, .inl (kA 0, 48, .inl (fun _ => 0)))], [(q3, .inl (kA 0, 24, .inl (fun _ => 0)))], [(q4, .inl (kA 0, 24, .inl (fun _ => 0)))], [(q5, .inl (kA 0, 24, .inl (fun _ => 0)))], [(q6, .inl (kA 2, 48, .inl (fun _ => 0)))], [(q7, .inl (kA 0, 24, .inl (fun _ => 0)))], [(q8, .inl (kA 0, 24, .inl (fun _ => 0)))], [(q9, .inl (kA 0, 24, .inl (fun _ => 0)))], [(q10, .inl (kA 0, 24, .inl (fun _ => 0)))], [(q11, .inl (kA 0, 128, .inl (fun _ => 0)))]]) := hD
  obtain ⟨hP, hD⟩ := k_ord (gc := [[(h, .inr (2, [.int 0, .int 0, .int 0, .int 0, .ref q1, .ref q2, .ref q3, .ref q4, .ref q5, .ref q6, .ref q7, .ref q8, .ref q9, .ref q10, .ref q11]))], [(q1, .inl (kA 0, 24, .inl (fun _ => 0)))], [(q2, .inl (kA 0, 48, .inl (fun _ => 0)))], [(q3, .inl (kA 0, 24, .inl (fun _ => 0)))], [(q4, .inl (kA 0, 24, .inl (fun _ => 0)))], [(q5, .inl (kA 0, 24, .inl (fun _ => 0)))], [(q6, .inl (kA 2, 48, .inl (fun _ => 0)))], [(q7, .inl (kA 0, 24, .inl (fun _ => 0)))], [(q8, .inl (kA 0, 24, .inl (fun _ => 0)))], [(q9, .inl (kA 0, 24, .inl (fun _ => 0)))], [(q10, .inl (kA 0, 24, .inl (fun _ => 0)))], [(q11, .inl (kA 0, 128, .inl (fun _ => 0)))]]) hP hD [0, 1, 2, 3, 4, 5, 6, 7, 8, 9, 10, 11] 12 rfl (by decide) rfl
  refine W.widen (k := 11) (n := 416) (Nat.le_of_ble_eq_true rfl) (Nat.le_of_ble_eq_true rfl) ?_
  exact W.vret hx hb hr (fun t ht hW => ⟨⟨(fun k => match k with | 4 => q1 | 5 => q2 | 6 => q3 | 7 => q4 | 8 => q5 | 9 => q6 | 10 => q7 | 11 => q8 | 12 => q9 | 13 => q10 | 14 => q11 | _ => 0), rfl, trivial, by rw [ht]; exact hP, va_K.moved hW.alike hK, hD⟩, hS.F ht⟩) hS.2.2 d_Fa_init_113
end
section
theorem wm_246 : (Cond.code ({ cls := "DrawingHouse$Net", name := "<init>", desc := "()V" } : MethodName) prog_7_method_1_code (1 : Nat) (Option.none : Option ClassFile.FieldType) : Cond) ∈ lw_g := lw_gi (lw_c2 (List.mem_of_getElem? (i := 6) rfl)) rfl
theorem wm_247 : (Cond.methodLink "DrawingHouse$Net" (3 : Nat) ({ cls := "java/lang/Object", name := "<init>", desc := "()V" } : MethodName) : Cond) ∈ lw_g := lw_gi (lw_c2 (List.mem_of_getElem? (i := 7) rfl)) rfl
theorem wm_248 : (Cond.fieldLink "DrawingHouse$Net" (9 : Nat) "DrawingHouse$Net" "planar" "I" : Cond) ∈ lw_g := lw_gi (lw_c2 (List.mem_of_getElem? (i := 8) rfl)) rfl
theorem wm_251 : (Cond.fieldLink "DrawingHouse$Net" (15 : Nat) "DrawingHouse$Net" "outer" "I" : Cond) ∈ lw_g := lw_gi (lw_c2 (List.mem_of_getElem? (i := 11) rfl)) rfl
theorem wm_253 : (Cond.fieldLink "DrawingHouse$Net" (18 : Nat) "DrawingHouse$Net" "kind" "I" : Cond) ∈ lw_g := lw_gi (lw_c2 (List.mem_of_getElem? (i := 13) rfl)) rfl
theorem wm_256 : (Cond.fieldLink "DrawingHouse$Net" (21 : Nat) "DrawingHouse$Net" "barredEdges" "I" : Cond) ∈ lw_g := lw_gi (lw_c2 (List.mem_of_getElem? (i := 16) rfl)) rfl
theorem wm_259 : (Cond.fieldLink "DrawingHouse$Net" (24 : Nat) "DrawingHouse$Net" "barred" "[I" : Cond) ∈ lw_g := lw_gi (lw_c2 (List.mem_of_getElem? (i := 19) rfl)) rfl
theorem wm_262 : (Cond.fieldLink "DrawingHouse$Net" (28 : Nat) "DrawingHouse$Net" "nodes" "I" : Cond) ∈ lw_g := lw_gi (lw_c2 (List.mem_of_getElem? (i := 22) rfl)) rfl
theorem wm_265 : (Cond.fieldLink "DrawingHouse$Net" (31 : Nat) "DrawingHouse$Net" "edges" "I" : Cond) ∈ lw_g := lw_gi (lw_c2 (List.mem_of_getElem? (i := 25) rfl)) rfl
theorem wm_267 : (Cond.fieldLink "DrawingHouse$Net" (34 : Nat) "DrawingHouse$Net" "tail" "[I" : Cond) ∈ lw_g := lw_gi (lw_c2 (List.mem_of_getElem? (i := 27) rfl)) rfl
theorem wm_270 : (Cond.fieldLink "DrawingHouse$Net" (37 : Nat) "DrawingHouse$Net" "head" "[I" : Cond) ∈ lw_g := lw_gi (lw_c2 (List.mem_of_getElem? (i := 30) rfl)) rfl
theorem wm_273 : (Cond.fieldLink "DrawingHouse$Net" (40 : Nat) "DrawingHouse$Net" "near" "[I" : Cond) ∈ lw_g := lw_gi (lw_c2 (List.mem_of_getElem? (i := 33) rfl)) rfl
theorem wm_276 : (Cond.fieldLink "DrawingHouse$Net" (43 : Nat) "DrawingHouse$Net" "link" "[I" : Cond) ∈ lw_g := lw_gi (lw_c2 (List.mem_of_getElem? (i := 36) rfl)) rfl
theorem wm_277 : (Cond.fieldLink "DrawingHouse$Net" (46 : Nat) "DrawingHouse$Net" "behind" "[I" : Cond) ∈ lw_g := lw_gi (lw_c2 (List.mem_of_getElem? (i := 37) rfl)) rfl
theorem wm_280 : (Cond.fieldLink "DrawingHouse$Net" (49 : Nat) "DrawingHouse$Net" "first" "[I" : Cond) ∈ lw_g := lw_gi (lw_c2 (List.mem_of_getElem? (i := 40) rfl)) rfl
theorem wm_282 : (Cond.fieldLink "DrawingHouse$Net" (52 : Nat) "DrawingHouse$Net" "faces" "I" : Cond) ∈ lw_g := lw_gi (lw_c2 (List.mem_of_getElem? (i := 42) rfl)) rfl
theorem wm_285 : (Cond.fieldLink "DrawingHouse$Net" (55 : Nat) "DrawingHouse$Net" "rowStart" "[I" : Cond) ∈ lw_g := lw_gi (lw_c2 (List.mem_of_getElem? (i := 45) rfl)) rfl
theorem wm_287 : (Cond.fieldLink "DrawingHouse$Net" (58 : Nat) "DrawingHouse$Net" "rowNode" "[I" : Cond) ∈ lw_g := lw_gi (lw_c2 (List.mem_of_getElem? (i := 47) rfl)) rfl
theorem wm_289 : (Cond.fieldLink "DrawingHouse$Net" (61 : Nat) "DrawingHouse$Net" "faceOf" "[I" : Cond) ∈ lw_g := lw_gi (lw_c2 (List.mem_of_getElem? (i := 49) rfl)) rfl
abbrev b_Ne_init : ByteArray := prog_7_method_1_code
def y_Ne_init : MethodName := ⟨"DrawingHouse$Net", "<init>", "()V"⟩
abbrev z_Ne_init : List Cond := Cond.code y_Ne_init b_Ne_init 1 none :: lw_g
theorem d_Ne_init_0 : decode b_Ne_init 0 = .ok (.aload_n 0, 1) := by decide +kernel
theorem d_Ne_init_1 : decode b_Ne_init 1 = .ok (.invokespecial 3, 3) := by decide +kernel
theorem d_Ne_init_4 : decode b_Ne_init 4 = .ok (.aload_n 0, 1) := by decide +kernel
theorem d_Ne_init_5 : decode b_Ne_init 5 = .ok (.iconst (-1), 1) := by decide +kernel
theorem d_Ne_init_6 : decode b_Ne_init 6 = .ok (.putfield 9, 3) := by decide +kernel
theorem d_Ne_init_9 : decode b_Ne_init 9 = .ok (.aload_n 0, 1) := by decide +kernel
theorem d_Ne_init_10 : decode b_Ne_init 10 = .ok (.iconst (-1), 1) := by decide +kernel
theorem d_Ne_init_11 : decode b_Ne_init 11 = .ok (.putfield 15, 3) := by decide +kernel
theorem d_Ne_init_14 : decode b_Ne_init 14 = .ok (.aload_n 0, 1) := by decide +kernel
theorem d_Ne_init_15 : decode b_Ne_init 15 = .ok (.iconst (-1), 1) := by decide +kernel
theorem d_Ne_init_16 : decode b_Ne_init 16 = .ok (.putfield 18, 3) := by decide +kernel
theorem d_Ne_init_19 : decode b_Ne_init 19 = .ok (.aload_n 0, 1) := by decide +kernel
theorem d_Ne_init_20 : decode b_Ne_init 20 = .ok (.iconst 0, 1) := by decide +kernel
theorem d_Ne_init_21 : decode b_Ne_init 21 = .ok (.putfield 21, 3) := by decide +kernel
theorem d_Ne_init_24 : decode b_Ne_init 24 = .ok (.aload_n 0, 1) := by decide +kernel
theorem d_Ne_init_25 : decode b_Ne_init 25 = .ok (.bipush 48, 2) := by decide +kernel
theorem d_Ne_init_27 : decode b_Ne_init 27 = .ok (.newarray .int, 2) := by decide +kernel
theorem d_Ne_init_29 : decode b_Ne_init 29 = .ok (.putfield 24, 3) := by decide +kernel
theorem d_Ne_init_32 : decode b_Ne_init 32 = .ok (.aload_n 0, 1) := by decide +kernel
theorem d_Ne_init_33 : decode b_Ne_init 33 = .ok (.iconst 0, 1) := by decide +kernel
theorem d_Ne_init_34 : decode b_Ne_init 34 = .ok (.putfield 28, 3) := by decide +kernel
theorem d_Ne_init_37 : decode b_Ne_init 37 = .ok (.aload_n 0, 1) := by decide +kernel
theorem d_Ne_init_38 : decode b_Ne_init 38 = .ok (.iconst 0, 1) := by decide +kernel
theorem d_Ne_init_39 : decode b_Ne_init 39 = .ok (.putfield 31, 3) := by decide +kernel
theorem d_Ne_init_42 : decode b_Ne_init 42 = .ok (.aload_n 0, 1) := by decide +kernel
theorem d_Ne_init_43 : decode b_Ne_init 43 = .ok (.bipush 72, 2) := by decide +kernel
theorem d_Ne_init_45 : decode b_Ne_init 45 = .ok (.newarray .int, 2) := by decide +kernel
theorem d_Ne_init_47 : decode b_Ne_init 47 = .ok (.putfield 34, 3) := by decide +kernel
theorem d_Ne_init_50 : decode b_Ne_init 50 = .ok (.aload_n 0, 1) := by decide +kernel
theorem d_Ne_init_51 : decode b_Ne_init 51 = .ok (.bipush 72, 2) := by decide +kernel
theorem d_Ne_init_53 : decode b_Ne_init 53 = .ok (.newarray .int, 2) := by decide +kernel
theorem d_Ne_init_55 : decode b_Ne_init 55 = .ok (.putfield 37, 3) := by decide +kernel
theorem d_Ne_init_58 : decode b_Ne_init 58 = .ok (.aload_n 0, 1) := by decide +kernel
theorem d_Ne_init_59 : decode b_Ne_init 59 = .ok (.bipush 25, 2) := by decide +kernel
theorem d_Ne_init_61 : decode b_Ne_init 61 = .ok (.newarray .int, 2) := by decide +kernel
theorem d_Ne_init_63 : decode b_Ne_init 63 = .ok (.putfield 40, 3) := by decide +kernel
theorem d_Ne_init_66 : decode b_Ne_init 66 = .ok (.aload_n 0, 1) := by decide +kernel
theorem d_Ne_init_67 : decode b_Ne_init 67 = .ok (.sipush 625, 3) := by decide +kernel
theorem d_Ne_init_70 : decode b_Ne_init 70 = .ok (.newarray .int, 2) := by decide +kernel
theorem d_Ne_init_72 : decode b_Ne_init 72 = .ok (.putfield 43, 3) := by decide +kernel
theorem d_Ne_init_75 : decode b_Ne_init 75 = .ok (.aload_n 0, 1) := by decide +kernel
theorem d_Ne_init_76 : decode b_Ne_init 76 = .ok (.sipush 144, 3) := by decide +kernel
theorem d_Ne_init_79 : decode b_Ne_init 79 = .ok (.newarray .int, 2) := by decide +kernel
theorem d_Ne_init_81 : decode b_Ne_init 81 = .ok (.putfield 46, 3) := by decide +kernel
theorem d_Ne_init_84 : decode b_Ne_init 84 = .ok (.aload_n 0, 1) := by decide +kernel
theorem d_Ne_init_85 : decode b_Ne_init 85 = .ok (.bipush 25, 2) := by decide +kernel
theorem d_Ne_init_87 : decode b_Ne_init 87 = .ok (.newarray .int, 2) := by decide +kernel
theorem d_Ne_init_89 : decode b_Ne_init 89 = .ok (.putfield 49, 3) := by decide +kernel
theorem d_Ne_init_92 : decode b_Ne_init 92 = .ok (.aload_n 0, 1) := by decide +kernel
theorem d_Ne_init_93 : decode b_Ne_init 93 = .ok (.iconst 0, 1) := by decide +kernel
theorem d_Ne_init_94 : decode b_Ne_init 94 = .ok (.putfield 52, 3) := by decide +kernel
theorem d_Ne_init_97 : decode b_Ne_init 97 = .ok (.aload_n 0, 1) := by decide +kernel
theorem d_Ne_init_98 : decode b_Ne_init 98 = .ok (.sipush 145, 3) := by decide +kernel
theorem d_Ne_init_101 : decode b_Ne_init 101 = .ok (.newarray .int, 2) := by decide +kernel
theorem d_Ne_init_103 : decode b_Ne_init 103 = .ok (.putfield 55, 3) := by decide +kernel
theorem d_Ne_init_106 : decode b_Ne_init 106 = .ok (.aload_n 0, 1) := by decide +kernel
theorem d_Ne_init_107 : decode b_Ne_init 107 = .ok (.sipush 144, 3) := by decide +kernel
theorem d_Ne_init_110 : decode b_Ne_init 110 = .ok (.newarray .int, 2) := by decide +kernel
theorem d_Ne_init_112 : decode b_Ne_init 112 = .ok (.putfield 58, 3) := by decide +kernel
theorem d_Ne_init_115 : decode b_Ne_init 115 = .ok (.aload_n 0, 1) := by decide +kernel
theorem d_Ne_init_116 : decode b_Ne_init 116 = .ok (.sipush 144, 3) := by decide +kernel
theorem d_Ne_init_119 : decode b_Ne_init 119 = .ok (.newarray .int, 2) := by decide +kernel
theorem d_Ne_init_121 : decode b_Ne_init 121 = .ok (.putfield 61, 3) := by decide +kernel
theorem d_Ne_init_124 : decode b_Ne_init 124 = .ok (.return_, 1) := by decide +kernel
abbrev f0Ne : List Value := [.int 0, .int 0, .int 0, .int 0, .null, .int 0, .int 0, .null, .null, .null, .null, .null, .null, .int 0, .null, .null, .null]
set_option maxRecDepth 20000 in
theorem f0Ne_ok : ∀ j, j < 17 → defaultValue (t_Ne j) = vp_V f0Ne j := by decide +kernel
def wNe (kA : Nat → ClassId) (h : Nat) (q : Nat → Nat) (x : Nat → Int32) (a : Nat → Nat → Int32) : va_W := [(h, .inr (5, [.int (x 0), .int (x 1), .int (x 2), .int (x 3), .ref (q 4), .int (x 5), .int (x 6), .ref (q 7), .ref (q 8), .ref (q 9), .ref (q 10), .ref (q 11), .ref (q 12), .int (x 13), .ref (q 14), .ref (q 15), .ref (q 16)])), (q 4, .inl (kA 0, 48, .inl (a 4))), (q 7, .inl (kA 0, 72, .inl (a 7))), (q 8, .inl (kA 0, 72, .inl (a 8))), (q 9, .inl (kA 0, 25, .inl (a 9))), (q 10, .inl (kA 0, 625, .inl (a 10))), (q 11, .inl (kA 0, 144, .inl (a 11))), (q 12, .inl (kA 0, 25, .inl (a 12))), (q 14, .inl (kA 0, 145, .inl (a 14))), (q 15, .inl (kA 0, 144, .inl (a 15))), (q 16, .inl (kA 0, 144, .inl (a 16)))]
def x0Ne : Nat → Int32 := fun k => match k with | 0 => (-1) | 1 => (-1) | 2 => (-1) | _ => 0
def a0Ne : Nat → Nat → Int32 := fun _ => fun _ => 0
set_option maxRecDepth 100000 in
set_option maxHeartbeats 4000000 in
/-- DrawingHouse$Net()V -/
theorem c_Ne_init (l : Launch) (D : va_G) (kA : Nat → ClassId) (h : Nat) : Cv l y_Ne_init z_Ne_init { frames := 1, cells := 10, slots := 1444, locals := 12 } D classes (TY kA) [.ref h] [[(h, .inr (5, f0Ne))]] (fun u : (Nat → Nat) => True) (fun u => [wNe kA h u x0Ne a0Ne]) 10 1444 := by
  intro sz
  refine k_met (cc := b_Ne_init) (maxL := 1) (ret := none) (by decide) rfl (Nat.le_of_ble_eq_true rfl) (fun p e s m below meth c ls X hl hB => ?_)
  obtain ⟨hsz, hP, hK, hD0, hN⟩ := hB
  subst hsz
  have hD := hD0.self (sz := s.heap.size)
  generalize hAe : va_A (cat [[(h, .inr (5, [.int 0, .int 0, .int 0, .int 0, .null, .int 0, .int 0, .null, .null, .null, .null, .null, .null, .int 0, .null, .null, .null]))]]) s.heap.size = A at hD ⊢
  have hA : ∀ q : Nat, s.heap.size ≤ q → A q := fun q h => by rw [← hAe]; exact Or.inr h
  have hS : va_S A s.heap s.heap [] := va_S.rf
  obtain ⟨hx, hb, hml, hown, hts, hr, hlk, hnm⟩ := id X
  have hl : lv_has ls 1 [(0, .ref h)] := hl
  have hP : va_P D classes (cat [[(h, .inr (5, [.int 0, .int 0, .int 0, .int 0, .null, .int 0, .int 0, .null, .null, .null, .null, .null, .null, .int 0, .null, .null, .null]))]]) s.heap := hP
  have hK : va_K D classes (TY kA) s := hK
  refine lv_aload_n (pc := 0) hx hb d_Ne_init_0 rfl (lv_at hl 0 rfl) ?_
  refine W.objInit hx hb hown (hts _ wm_247) (hts _ wm_31) (hts _ wm_32) rfl (by rw [hml]; exact hl.1) rfl d_Ne_init_1 (Nat.le_of_ble_eq_true rfl) (Nat.le_of_ble_eq_true rfl) ?_
  refine W.eq (g2 := F0 m 4 ls []) rfl ?_
  refine lv_aload_n (pc := 4) hx hb d_Ne_init_4 rfl (lv_at hl 0 rfl) ?_
  refine lv_iconst (pc := 5) (v := -1) hx hb d_Ne_init_5 (by decide) ?_
  refine k_put (pc := 6) X hK hP hD hS 0 rfl rfl i_Ne t_Ne t_Ne_ok n_Ne 0 (by decide) wm_248 rfl (Or.inl rfl) rfl rfl (Nat.le_of_ble_eq_true rfl) d_Ne_init_6 (fun H locs hP hD hS => ?_)
  have hP : va_P D classes (cat [[(h, .inr (5, [.int ((-1)), .int 0, .int 0, .int 0, .null, .int 0, .int 0, .null, .null, .null, .null, .null, .null, .int 0, .null, .null, .null]))]]) H := hP
  have hD : va_D A (cat [[(h, .inr (5, [.int ((-1)), .int 0, .int 0, .int 0, .null, .int 0, .int 0, .null, .null, .null, .null, .null, .null, .int 0, .null, .null, .null]))]]) := hD
  refine lv_aload_n (pc := 9) hx hb d_Ne_init_9 rfl (lv_at hl 0 rfl) ?_
  refine lv_iconst (pc := 10) (v := -1) hx hb d_Ne_init_10 (by decide) ?_
  refine k_put (pc := 11) X hK hP hD hS 0 rfl rfl i_Ne t_Ne t_Ne_ok n_Ne 1 (by decide) wm_251 rfl (Or.inl rfl) rfl rfl (Nat.le_of_ble_eq_true rfl) d_Ne_init_11 (fun H locs hP hD hS => ?_)
  have hP : va_P D classes (cat [[(h, .inr (5, [.int ((-1)), .int ((-1)), .int 0, .int 0, .null, .int 0, .int 0, .null, .null, .null, .null, .null, .null, .int 0, .null, .null, .null]))]]) H := hP
  have hD : va_D A (cat [[(h, .inr (5, [.int ((-1)), .int ((-1)), .int 0, .int 0, .null, .int 0, .int 0, .null, .null, .null, .null, .null, .null, .int 0, .null, .null, .null]))]]) := hD
  refine lv_aload_n (pc := 14) hx hb d_Ne_init_14 rfl (lv_at hl 0 rfl) ?_
  refine lv_iconst (pc := 15) (v := -1) hx hb d_Ne_init_15 (by decide) ?_
  refine k_put (pc := 16) X hK hP hD hS 0 rfl rfl i_Ne t_Ne t_Ne_ok n_Ne 2 (by decide) wm_253 rfl (Or.inl rfl) rfl rfl (Nat.le_of_ble_eq_true rfl) d_Ne_init_16 (fun H locs hP hD hS => ?_)
  have hP : va_P D classes (cat [[(h, .inr (5, [.int ((-1)), .int ((-1)), .int ((-1)), .int 0, .null, .int 0, .int 0, .null, .null, .null, .null, .null, .null, .int 0, .null, .null, .null]))]]) H := hP
  have hD : va_D A (cat [[(h, .inr (5, [.int ((-1)), .int ((-1)), .int ((-1)), .int 0, .null, .int 0, .int 0, .null, .null, .null, .null, .null, .null, .int 0, .null, .null, .null]))]]) := hD
  refine lv_aload_n (pc := 19) hx hb d_Ne_init_19 rfl (lv_at hl 0 rfl) ?_
  refine lv_iconst (pc := 20) (v := 0) hx hb d_Ne_init_20 (by decide) ?_
  refine k_put (pc := 21) X hK hP hD hS 0 rfl rfl i_Ne t_Ne t_Ne_ok n_Ne 3 (by decide) wm_256 rfl (Or.inl rfl) rfl rfl (Nat.le_of_ble_eq_true rfl) d_Ne_init_21 (fun H locs hP hD hS => ?_)
  have hP : va_P D classes (cat [[(h, .inr (5, [.int ((-1)), .int ((-1)), .int ((-1)), .int 0, .null, .int 0, .int 0, .null, .null, .null, .null, .null, .null, .int 0, .null, .null, .null]))]]) H := hP
  have hD : va_D A (cat [[(h, .inr (5, [.int ((-1)), .int ((-1)), .int ((-1)), .int 0, .null, .int 0, .int 0, .null, .null, .null, .null, .null, .null, .int 0, .null, .null, .null]))]]) := hD
  refine lv_aload_n (pc := 24) hx hb d_Ne_init_24 rfl (lv_at hl 0 rfl) ?_
  refine lv_bipush (pc := 25) (v := 48) hx hb d_Ne_init_25 (by decide) ?_
  refine k_newa (pc := 27) (atype := .int) X (ty := .int) (a0 := (48, .inl (fun _ => 0))) rfl rfl wm_193 hK hP hD hS hA 0 rfl (fun _ => rfl) (by decide) rfl (by decide) (Nat.le_of_ble_eq_true rfl) (Nat.le_of_ble_eq_true rfl) d_Ne_init_27 (fun q1 H hP hD hS => ?_)
  have hP : va_P D classes (cat [[(h, .inr (5, [.int ((-1)), .int ((-1)), .int ((-1)), .int 0, .null, .int 0, .int 0, .null, .null, .null, .null, .null, .null, .int 0, .null, .null, .null]))], [(q1, .inl (kA 0, 48, .inl (fun _ => 0)))]]) H := hP
  have hD : va_D A (cat [[(h, .inr (5, [.int ((-1)), .int ((-1)), .int ((-1)), .int 0, .null, .int 0, .int 0, .null, .null, .null, .null, .null, .null, .int 0, .null, .null, .null]))], [(q1, .inl (kA 0, 48, .inl (fun _ => 0)))]]) := hD
  refine W.widen (k := 1) (n := 48) (by omega) (by omega) ?_
  refine k_put (pc := 29) X hK hP hD hS 0 rfl rfl i_Ne t_Ne t_Ne_ok n_Ne 4 (by decide) wm_259 rfl (Or.inr ⟨rfl, rfl⟩) rfl rfl (Nat.le_of_ble_eq_true rfl) d_Ne_init_29 (fun H locs hP hD hS => ?_)
  have hP : va_P D classes (cat [[(h, .inr (5, [.int ((-1)), .int ((-1)), .int ((-1)), .int 0, .ref q1, .int 0, .int 0, .null, .null, .null, .null, .null, .null, .int 0, .null, .null, .null]))], [(q1, .inl (kA 0, 48, .inl (fun _ => 0)))]]) H := hP
  have hD : va_D A (cat [[(h, .inr (5, [.int ((-1)), .int ((-1)), .int ((-1)), .int 0, .ref q1, .int 0, .int 0, .null, .null, .null, .null, .null, .null, .int 0, .null, .null, .null]))], [(q1, .inl (kA 0, 48, .inl (fun _ => 0)))]]) := hD
  refine lv_aload_n (pc := 32) hx hb d_Ne_init_32 rfl (lv_at hl 0 rfl) ?_
  refine lv_iconst (pc := 33) (v := 0) hx hb d_Ne_init_33 (by decide) ?_
  refine k_put (pc := 34) X hK hP hD hS 0 rfl rfl i_Ne t_Ne t_Ne_ok n_Ne 5 (by decide) wm_262 rfl (Or.inl rfl) rfl rfl (Nat.le_of_ble_eq_true rfl) d_Ne_init_34 (fun H locs hP hD hS => ?_)
  have hP : va_P D classes (cat [[(h, .inr (5, [.int ((-1)), .int ((-1)), .int ((-1)), .int 0, .ref q1, .int 0, .int 0, .null, .null, .null, .null, .null, .null, .int 0, .null, .null, .null]))], [(q1, .inl (kA 0, 48, .inl (fun _ => 0)))]]) H := hP
  have hD : va_D A (cat [[(h, .inr (5, [.int ((-1)), .int ((-1)), .int ((-1)), .int 0, .ref q1, .int 0, .int 0, .null, .null, .null, .null, .null, .null, .int 0, .null, .null, .null]))], [(q1, .inl (kA 0, 48, .inl (fun _ => 0)))]]) := hD
  refine lv_aload_n (pc := 37) hx hb d_Ne_init_37 rfl (lv_at hl 0 rfl) ?_
  refine lv_iconst (pc := 38) (v := 0) hx hb d_Ne_init_38 (by decide) ?_
  refine k_put (pc := 39) X hK hP hD hS 0 rfl rfl i_Ne t_Ne t_Ne_ok n_Ne 6 (by decide) wm_265 rfl (Or.inl rfl) rfl rfl (Nat.le_of_ble_eq_true rfl) d_Ne_init_39 (fun H locs hP hD hS => ?_)
  have hP : va_P D classes (cat [[(h, .inr (5, [.int ((-1)), .int ((-1)), .int ((-1)), .int 0, .ref q1, .int 0, .int 0, .null, .null, .null, .null, .null, .null, .int 0, .null, .null, .null]))], [(q1, .inl (kA 0, 48, .inl (fun _ => 0)))]]) H := hP
  have hD : va_D A (cat [[(h, .inr (5, [.int ((-1)), .int ((-1)), .int ((-1)), .int 0, .ref q1, .int 0, .int 0, .null, .null, .null, .null, .null, .null, .int 0, .null, .null, .null]))], [(q1, .inl (kA 0, 48, .inl (fun _ => 0)))]]) := hD
  refine lv_aload_n (pc := 42) hx hb d_Ne_init_42 rfl (lv_at hl 0 rfl) ?_
  refine lv_bipush (pc := 43) (v := 72) hx hb d_Ne_init_43 (by decide) ?_
  refine k_newa (pc := 45) (atype := .int) X (ty := .int) (a0 := (72, .inl (fun _ => 0))) rfl rfl wm_193 hK hP hD hS hA 0 rfl (fun _ => rfl) (by decide) rfl (by decide) (Nat.le_of_ble_eq_true rfl) (Nat.le_of_ble_eq_true rfl) d_Ne_init_45 (fun q2 H hP hD hS => ?_)
  have hP : va_P D classes (cat [[(h, .inr (5, [.int ((-1)), .int ((-1)), .int ((-1)), .int 0, .ref q1, .int 0, .int 0, .null, .null, .null, .null, .null, .null, .int 0, .null, .null, .null]))], [(q1, .inl (kA 0, 48, .inl (fun _ => 0)))], [(q2, .inl (kA 0, 72, .inl (fun _ => 0)))]]) H := hP
  have hD : va_D A (cat [[(h, .inr (5, [.int ((-1)), .int ((-1)), .int ((-1)), .int 0, .ref q1, .int 0, .int 0, .null, .null, .null, .null, .null, .null, .int 0, .null, .null, .null]))], [(q1, .inl (kA 0, 48, .inl (fun _ => 0)))], [(q2, .inl (kA 0, 72, .inl (fun _ => 0)))]]) := hD
  refine W.widen (k := 2) (n := 120) (by omega) (by omega) ?_
  refine k_put (pc := 47) X hK hP hD hS 0 rfl rfl i_Ne t_Ne t_Ne_ok n_Ne 7 (by decide) wm_267 rfl (Or.inr ⟨rfl, rfl⟩) rfl rfl (Nat.le_of_ble_eq_true rfl) d_Ne_init_47 (fun H locs hP hD hS => ?_)
  have hP : va_P D classes (cat [[(h, .inr (5, [.int ((-1)), .int ((-1)), .int ((-1)), .int 0, .ref q1, .int 0, .int 0, .ref q2, .null, .null, .null, .null, .null, .int 0, .null, .null, .null]))], [(q1, .inl (kA 0, 48, .inl (fun _ => 0)))], [(q2, .inl (kA 0, 72, .inl (fun _ => 0)))]]) H := hP
  have hD : va_D A (cat [[(h, .inr (5, [.int ((-1)), .int ((-1)), .int ((-1)), .int 0, .ref q1, .int 0, .int 0, .ref q2, .null, .null, .null, .null, .null, .int 0, .null, .null, .null]))], [(q1, .inl (kA 0, 48, .inl (fun _ => 0)))], [(q2, .inl (kA 0, 72, .inl (fun _ => 0)))]]) := hD
  refine lv_aload_n (pc := 50) hx hb d_Ne_init_50 rfl (lv_at hl 0 rfl) ?_
  refine lv_bipush (pc := 51) (v := 72) hx hb d_Ne_init_51 (by decide) ?_
  refine k_newa (pc := 53) (atype := .int) X (ty := .int) (a0 := (72, .inl (fun _ => 0))) rfl rfl wm_193 hK hP hD hS hA 0 rfl (fun _ => rfl) (by decide) rfl (by decide) (Nat.le_of_ble_eq_true rfl) (Nat.le_of_ble_eq_true rfl) d_Ne_init_53 (fun q3 H hP hD hS => ?_)
  have hP : va_P D classes (cat [[(h, .inr (5, [.int ((-1)), .int ((-1)), .int ((-1)), .int 0, .ref q1, .int 0, .int 0, .ref q2, .null, .null, .null, .null, .null, .int 0, .null, .null, .null]))], [(q1, .inl (kA 0, 48, .inl (fun _ => 0)))], [(q2, .inl (kA 0, 72, .inl (fun _ => 0)))], [(q3, .inl (kA 0, 72, .inl (fun _ => 0)))]]) H := hP
  have hD : va_D A (cat [[(h, .inr (5, [.int ((-1)), .int ((-1)), .int ((-1)), .int 0, .ref q1, .int 0, .int 0, .ref q2, .null, .null, .null, .null, .null, .int 0, .null, .null, .null]))], [(q1, .inl (kA 0, 48, .inl (fun _ => 0)))], [(q2, .inl (kA 0, 72, .inl (fun _ => 0)))], [(q3, .inl (kA 0, 72, .inl (fun _ => 0)))]]) := hD
  refine W.widen (k := 3) (n := 192) (by omega) (by omega) ?_
  refine k_put (pc := 55) X hK hP hD hS 0 rfl rfl i_Ne t_Ne t_Ne_ok n_Ne 8 (by decide) wm_270 rfl (Or.inr ⟨rfl, rfl⟩) rfl rfl (Nat.le_of_ble_eq_true rfl) d_Ne_init_55 (fun H locs hP hD hS => ?_)
  have hP : va_P D classes (cat [[(h, .inr (5, [.int ((-1)), .int ((-1)), .int ((-1)), .int 0, .ref q1, .int 0, .int 0, .ref q2, .ref q3, .null, .null, .null, .null, .int 0, .null, .null, .null]))], [(q1, .inl (kA 0, 48, .inl (fun _ => 0)))], [(q2, .inl (kA 0, 72, .inl (fun _ => 0)))], [(q3, .inl (kA 0, 72, .inl (fun _ => 0)))]]) H := hP
  have hD : va_D A (cat [[(h, .inr (5, [.int ((-1)), .int ((-1)), .int ((-1)), .int 0, .ref q1, .int 0, .int 0, .ref q2, .ref q3, .null, .null, .null, .null, .int 0, .null, .null, .null]))], [(q1, .inl (kA 0, 48, .inl (fun _ => 0)))], [(q2, .inl (kA 0, 72, .inl (fun _ => 0)))], [(q3, .inl (kA 0, 72, .inl (fun _ => 0)))]]) := hD
  refine lv_aload_n (pc := 58) hx hb d_Ne_init_58 rfl (lv_at hl 0 rfl) ?_
  refine lv_bipush (pc := 59) (v := 25) hx hb d_Ne_init_59 (by decide) ?_
  refine k_newa (pc := 61) (atype := .int) X (ty := .int) (a0 := (25, .inl (fun _ => 0))) rfl rfl wm_193 hK hP hD hS hA 0 rfl (fun _ => rfl) (by decide) rfl (by decide) (Nat.le_of_ble_eq_true rfl) (Nat.le_of_ble_eq_true rfl) d_Ne_init_61 (fun q4 H hP hD hS => ?_)
  have hP : va_P D classes (cat [[(h, .inr (5, [.int ((-1)), .int ((-1)), .int ((-1)), .int 0, .ref q1, .int 0, .int 0, .ref q2, .ref q3, .null, .null, .null, .null, .int 0, .null, .null, .null]))], [(q1, .inl (kA 0, 48, .inl (fun _ => 0)))], [(q2, .inl (kA 0, 72, .inl (fun _ => 0)))], [(q3, .inl (kA 0, 72, .inl (fun _ => 0)))], [(q4, .inl (kA 0, 25, .inl (fun _ => 0)))]]) H := hP
  have hD : va_D A (cat [[(h, .inr (5, [.int ((-1)), .int ((-1)), .int ((-1)), .int 0, .ref q1, .int 0, .int 0, .ref q2, .ref q3, .null, .null, .null, .null, .int 0, .null, .null, .null]))], [(q1, .inl (kA 0, 48, .inl (fun _ => 0)))], [(q2, .inl (kA 0, 72, .inl (fun _ => 0)))], [(q3, .inl (kA 0, 72, .inl (fun _ => 0)))], [(q4, .inl (kA 0, 25, .inl (fun _ => 0)))]]) := hD
  refine W.widen (k := 4) (n := 217) (by omega) (by omega) ?_
  refine k_put (pc := 63) X hK hP hD hS 0 rfl rfl i_Ne t_Ne t_Ne_ok n_Ne 9 (by decide) wm_273 rfl (Or.inr ⟨rfl, rfl⟩) rfl rfl (Nat.le_of_ble_eq_true rfl) d_Ne_init_63 (fun H locs hP hD hS => ?_)
  have hP : va_P D classes (cat [[(h, .inr (5, [.int ((-1)), .int ((-1)), .int ((-1)), .int 0, .ref q1, .int 0, .int 0, .ref q2, .ref q3, .ref q4, .null, .null, .null, .int 0, .null, .null, .null]))], [(q1, .inl (kA 0, 48, .inl (fun _ => 0)))], [(q2, .inl (kA 0, 72, .inl (fun _ => 0)))], [(q3, .inl (kA 0, 72, .inl (fun _ => 0)))], [(q4, .inl (kA 0, 25, .inl (fun _ => 0)))]]) H := hP
  have hD : va_D A (cat [[(h, .inr (5, [.int ((-1)), .int ((-1)), .int ((-1)), .int 0, .ref q1, .int 0, .int 0, .ref q2, .ref q3, .ref q4, .null, .null, .null, .int 0, .null, .null, .null]))], [(q1, .inl (kA 0, 48, .inl (fun _ => 0)))], [(q2, .inl (kA 0, 72, .inl (fun _ => 0)))], [(q3, .inl (kA 0, 72, .inl (fun _ => 0)))], [(q4, .inl (kA 0, 25, .inl (fun _ => 0)))]]) := hD
  refine lv_aload_n (pc := 66) hx hb d_Ne_init_66 rfl (lv_at hl 0 rfl) ?_
  refine lv_sipush (pc := 67) (v := 625) hx hb d_Ne_init_67 (by decide) ?_
  refine k_newa (pc := 70) (atype := .int) X (ty := .int) (a0 := (625, .inl (fun _ => 0))) rfl rfl wm_193 hK hP hD hS hA 0 rfl (fun _ => rfl) (by decide) rfl (by decide) (Nat.le_of_ble_eq_true rfl) (Nat.le_of_ble_eq_true rfl) d_Ne_init_70 (fun q5 H hP hD hS => ?_)
  have hP : va_P D classes (cat [[(h, .inr (5, [.int ((-1)), .int ((-1)), .int ((-1)), .int 0, .ref q1, .int 0, .int 0, .ref q2, .ref q3, .ref q4, .null, .null, .null, .int 0, .null, .null, .null]))], [(q1, .inl (kA 0, 48, .inl (fun _ => 0)))], [(q2, .inl (kA 0, 72, .inl (fun _ => 0)))], [(q3, .inl (kA 0, 72, .inl (fun _ => 0)))], [(q4, .inl (kA 0, 25, .inl (fun _ => 0)))], [(q5, .inl (kA 0, 625, .inl (fun _ => 0)))]]) H := hP
  have hD : va_D A (cat [[(h, .inr (5, [.int ((-1)), .int ((-1)), .int ((-1)), .int 0, .ref q1, .int 0, .int 0, .ref q2, .ref q3, .ref q4, .null, .null, .null, .int 0, .null, .null, .null]))], [(q1, .inl (kA 0, 48, .inl (fun _ => 0)))], [(q2, .inl (kA 0, 72, .inl (fun _ => 0)))], [(q3, .inl (kA 0, 72, .inl (fun _ => 0)))], [(q4, .inl (kA 0, 25, .inl (fun _ => 0)))], [(q5, .inl (kA 0, 625, .inl (fun _ => 0)))]]) := hD
  refine W.widen (k := 5) (n := 842) (by omega) (by omega) ?_
  refine k_put (pc := 72) X hK hP hD hS 0 rfl rfl i_Ne t_Ne t_Ne_ok n_Ne 10 (by decide) wm_276 rfl (Or.inr ⟨rfl, rfl⟩) rfl rfl (Nat.le_of_ble_eq_true rfl) d_Ne_init_72 (fun H locs hP hD hS => ?_)
  have hP : va_P D classes (cat [[(h, .inr (5, [.int ((-1)), .int ((-1)), .int ((-1)), .int 0, .ref q1, .int 0, .int 0, .ref q2, .ref q3, .ref q4, .ref q5, .null, .null, .int 0, .null, .null, .null]))], [(q1, .inl (kA 0, 48, .inl (fun _ => 0)))], [(q2, .inl (kA 0, 72, .inl (fun _ => 0)))], [(q3, .inl (kA 0, 72, .inl (fun _ => 0)))], [(q4, .inl (kA 0, 25, .inl (fun _ => 0)))], [(q5, .inl (kA 0, 625, .inl (fun _ => 0)))]]) H := hP
  have hD : va_D A (cat [[(h, .inr (5, [.int ((-1)), .int ((-1)), .int ((-1)), .int 0, .ref q1, .int 0, .int 0, .ref q2, .ref q3, .ref q4, .ref q5, .null, .null, .int 0, .null, .null, .null]))], [(q1, .inl (kA 0, 48, .inl (fun _ => 0)))], [(q2, .inl (kA 0, 72, .inl (fun _ => 0)))], [(q3, .inl (kA 0, 72, .inl (fun _ => 0)))], [(q4, .inl (kA 0, 25, .inl (fun _ => 0)))], [(q5, .inl (kA 0, 625, .inl (fun _ => 0)))]]) := hD
  refine lv_aload_n (pc := 75) hx hb d_Ne_init_75 rfl (lv_at hl 0 rfl) ?_
  refine lv_sipush (pc := 76) (v := 144) hx hb d_Ne_init_76 (by decide) ?_
  refine k_newa (pc := 79) (atype := .int) X (ty := .int) (a0 := (144, .inl (fun _ => 0))) rfl rfl wm_193 hK hP hD hS hA 0 rfl (fun _ => rfl) (by decide) rfl (by decide) (Nat.le_of_ble_eq_true rfl) (Nat.le_of_ble_eq_true rfl) d_Ne_init_79 (fun q6 H hP hD hS => ?_)
  have hP : va_P D classes (cat [[(h, .inr (5, [.int ((-1)), .int ((-1)), .int ((-1)), .int 0, .ref q1, .int 0, .int 0, .ref q2, .ref q3, .ref q4, .ref q5, .null, .null, .int 0, .null, .null, .null]))], [(q1, .inl (kA 0, 48, .inl (fun _ => 0)))], [(q2, .inl (kA 0, 72, .inl (fun _ => 0)))], [(q3, .inl (kA 0, 72, .inl (fun _ => 0)))], [(q4, .inl (kA 0, 25, .inl (fun _ => 0)))], [(q5, .inl (kA 0, 625, .inl (fun _ => 0)))], [(q6, .inl (kA 0, 144, .inl (fun _ => 0)))]]) H := hP
  have hD : va_D A (cat [[(h, .inr (5, [.int ((-1)), .int ((-1)), .int ((-1)), .int 0, .ref q1, .int 0, .int 0, .ref q2, .ref q3, .ref q4, .ref q5, .null, .null, .int 0, .null, .null, .null]))], [(q1, .inl (kA 0, 48, .inl (fun _ => 0)))], [(q2, .inl (kA 0, 72, .inl (fun _ => 0)))], [(q3, .inl (kA 0, 72, .inl (fun _ => 0)))], [(q4, .inl (kA 0, 25, .inl (fun _ => 0)))], [(q5, .inl (kA 0, 625, .inl (fun _ => 0)))], [(q6, .inl (kA 0, 144, .inl (fun _ => 0)))]]) := hD
  refine W.widen (k := 6) (n := 986) (by omega) (by omega) ?_
  refine k_put (pc := 81) X hK hP hD hS 0 rfl rfl i_Ne t_Ne t_Ne_ok n_Ne 11 (by decide) wm_277 rfl (Or.inr ⟨rfl, rfl⟩) rfl rfl (Nat.le_of_ble_eq_true rfl) d_Ne_init_81 (fun H locs hP hD hS => ?_)
  have hP : va_P D classes (cat [[(h, .inr (5, [.int ((-1)), .int ((-1)), .int ((-1)), .int 0, .ref q1, .int 0, .int 0, .ref q2, .ref q3, .ref q4, .ref q5, .ref q6, .null, .int 0, .null, .null, .null]))], [(q1, .inl (kA 0, 48, .inl (fun _ => 0)))], [(q2, .inl (kA 0, 72, .inl (fun _ => 0)))], [(q3, .inl (kA 0, 72, .inl (fun _ => 0)))], [(q4, .inl (kA 0, 25, .inl (fun _ => 0)))], [(q5, .inl (kA 0, 625, .inl (fun _ => 0)))], [(q6, .inl (kA 0, 144, .inl (fun _ => 0)))]]) H := hP
  have hD : va_D A (cat [[(h, .inr (5, [.int ((-1)), .int ((-1)), .int ((-1)), .int 0, .ref q1, .int 0, .int 0, .ref q2, .ref q3, .ref q4, .ref q5, .ref q6, .null, .int 0, .null, .null, .null]))], [(q1, .inl (kA 0, 48, .inl (fun _ => 0)))], [(q2, .inl (kA 0, 72, .inl (fun _ => 0)))], [(q3, .inl (kA 0, 72, .inl (fun _ => 0)))], [(q4, .inl (kA 0, 25, .inl (fun _ => 0)))], [(q5, .inl (kA 0, 625, .inl (fun _ => 0)))], [(q6, .inl (kA 0, 144, .inl (fun _ => 0)))]]) := hD
  refine lv_aload_n (pc := 84) hx hb d_Ne_init_84 rfl (lv_at hl 0 rfl) ?_
  refine lv_bipush (pc := 85) (v := 25) hx hb d_Ne_init_85 (by decide) ?_
  refine k_newa (pc := 87) (atype := .int) X (ty := .int) (a0 := (25, .inl (fun _ => 0))) rfl rfl wm_193 hK hP hD hS hA 0 rfl (fun _ => rfl) (by decide) rfl (by decide) (Nat.le_of_ble_eq_true rfl) (Nat.le_of_ble_eq_true rfl) d_Ne_init_87 (fun q7 H hP hD hS => ?_)
  have hP : va_P D classes (cat [[(h, .inr (5, [.int ((-1)), .int ((-1)), .int ((-1)), .int 0, .ref q1, .int 0, .int 0, .ref q2, .ref q3, .ref q4, .ref q5, .ref q6, .null, .int 0, .null, .null, .null]))], [(q1, .inl (kA 0, 48, .inl (fun _ => 0)))], [(q2, .inl (kA 0, 72, .inl (fun _ => 0)))], [(q3, .inl (kA 0, 72, .inl (fun _ => 0)))], [(q4, .inl (kA 0, 25, .inl (fun _ => 0)))], [(q5, .inl (kA 0, 625, .inl (fun _ => 0)))], [(q6, .inl (kA 0, 144, .inl (fun _ => 0)))], [(q7, .inl (kA 0, 25, .inl (fun _ => 0)))]]) H := hP
  have hD : va_D A (cat [[(h, .inr (5, [.int ((-1)), .int ((-1)), .int ((-1)), .int 0, .ref q1, .int 0, .int 0, .ref q2, .ref q3, .ref q4, .ref q5, .ref q6, .null, .int 0, .null, .null, .null]))], [(q1, .inl (kA 0, 48, .inl (fun _ => 0)))], [(q2, .inl (kA 0, 72, .inl (fun _ => 0)))], [(q3, .inl (kA 0, 72, .inl (fun _ => 0)))], [(q4, .inl (kA 0, 25, .inl (fun _ => 0)))], [(q5, .inl (kA 0, 625, .inl (fun _ => 0)))], [(q6, .inl (kA 0, 144, .inl (fun _ => 0)))], [(q7, .inl (kA 0, 25, .inl (fun _ => 0)))]]) := hD
  refine W.widen (k := 7) (n := 1011) (by omega) (by omega) ?_
  refine k_put (pc := 89) X hK hP hD hS 0 rfl rfl i_Ne t_Ne t_Ne_ok n_Ne 12 (by decide) wm_280 rfl (Or.inr ⟨rfl, rfl⟩) rfl rfl (Nat.le_of_ble_eq_true rfl) d_Ne_init_89 (fun H locs hP hD hS => ?_)
  have hP : va_P D classes (cat [[(h, .inr (5, [.int ((-1)), .int ((-1)), .int ((-1)), .int 0, .ref q1, .int 0, .int 0, .ref q2, .ref q3, .ref q4, .ref q5, .ref q6, .ref q7, .int 0, .null, .null, .null]))], [(q1, .inl (kA 0, 48, .inl (fun _ => 0)))], [(q2, .inl (kA 0, 72, .inl (fun _ => 0)))], [(q3, .inl (kA 0, 72, .inl (fun _ => 0)))], [(q4, .inl (kA 0, 25, .inl (fun _ => 0)))], [(q5, .inl (kA 0, 625, .inl (fun _ => 0)))], [(q6, .inl (kA 0, 144, .inl (fun _ => 0)))], [(q7, .inl (kA 0, 25, .inl (fun _ => 0)))]]) H := hP
  have hD : va_D A (cat [[(h, .inr (5, [.int ((-1)), .int ((-1)), .int ((-1)), .int 0, .ref q1, .int 0, .int 0, .ref q2, .ref q3, .ref q4, .ref q5, .ref q6, .ref q7, .int 0, .null, .null, .null]))], [(q1, .inl (kA 0, 48, .inl (fun _ => 0)))], [(q2, .inl (kA 0, 72, .inl (fun _ => 0)))], [(q3, .inl (kA 0, 72, .inl (fun _ => 0)))], [(q4, .inl (kA 0, 25, .inl (fun _ => 0)))], [(q5, .inl (kA 0, 625, .inl (fun _ => 0)))], [(q6, .inl (kA 0, 144, .inl (fun _ => 0)))], [(q7, .inl (kA 0, 25, .inl (fun _ => 0)))]]) := hD
  refine lv_aload_n (pc := 92) hx hb d_Ne_init_92 rfl (lv_at hl 0 rfl) ?_
  refine lv_iconst (pc := 93) (v := 0) hx hb d_Ne_init_93 (by decide) ?_
  refine k_put (pc := 94) X hK hP hD hS 0 rfl rfl i_Ne t_Ne t_Ne_ok n_Ne 13 (by decide) wm_282 rfl (Or.inl rfl) rfl rfl (Nat.le_of_ble_eq_true rfl) d_Ne_init_94 (fun H locs hP hD hS => ?_)
  have hP : va_P D classes (cat [[(h, .inr (5, [.int ((-1)), .int ((-1)), .int ((-1)), .int 0, .ref q1, .int 0, .int 0, .ref q2, .ref q3, .ref q4, .ref q5, .ref q6, .ref q7, .int 0, .null, .null, .null]))], [(q1, .inl (kA 0, 48, .inl (fun _ => 0)))], [(q2, .inl (kA 0, 72, .inl (fun _ => 0)))], [(q3, .inl (kA 0, 72, .inl (fun _ => 0)))], [(q4, .inl (kA 0, 25, .inl (fun _ => 0)))], [(q5, .inl (kA 0, 625, .inl (fun _ => 0)))], [(q6, .inl (kA 0, 144, .inl (fun _ => 0)))], [(q7, .inl (kA 0, 25, .inl (fun _ => 0)))]]) H := hP
  have hD : va_D A (cat [[(h, .inr (5, [.int ((-1)), .int ((-1)), .int ((-1)), .int 0, .ref q1, .int 0, .int 0, .ref q2, .ref q3, .ref q4, .ref q5, .ref q6, .ref q7, .int 0, .null, .null, .null]))], [(q1, .inl (kA 0, 48, .inl (fun _ => 0)))], [(q2, .inl (kA 0, 72, .inl (fun _ => 0)))], [(q3, .inl (kA 0, 72, .inl (fun _ => 0)))], [(q4, .inl (kA 0, 25, .inl (fun _ => 0)))], [(q5, .inl (kA 0, 625, .inl (fun _ => 0)))], [(q6, .inl (kA 0, 144, .inl (fun _ => 0)))], [(q7, .inl (kA 0, 25, .inl (fun _ => 0)))]]) := hD
  refine lv_aload_n (pc := 97) hx hb d_Ne_init_97 rfl (lv_at hl 0 rfl) ?_
  refine lv_sipush (pc := 98) (v := 145) hx hb d_Ne_init_98 (by decide) ?_
  refine k_newa (pc := 101) (atype := .int) X (ty := .int) (a0 := (145, .inl (fun _ => 0))) rfl rfl wm_193 hK hP hD hS hA 0 rfl (fun _ => rfl) (by decide) rfl (by decide) (Nat.le_of_ble_eq_true rfl) (Nat.le_of_ble_eq_true rfl) d_Ne_init_101 (fun q8 H hP hD hS => ?_)
  have hP : va_P D classes (cat [[(h, .inr (5, [.int ((-1)), .int ((-1)), .int ((-1)), .int 0, .ref q1, .int 0, .int 0, .ref q2, .ref q3, .ref q4, .ref q5, .ref q6, .ref q7, .int 0, .null, .null, .null]))], [(q1, .inl (kA 0, 48, .inl (fun _ => 0)))], [(q2, .inl (kA 0, 72, .inl (fun _ => 0)))], [(q3, .inl (kA 0, 72, .inl (fun _ => 0)))], [(q4, .inl (kA 0, 25, .inl (fun _ => 0)))], [(q5, .inl (kA 0, 625, .inl (fun _ => 0)))], [(q6, .inl (kA 0, 144, .inl (fun _ => 0)))], [(q7, .inl (kA 0, 25, .inl (fun _ => 0)))], [(q8, .inl (kA 0, 145, .inl (fun _ => 0)))]]) H := hP
  have hD : va_D A (cat [[(h, .inr (5, [.int ((-1)), .int ((-1)), .int ((-1)), .int 0, .ref q1, .int 0, .int 0, .ref q2, .ref q3, .ref q4, .ref q5, .ref q6, .ref q7, .int 0, .null, .null, .null]))], [(q1, .inl (kA 0, 48, .inl (fun _ => 0)))], [(q2, .inl (kA 0, 72, .inl (fun _ => 0)))], [(q3, .inl (kA 0, 72, .inl (fun _ => 0)))], [(q4, .inl (kA 0, 25, .inl (fun _ => 0)))], [(q5, .inl (kA 0, 625, .inl (fun _ => 0)))], [(q6, .inl (kA 0, 144, .inl (fun _ => 0)))], [(q7, .inl (kA 0, 25, .inl (fun _ => 0)))], [(q8, .inl (kA 0, 145, .inl (fun _ => 0)))]]) := hD
  refine W.widen (k := 8) (n := 1156) (by omega) (by omega) ?_
  refine k_put (pc := 103) X hK hP hD hS 0 rfl rfl i_Ne t_Ne t_Ne_ok n_Ne 14 (by decide) wm_285 rfl (Or.inr ⟨rfl, rfl⟩) rfl rfl (Nat.le_of_ble_eq_true rfl) d_Ne_init_103 (fun H locs hP hD hS => ?_)
  have hP : va_P D classes (cat [[(h, .inr (5, [.int ((-1)), .int ((-1)), .int ((-1)), .int 0, .ref q1, .int 0, .int 0, .ref q2, .ref q3, .ref q4, .ref q5, .ref q6, .ref q7, .int 0, .ref q8, .null, .null]))], [(q1, .inl (kA 0, 48, .inl (fun _ => 0)))], [(q2, .inl (kA 0, 72, .inl (fun _ => 0)))], [(q3, .inl (kA 0, 72, .inl (fun _ => 0)))], [(q4, .inl (kA 0, 25, .inl (fun _ => 0)))], [(q5, .inl (kA 0, 625, .inl (fun _ => 0)))], [(q6, .inl (kA 0, 144, .inl (fun _ => 0)))], [(q7, .inl (kA 0, 25, .inl (fun _ => 0)))], [(q8, .inl (kA 0, 145, .inl (fun _ => 0)))]]) H := hP
  have hD : va_D A (cat [[(h, .inr (5, [.int ((-1)), .int ((-1)), .int ((-1)), .int 0, .ref q1, .int 0, .int 0, .ref q2, .ref q3, .ref q4, .ref q5, .ref q6, .ref q7, .int 0, .ref q8, .null, .null]))], [(q1, .inl (kA 0, 48, .inl (fun _ => 0)))], [(q2, .inl (kA 0, 72, .inl (fun _ => 0)))], [(q3, .inl (kA 0, 72, .inl (fun _ => 0)))], [(q4, .inl (kA 0, 25, .inl (fun _ => 0)))], [(q5, .inl (kA 0, 625, .inl (fun _ => 0)))], [(q6, .inl (kA 0, 144, .inl (fun _ => 0)))], [(q7, .inl (kA 0, 25, .inl (fun _ => 0)))], [(q8, .inl (kA 0, 145, .inl (fun _ => 0)))]]) := hD
  refine lv_aload_n (pc := 106) hx hb d_Ne_init_106 rfl (lv_at hl 0 rfl) ?_
  refine lv_sipush (pc := 107) (v := 144) hx hb d_Ne_init_107 (by decide) ?_
  refine k_newa (pc := 110) (atype := .int) X (ty := .int) (a0 := (144, .inl (fun _ => 0))) rfl rfl wm_193 hK hP hD hS hA 0 rfl (fun _ => rfl) (by decide) rfl (by decide) (Nat.le_of_ble_eq_true rfl) (Nat.le_of_ble_eq_true rfl) d_Ne_init_110 (fun q9 H hP hD hS => ?_)
  have hP : va_P D classes (cat [[(h, .inr (5, [.int ((-1)), .int ((-1)), .int ((-1)), .int 0, .ref q1, .int 0, .int 0, .ref q2, .ref q3, .ref q4, .ref q5, .ref q6, .ref q7, .int 0, .ref q8, .null, .null]))], [(q1, .inl (kA 0, 48, .inl (fun _ => 0)))], [(q2, .inl (kA 0, 72, .inl (fun _ => 0)))], [(q3, .inl (kA 0, 72, .inl (fun _ => 0)))], [(q4, .inl (kA 0, 25, .inl (fun _ => 0)))], [(q5, .inl (kA 0, 625, .inl (fun _ => 0)))], [(q6, .inl (kA 0, 144, .inl (fun _ => 0)))], [(q7, .inl (kA 0, 25, .inl (fun _ => 0)))], [(q8, .inl (kA 0, 145, .inl (fun _ => 0)))], [(q9, .inl (kA 0, 144, .inl (fun _ => 0)))]]) H := hP
  have hD : va_D A (cat [[(h, .inr (5, [.int ((-1)), .int ((-1)), .int ((-1)), .int 0, .ref q1, .int 0, .int 0, .ref q2, .ref q3, .ref q4, .ref q5, .ref q6, .ref q7, .int 0, .ref q8, .null, .null]))], [(q1, .inl (kA 0, 48, .inl (fun _ => 0)))], [(q2, .inl (kA 0, 72, .inl (fun _ => 0)))], [(q3, .inl (kA 0, 72, .inl (fun _ => 0)))], [(q4, .inl (kA 0, 25, .inl (fun _ => 0)))], [(q5, .inl (kA 0, 625, .inl (fun _ => 0)))], [(q6, .inl (kA 0, 144, .inl (fun _ => 0)))], [(q7, .inl (kA 0, 25, .inl (fun _ => 0)))], [(q8, .inl (kA 0, 145, .inl (fun _ => 0)))], [(q9, .inl (kA 0, 144, .inl (fun _ => 0)))]]) := hD
  refine W.widen (k := 9) (n := 1300) (by omega) (by omega) ?_
  refine k_put (pc := 112) X hK hP hD hS 0 rfl rfl i_Ne t_Ne t_Ne_ok n_Ne 15 (by decide) wm_287 rfl (Or.inr ⟨rfl, rfl⟩) rfl rfl (Nat.le_of_ble_eq_true rfl) d_Ne_init_112 (fun H locs hP hD hS => ?_)
  have hP : va_P D classes (cat [[(h, .inr (5, [.int ((-1)), .int ((-1)), .int ((-1)), .int 0, .ref q1, .int 0, .int 0, .ref q2, .ref q3, .ref q4, .ref q5, .ref q6, .ref q7, .int 0, .ref q8, .ref q9, .null]))], [(q1, .inl (kA 0, 48, .inl (fun _ => 0)))], [(q2, .inl (kA 0, 72, .inl (fun _ => 0)))], [(q3, .inl (kA 0, 72, .inl (fun _ => 0)))], [(q4, .inl (kA 0, 25, .inl (fun _ => 0)))], [(q5, .inl (kA 0, 625, .inl (fun _ => 0)))], [(q6, .inl (kA 0, 144, .inl (fun _ => 0)))], [(q7, .inl (kA 0, 25, .inl (fun _ => 0)))], [(q8, .inl (kA 0, 145, .inl (fun _ => 0)))], [(q9, .inl (kA 0, 144, .inl (fun _ => 0)))]]) H := hP
  have hD : va_D A (cat [[(h, .inr (5, [.int ((-1)), .int ((-1)), .int ((-1)), .int 0, .ref q1, .int 0, .int 0, .ref q2, .ref q3, .ref q4, .ref q5, .ref q6, .ref q7, .int 0, .ref q8, .ref q9, .null]))], [(q1, .inl (kA 0, 48, .inl (fun _ => 0)))], [(q2, .inl (kA 0, 72, .inl (fun _ => 0)))], [(q3, .inl (kA 0, 72, .inl (fun _ => 0)))], [(q4, .inl (kA 0, 25, .inl (fun _ => 0)))], [(q5, .inl (kA 0, 625, .inl (fun _ => 0)))], [(q6, .inl (kA 0, 144, .inl (fun _ => 0)))], [(q7, .inl (kA 0, 25, .inl (fun _ => 0)))], [(q8, .inl (kA 0, 145, .inl (fun _ => 0)))], [(q9, .inl (kA 0, 144, .inl (fun _ => 0)))]]) := hD
  refine lv_aload_n (pc := 115) hx hb d_Ne_init_115 rfl (lv_at hl 0 rfl) ?_
  refine lv_sipush (pc := 116) (v := 144) hx hb d_Ne_init_116 (by decide) ?_
  refine k_newa (pc := 119) (atype := .int) X (ty := .int) (a0 := (144, .inl (fun _ => 0))) rfl rfl wm_193 hK hP hD hS hA 0 rfl (fun _ => rfl) (by decide) rfl (by decide) (Nat.le_of_ble_eq_true rfl) (Nat.le_of_ble_eq_true rfl) d_Ne_init_119 (fun q10 H hP hD hS => ?_)
  have hP : va_P D classes (cat [[(h, .inr (5, [.int ((-1)), .int ((-1)), .int ((-1)), .int 0, .ref q1, .int 0, .int 0, .ref q2, .ref q3, .ref q4, .ref q5, .ref q6, .ref q7, .int 0, .ref q8, .ref q9, .null]))], [(q1, .inl (kA 0, 48, .inl (fun _ => 0)))], [(q2, .inl (kA 0, 72, .inl (fun _ => 0)))], [(q3, .inl (kA 0, 72, .inl (fun _ => 0)))], [(q4, .inl (kA 0, 25, .inl (fun _ => 0)))], [(q5, .inl (kA 0, 625, .inl (fun _ => 0)))], [(q6, .inl (kA 0, 144, .inl (fun _ => 0)))], [(q7, .inl (kA 0, 25, .inl (fun _ => 0)))], [(q8, .inl (kA 0, 145, .inl (fun _ => 0)))], [(q9, .inl (kA 0, 144, .inl (fun _ => 0)))], [(q10, .inl (kA 0, 144, .inl (fun _ => 0)))]]) H := hP
  have hD : va_D A (cat [[(h, .inr (5, [.int ((-1)), .int ((-1)), .int ((-1)), .int 0, .ref q1, .int 0, .int 0, .ref q2, .ref q3, .ref q4, .ref q5, .ref q6, .ref q7, .int 0, .ref q8, .ref q9, .null]))], [(q1, .inl (kA 0, 48, .inl (fun _ => 0)))], [(q2, .inl (kA 0, 72, .inl (fun _ => 0)))], [(q3, .inl (kA 0, 72, .inl (fun _ => 0)))], [(q4, .inl (kA 0, 25, .inl (fun _ => 0)))], [(q5, .inl (kA 0, 625, .inl (fun _ => 0)))], [(q6, .inl (kA 0, 144, .inl (fun _ => 0)))], [(q7, .inl (kA 0, 25, .inl (fun _ => 0)))], [(q8, .inl (kA 0, 145, .inl (fun _ => 0)))], [(q9, .inl (kA 0, 144, .inl (fun _ => 0)))], [(q10, .inl (kA 0, 144, .inl (fun _ => 0)))]]) := hD
  refine W.widen (k := 10) (n := 1444) (by omega) (by omega) ?_
  refine k_put (pc := 121) X hK hP hD hS 0 rfl rfl i_Ne t_Ne t_Ne_ok n_Ne 16 (by decide) wm_289 rfl (Or.inr ⟨rfl, rfl⟩) rfl rfl (Nat.le_of_ble_eq_true rfl) d_Ne_init_121 (fun H locs hP hD hS => ?_)
  have hP : va_P D classes (cat [[(h, .inr (5, [.int ((-1)), .int ((-1)), .int ((-1)), .int 0, .ref q1, .int 0, .int 0, .ref q2, .ref q3, .ref q4, .ref q5, .ref q6, .ref q7, .int 0, .ref q8, .ref q9, .ref q10]))], [(q1, .inl (kA 0, 48, .inl (fun _ => 0)))], [(q2, .inl (kA 0, 72, .inl (fun _ => 0)))], [(q3, .inl (kA 0, 72, .inl (fun _ => 0)))], [(q4, .inl (kA 0, 25, .inl (fun _ => 0)))], [(q5, .inl (kA 0, 625, .inl (fun _ => 0)))], [(q6, .inl (kA 0, 144, .inl (fun _ => 0)))], [(q7, .inl (kA 0, 25, .inl (fun _ => 0)))], [(q8, .inl (kA 0, 145, .inl (fun _ => 0)))], [(q9, .inl (kA 0, 144, .inl (fun _ => 0)))], [(q10, .inl (kA 0, 144, .inl (fun _ => 0)))]]) H := hP
  have hD : va_D A (cat [[(h, .inr (5, [.int ((-1)), .int ((-1)), .int ((-1)), .int 0, .ref q1, .int 0, .int 0, .ref q2, .ref q3, .ref q4, .ref q5, .ref q6, .ref q7, .int 0, .ref q8, .ref q9, .ref q10]))], [(q1, .inl (kA 0, 48, .inl (fun _ => 0)))], [(q2, .inl (kA 0, 72, .inl (fun _ => 0)))], [(q3, .inl (kA 0, 72, .inl (fun _ => 0)))], [(q4, .inl (kA 0, 25, .inl (fun _ => 0)))], [(q5, .inl (kA 0, 625, .inl (fun _ => 0)))], [(q6, .inl (kA 0, 144, .inl (fun _ => 0)))], [(q7, .inl (kA 0, 25, .inl (fun _ => 0)))], [(q8, .inl (kA 0, 145, .inl (fun _ => 0)))], [(q9, .inl (kA 0, 144, .inl (fun _ => 0)))], [(q10, .inl (kA 0, 144, .inl (fun _ => 0)))]]) := hD
  obtain ⟨hP, hD⟩ := k_ord (gc := [[(h, .inr (5, [.int ((-1)), .int ((-1)), .int ((-1)), .int 0, .ref q1, .int 0, .int 0, .ref q2, .ref q3, .ref q4, .ref q5, .ref q6, .ref q7, .int 0, .ref q8, .ref q9, .ref q10]))], [(q1, .inl (kA 0, 48, .inl (fun _ => 0)))], [(q2, .inl (kA 0, 72, .inl (fun _ => 0)))], [(q3, .inl (kA 0, 72, .inl (fun _ => 0)))], [(q4, .inl (kA 0, 25, .inl (fun _ => 0)))], [(q5, .inl (kA 0, 625, .inl (fun _ => 0)))], [(q6, .inl (kA 0, 144, .inl (fun _ => 0)))], [(q7, .inl (kA 0, 25, .inl (fun _ => 0)))], [(q8, .inl (kA 0, 145, .inl (fun _ => 0)))], [(q9, .inl (kA 0, 144, .inl (fun _ => 0)))], [(q10, .inl (kA 0, 144, .inl (fun _ => 0)))]]) hP hD [0, 1, 2, 3, 4, 5, 6, 7, 8, 9, 10] 11 rfl (by decide) rfl
  refine W.widen (k := 10) (n := 1444) (Nat.le_of_ble_eq_true rfl) (Nat.le_of_ble_eq_true rfl) ?_
  exact W.vret hx hb hr (fun t ht hW => ⟨⟨(fun k => match k with | 4 => q1 | 7 => q2 | 8 => q3 | 9 => q4 | 10 => q5 | 11 => q6 | 12 => q7 | 14 => q8 | 15 => q9 | 16 => q10 | _ => 0), rfl, trivial, by rw [ht]; exact hP, va_K.moved hW.alike hK, hD⟩, hS.F ht⟩) hS.2.2 d_Ne_init_124
end
section
theorem wm_463 : (Cond.code ({ cls := "DrawingHouse$Drawing", name := "<init>", desc := "(LDrawingHouse$Graph;)V" } : MethodName) prog_2_method_1_code (2 : Nat) (Option.none : Option ClassFile.FieldType) : Cond) ∈ lw_g := lw_gi (lw_c2 (List.mem_of_getElem? (i := 223) rfl)) rfl
theorem wm_464 : (Cond.methodLink "DrawingHouse$Drawing" (3 : Nat) ({ cls := "java/lang/Object", name := "<init>", desc := "()V" } : MethodName) : Cond) ∈ lw_g := lw_gi (lw_c2 (List.mem_of_getElem? (i := 224) rfl)) rfl
theorem wm_465 : (Cond.fieldLink "DrawingHouse$Drawing" (74 : Nat) "DrawingHouse$Drawing" "graph" "LDrawingHouse$Graph;" : Cond) ∈ lw_g := lw_gi (lw_c2 (List.mem_of_getElem? (i := 225) rfl)) rfl
theorem wm_466 : (Cond.fieldLink "DrawingHouse$Drawing" (9 : Nat) "DrawingHouse$Drawing" "way" "I" : Cond) ∈ lw_g := lw_gi (lw_c2 (List.mem_of_getElem? (i := 226) rfl)) rfl
theorem wm_469 : (Cond.fieldLink "DrawingHouse$Drawing" (15 : Nat) "DrawingHouse$Drawing" "x" "[I" : Cond) ∈ lw_g := lw_gi (lw_c2 (List.mem_of_getElem? (i := 229) rfl)) rfl
theorem wm_476 : (Cond.fieldLink "DrawingHouse$Drawing" (19 : Nat) "DrawingHouse$Drawing" "y" "[I" : Cond) ∈ lw_g := lw_gi (lw_c2 (List.mem_of_getElem? (i := 236) rfl)) rfl
theorem wm_483 : (Cond.fieldLink "DrawingHouse$Drawing" (22 : Nat) "DrawingHouse$Drawing" "bends" "[I" : Cond) ∈ lw_g := lw_gi (lw_c3 (List.mem_of_getElem? (i := 3) rfl)) rfl
theorem wm_486 : (Cond.fieldLink "DrawingHouse$Drawing" (25 : Nat) "DrawingHouse$Drawing" "bendX" "[I" : Cond) ∈ lw_g := lw_gi (lw_c3 (List.mem_of_getElem? (i := 6) rfl)) rfl
theorem wm_487 : (Cond.fieldLink "DrawingHouse$Drawing" (28 : Nat) "DrawingHouse$Drawing" "bendY" "[I" : Cond) ∈ lw_g := lw_gi (lw_c3 (List.mem_of_getElem? (i := 7) rfl)) rfl
theorem wm_488 : (Cond.fieldLink "DrawingHouse$Drawing" (31 : Nat) "DrawingHouse$Drawing" "crossings" "I" : Cond) ∈ lw_g := lw_gi (lw_c3 (List.mem_of_getElem? (i := 8) rfl)) rfl
theorem wm_491 : (Cond.fieldLink "DrawingHouse$Drawing" (34 : Nat) "DrawingHouse$Drawing" "spans" "I" : Cond) ∈ lw_g := lw_gi (lw_c3 (List.mem_of_getElem? (i := 11) rfl)) rfl
theorem wm_493 : (Cond.fieldLink "DrawingHouse$Drawing" (37 : Nat) "DrawingHouse$Drawing" "band" "I" : Cond) ∈ lw_g := lw_gi (lw_c3 (List.mem_of_getElem? (i := 13) rfl)) rfl
theorem wm_495 : (Cond.fieldLink "DrawingHouse$Drawing" (40 : Nat) "DrawingHouse$Drawing" "layer" "[I" : Cond) ∈ lw_g := lw_gi (lw_c3 (List.mem_of_getElem? (i := 15) rfl)) rfl
theorem wm_497 : (Cond.fieldLink "DrawingHouse$Drawing" (43 : Nat) "DrawingHouse$Drawing" "turned" "[Z" : Cond) ∈ lw_g := lw_gi (lw_c3 (List.mem_of_getElem? (i := 17) rfl)) rfl
theorem wm_499 : (Cond.fieldLink "DrawingHouse$Drawing" (47 : Nat) "DrawingHouse$Drawing" "rank" "[I" : Cond) ∈ lw_g := lw_gi (lw_c3 (List.mem_of_getElem? (i := 19) rfl)) rfl
theorem wm_501 : (Cond.fieldLink "DrawingHouse$Drawing" (50 : Nat) "DrawingHouse$Drawing" "area" "[I" : Cond) ∈ lw_g := lw_gi (lw_c3 (List.mem_of_getElem? (i := 21) rfl)) rfl
theorem wm_503 : (Cond.fieldLink "DrawingHouse$Drawing" (53 : Nat) "DrawingHouse$Drawing" "shades" "[I" : Cond) ∈ lw_g := lw_gi (lw_c3 (List.mem_of_getElem? (i := 23) rfl)) rfl
theorem wm_506 : (Cond.fieldLink "DrawingHouse$Drawing" (56 : Nat) "DrawingHouse$Drawing" "labelX" "[I" : Cond) ∈ lw_g := lw_gi (lw_c3 (List.mem_of_getElem? (i := 26) rfl)) rfl
theorem wm_507 : (Cond.fieldLink "DrawingHouse$Drawing" (59 : Nat) "DrawingHouse$Drawing" "labelY" "[I" : Cond) ∈ lw_g := lw_gi (lw_c3 (List.mem_of_getElem? (i := 27) rfl)) rfl
theorem wm_508 : (Cond.fieldLink "DrawingHouse$Drawing" (62 : Nat) "DrawingHouse$Drawing" "leastX" "I" : Cond) ∈ lw_g := lw_gi (lw_c3 (List.mem_of_getElem? (i := 28) rfl)) rfl
theorem wm_509 : (Cond.fieldLink "DrawingHouse$Drawing" (65 : Nat) "DrawingHouse$Drawing" "leastY" "I" : Cond) ∈ lw_g := lw_gi (lw_c3 (List.mem_of_getElem? (i := 29) rfl)) rfl
theorem wm_510 : (Cond.fieldLink "DrawingHouse$Drawing" (68 : Nat) "DrawingHouse$Drawing" "mostX" "I" : Cond) ∈ lw_g := lw_gi (lw_c3 (List.mem_of_getElem? (i := 30) rfl)) rfl
theorem wm_511 : (Cond.fieldLink "DrawingHouse$Drawing" (71 : Nat) "DrawingHouse$Drawing" "mostY" "I" : Cond) ∈ lw_g := lw_gi (lw_c3 (List.mem_of_getElem? (i := 31) rfl)) rfl
abbrev b_Dr_init : ByteArray := prog_2_method_1_code
def y_Dr_init : MethodName := ⟨"DrawingHouse$Drawing", "<init>", "(LDrawingHouse$Graph;)V"⟩
abbrev z_Dr_init : List Cond := Cond.code y_Dr_init b_Dr_init 2 none :: lw_g
theorem d_Dr_init_0 : decode b_Dr_init 0 = .ok (.aload_n 0, 1) := by decide +kernel
theorem d_Dr_init_1 : decode b_Dr_init 1 = .ok (.invokespecial 3, 3) := by decide +kernel
theorem d_Dr_init_4 : decode b_Dr_init 4 = .ok (.aload_n 0, 1) := by decide +kernel
theorem d_Dr_init_5 : decode b_Dr_init 5 = .ok (.iconst (-1), 1) := by decide +kernel
theorem d_Dr_init_6 : decode b_Dr_init 6 = .ok (.putfield 9, 3) := by decide +kernel
theorem d_Dr_init_9 : decode b_Dr_init 9 = .ok (.aload_n 0, 1) := by decide +kernel
theorem d_Dr_init_10 : decode b_Dr_init 10 = .ok (.bipush 24, 2) := by decide +kernel
theorem d_Dr_init_12 : decode b_Dr_init 12 = .ok (.newarray .int, 2) := by decide +kernel
theorem d_Dr_init_14 : decode b_Dr_init 14 = .ok (.putfield 15, 3) := by decide +kernel
theorem d_Dr_init_17 : decode b_Dr_init 17 = .ok (.aload_n 0, 1) := by decide +kernel
theorem d_Dr_init_18 : decode b_Dr_init 18 = .ok (.bipush 24, 2) := by decide +kernel
theorem d_Dr_init_20 : decode b_Dr_init 20 = .ok (.newarray .int, 2) := by decide +kernel
theorem d_Dr_init_22 : decode b_Dr_init 22 = .ok (.putfield 19, 3) := by decide +kernel
theorem d_Dr_init_25 : decode b_Dr_init 25 = .ok (.aload_n 0, 1) := by decide +kernel
theorem d_Dr_init_26 : decode b_Dr_init 26 = .ok (.bipush 48, 2) := by decide +kernel
theorem d_Dr_init_28 : decode b_Dr_init 28 = .ok (.newarray .int, 2) := by decide +kernel
theorem d_Dr_init_30 : decode b_Dr_init 30 = .ok (.putfield 22, 3) := by decide +kernel
theorem d_Dr_init_33 : decode b_Dr_init 33 = .ok (.aload_n 0, 1) := by decide +kernel
theorem d_Dr_init_34 : decode b_Dr_init 34 = .ok (.sipush 1152, 3) := by decide +kernel
theorem d_Dr_init_37 : decode b_Dr_init 37 = .ok (.newarray .int, 2) := by decide +kernel
theorem d_Dr_init_39 : decode b_Dr_init 39 = .ok (.putfield 25, 3) := by decide +kernel
theorem d_Dr_init_42 : decode b_Dr_init 42 = .ok (.aload_n 0, 1) := by decide +kernel
theorem d_Dr_init_43 : decode b_Dr_init 43 = .ok (.sipush 1152, 3) := by decide +kernel
theorem d_Dr_init_46 : decode b_Dr_init 46 = .ok (.newarray .int, 2) := by decide +kernel
theorem d_Dr_init_48 : decode b_Dr_init 48 = .ok (.putfield 28, 3) := by decide +kernel
theorem d_Dr_init_51 : decode b_Dr_init 51 = .ok (.aload_n 0, 1) := by decide +kernel
theorem d_Dr_init_52 : decode b_Dr_init 52 = .ok (.iconst 0, 1) := by decide +kernel
theorem d_Dr_init_53 : decode b_Dr_init 53 = .ok (.putfield 31, 3) := by decide +kernel
theorem d_Dr_init_56 : decode b_Dr_init 56 = .ok (.aload_n 0, 1) := by decide +kernel
theorem d_Dr_init_57 : decode b_Dr_init 57 = .ok (.iconst 0, 1) := by decide +kernel
theorem d_Dr_init_58 : decode b_Dr_init 58 = .ok (.putfield 34, 3) := by decide +kernel
theorem d_Dr_init_61 : decode b_Dr_init 61 = .ok (.aload_n 0, 1) := by decide +kernel
theorem d_Dr_init_62 : decode b_Dr_init 62 = .ok (.iconst 0, 1) := by decide +kernel
theorem d_Dr_init_63 : decode b_Dr_init 63 = .ok (.putfield 37, 3) := by decide +kernel
theorem d_Dr_init_66 : decode b_Dr_init 66 = .ok (.aload_n 0, 1) := by decide +kernel
theorem d_Dr_init_67 : decode b_Dr_init 67 = .ok (.bipush 24, 2) := by decide +kernel
theorem d_Dr_init_69 : decode b_Dr_init 69 = .ok (.newarray .int, 2) := by decide +kernel
theorem d_Dr_init_71 : decode b_Dr_init 71 = .ok (.putfield 40, 3) := by decide +kernel
theorem d_Dr_init_74 : decode b_Dr_init 74 = .ok (.aload_n 0, 1) := by decide +kernel
theorem d_Dr_init_75 : decode b_Dr_init 75 = .ok (.bipush 48, 2) := by decide +kernel
theorem d_Dr_init_77 : decode b_Dr_init 77 = .ok (.newarray .boolean, 2) := by decide +kernel
theorem d_Dr_init_79 : decode b_Dr_init 79 = .ok (.putfield 43, 3) := by decide +kernel
theorem d_Dr_init_82 : decode b_Dr_init 82 = .ok (.aload_n 0, 1) := by decide +kernel
theorem d_Dr_init_83 : decode b_Dr_init 83 = .ok (.bipush 24, 2) := by decide +kernel
theorem d_Dr_init_85 : decode b_Dr_init 85 = .ok (.newarray .int, 2) := by decide +kernel
theorem d_Dr_init_87 : decode b_Dr_init 87 = .ok (.putfield 47, 3) := by decide +kernel
theorem d_Dr_init_90 : decode b_Dr_init 90 = .ok (.aload_n 0, 1) := by decide +kernel
theorem d_Dr_init_91 : decode b_Dr_init 91 = .ok (.sipush 128, 3) := by decide +kernel
theorem d_Dr_init_94 : decode b_Dr_init 94 = .ok (.newarray .int, 2) := by decide +kernel
theorem d_Dr_init_96 : decode b_Dr_init 96 = .ok (.putfield 50, 3) := by decide +kernel
theorem d_Dr_init_99 : decode b_Dr_init 99 = .ok (.aload_n 0, 1) := by decide +kernel
theorem d_Dr_init_100 : decode b_Dr_init 100 = .ok (.sipush 216, 3) := by decide +kernel
theorem d_Dr_init_103 : decode b_Dr_init 103 = .ok (.newarray .int, 2) := by decide +kernel
theorem d_Dr_init_105 : decode b_Dr_init 105 = .ok (.putfield 53, 3) := by decide +kernel
theorem d_Dr_init_108 : decode b_Dr_init 108 = .ok (.aload_n 0, 1) := by decide +kernel
theorem d_Dr_init_109 : decode b_Dr_init 109 = .ok (.bipush 48, 2) := by decide +kernel
theorem d_Dr_init_111 : decode b_Dr_init 111 = .ok (.newarray .int, 2) := by decide +kernel
theorem d_Dr_init_113 : decode b_Dr_init 113 = .ok (.putfield 56, 3) := by decide +kernel
theorem d_Dr_init_116 : decode b_Dr_init 116 = .ok (.aload_n 0, 1) := by decide +kernel
theorem d_Dr_init_117 : decode b_Dr_init 117 = .ok (.bipush 48, 2) := by decide +kernel
theorem d_Dr_init_119 : decode b_Dr_init 119 = .ok (.newarray .int, 2) := by decide +kernel
theorem d_Dr_init_121 : decode b_Dr_init 121 = .ok (.putfield 59, 3) := by decide +kernel
theorem d_Dr_init_124 : decode b_Dr_init 124 = .ok (.aload_n 0, 1) := by decide +kernel
theorem d_Dr_init_125 : decode b_Dr_init 125 = .ok (.iconst 0, 1) := by decide +kernel
theorem d_Dr_init_126 : decode b_Dr_init 126 = .ok (.putfield 62, 3) := by decide +kernel
theorem d_Dr_init_129 : decode b_Dr_init 129 = .ok (.aload_n 0, 1) := by decide +kernel
theorem d_Dr_init_130 : decode b_Dr_init 130 = .ok (.iconst 0, 1) := by decide +kernel
theorem d_Dr_init_131 : decode b_Dr_init 131 = .ok (.putfield 65, 3) := by decide +kernel
theorem d_Dr_init_134 : decode b_Dr_init 134 = .ok (.aload_n 0, 1) := by decide +kernel
theorem d_Dr_init_135 : decode b_Dr_init 135 = .ok (.iconst 0, 1) := by decide +kernel
theorem d_Dr_init_136 : decode b_Dr_init 136 = .ok (.putfield 68, 3) := by decide +kernel
theorem d_Dr_init_139 : decode b_Dr_init 139 = .ok (.aload_n 0, 1) := by decide +kernel
theorem d_Dr_init_140 : decode b_Dr_init 140 = .ok (.iconst 0, 1) := by decide +kernel
theorem d_Dr_init_141 : decode b_Dr_init 141 = .ok (.putfield 71, 3) := by decide +kernel
theorem d_Dr_init_144 : decode b_Dr_init 144 = .ok (.aload_n 0, 1) := by decide +kernel
theorem d_Dr_init_145 : decode b_Dr_init 145 = .ok (.aload_n 1, 1) := by decide +kernel
theorem d_Dr_init_146 : decode b_Dr_init 146 = .ok (.putfield 74, 3) := by decide +kernel
theorem d_Dr_init_149 : decode b_Dr_init 149 = .ok (.return_, 1) := by decide +kernel
abbrev f0Dr : List Value := [.null, .int 0, .null, .null, .null, .null, .null, .int 0, .int 0, .int 0, .null, .null, .null, .null, .null, .null, .null, .int 0, .int 0, .int 0, .int 0]
set_option maxRecDepth 20000 in
theorem f0Dr_ok : ∀ j, j < 21 → defaultValue (t_Dr j) = vp_V f0Dr j := by decide +kernel
def wDr (kA : Nat → ClassId) (h : Nat) (q : Nat → Nat) (x : Nat → Int32) (a : Nat → Nat → Int32) : va_W := [(h, .inr (0, [.ref (q 0), .int (x 1), .ref (q 2), .ref (q 3), .ref (q 4), .ref (q 5), .ref (q 6), .int (x 7), .int (x 8), .int (x 9), .ref (q 10), .ref (q 11), .ref (q 12), .ref (q 13), .ref (q 14), .ref (q 15), .ref (q 16), .int (x 17), .int (x 18), .int (x 19), .int (x 20)])), (q 2, .inl (kA 0, 24, .inl (a 2))), (q 3, .inl (kA 0, 24, .inl (a 3))), (q 4, .inl (kA 0, 48, .inl (a 4))), (q 5, .inl (kA 0, 1152, .inl (a 5))), (q 6, .inl (kA 0, 1152, .inl (a 6))), (q 10, .inl (kA 0, 24, .inl (a 10))), (q 11, .inl (kA 2, 48, .inl (a 11))), (q 12, .inl (kA 0, 24, .inl (a 12))), (q 13, .inl (kA 0, 128, .inl (a 13))), (q 14, .inl (kA 0, 216, .inl (a 14))), (q 15, .inl (kA 0, 48, .inl (a 15))), (q 16, .inl (kA 0, 48, .inl (a 16)))]
def x0Dr : Nat → Int32 := fun k => match k with | 1 => (-1) | _ => 0
def a0Dr : Nat → Nat → Int32 := fun _ => fun _ => 0
set_option maxRecDepth 100000 in
set_option maxHeartbeats 4000000 in
/-- DrawingHouse$Drawing(LDrawingHouse$Graph;)V -/
theorem c_Dr_init (l : Launch) (D : va_G) (kA : Nat → ClassId) (h : Nat) (p1 : Nat) : Cv l y_Dr_init z_Dr_init { frames := 1, cells := 12, slots := 2936, locals := 12 } D classes (TY kA) [.ref h, .ref p1] [[(h, .inr (0, f0Dr))]] (fun u : (Nat → Nat) => u 0 = p1) (fun u => [wDr kA h u x0Dr a0Dr]) 12 2936 := by
  intro sz
  refine k_met (cc := b_Dr_init) (maxL := 2) (ret := none) (by decide) rfl (Nat.le_of_ble_eq_true rfl) (fun p e s m below meth c ls X hl hB => ?_)
  obtain ⟨hsz, hP, hK, hD0, hN⟩ := hB
  subst hsz
  have hD := hD0.self (sz := s.heap.size)
  generalize hAe : va_A (cat [[(h, .inr (0, [.null, .int 0, .null, .null, .null, .null, .null, .int 0, .int 0, .int 0, .null, .null, .null, .null, .null, .null, .null, .int 0, .int 0, .int 0, .int 0]))]]) s.heap.size = A at hD ⊢
  have hA : ∀ q : Nat, s.heap.size ≤ q → A q := fun q h => by rw [← hAe]; exact Or.inr h
  have hS : va_S A s.heap s.heap [] := va_S.rf
  obtain ⟨hx, hb, hml, hown, hts, hr, hlk, hnm⟩ := id X
  have hl : lv_has ls 2 [(0, .ref h), (1, .ref p1)] := hl
  have hP : va_P D classes (cat [[(h, .inr (0, [.null, .int 0, .null, .null, .null, .null, .null, .int 0, .int 0, .int 0, .null, .null, .null, .null, .null, .null, .null, .int 0, .int 0, .int 0, .int 0]))]]) s.heap := hP
  have hK : va_K D classes (TY kA) s := hK
  refine lv_aload_n (pc := 0) hx hb d_Dr_init_0 rfl (lv_at hl 0 rfl) ?_
  refine W.objInit hx hb hown (hts _ wm_464) (hts _ wm_31) (hts _ wm_32) rfl (by rw [hml]; exact hl.1) rfl d_Dr_init_1 (Nat.le_of_ble_eq_true rfl) (Nat.le_of_ble_eq_true rfl) ?_
  refine W.eq (g2 := F0 m 4 ls []) rfl ?_
  refine lv_aload_n (pc := 4) hx hb d_Dr_init_4 rfl (lv_at hl 0 rfl) ?_
  refine lv_iconst (pc := 5) (v := -1) hx hb d_Dr_init_5 (by decide) ?_
  refine k_put (pc := 6) X hK hP hD hS 0 rfl rfl i_Dr t_Dr t_Dr_ok n_Dr 1 (by decide) wm_466 rfl (Or.inl rfl) rfl rfl (Nat.le_of_ble_eq_true rfl) d_Dr_init_6 (fun H locs hP hD hS => ?_)
  have hP : va_P D classes (cat [[(h, .inr (0, [.null, .int ((-1)), .null, .null, .null, .null, .null, .int 0, .int 0, .int 0, .null, .null, .null, .null, .null, .null, .null, .int 0, .int 0, .int 0, .int 0]))]]) H := hP
  have hD : va_D A (cat [[(h, .inr (0, [.null, .int ((-1)), .null, .null, .null, .null, .null, .int 0, .int 0, .int 0, .null, .null, .null, .null, .null, .null, .null, .int 0, .int 0, .int 0, .int 0]))]]) := hD
  refine lv_aload_n (pc := 9) hx hb d_Dr_init_9 rfl (lv_at hl 0 rfl) ?_
  refine lv_bipush (pc := 10) (v := 24) hx hb d_Dr_init_10 (by decide) ?_
  refine k_newa (pc := 12) (atype := .int) X (ty := .int) (a0 := (24, .inl (fun _ => 0))) rfl rfl wm_193 hK hP hD hS hA 0 rfl (fun _ => rfl) (by decide) rfl (by decide) (Nat.le_of_ble_eq_true rfl) (Nat.le_of_ble_eq_true rfl) d_Dr_init_12 (fun q1 H hP hD hS => ?_)
  have hP : va_P D classes (cat [[(h, .inr (0, [.null, .int ((-1)), .null, .null, .null, .null, .null, .int 0, .int 0, .int 0, .null, .null, .null, .null, .null, .null, .null, .int 0, .int 0, .int 0, .int 0]))], [(q1, .inl (kA 0, 24, .inl (fun _ => 0)))]]) H := hP
  have hD : va_D A (cat [[(h, .inr (0, [.null, .int ((-1)), .null, .null, .null, .null, .null, .int 0, .int 0, .int 0, .null, .null, .null, .null, .null, .null, .null, .int 0, .int 0, .int 0, .int 0]))], [(q1, .inl (kA 0, 24, .inl (fun _ => 0)))]]) := hD
  refine W.widen (k := 1) (n := 24) (by omega) (by omega) ?_
  refine k_put (pc := 14) X hK hP hD hS 0 rfl rfl i_Dr t_Dr t_Dr_ok n_Dr 2 (by decide) wm_469 rfl (Or.inr ⟨rfl, rfl⟩) rfl rfl (Nat.le_of_ble_eq_true rfl) d_Dr_init_14 (fun H locs hP hD hS => ?_)
  have hP : va_P D classes (cat [[(h, .inr (0, [.null, .int ((-1)), .ref q1, .null, .null, .null, .null, .int 0, .int 0, .int 0, .null, .null, .null, .null, .null, .null, .null, .int 0, .int 0, .int 0, .int 0]))], [(q1, .inl (kA 0, 24, .inl (fun _ => 0)))]]) H := hP
  have hD : va_D A (cat [[(h, .inr (0, [.null, .int ((-1)), .ref q1, .null, .null, .null, .null, .int 0, .int 0, .int 0, .null, .null, .null, .null, .null, .null, .null, .int 0, .int 0, .int 0, .int 0]))], [(q1, .inl (kA 0, 24, .inl (fun _ => 0)))]]) := hD
  refine lv_aload_n (pc := 17) hx hb d_Dr_init_17 rfl (lv_at hl 0 rfl) ?_
  refine lv_bipush (pc := 18) (v := 24) hx hb d_Dr_init_18 (by decide) ?_
  refine k_newa (pc := 20) (atype := .int) X (ty := .int) (a0 := (24, .inl (fun _ => 0))) rfl rfl wm_193 hK hP hD hS hA 0 rfl (fun _ => rfl) (by decide) rfl (by decide) (Nat.le_of_ble_eq_true rfl) (Nat.le_of_ble_eq_true rfl) d_Dr_init_20 (fun q2 H hP hD hS => ?_)
  have hP : va_P D classes (cat [[(h, .inr (0, [.null, .int ((-1)), .ref q1, .null, .null, .null, .null, .int 0, .int 0, .int 0, .null, .null, .null, .null, .null, .null, .null, .int 0, .int 0, .int 0, .int 0]))], [(q1, .inl (kA 0, 24, .inl (fun _ => 0)))], [(q2, .inl (kA 0, 24, .inl (fun _ => 0)))]]) H := hP
  have hD : va_D A (cat [[(h, .inr (0, [.null, .int ((-1)), .ref q1, .null, .null, .null, .null, .int 0, .int 0, .int 0, .null, .null, .null, .null, .null, .null, .null, .int 0, .int 0, .int 0, .int 0]))], [(q1, .inl (kA 0, 24, .inl (fun _ => 0)))], [(q2, .inl (kA 0, 24, .inl (fun _ => 0)))]]) := hD
  refine W.widen (k := 2) (n := 48) (by omega) (by omega) ?_
  refine k_put (pc := 22) X hK hP hD hS 0 rfl rfl i_Dr t_Dr t_Dr_ok n_Dr 3 (by decide) wm_476 rfl (Or.inr ⟨rfl, rfl⟩) rfl rfl (Nat.le_of_ble_eq_true rfl) d_Dr_init_22 (fun H locs hP hD hS => ?_)
  have hP : va_P D classes (cat [[(h, .inr (0, [.null, .int ((-1)), .ref q1, .ref q2, .null, .null, .null, .int 0, .int 0, .int 0, .null, .null, .null, .null, .null, .null, .null, .int 0, .int 0, .int 0, .int 0]))], [(q1, .inl (kA 0, 24, .inl (fun _ => 0)))], [(q2, .inl (kA 0, 24, .inl (fun _ => 0)))]]) H := hP
  have hD : va_D A (cat [[(h, .inr (0, [.null, .int ((-1)), .ref q1, .ref q2, .null, .null, .null, .int 0, .int 0, .int 0, .null, .null, .null, .null, .null, .null, .null, .int 0, .int 0, .int 0, .int 0]))], [(q1, .inl (kA 0, 24, .inl (fun _ => 0)))], [(q2, .inl (kA 0, 24, .inl (fun _ => 0)))]]) := hD
  refine lv_aload_n (pc := 25) hx hb d_Dr_init_25 rfl (lv_at hl 0 rfl) ?_
  refine lv_bipush (pc := 26) (v := 48) hx hb d_Dr_init_26 (by decide) ?_
  refine k_newa (pc := 28) (atype := .int) X (ty := .int) (a0 := (48, .inl (fun _ => 0))) rfl rfl wm_193 hK hP hD hS hA 0 rfl (fun _ => rfl) (by decide) rfl (by decide) (Nat.le_of_ble_eq_true rfl) (Nat.le_of_ble_eq_true rfl) d_Dr_init_28 (fun q3 H hP hD hS => ?_)
  have hP : va_P D classes (cat [[(h, .inr (0, [.null, .int ((-1)), .ref q1, .ref q2, .null, .null, .null, .int 0, .int 0, .int 0, .null, .null, .null, .null, .null, .null, .null, .int 0, .int 0, .int 0, .int 0]))], [(q1, .inl (kA 0, 24, .inl (fun _ => 0)))], [(q2, .inl (kA 0, 24, .inl (fun _ => 0)))], [(q3, .inl (kA 0, 48, .inl (fun _ => 0)))]]) H := hP
  have hD : va_D A (cat [[(h, .inr (0, [.null, .int ((-1)), .ref q1, .ref q2, .null, .null, .null, .int 0, .int 0, .int 0, .null, .null, .null, .null, .null, .null, .null, .int 0, .int 0, .int 0, .int 0]))], [(q1, .inl (kA 0, 24, .inl (fun _ => 0)))], [(q2, .inl (kA 0, 24, .inl (fun _ => 0)))], [(q3, .inl (kA 0, 48, .inl (fun _ => 0)))]]) := hD
  refine W.widen (k := 3) (n := 96) (by omega) (by omega) ?_
  refine k_put (pc := 30) X hK hP hD hS 0 rfl rfl i_Dr t_Dr t_Dr_ok n_Dr 4 (by decide) wm_483 rfl (Or.inr ⟨rfl, rfl⟩) rfl rfl (Nat.le_of_ble_eq_true rfl) d_Dr_init_30 (fun H locs hP hD hS => ?_)
  have hP : va_P D classes (cat [[(h, .inr (0, [.null, .int ((-1)), .ref q1, .ref q2, .ref q3, .null, .null, .int 0, .int 0, .int 0, .null, .null, .null, .null, .null, .null, .null, .int 0, .int 0, .int 0, .int 0]))], [(q1, .inl (kA 0, 24, .inl (fun _ => 0)))], [(q2, .inl (kA 0, 24, .inl (fun _ => 0)))], [(q3, .inl (kA 0, 48, .inl (fun _ => 0)))]]) H := hP
  have hD : va_D A (cat [[(h, .inr (0, [.null, .int ((-1)), .ref q1, .ref q2, .ref q3, .null, .null, .int 0, .int 0, .int 0, .null, .null, .null, .null, .null, .null, .null, .int 0, .int 0, .int 0, .int 0]))], [(q1, .inl (kA 0, 24, .inl (fun _ => 0)))], [(q2, .inl (kA 0, 24, .inl (fun _ => 0)))], [(q3, .inl (kA 0, 48, .inl (fun _ => 0)))]]) := hD
  refine lv_aload_n (pc := 33) hx hb d_Dr_init_33 rfl (lv_at hl 0 rfl) ?_
  refine lv_sipush (pc := 34) (v := 1152) hx hb d_Dr_init_34 (by decide) ?_
  refine k_newa (pc := 37) (atype := .int) X (ty := .int) (a0 := (1152, .inl (fun _ => 0))) rfl rfl wm_193 hK hP hD hS hA 0 rfl (fun _ => rfl) (by decide) rfl (by decide) (Nat.le_of_ble_eq_true rfl) (Nat.le_of_ble_eq_true rfl) d_Dr_init_37 (fun q4 H hP hD hS => ?_)
  have hP : va_P D classes (cat [[(h, .inr (0, [.null, .int ((-1)), .ref q1, .ref q2, .ref q3, .null, .null, .int 0, .int 0, .int 0, .null, .null, .null, .null, .null, .null, .null, .int 0, .int 0, .int 0, .int 0]))], [(q1, .inl (kA 0, 24, .inl (fun _ => 0)))], [(q2, .inl (kA 0, 24, .inl (fun _ => 0)))], [(q3, .inl (kA 0, 48, .inl (fun _ => 0)))], [(q4, .inl (kA 0, 1152, .inl (fun _ => 0)))]]) H := hP
  have hD : va_D A (cat [[(h, .inr (0, [.null, .int ((-1)), .ref q1, .ref q2, .ref q3, .null, .null, .int 0, .int 0, .int 0, .null, .null, .null, .null, .null, .null, .null, .int 0, .int 0, .int 0, .int 0]))], [(q1, .inl (kA 0, 24, .inl (fun _ => 0)))], [(q2, .inl (kA 0, 24, .inl (fun _ => 0)))], [(q3, .inl (kA 0, 48, .inl (fun _ => 0)))], [(q4, .inl (kA 0, 1152, .inl (fun _ => 0)))]]) := hD
  refine W.widen (k := 4) (n := 1248) (by omega) (by omega) ?_
  refine k_put (pc := 39) X hK hP hD hS 0 rfl rfl i_Dr t_Dr t_Dr_ok n_Dr 5 (by decide) wm_486 rfl (Or.inr ⟨rfl, rfl⟩) rfl rfl (Nat.le_of_ble_eq_true rfl) d_Dr_init_39 (fun H locs hP hD hS => ?_)
  have hP : va_P D classes (cat [[(h, .inr (0, [.null, .int ((-1)), .ref q1, .ref q2, .ref q3, .ref q4, .null, .int 0, .int 0, .int 0, .null, .null, .null, .null, .null, .null, .null, .int 0, .int 0, .int 0, .int 0]))], [(q1, .inl (kA 0, 24, .inl (fun _ => 0)))], [(q2, .inl (kA 0, 24, .inl (fun _ => 0)))], [(q3, .inl (kA 0, 48, .inl (fun _ => 0)))], [(q4, .inl (kA 0, 1152, .inl (fun _ => 0)))]]) H := hP
  have hD : va_D A (cat [[(h, .inr (0, [.null, .int ((-1)), .ref q1, .ref q2, .ref q3, .ref q4, .null, .int 0, .int 0, .int 0, .null, .null, .null, .null, .null, .null, .null, .int 0, .int 0, .int 0, .int 0]))], [(q1, .inl (kA 0, 24, .inl (fun _ => 0)))], [(q2, .inl (kA 0, 24, .inl (fun _ => 0)))], [(q3, .inl (kA 0, 48, .inl (fun _ => 0)))], [(q4, .inl (kA 0, 1152, .inl (fun _ => 0)))]]) := hD
  refine lv_aload_n (pc := 42) hx hb d_Dr_init_42 rfl (lv_at hl 0 rfl) ?_
  refine lv_sipush (pc := 43) (v := 1152) hx hb d_Dr_init_43 (by decide) ?_
  refine k_newa (pc := 46) (atype := .int) X (ty := .int) (a0 := (1152, .inl (fun _ => 0))) rfl rfl wm_193 hK hP hD hS hA 0 rfl (fun _ => rfl) (by decide) rfl (by decide) (Nat.le_of_ble_eq_true rfl) (Nat.le_of_ble_eq_true rfl) d_Dr_init_46 (fun q5 H hP hD hS => ?_)
  have hP : va_P D classes (cat [[(h, .inr (0, [.null, .int ((-1)), .ref q1, .ref q2, .ref q3, .ref q4, .null, .int 0, .int 0, .int 0, .null, .null, .null, .null, .null, .null, .null, .int 0, .int 0, .int 0, .int 0]))], [(q1, .inl (kA 0, 24, .inl (fun _ => 0)))], [(q2, .inl (kA 0, 24, .inl (fun _ => 0)))], [(q3, .inl (kA 0, 48, .inl (fun _ => 0)))], [(q4, .inl (kA 0, 1152, .inl (fun _ => 0)))], [(q5, .inl (kA 0, 1152, .inl (fun _ => 0)))]]) H := hP
  have hD : va_D A (cat [[(h, .inr (0, [.null, .int ((-1)), .ref q1, .ref q2, .ref q3, .ref q4, .null, .int 0, .int 0, .int 0, .null, .null, .null, .null, .null, .null, .null, .int 0, .int 0, .int 0, .int 0]))], [(q1, .inl (kA 0, 24, .inl (fun _ => 0)))], [(q2, .inl (kA 0, 24, .inl (fun _ => 0)))], [(q3, .inl (kA 0, 48, .inl (fun _ => 0)))], [(q4, .inl (kA 0, 1152, .inl (fun _ => 0)))], [(q5, .inl (kA 0, 1152, .inl (fun _ => 0)))]]) := hD
  refine W.widen (k := 5) (n := 2400) (by omega) (by omega) ?_
  refine k_put (pc := 48) X hK hP hD hS 0 rfl rfl i_Dr t_Dr t_Dr_ok n_Dr 6 (by decide) wm_487 rfl (Or.inr ⟨rfl, rfl⟩) rfl rfl (Nat.le_of_ble_eq_true rfl) d_Dr_init_48 (fun H locs hP hD hS => ?_)
  have hP : va_P D classes (cat [[(h, .inr (0, [.null, .int ((-1)), .ref q1, .ref q2, .ref q3, .ref q4, .ref q5, .int 0, .int 0, .int 0, .null, .null, .null, .null, .null, .null, .null, .int 0, .int 0, .int 0, .int 0]))], [(q1, .inl (kA 0, 24, .inl (fun _ => 0)))], [(q2, .inl (kA 0, 24, .inl (fun _ => 0)))], [(q3, .inl (kA 0, 48, .inl (fun _ => 0)))], [(q4, .inl (kA 0, 1152, .inl (fun _ => 0)))], [(q5, .inl (kA 0, 1152, .inl (fun _ => 0)))]]) H := hP
  have hD : va_D A (cat [[(h, .inr (0, [.null, .int ((-1)), .ref q1, .ref q2, .ref q3, .ref q4, .ref q5, .int 0, .int 0, .int 0, .null, .null, .null, .null, .null, .null, .null, .int 0, .int 0, .int 0, .int 0]))], [(q1, .inl (kA 0, 24, .inl (fun _ => 0)))], [(q2, .inl (kA 0, 24, .inl (fun _ => 0)))], [(q3, .inl (kA 0, 48, .inl (fun _ => 0)))], [(q4, .inl (kA 0, 1152, .inl (fun _ => 0)))], [(q5, .inl (kA 0, 1152, .inl (fun _ => 0)))]]) := hD
  refine lv_aload_n (pc := 51) hx hb d_Dr_init_51 rfl (lv_at hl 0 rfl) ?_
  refine lv_iconst (pc := 52) (v := 0) hx hb d_Dr_init_52 (by decide) ?_
  refine k_put (pc := 53) X hK hP hD hS 0 rfl rfl i_Dr t_Dr t_Dr_ok n_Dr 7 (by decide) wm_488 rfl (Or.inl rfl) rfl rfl (Nat.le_of_ble_eq_true rfl) d_Dr_init_53 (fun H locs hP hD hS => ?_)
  have hP : va_P D classes (cat [[(h, .inr (0, [.null, .int ((-1)), .ref q1, .ref q2, .ref q3, .ref q4, .ref q5, .int 0, .int 0, .int 0, .null, .null, .null, .null, .null, .null, .null, .int 0, .int 0, .int 0, .int 0]))], [(q1, .inl (kA 0, 24, .inl (fun _ => 0)))], [(q2, .inl (kA 0, 24, .inl (fun _ => 0)))], [(q3, .inl (kA 0, 48, .inl (fun _ => 0)))], [(q4, .inl (kA 0, 1152, .inl (fun _ => 0)))], [(q5, .inl (kA 0, 1152, .inl (fun _ => 0)))]]) H := hP
  have hD : va_D A (cat [[(h, .inr (0, [.null, .int ((-1)), .ref q1, .ref q2, .ref q3, .ref q4, .ref q5, .int 0, .int 0, .int 0, .null, .null, .null, .null, .null, .null, .null, .int 0, .int 0, .int 0, .int 0]))], [(q1, .inl (kA 0, 24, .inl (fun _ => 0)))], [(q2, .inl (kA 0, 24, .inl (fun _ => 0)))], [(q3, .inl (kA 0, 48, .inl (fun _ => 0)))], [(q4, .inl (kA 0, 1152, .inl (fun _ => 0)))], [(q5, .inl (kA 0, 1152, .inl (fun _ => 0)))]]) := hD
  refine lv_aload_n (pc := 56) hx hb d_Dr_init_56 rfl (lv_at hl 0 rfl) ?_
  refine lv_iconst (pc := 57) (v := 0) hx hb d_Dr_init_57 (by decide) ?_
  refine k_put (pc := 58) X hK hP hD hS 0 rfl rfl i_Dr t_Dr t_Dr_ok n_Dr 8 (by decide) wm_491 rfl (Or.inl rfl) rfl rfl (Nat.le_of_ble_eq_true rfl) d_Dr_init_58 (fun H locs hP hD hS => ?_)
  have hP : va_P D classes (cat [[(h, .inr (0, [.null, .int ((-1)), .ref q1, .ref q2, .ref q3, .ref q4, .ref q5, .int 0, .int 0, .int 0, .null, .null, .null, .null, .null, .null, .null, .int 0, .int 0, .int 0, .int 0]))], [(q1, .inl (kA 0, 24, .inl (fun _ => 0)))], [(q2, .inl (kA 0, 24, .inl (fun _ => 0)))], [(q3, .inl (kA 0, 48, .inl (fun _ => 0)))], [(q4, .inl (kA 0, 1152, .inl (fun _ => 0)))], [(q5, .inl (kA 0, 1152, .inl (fun _ => 0)))]]) H := hP
  have hD : va_D A (cat [[(h, .inr (0, [.null, .int ((-1)), .ref q1, .ref q2, .ref q3, .ref q4, .ref q5, .int 0, .int 0, .int 0, .null, .null, .null, .null, .null, .null, .null, .int 0, .int 0, .int 0, .int 0]))], [(q1, .inl (kA 0, 24, .inl (fun _ => 0)))], [(q2, .inl (kA 0, 24, .inl (fun _ => 0)))], [(q3, .inl (kA 0, 48, .inl (fun _ => 0)))], [(q4, .inl (kA 0, 1152, .inl (fun _ => 0)))], [(q5, .inl (kA 0, 1152, .inl (fun _ => 0)))]]) := hD
  refine lv_aload_n (pc := 61) hx hb d_Dr_init_61 rfl (lv_at hl 0 rfl) ?_
  refine lv_iconst (pc := 62) (v := 0) hx hb d_Dr_init_62 (by decide) ?_
  refine k_put (pc := 63) X hK hP hD hS 0 rfl rfl i_Dr t_Dr t_Dr_ok n_Dr 9 (by decide) wm_493 rfl (Or.inl rfl) rfl rfl (Nat.le_of_ble_eq_true rfl) d_Dr_init_63 (fun H locs hP hD hS => ?_)
  have hP : va_P D classes (cat [[(h, .inr (0, [.null, .int ((-1)), .ref q1, .ref q2, .ref q3, .ref q4, .ref q5, .int 0, .int 0, .int 0, .null, .null, .null, .null, .null, .null, .null, .int 0, .int 0, .int 0, .int 0]))], [(q1, .inl (kA 0, 24, .inl (fun _ => 0)))], [(q2, .inl (kA 0, 24, .inl (fun _ => 0)))], [(q3, .inl (kA 0, 48, .inl (fun _ => 0)))], [(q4, .inl (kA 0, 1152, .inl (fun _ => 0)))], [(q5, .inl (kA 0, 1152, .inl (fun _ => 0)))]]) H := hP
  have hD : va_D A (cat [[(h, .inr (0, [.null, .int ((-1)), .ref q1, .ref q2, .ref q3, .ref q4, .ref q5, .int 0, .int 0, .int 0, .null, .null, .null, .null, .null, .null, .null, .int 0, .int 0, .int 0, .int 0]))], [(q1, .inl (kA 0, 24, .inl (fun _ => 0)))], [(q2, .inl (kA 0, 24, .inl (fun _ => 0)))], [(q3, .inl (kA 0, 48, .inl (fun _ => 0)))], [(q4, .inl (kA 0, 1152, .inl (fun _ => 0)))], [(q5, .inl (kA 0, 1152, .inl (fun _ => 0)))]]) := hD
  refine lv_aload_n (pc := 66) hx hb d_Dr_init_66 rfl (lv_at hl 0 rfl) ?_
  refine lv_bipush (pc := 67) (v := 24) hx hb d_Dr_init_67 (by decide) ?_
  refine k_newa (pc := 69) (atype := .int) X (ty := .int) (a0 := (24, .inl (fun _ => 0))) rfl rfl wm_193 hK hP hD hS hA 0 rfl (fun _ => rfl) (by decide) rfl (by decide) (Nat.le_of_ble_eq_true rfl) (Nat.le_of_ble_eq_true rfl) d_Dr_init_69 (fun q6 H hP hD hS => ?_)
  have hP : va_P D classes (cat [[(h, .inr (0, [.null, .int ((-1)), .ref q1, .ref q2, .ref q3, .ref q4, .ref q5, .int 0, .int 0, .int 0, .null, .null, .null, .null, .null, .null, .null, .int 0, .int 0, .int 0, .int 0]))], [(q1, .inl (kA 0, 24, .inl (fun _ => 0)))], [(q2, .inl (kA 0, 24, .inl (fun _ => 0)))], [(q3, .inl (kA 0, 48, .inl (fun _ => 0)))], [(q4, .inl (kA 0, 1152, .inl (fun _ => 0)))], [(q5, .inl (kA 0, 1152, .inl (fun _ => 0)))], [(q6, .inl (kA 0, 24, .inl (fun _ => 0)))]]) H := hP
  have hD : va_D A (cat [[(h, .inr (0, [.null, .int ((-1)), .ref q1, .ref q2, .ref q3, .ref q4, .ref q5, .int 0, .int 0, .int 0, .null, .null, .null, .null, .null, .null, .null, .int 0, .int 0, .int 0, .int 0]))], [(q1, .inl (kA 0, 24, .inl (fun _ => 0)))], [(q2, .inl (kA 0, 24, .inl (fun _ => 0)))], [(q3, .inl (kA 0, 48, .inl (fun _ => 0)))], [(q4, .inl (kA 0, 1152, .inl (fun _ => 0)))], [(q5, .inl (kA 0, 1152, .inl (fun _ => 0)))], [(q6, .inl (kA 0, 24, .inl (fun _ => 0)))]]) := hD
  refine W.widen (k := 6) (n := 2424) (by omega) (by omega) ?_
  refine k_put (pc := 71) X hK hP hD hS 0 rfl rfl i_Dr t_Dr t_Dr_ok n_Dr 10 (by decide) wm_495 rfl (Or.inr ⟨rfl, rfl⟩) rfl rfl (Nat.le_of_ble_eq_true rfl) d_Dr_init_71 (fun H locs hP hD hS => ?_)
  have hP : va_P D classes (cat [[(h, .inr (0, [.null, .int ((-1)), .ref q1, .ref q2, .ref q3, .ref q4, .ref q5, .int 0, .int 0, .int 0, .ref q6, .null, .null, .null, .null, .null, .null, .int 0, .int 0, .int 0, .int 0]))], [(q1, .inl (kA 0, 24, .inl (fun _ => 0)))], [(q2, .inl (kA 0, 24, .inl (fun _ => 0)))], [(q3, .inl (kA 0, 48, .inl (fun _ => 0)))], [(q4, .inl (kA 0, 1152, .inl (fun _ => 0)))], [(q5, .inl (kA 0, 1152, .inl (fun _ => 0)))], [(q6, .inl (kA 0, 24, .inl (fun _ => 0)))]]) H := hP
  have hD : va_D A (cat [[(h, .inr (0, [.null, .int ((-1)), .ref q1, .ref q2, .ref q3, .ref q4, .ref q5, .int 0, .int 0, .int 0, .ref q6, .null, .null, .null, .null, .null, .null, .int 0, .int 0, .int 0, .int 0]))], [(q1, .inl (kA 0, 24, .inl (fun _ => 0)))], [(q2, .inl (kA 0, 24, .inl (fun _ => 0)))], [(q3, .inl (kA 0, 48, .inl (fun _ => 0)))], [(q4, .inl (kA 0, 1152, .inl (fun _ => 0)))], [(q5, .inl (kA 0, 1152, .inl (fun _ => 0)))], [(q6, .inl (kA 0, 24, .inl (fun _ => 0)))]]) := hD
  refine lv_aload_n (pc := 74) hx hb d_Dr_init_74 rfl (lv_at hl 0 rfl) ?_
  refine lv_bipush (pc := 75) (v := 48) hx hb d_Dr_init_75 (by decide) ?_
  refine k_newa (pc := 77) (atype := .boolean) X (ty := .boolean) (a0 := (48, .inl (fun _ => 0))) rfl rfl wm_387 hK hP hD hS hA 2 rfl (fun _ => rfl) (by decide) rfl (by decide) (Nat.le_of_ble_eq_true rfl) (Nat.le_of_ble_eq_true rfl) d_Dr_init_77 (fun q7 H hP hD hS => ?_)
  have hP : va_P D classes (cat [[(h, .inr (0, [.null, .int ((-1)), .ref q1, .ref q2, .ref q3, .ref q4, .ref q5, .int 0, .int 0, .int 0, .ref q6, .null, .null, .null, .null, .null, .null, .int 0, .int 0, .int 0, .int 0]))], [(q1, .inl (kA 0, 24, .inl (fun _ => 0)))], [(q2, .inl (kA 0, 24, .inl (fun _ => 0)))], [(q3, .inl (kA 0, 48, .inl (fun _ => 0)))], [(q4, .inl (kA 0, 1152, .inl (fun _ => 0)))], [(q5, .inl (kA 0, 1152, .inl (fun _ => 0)))], [(q6, .inl (kA 0, 24, .inl (fun _ => 0)))], [(q7, .inl (kA 2, 48, .inl (fun _ => 0)))]]) H := hP
  have hD : va_D A (cat [[(h, .inr (0, [.null, .int ((-1)), .ref q1, .ref q2, .ref q3, .ref q4, .ref q5, .int 0, .int 0, .int 0, .ref q6, .null, .null, .null, .null, .null, .null, .int 0, .int 0, .int 0, .int 0]))], [(q1, .inl (kA 0, 24, .inl (fun _ => 0)))], [(q2, .inl (kA 0, 24, .inl (fun _ => 0)))], [(q3, .inl (kA 0, 48, .inl (fun _ => 0)))], [(q4, .inl (kA 0, 1152, .inl (fun _ => 0)))], [(q5, .inl (kA 0, 1152, .inl (fun _ => 0)))], [(q6, .inl (kA 0, 24, .inl (fun _ => 0)))], [(q7, .inl (kA 2, 48, .inl (fun _ => 0)))]]) := hD
  refine W.widen (k := 7) (n := 2472) (by omega) (by omega) ?_
  refine k_put (pc := 79) X hK hP hD hS 0 rfl rfl i_Dr t_Dr t_Dr_ok n_Dr 11 (by decide) wm_497 rfl (Or.inr ⟨rfl, rfl⟩) rfl rfl (Nat.le_of_ble_eq_true rfl) d_Dr_init_79 (fun H locs hP hD hS => ?_)
  have hP : va_P D classes (cat [[(h, .inr (0, [.null, .int ((-1)), .ref q1, .ref q2, .ref q3, .ref q4, .ref q5, .int 0, .int 0, .int 0, .ref q6, .ref q7, .null, .null, .null, .null, .null, .int 0, .int 0, .int 0, .int 0]))], [(q1, .inl (kA 0, 24, .inl (fun _ => 0)))], [(q2, .inl (kA 0, 24, .inl (fun _ => 0)))], [(q3, .inl (kA 0, 48, .inl (fun _ => 0)))], [(q4, .inl (kA 0, 1152, .inl (fun _ => 0)))], [(q5, .inl (kA 0, 1152, .inl (fun _ => 0)))], [(q6, .inl (kA 0, 24, .inl (fun _ => 0)))], [(q7, .inl (kA 2, 48, .inl (fun _ => 0)))]]) H := hP
  have hD : va_D A (cat [[(h, .inr (0, [.null, .int ((-1)), .ref q1, .ref q2, .ref q3, .ref q4, .ref q5, .int 0, .int 0, .int 0, .ref q6, .ref q7, .null, .null, .null, .null, .null, .int 0, .int 0, .int 0, .int 0]))], [(q1, .inl (kA 0, 24, .inl (fun _ => 0)))], [(q2, .inl (kA 0, 24, .inl (fun _ => 0)))], [(q3, .inl (kA 0, 48, .inl (fun _ => 0)))], [(q4, .inl (kA 0, 1152, .inl (fun _ => 0)))], [(q5, .inl (kA 0, 1152, .inl (fun _ => 0)))], [(q6, .inl (kA 0, 24, .inl (fun _ => 0)))], [(q7, .inl (kA 2, 48, .inl (fun _ => 0)))]]) := hD
  refine lv_aload_n (pc := 82) hx hb d_Dr_init_82 rfl (lv_at hl 0 rfl) ?_
  refine lv_bipush (pc := 83) (v := 24) hx hb d_Dr_init_83 (by decide) ?_
  refine k_newa (pc := 85) (atype := .int) X (ty := .int) (a0 := (24, .inl (fun _ => 0))) rfl rfl wm_193 hK hP hD hS hA 0 rfl (fun _ => rfl) (by decide) rfl (by decide) (Nat.le_of_ble_eq_true rfl) (Nat.le_of_ble_eq_true rfl) d_Dr_init_85 (fun q8 H hP hD hS => ?_)
  have hP : va_P D classes (cat [[(h, .inr (0, [.null, .int ((-1)), .ref q1, .ref q2, .ref q3, .ref q4, .ref q5, .int 0, .int 0, .int 0, .ref q6, .ref q7, .null, .null, .null, .null, .null, .int 0, .int 0, .int 0, .int 0]))], [(q1, .inl (kA 0, 24, .inl (fun _ => 0)))], [(q2, .inl (kA 0, 24, .inl (fun _ => 0)))], [(q3, .inl (kA 0, 48, .inl (fun _ => 0)))], [(q4, .inl (kA 0, 1152, .inl (fun _ => 0)))], [(q5, .inl (kA 0, 1152, .inl (fun _ => 0)))], [(q6, .inl (kA 0, 24, .inl (fun _ => 0)))], [(q7, .inl (kA 2, 48, .inl (fun _ => 0)))], [(q8, .inl (kA 0, 24, .inl (fun _ => 0)))]]) H := hP
  have hD : va_D A (cat [[(h, .inr (0, [.null, .int ((-1)), .ref q1, .ref q2, .ref q3, .ref q4, .ref q5, .int 0, .int 0, .int 0, .ref q6, .ref q7, .null, .null, .null, .null, .null, .int 0, .int 0, .int 0, .int 0]))], [(q1, .inl (kA 0, 24, .inl (fun _ => 0)))], [(q2, .inl (kA 0, 24, .inl (fun _ => 0)))], [(q3, .inl (kA 0, 48, .inl (fun _ => 0)))], [(q4, .inl (kA 0, 1152, .inl (fun _ => 0)))], [(q5, .inl (kA 0, 1152, .inl (fun _ => 0)))], [(q6, .inl (kA 0, 24, .inl (fun _ => 0)))], [(q7, .inl (kA 2, 48, .inl (fun _ => 0)))], [(q8, .inl (kA 0, 24, .inl (fun _ => 0)))]]) := hD
  refine W.widen (k := 8) (n := 2496) (by omega) (by omega) ?_
  refine k_put (pc := 87) X hK hP hD hS 0 rfl rfl i_Dr t_Dr t_Dr_ok n_Dr 12 (by decide) wm_499 rfl (Or.inr ⟨rfl, rfl⟩) rfl rfl (Nat.le_of_ble_eq_true rfl) d_Dr_init_87 (fun H locs hP hD hS => ?_)
  have hP : va_P D classes (cat [[(h, .inr (0, [.null, .int ((-1)), .ref q1, .ref q2, .ref q3, .ref q4, .ref q5, .int 0, .int 0, .int 0, .ref q6, .ref q7, .ref q8, .null, .null, .null, .null, .int 0, .int 0, .int 0, .int 0]))], [(q1, .inl (kA 0, 24, .inl (fun _ => 0)))], [(q2, .inl (kA 0, 24, .inl (fun _ => 0)))], [(q3, .inl (kA 0, 48, .inl (fun _ => 0)))], [(q4, .inl (kA 0, 1152, .inl (fun _ => 0)))], [(q5, .inl (kA 0, 1152, .inl (fun _ => 0)))], [(q6, .inl (kA 0, 24, .inl (fun _ => 0)))], [(q7, .inl (kA 2, 48, .inl (fun _ => 0)))], [(q8, .inl (kA 0, 24, .inl (fun _ => 0)))]]) H := hP
  have hD : va_D A (cat [[(h, .inr (0, [.null, .int ((-1)), .ref q1, .ref q2, .ref q3, .ref q4, .ref q5, .int 0, .int 0, .int 0, .ref q6, .ref q7, .ref q8, .null, .null, .null, .null, .int 0, .int 0, .int 0, .int 0]))], [(q1, .inl (kA 0, 24, .inl (fun _ => 0)))], [(q2, .inl (kA 0, 24, .inl (fun _ => 0)))], [(q3, .inl (kA 0, 48, .inl (fun _ => 0)))], [(q4, .inl (kA 0, 1152, .inl (fun _ => 0)))], [(q5, .inl (kA 0, 1152, .inl (fun _ => 0)))], [(q6, .inl (kA 0, 24, .inl (fun _ => 0)))], [(q7, .inl (kA 2, 48, .inl (fun _ => 0)))], [(q8, .inl (kA 0, 24, .inl (fun _ => 0)))]]) := hD
  refine lv_aload_n (pc := 90) hx hb d_Dr_init_90 rfl (lv_at hl 0 rfl) ?_
  refine lv_sipush (pc := 91) (v := 128) hx hb d_Dr_init_91 (by decide) ?_
  refine k_newa (pc := 94) (atype := .int) X (ty := .int) (a0 := (128, .inl (fun _ => 0))) rfl rfl wm_193 hK hP hD hS hA 0 rfl (fun _ => rfl) (by decide) rfl (by decide) (Nat.le_of_ble_eq_true rfl) (Nat.le_of_ble_eq_true rfl) d_Dr_init_94 (fun q9 H hP hD hS => ?_)
  have hP : va_P D classes (cat [[(h, .inr (0, [.null, .int ((-1)), .ref q1, .ref q2, .ref q3, .ref q4, .ref q5, .int 0, .int 0, .int 0, .ref q6, .ref q7, .ref q8, .null, .null, .null, .null, .int 0, .int 0, .int 0, .int 0]))], [(q1, .inl (kA 0, 24, .inl (fun _ => 0)))], [(q2, .inl (kA 0, 24, .inl (fun _ => 0)))], [(q3, .inl (kA 0, 48, .inl (fun _ => 0)))], [(q4, .inl (kA 0, 1152, .inl (fun _ => 0)))], [(q5, .inl (kA 0, 1152, .inl (fun _ => 0)))], [(q6, .inl (kA 0, 24, .inl (fun _ => 0)))], [(q7, .inl (kA 2, 48, .inl (fun _ => 0)))], [(q8, .inl (kA 0, 24, .inl (fun _ => 0)))], [(q9, .inl (kA 0, 128, .inl (fun _ => 0)))]]) H := hP
  have hD : va_D A (cat [[(h, .inr (0, [.null, .int ((-1)), .ref q1, .ref q2, .ref q3, .ref q4, .ref q5, .int 0, .int 0, .int 0, .ref q6, .ref q7, .ref q8, .null, .null, .null, .null, .int 0, .int 0, .int 0, .int 0]))], [(q1, .inl (kA 0, 24, .inl (fun _ => 0)))], [(q2, .inl (kA 0, 24, .inl (fun _ => 0)))], [(q3, .inl (kA 0, 48, .inl (fun _ => 0)))], [(q4, .inl (kA 0, 1152, .inl (fun _ => 0)))], [(q5, .inl (kA 0, 1152, .inl (fun _ => 0)))], [(q6, .inl (kA 0, 24, .inl (fun _ => 0)))], [(q7, .inl (kA 2, 48, .inl (fun _ => 0)))], [(q8, .inl (kA 0, 24, .inl (fun _ => 0)))], [(q9, .inl (kA 0, 128, .inl (fun _ => 0)))]]) := hD
  refine W.widen (k := 9) (n := 2624) (by omega) (by omega) ?_
  refine k_put (pc := 96) X hK hP hD hS 0 rfl rfl i_Dr t_Dr t_Dr_ok n_Dr 13 (by decide) wm_501 rfl (Or.inr ⟨rfl, rfl⟩) rfl rfl (Nat.le_of_ble_eq_true rfl) d_Dr_init_96 (fun H locs hP hD hS => ?_)
  have hP : va_P D classes (cat [[(h, .inr (0, [.null, .int ((-1)), .ref q1, .ref q2, .ref q3, .ref q4, .ref q5, .int 0, .int 0, .int 0, .ref q6, .ref q7, .ref q8, .ref q9, .null, .null, .null, .int 0, .int 0, .int 0, .int 0]))], [(q1, .inl (kA 0, 24, .inl (fun _ => 0)))], [(q2, .inl (kA 0, 24, .inl (fun _ => 0)))], [(q3, .inl (kA 0, 48, .inl (fun _ => 0)))], [(q4, .inl (kA 0, 1152, .inl (fun _ => 0)))], [(q5, .inl (kA 0, 1152, .inl (fun _ => 0)))], [(q6, .inl (kA 0, 24, .inl (fun _ => 0)))], [(q7, .inl (kA 2, 48, .inl (fun _ => 0)))], [(q8, .inl (kA 0, 24, .inl (fun _ => 0)))], [(q9, .inl (kA 0, 128, .inl (fun _ => 0)))]]) H := hP
  have hD : va_D A (cat [[(h, .inr (0, [.null, .int ((-1)), .ref q1, .ref q2, .ref q3, .ref q4, .ref q5, .int 0, .int 0, .int 0, .ref q6, .ref q7, .ref q8, .ref q9, .null, .null, .null, .int 0, .int 0, .int 0, .int 0]))], [(q1, .inl (kA 0, 24, .inl (fun _ => 0)))], [(q2, .inl (kA 0, 24, .inl (fun _ => 0)))], [(q3, .inl (kA 0, 48, .inl (fun _ => 0)))], [(q4, .inl (kA 0, 1152, .inl (fun _ => 0)))], [(q5, .inl (kA 0, 1152, .inl (fun _ => 0)))], [(q6, .inl (kA 0, 24, .inl (fun _ => 0)))], [(q7, .inl (kA 2, 48, .inl (fun _ => 0)))], [(q8, .inl (kA 0, 24, .inl (fun _ => 0)))], [(q9, .inl (kA 0, 128, .inl (fun _ => 0)))]]) := hD
  refine lv_aload_n (pc := 99) hx hb d_Dr_init_99 rfl (lv_at hl 0 rfl) ?_
  refine lv_sipush (pc := 100) (v := 216) hx hb d_Dr_init_100 (by decide) ?_
  refine k_newa (pc := 103) (atype := .int) X (ty := .int) (a0 := (216, .inl (fun _ => 0))) rfl rfl wm_193 hK hP hD hS hA 0 rfl (fun _ => rfl) (by decide) rfl (by decide) (Nat.le_of_ble_eq_true rfl) (Nat.le_of_ble_eq_true rfl) d_Dr_init_103 (fun q10 H hP hD hS => ?_)
  have hP : va_P D classes (cat [[(h, .inr (0, [.null, .int ((-1)), .ref q1, .ref q2, .ref q3, .ref q4, .ref q5, .int 0, .int 0, .int 0, .ref q6, .ref q7, .ref q8, .ref q9, .null, .null, .null, .int 0, .int 0, .int 0, .int 0]))], [(q1, .inl (kA 0, 24, .inl (fun _ => 0)))], [(q2, .inl (kA 0, 24, .inl (fun _ => 0)))], [(q3, .inl (kA 0, 48, .inl (fun _ => 0)))], [(q4, .inl (kA 0, 1152, .inl (fun _ => 0)))], [(q5, .inl (kA 0, 1152, .inl (fun _ => 0)))], [(q6, .inl (kA 0, 24, .inl (fun _ => 0)))], [(q7, .inl (kA 2, 48, .inl (fun _ => 0)))], [(q8, .inl (kA 0, 24, .inl (fun _ => 0)))], [(q9, .inl (kA 0, 128, .inl (fun _ => 0)))], [(q10, .inl (kA 0, 216, .inl (fun _ => 0)))]]) H := hP
  have hD : va_D A (cat [[(h, .inr (0, [.null, .int ((-1)), .ref q1, .ref q2, .ref q3, .ref q4, .ref q5, .int 0, .int 0, .int 0, .ref q6, .ref q7, .ref q8, .ref q9, .null, .null, .null, .int 0, .int 0, .int 0, .int 0]))], [(q1, .inl (kA 0, 24, .inl (fun _ => 0)))], [(q2, .inl (kA 0, 24, .inl (fun _ => 0)))], [(q3, .inl (kA 0, 48, .inl (fun _ => 0)))], [(q4, .inl (kA 0, 1152, .inl (fun _ => 0)))], [(q5, .inl (kA 0, 1152, .inl (fun _ => 0)))], [(q6, .inl (kA 0, 24, .inl (fun _ => 0)))], [(q7, .inl (kA 2, 48, .inl (fun _ => 0)))], [(q8, .inl (kA 0, 24, .inl (fun _ => 0)))], [(q9, .inl (kA 0, 128, .inl (fun _ => 0)))], [(q10, .inl (kA 0, 216, .inl (fun _ => 0)))]]) := hD
  refine W.widen (k := 10) (n := 2840) (by omega) (by omega) ?_
  refine k_put (pc := 105) X hK hP hD hS 0 rfl rfl i_Dr t_Dr t_Dr_ok n_Dr 14 (by decide) wm_503 rfl (Or.inr ⟨rfl, rfl⟩) rfl rfl (Nat.le_of_ble_eq_true rfl) d_Dr_init_105 (fun H locs hP hD hS => ?_)
  have hP : va_P D classes (cat [[(h, .inr (0, [.null, .int ((-1)), .ref q1, .ref q2, .ref q3, .ref q4, .ref q5, .int 0, .int 0, .int 0, .ref q6, .ref q7, .ref q8, .ref q9, .ref q10, .null, .null, .int 0, .int 0, .int 0, .int 0]))], [(q1, .inl (kA 0, 24, .inl (fun _ => 0)))], [(q2, .inl (kA 0, 24, .inl (fun _ => 0)))], [(q3, .inl (kA 0, 48, .inl (fun _ => 0)))], [(q4, .inl (kA 0, 1152, .inl (fun _ => 0)))], [(q5, .inl (kA 0, 1152, .inl (fun _ => 0)))], [(q6, .inl (kA 0, 24, .inl (fun _ => 0)))], [(q7, .inl (kA 2, 48, .inl (fun _ => 0)))], [(q8, .inl (kA 0, 24, .inl (fun _ => 0)))], [(q9, .inl (kA 0, 128, .inl (fun _ => 0)))], [(q10, .inl (kA 0, 216, .inl (fun _ => 0)))]]) H := hP
  have hD : va_D A (cat [[(h, .inr (0, [.null, .int ((-1)), .ref q1, .ref q2, .ref q3, .ref q4, .ref q5, .int 0, .int 0, .int 0, .ref q6, .ref q7, .ref q8, .ref q9, .ref q10, .null, .null, .int 0, .int 0, .int 0, .int 0]))], [(q1, .inl (kA 0, 24, .inl (fun _ => 0)))], [(q2, .inl (kA 0, 24, .inl (fun _ => 0)))], [(q3, .inl (kA 0, 48, .inl (fun _ => 0)))], [(q4, .inl (kA 0, 1152, .inl (fun _ => 0)))], [(q5, .inl (kA 0, 1152, .inl (fun _ => 0)))], [(q6, .inl (kA 0, 24, .inl (fun _ => 0)))], [(q7, .inl (kA 2, 48, .inl (fun _ => 0)))], [(q8, .inl (kA 0, 24, .inl (fun _ => 0)))], [(q9, .inl (kA 0, 128, .inl (fun _ => 0)))], [(q10, .inl (kA 0, 216, .inl (fun _ => 0)))]]) := hD
  refine lv_aload_n (pc := 108) hx hb d_Dr_init_108 rfl (lv_at hl 0 rfl) ?_
  refine lv_bipush (pc := 109) (v := 48) hx hb d_Dr_init_109 (by decide) ?_
  refine k_newa (pc := 111) (atype := .int) X (ty := .int) (a0 := (48, .inl (fun _ => 0))) rfl rfl wm_193 hK hP hD hS hA 0 rfl (fun _ => rfl) (by decide) rfl (by decide) (Nat.le_of_ble_eq_true rfl) (Nat.le_of_ble_eq_true rfl) d_Dr_init_111 (fun q11 H hP hD hS => ?_)
  have hP : va_P D classes (cat [[(h, .inr (0, [.null, .int ((-1)), .ref q1, .ref q2, .ref q3, .ref q4, .ref q5, .int 0, .int 0, .int 0, .ref q6, .ref q7, .ref q8, .ref q9, .ref q10, .null, .null, .int 0, .int 0, .int 0, .int 0]))], [(q1, .inl (kA 0, 24, .inl (fun _ => 0)))], [(q2, .inl (kA 0, 24, .inl (fun _ => 0)))], [(q3, .inl (kA 0, 48, .inl (fun _ => 0)))], [(q4, .inl (kA 0, 1152, .inl (fun _ => 0)))], [(q5, .inl (kA 0, 1152, .inl (fun _ => 0)))], [(q6, .inl (kA 0, 24, .inl (fun _ => 0)))], [(q7, .inl (kA 2, 48, .inl (fun _ => 0)))], [(q8, .inl (kA 0, 24, .inl (fun _ => 0)))], [(q9, .inl (kA 0, 128, .inl (fun _ => 0)))], [(q10, .inl (kA 0, 216, .inl (fun _ => 0)))], [(q11, .inl (kA 0, 48, .inl (fun _ => 0)))]]) H := hP
  have hD : va_D A (cat [[(h, .inr (0, [.null, .int ((-1)), .ref q1, .ref q2, .ref q3, .ref q4, .ref q5, .int 0, .int 0, .int 0, .ref q6, .ref q7, .ref q8, .ref q9, .ref q10, .null, .null, .int 0, .int 0, .int 0, .int 0]))], [(q1, .inl (kA 0, 24, .inl (fun _ => 0)))], [(q2, .inl (kA 0, 24, .inl (fun _ => 0)))], [(q3, .inl (kA 0, 48, .inl (fun _ => 0)))], [(q4, .inl (kA 0, 1152, .inl (fun _ => 0)))], [(q5, .inl (kA 0, 1152, .inl (fun _ => 0)))], [(q6, .inl (kA 0, 24, .inl (fun _ => 0)))], [(q7, .inl (kA 2, 48, .inl (fun _ => 0)))], [(q8, .inl (kA 0, 24, .inl (fun _ => 0)))], [(q9, .inl (kA 0, 128, .inl (fun _ => 0)))], [(q10, .inl (kA 0, 216, .inl (fun _ => 0)))], [(q11, .inl (kA 0, 48, .inl (fun _ => 0)))]]) := hD
  refine W.widen (k := 11) (n := 2888) (by omega) (by omega) ?_
  refine k_put (pc := 113) X hK hP hD hS 0 rfl rfl i_Dr t_Dr t_Dr_ok n_Dr 15 (by decide) wm_506 rfl (Or.inr ⟨rfl, rfl⟩) rfl rfl (Nat.le_of_ble_eq_true rfl) d_Dr_init_113 (fun H locs hP hD hS => ?_)
  have hP : va_P D classes (cat [[(h, .inr (0, [.null, .int ((-1)), .ref q1, .ref q2, .ref q3, .ref q4, .ref q5, .int 0, .int 0, .int 0, .ref q6, .ref q7, .ref q8, .ref q9, .ref q10, .ref q11, .null, .int 0, .int 0, .int 0, .int 0]))], [(q1, .inl (kA 0, 24, .inl (fun _ => 0)))], [(q2, .inl (kA 0, 24, .inl (fun _ => 0)))], [(q3, .inl (kA 0, 48, .inl (fun _ => 0)))], [(q4, .inl (kA 0, 1152, .inl (fun _ => 0)))], [(q5, .inl (kA 0, 1152, .inl (fun _ => 0)))], [(q6, .inl (kA 0, 24, .inl (fun _ => 0)))], [(q7, .inl (kA 2, 48, .inl (fun _ => 0)))], [(q8, .inl (kA 0, 24, .inl (fun _ => 0)))], [(q9, .inl (kA 0, 128, .inl (fun _ => 0)))], [(q10, .inl (kA 0, 216, .inl (fun _ => 0)))], [(q11, .inl (kA 0, 48, .inl (fun _ => 0)))]]) H := hP
  have hD : va_D A (cat [[(h, .inr (0, [.null, .int ((-1)), .ref q1, .ref q2, .ref q3, .ref q4, .ref q5, .int 0, .int 0, .int 0, .ref q6, .ref q7, .ref q8, .ref q9, .ref q10, .ref q11, .null, .int 0, .int 0, .int 0, .int 0]))], [(q1, .inl (kA 0, 24, .inl (fun _ => 0)))], [(q2, .inl (kA 0, 24, .inl (fun _ => 0)))], [(q3, .inl (kA 0, 48, .inl (fun _ => 0)))], [(q4, .inl (kA 0, 1152, .inl (fun _ => 0)))], [(q5, .inl (kA 0, 1152, .inl (fun _ => 0)))], [(q6, .inl (kA 0, 24, .inl (fun _ => 0)))], [(q7, .inl (kA 2, 48, .inl (fun _ => 0)))], [(q8, .inl (kA 0, 24, .inl (fun _ => 0)))], [(q9, .inl (kA 0, 128, .inl (fun _ => 0)))], [(q10, .inl (kA 0, 216, .inl (fun _ => 0)))], [(q11, .inl (kA 0, 48, .inl (fun _ => 0)))]]) := hD
  refine lv_aload_n (pc := 116) hx hb d_Dr_init_116 rfl (lv_at hl 0 rfl) ?_
  refine lv_bipush (pc := 117) (v := 48) hx hb d_Dr_init_117 (by decide) ?_
  refine k_newa (pc := 119) (atype := .int) X (ty := .int) (a0 := (48, .inl (fun _ => 0))) rfl rfl wm_193 hK hP hD hS hA 0 rfl (fun _ => rfl) (by decide) rfl (by decide) (Nat.le_of_ble_eq_true rfl) (Nat.le_of_ble_eq_true rfl) d_Dr_init_119 (fun q12 H hP hD hS => ?_)
  have hP : va_P D classes (cat [[(h, .inr (0, [.null, .int ((-1)), .ref q1, .ref q2, .ref q3, .ref q4, .ref q5, .int 0, .int 0, .int 0, .ref q6, .ref q7, .ref q8, .ref q9, .ref q10, .ref q11, .null, .int 0, .int 0, .int 0, .int 0]))], [(q1, .inl (kA 0, 24, .inl (fun _ => 0)))], [(q2, .inl (kA 0, 24, .inl (fun _ => 0)))], [(q3, .inl (kA 0, 48, .inl (fun _ => 0)))], [(q4, .inl (kA 0, 1152, .inl (fun _ => 0)))], [(q5, .inl (kA 0, 1152, .inl (fun _ => 0)))], [(q6, .inl (kA 0, 24, .inl (fun _ => 0)))], [(q7, .inl (kA 2, 48, .inl (fun _ => 0)))], [(q8, .inl (kA 0, 24, .inl (fun _ => 0)))], [(q9, .inl (kA 0, 128, .inl (fun _ => 0)))], [(q10, .inl (kA 0, 216, .inl (fun _ => 0)))], [(q11, .inl (kA 0, 48, .inl (fun _ => 0)))], [(q12, .inl (kA 0, 48, .inl (fun _ => 0)))]]) H := hP
  have hD : va_D A (cat [[(h, .inr (0, [.null, .int ((-1)), .ref q1, .ref q2, .ref q3, .ref q4, .ref q5, .int 0, .int 0, .int 0, .ref q6, .ref q7, .ref q8, .ref q9, .ref q10, .ref q11, .null, .int 0, .int 0, .int 0, .int 0]))], [(q1, .inl (kA 0, 24, .inl (fun _ => 0)))], [(q2, .inl (kA 0, 24, .inl (fun _ => 0)))], [(q3, .inl (kA 0, 48, .inl (fun _ => 0)))], [(q4, .inl (kA 0, 1152, .inl (fun _ => 0)))], [(q5, .inl (kA 0, 1152, .inl (fun _ => 0)))], [(q6, .inl (kA 0, 24, .inl (fun _ => 0)))], [(q7, .inl (kA 2, 48, .inl (fun _ => 0)))], [(q8, .inl (kA 0, 24, .inl (fun _ => 0)))], [(q9, .inl (kA 0, 128, .inl (fun _ => 0)))], [(q10, .inl (kA 0, 216, .inl (fun _ => 0)))], [(q11, .inl (kA 0, 48, .inl (fun _ => 0)))], [(q12, .inl (kA 0, 48, .inl (fun _ => 0)))]]) := hD
  refine W.widen (k := 12) (n := 2936) (by omega) (by omega) ?_
  refine k_put (pc := 121) X hK hP hD hS 0 rfl rfl i_Dr t_Dr t_Dr_ok n_Dr 16 (by decide) wm_507 rfl (Or.inr ⟨rfl, rfl⟩) rfl rfl (Nat.le_of_ble_eq_true rfl) d_Dr_init_121 (fun H locs hP hD hS => ?_)
  have hP : va_P D classes (cat [[(h, .inr (0, [.null, .int ((-1)), .ref q1, .ref q2, .ref q3, .ref q4, .ref q5, .int 0, .int 0, .int 0, .ref q6, .ref q7, .ref q8, .ref q9, .ref q10, .ref q11, .ref q12, .int 0, .int 0, .int 0, .int 0]))], [(q1, .inl (kA 0, 24, .inl (fun _ => 0)))], [(q2, .inl (kA 0, 24, .inl (fun _ => 0)))], [(q3, .inl (kA 0, 48, .inl (fun _ => 0)))], [(q4, .inl (kA 0, 1152, .inl (fun _ => 0)))], [(q5, .inl (kA 0, 1152, .inl (fun _ => 0)))], [(q6, .inl (kA 0, 24, .inl (fun _ => 0)))], [(q7, .inl (kA 2, 48, .inl (fun _ => 0)))], [(q8, .inl (kA 0, 24, .inl (fun _ => 0)))], [(q9, .inl (kA 0, 128, .inl (fun _ => 0)))], [(q10, .inl (kA 0, 216, .inl (fun _ => 0)))], [(q11, .inl (kA 0, 48, .inl (fun _ => 0)))], [(q12, .inl (kA 0, 48, .inl (fun _ => 0)))]]) H := hP
  have hD : va_D A (cat [[(h, .inr (0, [.null, .int ((-1)), .ref q1, .ref q2, .ref q3, .ref q4, .ref q5, .int 0, .int 0, .int 0, .ref q6, .ref q7, .ref q8, .ref q9, .ref q10, .ref q11, .ref q12, .int 0, .int 0, .int 0, .int 0]))], [(q1, .inl (kA 0, 24, .inl (fun _ => 0)))], [(q2, .inl (kA 0, 24, .inl (fun _ => 0)))], [(q3, .inl (kA 0, 48, .inl (fun _ => 0)))], [(q4, .inl (kA 0, 1152, .inl (fun _ => 0)))], [(q5, .inl (kA 0, 1152, .inl (fun _ => 0)))], [(q6, .inl (kA 0, 24, .inl (fun _ => 0)))], [(q7, .inl (kA 2, 48, .inl (fun _ => 0)))], [(q8, .inl (kA 0, 24, .inl (fun _ => 0)))], [(q9, .inl (kA 0, 128, .inl (fun _ => 0)))], [(q10, .inl (kA 0, 216, .inl (fun _ => 0)))], [(q11, .inl (kA 0, 48, .inl (fun _ => 0)))], [(q12, .inl (kA 0, 48, .inl (fun _ => 0)))]]) := hD
  refine lv_aload_n (pc := 124) hx hb d_Dr_init_124 rfl (lv_at hl 0 rfl) ?_
  refine lv_iconst (pc := 125) (v := 0) hx hb d_Dr_init_125 (by decide) ?_
  refine k_put (pc := 126) X hK hP hD hS 0 rfl rfl i_Dr t_Dr t_Dr_ok n_Dr 17 (by decide) wm_508 rfl (Or.inl rfl) rfl rfl (Nat.le_of_ble_eq_true rfl) d_Dr_init_126 (fun H locs hP hD hS => ?_)
  have hP : va_P D classes (cat [[(h, .inr (0, [.null, .int ((-1)), .ref q1, .ref q2, .ref q3, .ref q4, .ref q5, .int 0, .int 0, .int 0, .ref q6, .ref q7, .ref q8, .ref q9, .ref q10, .ref q11, .ref q12, .int 0, .int 0, .int 0, .int 0]))], [(q1, .inl (kA 0, 24, .inl (fun _ => 0)))], [(q2, .inl (kA 0, 24, .inl (fun _ => 0)))], [(q3, .inl (kA 0, 48, .inl (fun _ => 0)))], [(q4, .inl (kA 0, 1152, .inl (fun _ => 0)))], [(q5, .inl (kA 0, 1152, .inl (fun _ => 0)))], [(q6, .inl (kA 0, 24, .inl (fun _ => 0)))], [(q7, .inl (kA 2, 48, .inl (fun _ => 0)))], [(q8, .inl (kA 0, 24, .inl (fun _ => 0)))], [(q9, .inl (kA 0, 128, .inl (fun _ => 0)))], [(q10, .inl (kA 0, 216, .inl (fun _ => 0)))], [(q11, .inl (kA 0, 48, .inl (fun _ => 0)))], [(q12, .inl (kA 0, 48, .inl (fun _ => 0)))]]) H := hP
  have hD : va_D A (cat [[(h, .inr (0, [.null, .int ((-1)), .ref q1, .ref q2, .ref q3, .ref q4, .ref q5, .int 0, .int 0, .int 0, .ref q6, .ref q7, .ref q8, .ref q9, .ref q10, .ref q11, .ref q12, .int 0, .int 0, .int 0, .int 0]))], [(q1, .inl (kA 0, 24, .inl (fun _ => 0)))], [(q2, .inl (kA 0, 24, .inl (fun _ => 0)))], [(q3, .inl (kA 0, 48, .inl (fun _ => 0)))], [(q4, .inl (kA 0, 1152, .inl (fun _ => 0)))], [(q5, .inl (kA 0, 1152, .inl (fun _ => 0)))], [(q6, .inl (kA 0, 24, .inl (fun _ => 0)))], [(q7, .inl (kA 2, 48, .inl (fun _ => 0)))], [(q8, .inl (kA 0, 24, .inl (fun _ => 0)))], [(q9, .inl (kA 0, 128, .inl (fun _ => 0)))], [(q10, .inl (kA 0, 216, .inl (fun _ => 0)))], [(q11, .inl (kA 0, 48, .inl (fun _ => 0)))], [(q12, .inl (kA 0, 48, .inl (fun _ => 0)))]]) := hD
  refine lv_aload_n (pc := 129) hx hb d_Dr_init_129 rfl (lv_at hl 0 rfl) ?_
  refine lv_iconst (pc := 130) (v := 0) hx hb d_Dr_init_130 (by decide) ?_
  refine k_put (pc := 131) X hK hP hD hS 0 rfl rfl i_Dr t_Dr t_Dr_ok n_Dr 18 (by decide) wm_509 rfl (Or.inl rfl) rfl rfl (Nat.le_of_ble_eq_true rfl) d_Dr_init_131 (fun H locs hP hD hS => ?_)
  have hP : va_P D classes (cat [[(h, .inr (0, [.null, .int ((-1)), .ref q1, .ref q2, .ref q3, .ref q4, .ref q5, .int 0, .int 0, .int 0, .ref q6, .ref q7, .ref q8, .ref q9, .ref q10, .ref q11, .ref q12, .int 0, .int 0, .int 0, .int 0]))], [(q1, .inl (kA 0, 24, .inl (fun _ => 0)))], [(q2, .inl (kA 0, 24, .inl (fun _ => 0)))], [(q3, .inl (kA 0, 48, .inl (fun _ => 0)))], [(q4, .inl (kA 0, 1152, .inl (fun _ => 0)))], [(q5, .inl (kA 0, 1152, .inl (fun _ => 0)))], [(q6, .inl (kA 0, 24, .inl (fun _ => 0)))], [(q7, .inl (kA 2, 48, .inl (fun _ => 0)))], [(q8, .inl (kA 0, 24, .inl (fun _ => 0)))], [(q9, .inl (kA 0, 128, .inl (fun _ => 0)))], [(q10, .inl (kA 0, 216, .inl (fun _ => 0)))], [(q11, .inl (kA 0, 48, .inl (fun _ => 0)))], [(q12, .inl (kA 0, 48, .inl (fun _ => 0)))]]) H := hP
  have hD : va_D A (cat [[(h, .inr (0, [.null, .int ((-1)), .ref q1, .ref q2, .ref q3, .ref q4, .ref q5, .int 0, .int 0, .int 0, .ref q6, .ref q7, .ref q8, .ref q9, .ref q10, .ref q11, .ref q12, .int 0, .int 0, .int 0, .int 0]))], [(q1, .inl (kA 0, 24, .inl (fun _ => 0)))], [(q2, .inl (kA 0, 24, .inl (fun _ => 0)))], [(q3, .inl (kA 0, 48, .inl (fun _ => 0)))], [(q4, .inl (kA 0, 1152, .inl (fun _ => 0)))], [(q5, .inl (kA 0, 1152, .inl (fun _ => 0)))], [(q6, .inl (kA 0, 24, .inl (fun _ => 0)))], [(q7, .inl (kA 2, 48, .inl (fun _ => 0)))], [(q8, .inl (kA 0, 24, .inl (fun _ => 0)))], [(q9, .inl (kA 0, 128, .inl (fun _ => 0)))], [(q10, .inl (kA 0, 216, .inl (fun _ => 0)))], [(q11, .inl (kA 0, 48, .inl (fun _ => 0)))], [(q12, .inl (kA 0, 48, .inl (fun _ => 0)))]]) := hD
  refine lv_aload_n (pc := 134) hx hb d_Dr_init_134 rfl (lv_at hl 0 rfl) ?_
  refine lv_iconst (pc := 135) (v := 0) hx hb d_Dr_init_135 (by decide) ?_
  refine k_put (pc := 136) X hK hP hD hS 0 rfl rfl i_Dr t_Dr t_Dr_ok n_Dr 19 (by decide) wm_510 rfl (Or.inl rfl) rfl rfl (Nat.le_of_ble_eq_true rfl) d_Dr_init_136 (fun H locs hP hD hS => ?_)
  have hP : va_P D classes (cat [[(h, .inr (0, [.null, .int ((-1)), .ref q1, .ref q2, .ref q3, .ref q4, .ref q5, .int 0, .int 0, .int 0, .ref q6, .ref q7, .ref q8, .ref q9, .ref q10, .ref q11, .ref q12, .int 0, .int 0, .int 0, .int 0]))], [(q1, .inl (kA 0, 24, .inl (fun _ => 0)))], [(q2, .inl (kA 0, 24, .inl (fun _ => 0)))], [(q3, .inl (kA 0, 48, .inl (fun _ => 0)))], [(q4, .inl (kA 0, 1152, .inl (fun _ => 0)))], [(q5, .inl (kA 0, 1152, .inl (fun _ => 0)))], [(q6, .inl (kA 0, 24, .inl (fun _ => 0)))], [(q7, .inl (kA 2, 48, .inl (fun _ => 0)))], [(q8, .inl (kA 0, 24, .inl (fun _ => 0)))], [(q9, .inl (kA 0, 128, .inl (fun _ => 0)))], [(q10, .inl (kA 0, 216, .inl (fun _ => 0)))], [(q11, .inl (kA 0, 48, .inl (fun _ => 0)))], [(q12, .inl (kA 0, 48, .inl (fun _ => 0)))]]) H := hP
  have hD : va_D A (cat [[(h, .inr (0, [.null, .int ((-1)), .ref q1, .ref q2, .ref q3, .ref q4, .ref q5, .int 0, .int 0, .int 0, .ref q6, .ref q7, .ref q8, .ref q9, .ref q10, .ref q11, .ref q12, .int 0, .int 0, .int 0, .int 0]))], [(q1, .inl (kA 0, 24, .inl (fun _ => 0)))], [(q2, .inl (kA 0, 24, .inl (fun _ => 0)))], [(q3, .inl (kA 0, 48, .inl (fun _ => 0)))], [(q4, .inl (kA 0, 1152, .inl (fun _ => 0)))], [(q5, .inl (kA 0, 1152, .inl (fun _ => 0)))], [(q6, .inl (kA 0, 24, .inl (fun _ => 0)))], [(q7, .inl (kA 2, 48, .inl (fun _ => 0)))], [(q8, .inl (kA 0, 24, .inl (fun _ => 0)))], [(q9, .inl (kA 0, 128, .inl (fun _ => 0)))], [(q10, .inl (kA 0, 216, .inl (fun _ => 0)))], [(q11, .inl (kA 0, 48, .inl (fun _ => 0)))], [(q12, .inl (kA 0, 48, .inl (fun _ => 0)))]]) := hD
  refine lv_aload_n (pc := 139) hx hb d_Dr_init_139 rfl (lv_at hl 0 rfl) ?_
  refine lv_iconst (pc := 140) (v := 0) hx hb d_Dr_init_140 (by decide) ?_
  refine k_put (pc := 141) X hK hP hD hS 0 rfl rfl i_Dr t_Dr t_Dr_ok n_Dr 20 (by decide) wm_511 rfl (Or.inl rfl) rfl rfl (Nat.le_of_ble_eq_true rfl) d_Dr_init_141 (fun H locs hP hD hS => ?_)
  have hP : va_P D classes (cat [[(h, .inr (0, [.null, .int ((-1)), .ref q1, .ref q2, .ref q3, .ref q4, .ref q5, .int 0, .int 0, .int 0, .ref q6, .ref q7, .ref q8, .ref q9, .ref q10, .ref q11, .ref q12, .int 0, .int 0, .int 0, .int 0]))], [(q1, .inl (kA 0, 24, .inl (fun _ => 0)))], [(q2, .inl (kA 0, 24, .inl (fun _ => 0)))], [(q3, .inl (kA 0, 48, .inl (fun _ => 0)))], [(q4, .inl (kA 0, 1152, .inl (fun _ => 0)))], [(q5, .inl (kA 0, 1152, .inl (fun _ => 0)))], [(q6, .inl (kA 0, 24, .inl (fun _ => 0)))], [(q7, .inl (kA 2, 48, .inl (fun _ => 0)))], [(q8, .inl (kA 0, 24, .inl (fun _ => 0)))], [(q9, .inl (kA 0, 128, .inl (fun _ => 0)))], [(q10, .inl (kA 0, 216, .inl (fun _ => 0)))], [(q11, .inl (kA 0, 48, .inl (fun _ => 0)))], [(q12, .inl (kA 0, 48, .inl (fun _ => 0)))]]) H := hP
  have hD : va_D A (cat [[(h, .inr (0, [.null, .int ((-1)), .ref q1, .ref q2, .ref q3, .ref q4, .ref q5, .int 0, .int 0, .int 0, .ref q6, .ref q7, .ref q8, .ref q9, .ref q10, .ref q11, .ref q12, .int 0, .int 0, .int 0, .int 0]))], [(q1, .inl (kA 0, 24, .inl (fun _ => 0)))], [(q2, .inl (kA 0, 24, .inl (fun _ => 0)))], [(q3, .inl (kA 0, 48, .inl (fun _ => 0)))], [(q4, .inl (kA 0, 1152, .inl (fun _ => 0)))], [(q5, .inl (kA 0, 1152, .inl (fun _ => 0)))], [(q6, .inl (kA 0, 24, .inl (fun _ => 0)))], [(q7, .inl (kA 2, 48, .inl (fun _ => 0)))], [(q8, .inl (kA 0, 24, .inl (fun _ => 0)))], [(q9, .inl (kA 0, 128, .inl (fun _ => 0)))], [(q10, .inl (kA 0, 216, .inl (fun _ => 0)))], [(q11, .inl (kA 0, 48, .inl (fun _ => 0)))], [(q12, .inl (kA 0, 48, .inl (fun _ => 0)))]]) := hD
  refine lv_aload_n (pc := 144) hx hb d_Dr_init_144 rfl (lv_at hl 0 rfl) ?_
  refine lv_aload_n (pc := 145) hx hb d_Dr_init_145 rfl (lv_at hl 1 rfl) ?_
  refine k_put (pc := 146) X hK hP hD hS 0 rfl rfl i_Dr t_Dr t_Dr_ok n_Dr 0 (by decide) wm_465 rfl (Or.inr ⟨rfl, rfl⟩) rfl rfl (Nat.le_of_ble_eq_true rfl) d_Dr_init_146 (fun H locs hP hD hS => ?_)
  have hP : va_P D classes (cat [[(h, .inr (0, [.ref p1, .int ((-1)), .ref q1, .ref q2, .ref q3, .ref q4, .ref q5, .int 0, .int 0, .int 0, .ref q6, .ref q7, .ref q8, .ref q9, .ref q10, .ref q11, .ref q12, .int 0, .int 0, .int 0, .int 0]))], [(q1, .inl (kA 0, 24, .inl (fun _ => 0)))], [(q2, .inl (kA 0, 24, .inl (fun _ => 0)))], [(q3, .inl (kA 0, 48, .inl (fun _ => 0)))], [(q4, .inl (kA 0, 1152, .inl (fun _ => 0)))], [(q5, .inl (kA 0, 1152, .inl (fun _ => 0)))], [(q6, .inl (kA 0, 24, .inl (fun _ => 0)))], [(q7, .inl (kA 2, 48, .inl (fun _ => 0)))], [(q8, .inl (kA 0, 24, .inl (fun _ => 0)))], [(q9, .inl (kA 0, 128, .inl (fun _ => 0)))], [(q10, .inl (kA 0, 216, .inl (fun _ => 0)))], [(q11, .inl (kA 0, 48, .inl (fun _ => 0)))], [(q12, .inl (kA 0, 48, .inl (fun _ => 0)))]]) H := hP
  have hD : va_D A (cat [[(h, .inr (0, [.ref p1, .int ((-1)), .ref q1, .ref q2, .ref q3, .ref q4, .ref q5, .int 0, .int 0, .int 0, .ref q6, .ref q7, .ref q8, .ref q9, .ref q10, .ref q11, .ref q12, .int 0, .int 0, .int 0, .int 0]))], [(q1, .inl (kA 0, 24, .inl (fun _ => 0)))], [(q2, .inl (kA 0, 24, .inl (fun _ => 0)))], [(q3, .inl (kA 0, 48, .inl (fun _ => 0)))], [(q4, .inl (kA 0, 1152, .inl (fun _ => 0)))], [(q5, .inl (kA 0, 1152, .inl (fun _ => 0)))], [(q6, .inl (kA 0, 24, .inl (fun _ => 0)))], [(q7, .inl (kA 2, 48, .inl (fun _ => 0)))], [(q8, .inl (kA 0, 24, .inl (fun _ => 0)))], [(q9, .inl (kA 0, 128, .inl (fun _ => 0)))], [(q10, .inl (kA 0, 216, .inl (fun _ => 0)))], [(q11, .inl (kA 0, 48, .inl (fun _ => 0)))], [(q12, .inl (kA 0, 48, .inl (fun _ => 0)))]]) := hD
  obtain ⟨hP, hD⟩ := k_ord (gc := [[(h, .inr (0, [.ref p1, .int ((-1)), .ref q1, .ref q2, .ref q3, .ref q4, .ref q5, .int 0, .int 0, .int 0, .ref q6, .ref q7, .ref q8, .ref q9, .ref q10, .ref q11, .ref q12, .int 0, .int 0, .int 0, .int 0]))], [(q1, .inl (kA 0, 24, .inl (fun _ => 0)))], [(q2, .inl (kA 0, 24, .inl (fun _ => 0)))], [(q3, .inl (kA 0, 48, .inl (fun _ => 0)))], [(q4, .inl (kA 0, 1152, .inl (fun _ => 0)))], [(q5, .inl (kA 0, 1152, .inl (fun _ => 0)))], [(q6, .inl (kA 0, 24, .inl (fun _ => 0)))], [(q7, .inl (kA 2, 48, .inl (fun _ => 0)))], [(q8, .inl (kA 0, 24, .inl (fun _ => 0)))], [(q9, .inl (kA 0, 128, .inl (fun _ => 0)))], [(q10, .inl (kA 0, 216, .inl (fun _ => 0)))], [(q11, .inl (kA 0, 48, .inl (fun _ => 0)))], [(q12, .inl (kA 0, 48, .inl (fun _ => 0)))]]) hP hD [0, 1, 2, 3, 4, 5, 6, 7, 8, 9, 10, 11, 12] 13 rfl (by decide) rfl
  refine W.widen (k := 12) (n := 2936) (Nat.le_of_ble_eq_true rfl) (Nat.le_of_ble_eq_true rfl) ?_
  exact W.vret hx hb hr (fun t ht hW => ⟨⟨(fun k => match k with | 2 => q1 | 3 => q2 | 4 => q3 | 5 => q4 | 6 => q5 | 10 => q6 | 11 => q7 | 12 => q8 | 13 => q9 | 14 => q10 | 15 => q11 | 16 => q12 | 0 => p1 | _ => 0), rfl, rfl, by rw [ht]; exact hP, va_K.moved hW.alike hK, hD⟩, hS.F ht⟩) hS.2.2 d_Dr_init_149
end
section
theorem wm_1197 : (Cond.code ({ cls := "DrawingHouse$Stretch", name := "<init>", desc := "()V" } : MethodName) prog_12_method_1_code (1 : Nat) (Option.none : Option ClassFile.FieldType) : Cond) ∈ lw_g := lw_gi (lw_c5 (List.mem_of_getElem? (i := 237) rfl)) rfl
theorem wm_1198 : (Cond.methodLink "DrawingHouse$Stretch" (3 : Nat) ({ cls := "java/lang/Object", name := "<init>", desc := "()V" } : MethodName) : Cond) ∈ lw_g := lw_gi (lw_c5 (List.mem_of_getElem? (i := 238) rfl)) rfl
theorem wm_1199 : (Cond.fieldLink "DrawingHouse$Stretch" (9 : Nat) "DrawingHouse$Stretch" "nodes" "I" : Cond) ∈ lw_g := lw_gi (lw_c5 (List.mem_of_getElem? (i := 239) rfl)) rfl
theorem wm_1200 : (Cond.fieldLink "DrawingHouse$Stretch" (15 : Nat) "DrawingHouse$Stretch" "arcs" "I" : Cond) ∈ lw_g := lw_gi (lw_c6 (List.mem_of_getElem? (i := 0) rfl)) rfl
theorem wm_1201 : (Cond.fieldLink "DrawingHouse$Stretch" (18 : Nat) "DrawingHouse$Stretch" "from" "[I" : Cond) ∈ lw_g := lw_gi (lw_c6 (List.mem_of_getElem? (i := 1) rfl)) rfl
theorem wm_1202 : (Cond.fieldLink "DrawingHouse$Stretch" (22 : Nat) "DrawingHouse$Stretch" "to" "[I" : Cond) ∈ lw_g := lw_gi (lw_c6 (List.mem_of_getElem? (i := 2) rfl)) rfl
theorem wm_1203 : (Cond.fieldLink "DrawingHouse$Stretch" (25 : Nat) "DrawingHouse$Stretch" "room" "[I" : Cond) ∈ lw_g := lw_gi (lw_c6 (List.mem_of_getElem? (i := 3) rfl)) rfl
theorem wm_1204 : (Cond.fieldLink "DrawingHouse$Stretch" (28 : Nat) "DrawingHouse$Stretch" "gain" "[I" : Cond) ∈ lw_g := lw_gi (lw_c6 (List.mem_of_getElem? (i := 4) rfl)) rfl
theorem wm_1205 : (Cond.fieldLink "DrawingHouse$Stretch" (31 : Nat) "DrawingHouse$Stretch" "place" "[I" : Cond) ∈ lw_g := lw_gi (lw_c6 (List.mem_of_getElem? (i := 5) rfl)) rfl
theorem wm_1207 : (Cond.fieldLink "DrawingHouse$Stretch" (34 : Nat) "DrawingHouse$Stretch" "by" "[I" : Cond) ∈ lw_g := lw_gi (lw_c6 (List.mem_of_getElem? (i := 7) rfl)) rfl
theorem wm_1208 : (Cond.fieldLink "DrawingHouse$Stretch" (37 : Nat) "DrawingHouse$Stretch" "mark" "[I" : Cond) ∈ lw_g := lw_gi (lw_c6 (List.mem_of_getElem? (i := 8) rfl)) rfl
abbrev b_St_init : ByteArray := prog_12_method_1_code
def y_St_init : MethodName := ⟨"DrawingHouse$Stretch", "<init>", "()V"⟩
abbrev z_St_init : List Cond := Cond.code y_St_init b_St_init 1 none :: lw_g
theorem d_St_init_0 : decode b_St_init 0 = .ok (.aload_n 0, 1) := by decide +kernel
theorem d_St_init_1 : decode b_St_init 1 = .ok (.invokespecial 3, 3) := by decide +kernel
theorem d_St_init_4 : decode b_St_init 4 = .ok (.aload_n 0, 1) := by decide +kernel
theorem d_St_init_5 : decode b_St_init 5 = .ok (.iconst 0, 1) := by decide +kernel
theorem d_St_init_6 : decode b_St_init 6 = .ok (.putfield 9, 3) := by decide +kernel
theorem d_St_init_9 : decode b_St_init 9 = .ok (.aload_n 0, 1) := by decide +kernel
theorem d_St_init_10 : decode b_St_init 10 = .ok (.iconst 0, 1) := by decide +kernel
theorem d_St_init_11 : decode b_St_init 11 = .ok (.putfield 15, 3) := by decide +kernel
theorem d_St_init_14 : decode b_St_init 14 = .ok (.aload_n 0, 1) := by decide +kernel
theorem d_St_init_15 : decode b_St_init 15 = .ok (.sipush 384, 3) := by decide +kernel
theorem d_St_init_18 : decode b_St_init 18 = .ok (.newarray .int, 2) := by decide +kernel
theorem d_St_init_20 : decode b_St_init 20 = .ok (.putfield 18, 3) := by decide +kernel
theorem d_St_init_23 : decode b_St_init 23 = .ok (.aload_n 0, 1) := by decide +kernel
theorem d_St_init_24 : decode b_St_init 24 = .ok (.sipush 384, 3) := by decide +kernel
theorem d_St_init_27 : decode b_St_init 27 = .ok (.newarray .int, 2) := by decide +kernel
theorem d_St_init_29 : decode b_St_init 29 = .ok (.putfield 22, 3) := by decide +kernel
theorem d_St_init_32 : decode b_St_init 32 = .ok (.aload_n 0, 1) := by decide +kernel
theorem d_St_init_33 : decode b_St_init 33 = .ok (.sipush 384, 3) := by decide +kernel
theorem d_St_init_36 : decode b_St_init 36 = .ok (.newarray .int, 2) := by decide +kernel
theorem d_St_init_38 : decode b_St_init 38 = .ok (.putfield 25, 3) := by decide +kernel
theorem d_St_init_41 : decode b_St_init 41 = .ok (.aload_n 0, 1) := by decide +kernel
theorem d_St_init_42 : decode b_St_init 42 = .ok (.sipush 384, 3) := by decide +kernel
theorem d_St_init_45 : decode b_St_init 45 = .ok (.newarray .int, 2) := by decide +kernel
theorem d_St_init_47 : decode b_St_init 47 = .ok (.putfield 28, 3) := by decide +kernel
theorem d_St_init_50 : decode b_St_init 50 = .ok (.aload_n 0, 1) := by decide +kernel
theorem d_St_init_51 : decode b_St_init 51 = .ok (.bipush 72, 2) := by decide +kernel
theorem d_St_init_53 : decode b_St_init 53 = .ok (.newarray .int, 2) := by decide +kernel
theorem d_St_init_55 : decode b_St_init 55 = .ok (.putfield 31, 3) := by decide +kernel
theorem d_St_init_58 : decode b_St_init 58 = .ok (.aload_n 0, 1) := by decide +kernel
theorem d_St_init_59 : decode b_St_init 59 = .ok (.bipush 72, 2) := by decide +kernel
theorem d_St_init_61 : decode b_St_init 61 = .ok (.newarray .int, 2) := by decide +kernel
theorem d_St_init_63 : decode b_St_init 63 = .ok (.putfield 34, 3) := by decide +kernel
theorem d_St_init_66 : decode b_St_init 66 = .ok (.aload_n 0, 1) := by decide +kernel
theorem d_St_init_67 : decode b_St_init 67 = .ok (.bipush 72, 2) := by decide +kernel
theorem d_St_init_69 : decode b_St_init 69 = .ok (.newarray .int, 2) := by decide +kernel
theorem d_St_init_71 : decode b_St_init 71 = .ok (.putfield 37, 3) := by decide +kernel
theorem d_St_init_74 : decode b_St_init 74 = .ok (.return_, 1) := by decide +kernel
abbrev f0St : List Value := [.int 0, .int 0, .null, .null, .null, .null, .null, .null, .null]
set_option maxRecDepth 20000 in
theorem f0St_ok : ∀ j, j < 9 → defaultValue (t_St j) = vp_V f0St j := by decide +kernel
def wSt (kA : Nat → ClassId) (h : Nat) (q : Nat → Nat) (x : Nat → Int32) (a : Nat → Nat → Int32) : va_W := [(h, .inr (10, [.int (x 0), .int (x 1), .ref (q 2), .ref (q 3), .ref (q 4), .ref (q 5), .ref (q 6), .ref (q 7), .ref (q 8)])), (q 2, .inl (kA 0, 384, .inl (a 2))), (q 3, .inl (kA 0, 384, .inl (a 3))), (q 4, .inl (kA 0, 384, .inl (a 4))), (q 5, .inl (kA 0, 384, .inl (a 5))), (q 6, .inl (kA 0, 72, .inl (a 6))), (q 7, .inl (kA 0, 72, .inl (a 7))), (q 8, .inl (kA 0, 72, .inl (a 8)))]
def x0St : Nat → Int32 := fun _ => 0
def a0St : Nat → Nat → Int32 := fun _ => fun _ => 0
set_option maxRecDepth 100000 in
set_option maxHeartbeats 4000000 in
/-- DrawingHouse$Stretch()V -/
theorem c_St_init (l : Launch) (D : va_G) (kA : Nat → ClassId) (h : Nat) : Cv l y_St_init z_St_init { frames := 1, cells := 7, slots := 1752, locals := 12 } D classes (TY kA) [.ref h] [[(h, .inr (10, f0St))]] (fun u : (Nat → Nat) => True) (fun u => [wSt kA h u x0St a0St]) 7 1752 := by
  intro sz
  refine k_met (cc := b_St_init) (maxL := 1) (ret := none) (by decide) rfl (Nat.le_of_ble_eq_true rfl) (fun p e s m below meth c ls X hl hB => ?_)
  obtain ⟨hsz, hP, hK, hD0, hN⟩ := hB
  subst hsz
  have hD := hD0.self (sz := s.heap.size)
  generalize hAe : va_A (cat [[(h, .inr (10, [.int 0, .int 0, .null, .null, .null, .null, .null, .null, .null]))]]) s.heap.size = A at hD ⊢
  have hA : ∀ q : Nat, s.heap.size ≤ q → A q := fun q h => by rw [← hAe]; exact Or.inr h
  have hS : va_S A s.heap s.heap [] := va_S.rf
  obtain ⟨hx, hb, hml, hown, hts, hr, hlk, hnm⟩ := id X
  have hl : lv_has ls 1 [(0, .ref h)] := hl
  have hP : va_P D classes (cat [[(h, .inr (10, [.int 0, .int 0, .null, .null, .null, .null, .null, .null, .null]))]]) s.heap := hP
  have hK : va_K D classes (TY kA) s := hK
  refine lv_aload_n (pc := 0) hx hb d_St_init_0 rfl (lv_at hl 0 rfl) ?_
  refine W.objInit hx hb hown (hts _ wm_1198) (hts _ wm_31) (hts _ wm_32) rfl (by rw [hml]; exact hl.1) rfl d_St_init_1 (Nat.le_of_ble_eq_true rfl) (Nat.le_of_ble_eq_true rfl) ?_
  refine W.eq (g2 := F0 m 4 ls []) rfl ?_
  refine lv_aload_n (pc := 4) hx hb d_St_init_4 rfl (lv_at hl 0 rfl) ?_
  refine lv_iconst (pc := 5) (v := 0) hx hb d_St_init_5 (by decide) ?_
  refine k_put (pc := 6) X hK hP hD hS 0 rfl rfl i_St t_St t_St_ok n_St 0 (by decide) wm_1199 rfl (Or.inl rfl) rfl rfl (Nat.le_of_ble_eq_true rfl) d_St_init_6 (fun H locs hP hD hS => ?_)
  have hP : va_P D classes (cat [[(h, .inr (10, [.int 0, .int 0, .null, .null, .null, .null, .null, .null, .null]))]]) H := hP
  have hD : va_D A (cat [[(h, .inr (10, [.int 0, .int 0, .null, .null, .null, .null, .null, .null, .null]))]]) := hD
  refine lv_aload_n (pc := 9) hx hb d_St_init_9 rfl (lv_at hl 0 rfl) ?_
  refine lv_iconst (pc := 10) (v := 0) hx hb d_St_init_10 (by decide) ?_
  refine k_put (pc := 11) X hK hP hD hS 0 rfl rfl i_St t_St t_St_ok n_St 1 (by decide) wm_1200 rfl (Or.inl rfl) rfl rfl (Nat.le_of_ble_eq_true rfl) d_St_init_11 (fun H locs hP hD hS => ?_)
  have hP : va_P D classes (cat [[(h, .inr (10, [.int 0, .int 0, .null, .null, .null, .null, .null, .null, .null]))]]) H := hP
  have hD : va_D A (cat [[(h, .inr (10, [.int 0, .int 0, .null, .null, .null, .null, .null, .null, .null]))]]) := hD
  refine lv_aload_n (pc := 14) hx hb d_St_init_14 rfl (lv_at hl 0 rfl) ?_
  refine lv_sipush (pc := 15) (v := 384) hx hb d_St_init_15 (by decide) ?_
  refine k_newa (pc := 18) (atype := .int) X (ty := .int) (a0 := (384, .inl (fun _ => 0))) rfl rfl wm_193 hK hP hD hS hA 0 rfl (fun _ => rfl) (by decide) rfl (by decide) (Nat.le_of_ble_eq_true rfl) (Nat.le_of_ble_eq_true rfl) d_St_init_18 (fun q1 H hP hD hS => ?_)
  have hP : va_P D classes (cat [[(h, .inr (10, [.int 0, .int 0, .null, .null, .null, .null, .null, .null, .null]))], [(q1, .inl (kA 0, 384, .inl (fun _ => 0)))]]) H := hP
  have hD : va_D A (cat [[(h, .inr (10, [.int 0, .int 0, .null, .null, .null, .null, .null, .null, .null]))], [(q1, .inl (kA 0, 384, .inl (fun _ => 0)))]]) := hD
  refine W.widen (k := 1) (n := 384) (by omega) (by omega) ?_
  refine k_put (pc := 20) X hK hP hD hS 0 rfl rfl i_St t_St t_St_ok n_St 2 (by decide) wm_1201 rfl (Or.inr ⟨rfl, rfl⟩) rfl rfl (Nat.le_of_ble_eq_true rfl) d_St_init_20 (fun H locs hP hD hS => ?_)
  have hP : va_P D classes (cat [[(h, .inr (10, [.int 0, .int 0, .ref q1, .null, .null, .null, .null, .null, .null]))], [(q1, .inl (kA 0, 384, .inl (fun _ => 0)))]]) H := hP
  have hD : va_D A (cat [[(h, .inr (10, [.int 0, .int 0, .ref q1, .null, .null, .null, .null, .null, .null]))], [(q1, .inl (kA 0, 384, .inl (fun _ => 0)))]]) := hD
  refine lv_aload_n (pc := 23) hx hb d_St_init_23 rfl (lv_at hl 0 rfl) ?_
  refine lv_sipush (pc := 24) (v := 384) hx hb d_St_init_24 (by decide) ?_
  refine k_newa (pc := 27) (atype := .int) X (ty := .int) (a0 := (384, .inl (fun _ => 0))) rfl rfl wm_193 hK hP hD hS hA 0 rfl (fun _ => rfl) (by decide) rfl (by decide) (Nat.le_of_ble_eq_true rfl) (Nat.le_of_ble_eq_true rfl) d_St_init_27 (fun q2 H hP hD hS => ?_)
  have hP : va_P D classes (cat [[(h, .inr (10, [.int 0, .int 0, .ref q1, .null, .null, .null, .null, .null, .null]))], [(q1, .inl (kA 0, 384, .inl (fun _ => 0)))], [(q2, .inl (kA 0, 384, .inl (fun _ => 0)))]]) H := hP
  have hD : va_D A (cat [[(h, .inr (10, [.int 0, .int 0, .ref q1, .null, .null, .null, .null, .null, .null]))], [(q1, .inl (kA 0, 384, .inl (fun _ => 0)))], [(q2, .inl (kA 0, 384, .inl (fun _ => 0)))]]) := hD
  refine W.widen (k := 2) (n := 768) (by omega) (by omega) ?_
  refine k_put (pc := 29) X hK hP hD hS 0 rfl rfl i_St t_St t_St_ok n_St 3 (by decide) wm_1202 rfl (Or.inr ⟨rfl, rfl⟩) rfl rfl (Nat.le_of_ble_eq_true rfl) d_St_init_29 (fun H locs hP hD hS => ?_)
  have hP : va_P D classes (cat [[(h, .inr (10, [.int 0, .int 0, .ref q1, .ref q2, .null, .null, .null, .null, .null]))], [(q1, .inl (kA 0, 384, .inl (fun _ => 0)))], [(q2, .inl (kA 0, 384, .inl (fun _ => 0)))]]) H := hP
  have hD : va_D A (cat [[(h, .inr (10, [.int 0, .int 0, .ref q1, .ref q2, .null, .null, .null, .null, .null]))], [(q1, .inl (kA 0, 384, .inl (fun _ => 0)))], [(q2, .inl (kA 0, 384, .inl (fun _ => 0)))]]) := hD
  refine lv_aload_n (pc := 32) hx hb d_St_init_32 rfl (lv_at hl 0 rfl) ?_
  refine lv_sipush (pc := 33) (v := 384) hx hb d_St_init_33 (by decide) ?_
  refine k_newa (pc := 36) (atype := .int) X (ty := .int) (a0 := (384, .inl (fun _ => 0))) rfl rfl wm_193 hK hP hD hS hA 0 rfl (fun _ => rfl) (by decide) rfl (by decide) (Nat.le_of_ble_eq_true rfl) (Nat.le_of_ble_eq_true rfl) d_St_init_36 (fun q3 H hP hD hS => ?_)
  have hP : va_P D classes (cat [[(h, .inr (10, [.int 0, .int 0, .ref q1, .ref q2, .null, .null, .null, .null, .null]))], [(q1, .inl (kA 0, 384, .inl (fun _ => 0)))], [(q2, .inl (kA 0, 384, .inl (fun _ => 0)))], [(q3, .inl (kA 0, 384, .inl (fun _ => 0)))]]) H := hP
  have hD : va_D A (cat [[(h, .inr (10, [.int 0, .int 0, .ref q1, .ref q2, .null, .null, .null, .null, .null]))], [(q1, .inl (kA 0, 384, .inl (fun _ => 0)))], [(q2, .inl (kA 0, 384, .inl (fun _ => 0)))], [(q3, .inl (kA 0, 384, .inl (fun _ => 0)))]]) := hD
  refine W.widen (k := 3) (n := 1152) (by omega) (by omega) ?_
  refine k_put (pc := 38) X hK hP hD hS 0 rfl rfl i_St t_St t_St_ok n_St 4 (by decide) wm_1203 rfl (Or.inr ⟨rfl, rfl⟩) rfl rfl (Nat.le_of_ble_eq_true rfl) d_St_init_38 (fun H locs hP hD hS => ?_)
  have hP : va_P D classes (cat [[(h, .inr (10, [.int 0, .int 0, .ref q1, .ref q2, .ref q3, .null, .null, .null, .null]))], [(q1, .inl (kA 0, 384, .inl (fun _ => 0)))], [(q2, .inl (kA 0, 384, .inl (fun _ => 0)))], [(q3, .inl (kA 0, 384, .inl (fun _ => 0)))]]) H := hP
  have hD : va_D A (cat [[(h, .inr (10, [.int 0, .int 0, .ref q1, .ref q2, .ref q3, .null, .null, .null, .null]))], [(q1, .inl (kA 0, 384, .inl (fun _ => 0)))], [(q2, .inl (kA 0, 384, .inl (fun _ => 0)))], [(q3, .inl (kA 0, 384, .inl (fun _ => 0)))]]) := hD
  refine lv_aload_n (pc := 41) hx hb d_St_init_41 rfl (lv_at hl 0 rfl) ?_
  refine lv_sipush (pc := 42) (v := 384) hx hb d_St_init_42 (by decide) ?_
  refine k_newa (pc := 45) (atype := .int) X (ty := .int) (a0 := (384, .inl (fun _ => 0))) rfl rfl wm_193 hK hP hD hS hA 0 rfl (fun _ => rfl) (by decide) rfl (by decide) (Nat.le_of_ble_eq_true rfl) (Nat.le_of_ble_eq_true rfl) d_St_init_45 (fun q4 H hP hD hS => ?_)
  have hP : va_P D classes (cat [[(h, .inr (10, [.int 0, .int 0, .ref q1, .ref q2, .ref q3, .null, .null, .null, .null]))], [(q1, .inl (kA 0, 384, .inl (fun _ => 0)))], [(q2, .inl (kA 0, 384, .inl (fun _ => 0)))], [(q3, .inl (kA 0, 384, .inl (fun _ => 0)))], [(q4, .inl (kA 0, 384, .inl (fun _ => 0)))]]) H := hP
  have hD : va_D A (cat [[(h, .inr (10, [.int 0, .int 0, .ref q1, .ref q2, .ref q3, .null, .null, .null, .null]))], [(q1, .inl (kA 0, 384, .inl (fun _ => 0)))], [(q2, .inl (kA 0, 384, .inl (fun _ => 0)))], [(q3, .inl (kA 0, 384, .inl (fun _ => 0)))], [(q4, .inl (kA 0, 384, .inl (fun _ => 0)))]]) := hD
  refine W.widen (k := 4) (n := 1536) (by omega) (by omega) ?_
  refine k_put (pc := 47) X hK hP hD hS 0 rfl rfl i_St t_St t_St_ok n_St 5 (by decide) wm_1204 rfl (Or.inr ⟨rfl, rfl⟩) rfl rfl (Nat.le_of_ble_eq_true rfl) d_St_init_47 (fun H locs hP hD hS => ?_)
  have hP : va_P D classes (cat [[(h, .inr (10, [.int 0, .int 0, .ref q1, .ref q2, .ref q3, .ref q4, .null, .null, .null]))], [(q1, .inl (kA 0, 384, .inl (fun _ => 0)))], [(q2, .inl (kA 0, 384, .inl (fun _ => 0)))], [(q3, .inl (kA 0, 384, .inl (fun _ => 0)))], [(q4, .inl (kA 0, 384, .inl (fun _ => 0)))]]) H := hP
  have hD : va_D A (cat [[(h, .inr (10, [.int 0, .int 0, .ref q1, .ref q2, .ref q3, .ref q4, .null, .null, .null]))], [(q1, .inl (kA 0, 384, .inl (fun _ => 0)))], [(q2, .inl (kA 0, 384, .inl (fun _ => 0)))], [(q3, .inl (kA 0, 384, .inl (fun _ => 0)))], [(q4, .inl (kA 0, 384, .inl (fun _ => 0)))]]) := hD
  refine lv_aload_n (pc := 50) hx hb d_St_init_50 rfl (lv_at hl 0 rfl) ?_
  refine lv_bipush (pc := 51) (v := 72) hx hb d_St_init_51 (by decide) ?_
  refine k_newa (pc := 53) (atype := .int) X (ty := .int) (a0 := (72, .inl (fun _ => 0))) rfl rfl wm_193 hK hP hD hS hA 0 rfl (fun _ => rfl) (by decide) rfl (by decide) (Nat.le_of_ble_eq_true rfl) (Nat.le_of_ble_eq_true rfl) d_St_init_53 (fun q5 H hP hD hS => ?_)
  have hP : va_P D classes (cat [[(h, .inr (10, [.int 0, .int 0, .ref q1, .ref q2, .ref q3, .ref q4, .null, .null, .null]))], [(q1, .inl (kA 0, 384, .inl (fun _ => 0)))], [(q2, .inl (kA 0, 384, .inl (fun _ => 0)))], [(q3, .inl (kA 0, 384, .inl (fun _ => 0)))], [(q4, .inl (kA 0, 384, .inl (fun _ => 0)))], [(q5, .inl (kA 0, 72, .inl (fun _ => 0)))]]) H := hP
  have hD : va_D A (cat [[(h, .inr (10, [.int 0, .int 0, .ref q1, .ref q2, .ref q3, .ref q4, .null, .null, .null]))], [(q1, .inl (kA 0, 384, .inl (fun _ => 0)))], [(q2, .inl (kA 0, 384, .inl (fun _ => 0)))], [(q3, .inl (kA 0, 384, .inl (fun _ => 0)))], [(q4, .inl (kA 0, 384, .inl (fun _ => 0)))], [(q5, .inl (kA 0, 72, .inl (fun _ => 0)))]]) := hD
  refine W.widen (k := 5) (n := 1608) (by omega) (by omega) ?_
  refine k_put (pc := 55) X hK hP hD hS 0 rfl rfl i_St t_St t_St_ok n_St 6 (by decide) wm_1205 rfl (Or.inr ⟨rfl, rfl⟩) rfl rfl (Nat.le_of_ble_eq_true rfl) d_St_init_55 (fun H locs hP hD hS => ?_)
  have hP : va_P D classes (cat [[(h, .inr (10, [.int 0, .int 0, .ref q1, .ref q2, .ref q3, .ref q4, .ref q5, .null, .null]))], [(q1, .inl (kA 0, 384, .inl (fun _ => 0)))], [(q2, .inl (kA 0, 384, .inl (fun _ => 0)))], [(q3, .inl (kA 0, 384, .inl (fun _ => 0)))], [(q4, .inl (kA 0, 384, .inl (fun _ => 0)))], [(q5, .inl (kA 0, 72, .inl (fun _ => 0)))]]) H := hP
  have hD : va_D A (cat [[(h, .inr (10, [.int 0, .int 0, .ref q1, .ref q2, .ref q3, .ref q4, .ref q5, .null, .null]))], [(q1, .inl (kA 0, 384, .inl (fun _ => 0)))], [(q2, .inl (kA 0, 384, .inl (fun _ => 0)))], [(q3, .inl (kA 0, 384, .inl (fun _ => 0)))], [(q4, .inl (kA 0, 384, .inl (fun _ => 0)))], [(q5, .inl (kA 0, 72, .inl (fun _ => 0)))]]) := hD
  refine lv_aload_n (pc := 58) hx hb d_St_init_58 rfl (lv_at hl 0 rfl) ?_
  refine lv_bipush (pc := 59) (v := 72) hx hb d_St_init_59 (by decide) ?_
  refine k_newa (pc := 61) (atype := .int) X (ty := .int) (a0 := (72, .inl (fun _ => 0))) rfl rfl wm_193 hK hP hD hS hA 0 rfl (fun _ => rfl) (by decide) rfl (by decide) (Nat.le_of_ble_eq_true rfl) (Nat.le_of_ble_eq_true rfl) d_St_init_61 (fun q6 H hP hD hS => ?_)
  have hP : va_P D classes (cat [[(h, .inr (10, [.int 0, .int 0, .ref q1, .ref q2, .ref q3, .ref q4, .ref q5, .null, .null]))], [(q1, .inl (kA 0, 384, .inl (fun _ => 0)))], [(q2, .inl (kA 0, 384, .inl (fun _ => 0)))], [(q3, .inl (kA 0, 384, .inl (fun _ => 0)))], [(q4, .inl (kA 0, 384, .inl (fun _ => 0)))], [(q5, .inl (kA 0, 72, .inl (fun _ => 0)))], [(q6, .inl (kA 0, 72, .inl (fun _ => 0)))]]) H := hP
  have hD : va_D A (cat [[(h, .inr (10, [.int 0, .int 0, .ref q1, .ref q2, .ref q3, .ref q4, .ref q5, .null, .null]))], [(q1, .inl (kA 0, 384, .inl (fun _ => 0)))], [(q2, .inl (kA 0, 384, .inl (fun _ => 0)))], [(q3, .inl (kA 0, 384, .inl (fun _ => 0)))], [(q4, .inl (kA 0, 384, .inl (fun _ => 0)))], [(q5, .inl (kA 0, 72, .inl (fun _ => 0)))], [(q6, .inl (kA 0, 72, .inl (fun _ => 0)))]]) := hD
  refine W.widen (k := 6) (n := 1680) (by omega) (by omega) ?_
  refine k_put (pc := 63) X hK hP hD hS 0 rfl rfl i_St t_St t_St_ok n_St 7 (by decide) wm_1207 rfl (Or.inr ⟨rfl, rfl⟩) rfl rfl (Nat.le_of_ble_eq_true rfl) d_St_init_63 (fun H locs hP hD hS => ?_)
  have hP : va_P D classes (cat [[(h, .inr (10, [.int 0, .int 0, .ref q1, .ref q2, .ref q3, .ref q4, .ref q5, .ref q6, .null]))], [(q1, .inl (kA 0, 384, .inl (fun _ => 0)))], [(q2, .inl (kA 0, 384, .inl (fun _ => 0)))], [(q3, .inl (kA 0, 384, .inl (fun _ => 0)))], [(q4, .inl (kA 0, 384, .inl (fun _ => 0)))], [(q5, .inl (kA 0, 72, .inl (fun _ => 0)))], [(q6, .inl (kA 0, 72, .inl (fun _ => 0)))]]) H := hP
  have hD : va_D A (cat [[(h, .inr (10, [.int 0, .int 0, .ref q1, .ref q2, .ref q3, .ref q4, .ref q5, .ref q6, .null]))], [(q1, .inl (kA 0, 384, .inl (fun _ => 0)))], [(q2, .inl (kA 0, 384, .inl (fun _ => 0)))], [(q3, .inl (kA 0, 384, .inl (fun _ => 0)))], [(q4, .inl (kA 0, 384, .inl (fun _ => 0)))], [(q5, .inl (kA 0, 72, .inl (fun _ => 0)))], [(q6, .inl (kA 0, 72, .inl (fun _ => 0)))]]) := hD
  refine lv_aload_n (pc := 66) hx hb d_St_init_66 rfl (lv_at hl 0 rfl) ?_
  refine lv_bipush (pc := 67) (v := 72) hx hb d_St_init_67 (by decide) ?_
  refine k_newa (pc := 69) (atype := .int) X (ty := .int) (a0 := (72, .inl (fun _ => 0))) rfl rfl wm_193 hK hP hD hS hA 0 rfl (fun _ => rfl) (by decide) rfl (by decide) (Nat.le_of_ble_eq_true rfl) (Nat.le_of_ble_eq_true rfl) d_St_init_69 (fun q7 H hP hD hS => ?_)
  have hP : va_P D classes (cat [[(h, .inr (10, [.int 0, .int 0, .ref q1, .ref q2, .ref q3, .ref q4, .ref q5, .ref q6, .null]))], [(q1, .inl (kA 0, 384, .inl (fun _ => 0)))], [(q2, .inl (kA 0, 384, .inl (fun _ => 0)))], [(q3, .inl (kA 0, 384, .inl (fun _ => 0)))], [(q4, .inl (kA 0, 384, .inl (fun _ => 0)))], [(q5, .inl (kA 0, 72, .inl (fun _ => 0)))], [(q6, .inl (kA 0, 72, .inl (fun _ => 0)))], [(q7, .inl (kA 0, 72, .inl (fun _ => 0)))]]) H := hP
  have hD : va_D A (cat [[(h, .inr (10, [.int 0, .int 0, .ref q1, .ref q2, .ref q3, .ref q4, .ref q5, .ref q6, .null]))], [(q1, .inl (kA 0, 384, .inl (fun _ => 0)))], [(q2, .inl (kA 0, 384, .inl (fun _ => 0)))], [(q3, .inl (kA 0, 384, .inl (fun _ => 0)))], [(q4, .inl (kA 0, 384, .inl (fun _ => 0)))], [(q5, .inl (kA 0, 72, .inl (fun _ => 0)))], [(q6, .inl (kA 0, 72, .inl (fun _ => 0)))], [(q7, .inl (kA 0, 72, .inl (fun _ => 0)))]]) := hD
  refine W.widen (k := 7) (n := 1752) (by omega) (by omega) ?_
  refine k_put (pc := 71) X hK hP hD hS 0 rfl rfl i_St t_St t_St_ok n_St 8 (by decide) wm_1208 rfl (Or.inr ⟨rfl, rfl⟩) rfl rfl (Nat.le_of_ble_eq_true rfl) d_St_init_71 (fun H locs hP hD hS => ?_)
  have hP : va_P D classes (cat [[(h, .inr (10, [.int 0, .int 0, .ref q1, .ref q2, .ref q3, .ref q4, .ref q5, .ref q6, .ref q7]))], [(q1, .inl (kA 0, 384, .inl (fun _ => 0)))], [(q2, .inl (kA 0, 384, .inl (fun _ => 0)))], [(q3, .inl (kA 0, 384, .inl (fun _ => 0)))], [(q4, .inl (kA 0, 384, .inl (fun _ => 0)))], [(q5, .inl (kA 0, 72, .inl (fun _ => 0)))], [(q6, .inl (kA 0, 72, .inl (fun _ => 0)))], [(q7, .inl (kA 0, 72, .inl (fun _ => 0)))]]) H := hP
  have hD : va_D A (cat [[(h, .inr (10, [.int 0, .int 0, .ref q1, .ref q2, .ref q3, .ref q4, .ref q5, .ref q6, .ref q7]))], [(q1, .inl (kA 0, 384, .inl (fun _ => 0)))], [(q2, .inl (kA 0, 384, .inl (fun _ => 0)))], [(q3, .inl (kA 0, 384, .inl (fun _ => 0)))], [(q4, .inl (kA 0, 384, .inl (fun _ => 0)))], [(q5, .inl (kA 0, 72, .inl (fun _ => 0)))], [(q6, .inl (kA 0, 72, .inl (fun _ => 0)))], [(q7, .inl (kA 0, 72, .inl (fun _ => 0)))]]) := hD
  obtain ⟨hP, hD⟩ := k_ord (gc := [[(h, .inr (10, [.int 0, .int 0, .ref q1, .ref q2, .ref q3, .ref q4, .ref q5, .ref q6, .ref q7]))], [(q1, .inl (kA 0, 384, .inl (fun _ => 0)))], [(q2, .inl (kA 0, 384, .inl (fun _ => 0)))], [(q3, .inl (kA 0, 384, .inl (fun _ => 0)))], [(q4, .inl (kA 0, 384, .inl (fun _ => 0)))], [(q5, .inl (kA 0, 72, .inl (fun _ => 0)))], [(q6, .inl (kA 0, 72, .inl (fun _ => 0)))], [(q7, .inl (kA 0, 72, .inl (fun _ => 0)))]]) hP hD [0, 1, 2, 3, 4, 5, 6, 7] 8 rfl (by decide) rfl
  refine W.widen (k := 7) (n := 1752) (Nat.le_of_ble_eq_true rfl) (Nat.le_of_ble_eq_true rfl) ?_
  exact W.vret hx hb hr (fun t ht hW => ⟨⟨(fun k => match k with | 2 => q1 | 3 => q2 | 4 => q3 | 5 => q4 | 6 => q5 | 7 => q6 | 8 => q7 | _ => 0), rfl, trivial, by rw [ht]; exact hP, va_K.moved hW.alike hK, hD⟩, hS.F ht⟩) hS.2.2 d_St_init_74
end
section
theorem wm_3 : (Cond.initialized "DrawingHouse$Graph" : Cond) ∈ lw_g := lw_gi (lw_c1 (List.mem_of_getElem? (i := 3) rfl)) rfl
theorem wm_45 : (Cond.code ({ cls := "DrawingHouse$Reader", name := "<init>", desc := "()V" } : MethodName) prog_10_method_1_code (1 : Nat) (Option.none : Option ClassFile.FieldType) : Cond) ∈ lw_g := lw_gi (lw_c1 (List.mem_of_getElem? (i := 45) rfl)) rfl
theorem wm_46 : (Cond.methodLink "DrawingHouse$Reader" (3 : Nat) ({ cls := "java/lang/Object", name := "<init>", desc := "()V" } : MethodName) : Cond) ∈ lw_g := lw_gi (lw_c1 (List.mem_of_getElem? (i := 46) rfl)) rfl
theorem wm_47 : (Cond.classLink "DrawingHouse$Reader" (25 : Nat) "DrawingHouse$Graph" : Cond) ∈ lw_g := lw_gi (lw_c1 (List.mem_of_getElem? (i := 47) rfl)) rfl
theorem wm_48 : (Cond.instantiable "DrawingHouse$Graph" (19 : Nat) : Cond) ∈ lw_g := lw_gi (lw_c1 (List.mem_of_getElem? (i := 48) rfl)) rfl
theorem wm_49 : (Cond.methodLink "DrawingHouse$Reader" (27 : Nat) ({ cls := "DrawingHouse$Graph", name := "<init>", desc := "()V" } : MethodName) : Cond) ∈ lw_g := lw_gi (lw_c1 (List.mem_of_getElem? (i := 49) rfl)) rfl
theorem wm_50 : (Cond.instanceMethod ({ cls := "DrawingHouse$Graph", name := "<init>", desc := "()V" } : MethodName) : Cond) ∈ lw_g := lw_gi (lw_c1 (List.mem_of_getElem? (i := 50) rfl)) rfl
theorem wm_194 : (Cond.fieldLink "DrawingHouse$Reader" (9 : Nat) "DrawingHouse$Reader" "tape" "[B" : Cond) ∈ lw_g := lw_gi (lw_c1 (List.mem_of_getElem? (i := 194) rfl)) rfl
theorem wm_196 : (Cond.fieldLink "DrawingHouse$Reader" (15 : Nat) "DrawingHouse$Reader" "length" "I" : Cond) ∈ lw_g := lw_gi (lw_c1 (List.mem_of_getElem? (i := 196) rfl)) rfl
theorem wm_198 : (Cond.fieldLink "DrawingHouse$Reader" (19 : Nat) "DrawingHouse$Reader" "fault" "I" : Cond) ∈ lw_g := lw_gi (lw_c1 (List.mem_of_getElem? (i := 198) rfl)) rfl
theorem wm_200 : (Cond.fieldLink "DrawingHouse$Reader" (22 : Nat) "DrawingHouse$Reader" "faultPlace" "I" : Cond) ∈ lw_g := lw_gi (lw_c1 (List.mem_of_getElem? (i := 200) rfl)) rfl
theorem wm_202 : (Cond.fieldLink "DrawingHouse$Reader" (28 : Nat) "DrawingHouse$Reader" "graph" "LDrawingHouse$Graph;" : Cond) ∈ lw_g := lw_gi (lw_c1 (List.mem_of_getElem? (i := 202) rfl)) rfl
theorem wm_204 : (Cond.fieldLink "DrawingHouse$Reader" (32 : Nat) "DrawingHouse$Reader" "end" "I" : Cond) ∈ lw_g := lw_gi (lw_c1 (List.mem_of_getElem? (i := 204) rfl)) rfl
theorem wm_205 : (Cond.fieldLink "DrawingHouse$Reader" (35 : Nat) "DrawingHouse$Reader" "next" "I" : Cond) ∈ lw_g := lw_gi (lw_c1 (List.mem_of_getElem? (i := 205) rfl)) rfl
theorem wm_206 : (Cond.fieldLink "DrawingHouse$Reader" (38 : Nat) "DrawingHouse$Reader" "kind" "I" : Cond) ∈ lw_g := lw_gi (lw_c1 (List.mem_of_getElem? (i := 206) rfl)) rfl
theorem wm_207 : (Cond.fieldLink "DrawingHouse$Reader" (41 : Nat) "DrawingHouse$Reader" "begin" "I" : Cond) ∈ lw_g := lw_gi (lw_c1 (List.mem_of_getElem? (i := 207) rfl)) rfl
theorem wm_208 : (Cond.fieldLink "DrawingHouse$Reader" (44 : Nat) "DrawingHouse$Reader" "number" "I" : Cond) ∈ lw_g := lw_gi (lw_c1 (List.mem_of_getElem? (i := 208) rfl)) rfl
theorem wm_209 : (Cond.fieldLink "DrawingHouse$Reader" (47 : Nat) "DrawingHouse$Reader" "open" "[I" : Cond) ∈ lw_g := lw_gi (lw_c1 (List.mem_of_getElem? (i := 209) rfl)) rfl
theorem wm_210 : (Cond.fieldLink "DrawingHouse$Reader" (51 : Nat) "DrawingHouse$Reader" "depth" "I" : Cond) ∈ lw_g := lw_gi (lw_c1 (List.mem_of_getElem? (i := 210) rfl)) rfl
abbrev b_Re_init : ByteArray := prog_10_method_1_code
def y_Re_init : MethodName := ⟨"DrawingHouse$Reader", "<init>", "()V"⟩
abbrev z_Re_init : List Cond := Cond.code y_Re_init b_Re_init 1 none :: lw_g
theorem d_Re_init_0 : decode b_Re_init 0 = .ok (.aload_n 0, 1) := by decide +kernel
theorem d_Re_init_1 : decode b_Re_init 1 = .ok (.invokespecial 3, 3) := by decide +kernel
theorem d_Re_init_4 : decode b_Re_init 4 = .ok (.aload_n 0, 1) := by decide +kernel
theorem d_Re_init_5 : decode b_Re_init 5 = .ok (.sipush 2000, 3) := by decide +kernel
theorem d_Re_init_8 : decode b_Re_init 8 = .ok (.newarray .byte, 2) := by decide +kernel
theorem d_Re_init_10 : decode b_Re_init 10 = .ok (.putfield 9, 3) := by decide +kernel
theorem d_Re_init_13 : decode b_Re_init 13 = .ok (.aload_n 0, 1) := by decide +kernel
theorem d_Re_init_14 : decode b_Re_init 14 = .ok (.iconst 0, 1) := by decide +kernel
theorem d_Re_init_15 : decode b_Re_init 15 = .ok (.putfield 15, 3) := by decide +kernel
theorem d_Re_init_18 : decode b_Re_init 18 = .ok (.aload_n 0, 1) := by decide +kernel
theorem d_Re_init_19 : decode b_Re_init 19 = .ok (.iconst (-1), 1) := by decide +kernel
theorem d_Re_init_20 : decode b_Re_init 20 = .ok (.putfield 19, 3) := by decide +kernel
theorem d_Re_init_23 : decode b_Re_init 23 = .ok (.aload_n 0, 1) := by decide +kernel
theorem d_Re_init_24 : decode b_Re_init 24 = .ok (.iconst (-1), 1) := by decide +kernel
theorem d_Re_init_25 : decode b_Re_init 25 = .ok (.putfield 22, 3) := by decide +kernel
theorem d_Re_init_28 : decode b_Re_init 28 = .ok (.aload_n 0, 1) := by decide +kernel
theorem d_Re_init_29 : decode b_Re_init 29 = .ok (.new 25, 3) := by decide +kernel
theorem d_Re_init_32 : decode b_Re_init 32 = .ok (.dup, 1) := by decide +kernel
theorem d_Re_init_33 : decode b_Re_init 33 = .ok (.invokespecial 27, 3) := by decide +kernel
theorem d_Re_init_36 : decode b_Re_init 36 = .ok (.putfield 28, 3) := by decide +kernel
theorem d_Re_init_39 : decode b_Re_init 39 = .ok (.aload_n 0, 1) := by decide +kernel
theorem d_Re_init_40 : decode b_Re_init 40 = .ok (.iconst 0, 1) := by decide +kernel
theorem d_Re_init_41 : decode b_Re_init 41 = .ok (.putfield 32, 3) := by decide +kernel
theorem d_Re_init_44 : decode b_Re_init 44 = .ok (.aload_n 0, 1) := by decide +kernel
theorem d_Re_init_45 : decode b_Re_init 45 = .ok (.iconst 0, 1) := by decide +kernel
theorem d_Re_init_46 : decode b_Re_init 46 = .ok (.putfield 35, 3) := by decide +kernel
theorem d_Re_init_49 : decode b_Re_init 49 = .ok (.aload_n 0, 1) := by decide +kernel
theorem d_Re_init_50 : decode b_Re_init 50 = .ok (.iconst 0, 1) := by decide +kernel
theorem d_Re_init_51 : decode b_Re_init 51 = .ok (.putfield 38, 3) := by decide +kernel
theorem d_Re_init_54 : decode b_Re_init 54 = .ok (.aload_n 0, 1) := by decide +kernel
theorem d_Re_init_55 : decode b_Re_init 55 = .ok (.iconst 0, 1) := by decide +kernel
theorem d_Re_init_56 : decode b_Re_init 56 = .ok (.putfield 41, 3) := by decide +kernel
theorem d_Re_init_59 : decode b_Re_init 59 = .ok (.aload_n 0, 1) := by decide +kernel
theorem d_Re_init_60 : decode b_Re_init 60 = .ok (.iconst 0, 1) := by decide +kernel
theorem d_Re_init_61 : decode b_Re_init 61 = .ok (.putfield 44, 3) := by decide +kernel
theorem d_Re_init_64 : decode b_Re_init 64 = .ok (.aload_n 0, 1) := by decide +kernel
theorem d_Re_init_65 : decode b_Re_init 65 = .ok (.iconst 5, 1) := by decide +kernel
theorem d_Re_init_66 : decode b_Re_init 66 = .ok (.newarray .int, 2) := by decide +kernel
theorem d_Re_init_68 : decode b_Re_init 68 = .ok (.putfield 47, 3) := by decide +kernel
theorem d_Re_init_71 : decode b_Re_init 71 = .ok (.aload_n 0, 1) := by decide +kernel
theorem d_Re_init_72 : decode b_Re_init 72 = .ok (.iconst 0, 1) := by decide +kernel
theorem d_Re_init_73 : decode b_Re_init 73 = .ok (.putfield 51, 3) := by decide +kernel
theorem d_Re_init_76 : decode b_Re_init 76 = .ok (.return_, 1) := by decide +kernel
abbrev f0Re : List Value := [.null, .int 0, .int 0, .int 0, .null, .int 0, .int 0, .int 0, .int 0, .int 0, .null, .int 0]
set_option maxRecDepth 20000 in
theorem f0Re_ok : ∀ j, j < 12 → defaultValue (t_Re j) = vp_V f0Re j := by decide +kernel
def wRe (kA : Nat → ClassId) (h : Nat) (q : Nat → Nat) (x : Nat → Int32) (a : Nat → Nat → Int32) : va_W := [(h, .inr (8, [.ref (q 0), .int (x 1), .int (x 2), .int (x 3), .ref (q 4), .int (x 5), .int (x 6), .int (x 7), .int (x 8), .int (x 9), .ref (q 10), .int (x 11)])), (q 0, .inl (kA 1, 2000, .inl (a 0))), (q 10, .inl (kA 0, 5, .inl (a 10)))]
def x0Re : Nat → Int32 := fun k => match k with | 2 => (-1) | 3 => (-1) | _ => 0
def a0Re : Nat → Nat → Int32 := fun _ => fun _ => 0
set_option maxRecDepth 100000 in
set_option maxHeartbeats 4000000 in
/-- DrawingHouse$Reader()V -/
theorem c_Re_init (l : Launch) (D : va_G) (kA : Nat → ClassId) (h : Nat) : Cv l y_Re_init z_Re_init { frames := 2, cells := 16, slots := 3160, locals := 43 } D classes (TY kA) [.ref h] [[(h, .inr (8, f0Re))]] (fun u : (Nat → Nat → Nat) => True) (fun u => [wRe kA h ((u 0)) x0Re a0Re, wGr kA (u 0 4) ((u 1)) x0Gr a0Gr none]) 16 3160 := by
  intro sz
  refine k_met (cc := b_Re_init) (maxL := 1) (ret := none) (by decide) rfl (Nat.le_of_ble_eq_true rfl) (fun p e s m below meth c ls X hl hB => ?_)
  obtain ⟨hsz, hP, hK, hD0, hN⟩ := hB
  subst hsz
  have hD := hD0.self (sz := s.heap.size)
  generalize hAe : va_A (cat [[(h, .inr (8, [.null, .int 0, .int 0, .int 0, .null, .int 0, .int 0, .int 0, .int 0, .int 0, .null, .int 0]))]]) s.heap.size = A at hD ⊢
  have hA : ∀ q : Nat, s.heap.size ≤ q → A q := fun q h => by rw [← hAe]; exact Or.inr h
  have hS : va_S A s.heap s.heap [] := va_S.rf
  obtain ⟨hx, hb, hml, hown, hts, hr, hlk, hnm⟩ := id X
  have hl : lv_has ls 1 [(0, .ref h)] := hl
  have hP : va_P D classes (cat [[(h, .inr (8, [.null, .int 0, .int 0, .int 0, .null, .int 0, .int 0, .int 0, .int 0, .int 0, .null, .int 0]))]]) s.heap := hP
  have hK : va_K D classes (TY kA) s := hK
  refine lv_aload_n (pc := 0) hx hb d_Re_init_0 rfl (lv_at hl 0 rfl) ?_
  refine W.objInit hx hb hown (hts _ wm_46) (hts _ wm_31) (hts _ wm_32) rfl (by rw [hml]; exact hl.1) rfl d_Re_init_1 (Nat.le_of_ble_eq_true rfl) (Nat.le_of_ble_eq_true rfl) ?_
  refine W.eq (g2 := F0 m 4 ls []) rfl ?_
  refine lv_aload_n (pc := 4) hx hb d_Re_init_4 rfl (lv_at hl 0 rfl) ?_
  refine lv_sipush (pc := 5) (v := 2000) hx hb d_Re_init_5 (by decide) ?_
  refine k_newa (pc := 8) (atype := .byte) X (ty := .byte) (a0 := (2000, .inl (fun _ => 0))) rfl rfl wm_192 hK hP hD hS hA 1 rfl (fun _ => rfl) (by decide) rfl (by decide) (Nat.le_of_ble_eq_true rfl) (Nat.le_of_ble_eq_true rfl) d_Re_init_8 (fun q1 H hP hD hS => ?_)
  have hP : va_P D classes (cat [[(h, .inr (8, [.null, .int 0, .int 0, .int 0, .null, .int 0, .int 0, .int 0, .int 0, .int 0, .null, .int 0]))], [(q1, .inl (kA 1, 2000, .inl (fun _ => 0)))]]) H := hP
  have hD : va_D A (cat [[(h, .inr (8, [.null, .int 0, .int 0, .int 0, .null, .int 0, .int 0, .int 0, .int 0, .int 0, .null, .int 0]))], [(q1, .inl (kA 1, 2000, .inl (fun _ => 0)))]]) := hD
  refine W.widen (k := 1) (n := 2000) (by omega) (by omega) ?_
  refine k_put (pc := 10) X hK hP hD hS 0 rfl rfl i_Re t_Re t_Re_ok n_Re 0 (by decide) wm_194 rfl (Or.inr ⟨rfl, rfl⟩) rfl rfl (Nat.le_of_ble_eq_true rfl) d_Re_init_10 (fun H locs hP hD hS => ?_)
  have hP : va_P D classes (cat [[(h, .inr (8, [.ref q1, .int 0, .int 0, .int 0, .null, .int 0, .int 0, .int 0, .int 0, .int 0, .null, .int 0]))], [(q1, .inl (kA 1, 2000, .inl (fun _ => 0)))]]) H := hP
  have hD : va_D A (cat [[(h, .inr (8, [.ref q1, .int 0, .int 0, .int 0, .null, .int 0, .int 0, .int 0, .int 0, .int 0, .null, .int 0]))], [(q1, .inl (kA 1, 2000, .inl (fun _ => 0)))]]) := hD
  refine lv_aload_n (pc := 13) hx hb d_Re_init_13 rfl (lv_at hl 0 rfl) ?_
  refine lv_iconst (pc := 14) (v := 0) hx hb d_Re_init_14 (by decide) ?_
  refine k_put (pc := 15) X hK hP hD hS 0 rfl rfl i_Re t_Re t_Re_ok n_Re 1 (by decide) wm_196 rfl (Or.inl rfl) rfl rfl (Nat.le_of_ble_eq_true rfl) d_Re_init_15 (fun H locs hP hD hS => ?_)
  have hP : va_P D classes (cat [[(h, .inr (8, [.ref q1, .int 0, .int 0, .int 0, .null, .int 0, .int 0, .int 0, .int 0, .int 0, .null, .int 0]))], [(q1, .inl (kA 1, 2000, .inl (fun _ => 0)))]]) H := hP
  have hD : va_D A (cat [[(h, .inr (8, [.ref q1, .int 0, .int 0, .int 0, .null, .int 0, .int 0, .int 0, .int 0, .int 0, .null, .int 0]))], [(q1, .inl (kA 1, 2000, .inl (fun _ => 0)))]]) := hD
  refine lv_aload_n (pc := 18) hx hb d_Re_init_18 rfl (lv_at hl 0 rfl) ?_
  refine lv_iconst (pc := 19) (v := -1) hx hb d_Re_init_19 (by decide) ?_
  refine k_put (pc := 20) X hK hP hD hS 0 rfl rfl i_Re t_Re t_Re_ok n_Re 2 (by decide) wm_198 rfl (Or.inl rfl) rfl rfl (Nat.le_of_ble_eq_true rfl) d_Re_init_20 (fun H locs hP hD hS => ?_)
  have hP : va_P D classes (cat [[(h, .inr (8, [.ref q1, .int 0, .int ((-1)), .int 0, .null, .int 0, .int 0, .int 0, .int 0, .int 0, .null, .int 0]))], [(q1, .inl (kA 1, 2000, .inl (fun _ => 0)))]]) H := hP
  have hD : va_D A (cat [[(h, .inr (8, [.ref q1, .int 0, .int ((-1)), .int 0, .null, .int 0, .int 0, .int 0, .int 0, .int 0, .null, .int 0]))], [(q1, .inl (kA 1, 2000, .inl (fun _ => 0)))]]) := hD
  refine lv_aload_n (pc := 23) hx hb d_Re_init_23 rfl (lv_at hl 0 rfl) ?_
  refine lv_iconst (pc := 24) (v := -1) hx hb d_Re_init_24 (by decide) ?_
  refine k_put (pc := 25) X hK hP hD hS 0 rfl rfl i_Re t_Re t_Re_ok n_Re 3 (by decide) wm_200 rfl (Or.inl rfl) rfl rfl (Nat.le_of_ble_eq_true rfl) d_Re_init_25 (fun H locs hP hD hS => ?_)
  have hP : va_P D classes (cat [[(h, .inr (8, [.ref q1, .int 0, .int ((-1)), .int ((-1)), .null, .int 0, .int 0, .int 0, .int 0, .int 0, .null, .int 0]))], [(q1, .inl (kA 1, 2000, .inl (fun _ => 0)))]]) H := hP
  have hD : va_D A (cat [[(h, .inr (8, [.ref q1, .int 0, .int ((-1)), .int ((-1)), .null, .int 0, .int 0, .int 0, .int 0, .int 0, .null, .int 0]))], [(q1, .inl (kA 1, 2000, .inl (fun _ => 0)))]]) := hD
  refine lv_aload_n (pc := 28) hx hb d_Re_init_28 rfl (lv_at hl 0 rfl) ?_
  refine k_new (pc := 29) (fs := f0Gr) X i_Gr t_Gr t_Gr_ok wm_47 wm_48 wm_3 hK hP hD hS hA (ci := 3) rfl f0Gr_ok (Nat.le_of_ble_eq_true rfl) (Nat.le_of_ble_eq_true rfl) d_Re_init_29 (fun q2 H hP hD hS => ?_)
  have hP : va_P D classes (cat [[(h, .inr (8, [.ref q1, .int 0, .int ((-1)), .int ((-1)), .null, .int 0, .int 0, .int 0, .int 0, .int 0, .null, .int 0]))], [(q1, .inl (kA 1, 2000, .inl (fun _ => 0)))], [(q2, .inr (3, [.int 0, .int 0, .int 0, .null, .null, .null, .null, .null, .null, .null, .null, .null, .null, .null, .null, .null, .null, .int 0, .int 0]))]]) H := hP
  have hD : va_D A (cat [[(h, .inr (8, [.ref q1, .int 0, .int ((-1)), .int ((-1)), .null, .int 0, .int 0, .int 0, .int 0, .int 0, .null, .int 0]))], [(q1, .inl (kA 1, 2000, .inl (fun _ => 0)))], [(q2, .inr (3, [.int 0, .int 0, .int 0, .null, .null, .null, .null, .null, .null, .null, .null, .null, .null, .null, .null, .null, .null, .int 0, .int 0]))]]) := hD
  refine W.widen (k := 2) (n := 2019) (by omega) (by omega) ?_
  refine lv_dup (pc := 32) hx hb d_Re_init_32 rfl ?_
  refine k_goV (gr := [[(h, .inr (8, [.ref q1, .int 0, .int ((-1)), .int ((-1)), .null, .int 0, .int 0, .int 0, .int 0, .int 0, .null, .int 0]))], [(q1, .inl (kA 1, 2000, .inl (fun _ => 0)))]]) (k_rI (pc := 33) (As := []) (rest := [.ref q2, .ref h]) X (c_Gr_init l D kA q2 H.size) rfl wm_51 wm_3 wm_49 wm_50 rfl 0 (by decide +kernel) ⟨Nat.le_of_ble_eq_true rfl, Nat.le_of_ble_eq_true rfl⟩ rfl rfl (k_pre hN hK hP hD [2] [0, 1] 3 rfl (by decide) rfl) rfl hl.1 rfl (Nat.le_of_ble_eq_true rfl) d_Re_init_33 ⟨Nat.le_of_ble_eq_true rfl, Nat.le_of_ble_eq_true rfl⟩) hP hD hS hA [2] [0, 1] 3 rfl (by decide) rfl rfl (fun u3 H locs hu3 hP hD hS => ?_)
  have hP : va_P D classes (cat [[(h, .inr (8, [.ref q1, .int 0, .int ((-1)), .int ((-1)), .null, .int 0, .int 0, .int 0, .int 0, .int 0, .null, .int 0]))], [(q1, .inl (kA 1, 2000, .inl (fun _ => 0)))], wGr kA q2 u3 x0Gr a0Gr none]) H := hP
  have hD : va_D A (cat [[(h, .inr (8, [.ref q1, .int 0, .int ((-1)), .int ((-1)), .null, .int 0, .int 0, .int 0, .int 0, .int 0, .null, .int 0]))], [(q1, .inl (kA 1, 2000, .inl (fun _ => 0)))], wGr kA q2 u3 x0Gr a0Gr none]) := hD
  refine W.widen (k := 15) (n := 3155) (by omega) (by omega) ?_
  refine k_put (pc := 36) X hK hP hD hS 0 rfl rfl i_Re t_Re t_Re_ok n_Re 4 (by decide) wm_202 rfl (Or.inr ⟨rfl, rfl⟩) rfl rfl (Nat.le_of_ble_eq_true rfl) d_Re_init_36 (fun H locs hP hD hS => ?_)
  have hP : va_P D classes (cat [[(h, .inr (8, [.ref q1, .int 0, .int ((-1)), .int ((-1)), .ref q2, .int 0, .int 0, .int 0, .int 0, .int 0, .null, .int 0]))], [(q1, .inl (kA 1, 2000, .inl (fun _ => 0)))], wGr kA q2 u3 x0Gr a0Gr none]) H := hP
  have hD : va_D A (cat [[(h, .inr (8, [.ref q1, .int 0, .int ((-1)), .int ((-1)), .ref q2, .int 0, .int 0, .int 0, .int 0, .int 0, .null, .int 0]))], [(q1, .inl (kA 1, 2000, .inl (fun _ => 0)))], wGr kA q2 u3 x0Gr a0Gr none]) := hD
  refine lv_aload_n (pc := 39) hx hb d_Re_init_39 rfl (lv_at hl 0 rfl) ?_
  refine lv_iconst (pc := 40) (v := 0) hx hb d_Re_init_40 (by decide) ?_
  refine k_put (pc := 41) X hK hP hD hS 0 rfl rfl i_Re t_Re t_Re_ok n_Re 5 (by decide) wm_204 rfl (Or.inl rfl) rfl rfl (Nat.le_of_ble_eq_true rfl) d_Re_init_41 (fun H locs hP hD hS => ?_)
  have hP : va_P D classes (cat [[(h, .inr (8, [.ref q1, .int 0, .int ((-1)), .int ((-1)), .ref q2, .int 0, .int 0, .int 0, .int 0, .int 0, .null, .int 0]))], [(q1, .inl (kA 1, 2000, .inl (fun _ => 0)))], wGr kA q2 u3 x0Gr a0Gr none]) H := hP
  have hD : va_D A (cat [[(h, .inr (8, [.ref q1, .int 0, .int ((-1)), .int ((-1)), .ref q2, .int 0, .int 0, .int 0, .int 0, .int 0, .null, .int 0]))], [(q1, .inl (kA 1, 2000, .inl (fun _ => 0)))], wGr kA q2 u3 x0Gr a0Gr none]) := hD
  refine lv_aload_n (pc := 44) hx hb d_Re_init_44 rfl (lv_at hl 0 rfl) ?_
  refine lv_iconst (pc := 45) (v := 0) hx hb d_Re_init_45 (by decide) ?_
  refine k_put (pc := 46) X hK hP hD hS 0 rfl rfl i_Re t_Re t_Re_ok n_Re 6 (by decide) wm_205 rfl (Or.inl rfl) rfl rfl (Nat.le_of_ble_eq_true rfl) d_Re_init_46 (fun H locs hP hD hS => ?_)
  have hP : va_P D classes (cat [[(h, .inr (8, [.ref q1, .int 0, .int ((-1)), .int ((-1)), .ref q2, .int 0, .int 0, .int 0, .int 0, .int 0, .null, .int 0]))], [(q1, .inl (kA 1, 2000, .inl (fun _ => 0)))], wGr kA q2 u3 x0Gr a0Gr none]) H := hP
  have hD : va_D A (cat [[(h, .inr (8, [.ref q1, .int 0, .int ((-1)), .int ((-1)), .ref q2, .int 0, .int 0, .int 0, .int 0, .int 0, .null, .int 0]))], [(q1, .inl (kA 1, 2000, .inl (fun _ => 0)))], wGr kA q2 u3 x0Gr a0Gr none]) := hD
  refine lv_aload_n (pc := 49) hx hb d_Re_init_49 rfl (lv_at hl 0 rfl) ?_
  refine lv_iconst (pc := 50) (v := 0) hx hb d_Re_init_50 (by decide) ?_
  refine k_put (pc := 51) X hK hP hD hS 0 rfl rfl i_Re t_Re t_Re_ok n_Re 7 (by decide) wm_206 rfl (Or.inl rfl) rfl rfl (Nat.le_of_ble_eq_true rfl) d_Re_init_51 (fun H locs hP hD hS => ?_)
  have hP : va_P D classes (cat [[(h, .inr (8, [.ref q1, .int 0, .int ((-1)), .int ((-1)), .ref q2, .int 0, .int 0, .int 0, .int 0, .int 0, .null, .int 0]))], [(q1, .inl (kA 1, 2000, .inl (fun _ => 0)))], wGr kA q2 u3 x0Gr a0Gr none]) H := hP
  have hD : va_D A (cat [[(h, .inr (8, [.ref q1, .int 0, .int ((-1)), .int ((-1)), .ref q2, .int 0, .int 0, .int 0, .int 0, .int 0, .null, .int 0]))], [(q1, .inl (kA 1, 2000, .inl (fun _ => 0)))], wGr kA q2 u3 x0Gr a0Gr none]) := hD
  refine lv_aload_n (pc := 54) hx hb d_Re_init_54 rfl (lv_at hl 0 rfl) ?_
  refine lv_iconst (pc := 55) (v := 0) hx hb d_Re_init_55 (by decide) ?_
  refine k_put (pc := 56) X hK hP hD hS 0 rfl rfl i_Re t_Re t_Re_ok n_Re 8 (by decide) wm_207 rfl (Or.inl rfl) rfl rfl (Nat.le_of_ble_eq_true rfl) d_Re_init_56 (fun H locs hP hD hS => ?_)
  have hP : va_P D classes (cat [[(h, .inr (8, [.ref q1, .int 0, .int ((-1)), .int ((-1)), .ref q2, .int 0, .int 0, .int 0, .int 0, .int 0, .null, .int 0]))], [(q1, .inl (kA 1, 2000, .inl (fun _ => 0)))], wGr kA q2 u3 x0Gr a0Gr none]) H := hP
  have hD : va_D A (cat [[(h, .inr (8, [.ref q1, .int 0, .int ((-1)), .int ((-1)), .ref q2, .int 0, .int 0, .int 0, .int 0, .int 0, .null, .int 0]))], [(q1, .inl (kA 1, 2000, .inl (fun _ => 0)))], wGr kA q2 u3 x0Gr a0Gr none]) := hD
  refine lv_aload_n (pc := 59) hx hb d_Re_init_59 rfl (lv_at hl 0 rfl) ?_
  refine lv_iconst (pc := 60) (v := 0) hx hb d_Re_init_60 (by decide) ?_
  refine k_put (pc := 61) X hK hP hD hS 0 rfl rfl i_Re t_Re t_Re_ok n_Re 9 (by decide) wm_208 rfl (Or.inl rfl) rfl rfl (Nat.le_of_ble_eq_true rfl) d_Re_init_61 (fun H locs hP hD hS => ?_)
  have hP : va_P D classes (cat [[(h, .inr (8, [.ref q1, .int 0, .int ((-1)), .int ((-1)), .ref q2, .int 0, .int 0, .int 0, .int 0, .int 0, .null, .int 0]))], [(q1, .inl (kA 1, 2000, .inl (fun _ => 0)))], wGr kA q2 u3 x0Gr a0Gr none]) H := hP
  have hD : va_D A (cat [[(h, .inr (8, [.ref q1, .int 0, .int ((-1)), .int ((-1)), .ref q2, .int 0, .int 0, .int 0, .int 0, .int 0, .null, .int 0]))], [(q1, .inl (kA 1, 2000, .inl (fun _ => 0)))], wGr kA q2 u3 x0Gr a0Gr none]) := hD
  refine lv_aload_n (pc := 64) hx hb d_Re_init_64 rfl (lv_at hl 0 rfl) ?_
  refine lv_iconst (pc := 65) (v := 5) hx hb d_Re_init_65 (by decide) ?_
  refine k_newa (pc := 66) (atype := .int) X (ty := .int) (a0 := (5, .inl (fun _ => 0))) rfl rfl wm_193 hK hP hD hS hA 0 rfl (fun _ => rfl) (by decide) rfl (by decide) (Nat.le_of_ble_eq_true rfl) (Nat.le_of_ble_eq_true rfl) d_Re_init_66 (fun q4 H hP hD hS => ?_)
  have hP : va_P D classes (cat [[(h, .inr (8, [.ref q1, .int 0, .int ((-1)), .int ((-1)), .ref q2, .int 0, .int 0, .int 0, .int 0, .int 0, .null, .int 0]))], [(q1, .inl (kA 1, 2000, .inl (fun _ => 0)))], wGr kA q2 u3 x0Gr a0Gr none, [(q4, .inl (kA 0, 5, .inl (fun _ => 0)))]]) H := hP
  have hD : va_D A (cat [[(h, .inr (8, [.ref q1, .int 0, .int ((-1)), .int ((-1)), .ref q2, .int 0, .int 0, .int 0, .int 0, .int 0, .null, .int 0]))], [(q1, .inl (kA 1, 2000, .inl (fun _ => 0)))], wGr kA q2 u3 x0Gr a0Gr none, [(q4, .inl (kA 0, 5, .inl (fun _ => 0)))]]) := hD
  refine W.widen (k := 16) (n := 3160) (by omega) (by omega) ?_
  refine k_put (pc := 68) X hK hP hD hS 0 rfl rfl i_Re t_Re t_Re_ok n_Re 10 (by decide) wm_209 rfl (Or.inr ⟨rfl, rfl⟩) rfl rfl (Nat.le_of_ble_eq_true rfl) d_Re_init_68 (fun H locs hP hD hS => ?_)
  have hP : va_P D classes (cat [[(h, .inr (8, [.ref q1, .int 0, .int ((-1)), .int ((-1)), .ref q2, .int 0, .int 0, .int 0, .int 0, .int 0, .ref q4, .int 0]))], [(q1, .inl (kA 1, 2000, .inl (fun _ => 0)))], wGr kA q2 u3 x0Gr a0Gr none, [(q4, .inl (kA 0, 5, .inl (fun _ => 0)))]]) H := hP
  have hD : va_D A (cat [[(h, .inr (8, [.ref q1, .int 0, .int ((-1)), .int ((-1)), .ref q2, .int 0, .int 0, .int 0, .int 0, .int 0, .ref q4, .int 0]))], [(q1, .inl (kA 1, 2000, .inl (fun _ => 0)))], wGr kA q2 u3 x0Gr a0Gr none, [(q4, .inl (kA 0, 5, .inl (fun _ => 0)))]]) := hD
  refine lv_aload_n (pc := 71) hx hb d_Re_init_71 rfl (lv_at hl 0 rfl) ?_
  refine lv_iconst (pc := 72) (v := 0) hx hb d_Re_init_72 (by decide) ?_
  refine k_put (pc := 73) X hK hP hD hS 0 rfl rfl i_Re t_Re t_Re_ok n_Re 11 (by decide) wm_210 rfl (Or.inl rfl) rfl rfl (Nat.le_of_ble_eq_true rfl) d_Re_init_73 (fun H locs hP hD hS => ?_)
  have hP : va_P D classes (cat [[(h, .inr (8, [.ref q1, .int 0, .int ((-1)), .int ((-1)), .ref q2, .int 0, .int 0, .int 0, .int 0, .int 0, .ref q4, .int 0]))], [(q1, .inl (kA 1, 2000, .inl (fun _ => 0)))], wGr kA q2 u3 x0Gr a0Gr none, [(q4, .inl (kA 0, 5, .inl (fun _ => 0)))]]) H := hP
  have hD : va_D A (cat [[(h, .inr (8, [.ref q1, .int 0, .int ((-1)), .int ((-1)), .ref q2, .int 0, .int 0, .int 0, .int 0, .int 0, .ref q4, .int 0]))], [(q1, .inl (kA 1, 2000, .inl (fun _ => 0)))], wGr kA q2 u3 x0Gr a0Gr none, [(q4, .inl (kA 0, 5, .inl (fun _ => 0)))]]) := hD
  obtain ⟨hP, hD⟩ := k_ord (gc := [[(h, .inr (8, [.ref q1, .int 0, .int ((-1)), .int ((-1)), .ref q2, .int 0, .int 0, .int 0, .int 0, .int 0, .ref q4, .int 0]))], [(q1, .inl (kA 1, 2000, .inl (fun _ => 0)))], [(q4, .inl (kA 0, 5, .inl (fun _ => 0)))], wGr kA q2 u3 x0Gr a0Gr none]) hP hD [0, 1, 3, 2] 4 rfl (by decide) rfl
  refine W.widen (k := 16) (n := 3160) (Nat.le_of_ble_eq_true rfl) (Nat.le_of_ble_eq_true rfl) ?_
  exact W.vret hx hb hr (fun t ht hW => ⟨⟨(fun i => match i with | 0 => (fun k => match k with | 0 => q1 | 10 => q4 | 4 => q2 | _ => 0) | 1 => u3 | _ => fun _ => 0), rfl, trivial, by rw [ht]; exact hP, va_K.moved hW.alike hK, hD⟩, hS.F ht⟩) hS.2.2 d_Re_init_76
end
section
theorem wm_6 : (Cond.initialized "DrawingHouse$Net" : Cond) ∈ lw_g := lw_gi (lw_c1 (List.mem_of_getElem? (i := 6) rfl)) rfl
theorem wm_240 : (Cond.code ({ cls := "DrawingHouse$Embedder", name := "<init>", desc := "()V" } : MethodName) prog_3_method_1_code (1 : Nat) (Option.none : Option ClassFile.FieldType) : Cond) ∈ lw_g := lw_gi (lw_c2 (List.mem_of_getElem? (i := 0) rfl)) rfl
theorem wm_241 : (Cond.methodLink "DrawingHouse$Embedder" (3 : Nat) ({ cls := "java/lang/Object", name := "<init>", desc := "()V" } : MethodName) : Cond) ∈ lw_g := lw_gi (lw_c2 (List.mem_of_getElem? (i := 1) rfl)) rfl
theorem wm_242 : (Cond.classLink "DrawingHouse$Embedder" (15 : Nat) "DrawingHouse$Net" : Cond) ∈ lw_g := lw_gi (lw_c2 (List.mem_of_getElem? (i := 2) rfl)) rfl
theorem wm_243 : (Cond.instantiable "DrawingHouse$Net" (17 : Nat) : Cond) ∈ lw_g := lw_gi (lw_c2 (List.mem_of_getElem? (i := 3) rfl)) rfl
theorem wm_245 : (Cond.instanceMethod ({ cls := "DrawingHouse$Net", name := "<init>", desc := "()V" } : MethodName) : Cond) ∈ lw_g := lw_gi (lw_c2 (List.mem_of_getElem? (i := 5) rfl)) rfl
theorem wm_326 : (Cond.fieldLink "DrawingHouse$Embedder" (9 : Nat) "DrawingHouse$Embedder" "net" "LDrawingHouse$Net;" : Cond) ∈ lw_g := lw_gi (lw_c2 (List.mem_of_getElem? (i := 86) rfl)) rfl
theorem wm_327 : (Cond.fieldLink "DrawingHouse$Embedder" (18 : Nat) "DrawingHouse$Embedder" "probe" "LDrawingHouse$Net;" : Cond) ∈ lw_g := lw_gi (lw_c2 (List.mem_of_getElem? (i := 87) rfl)) rfl
theorem wm_328 : (Cond.fieldLink "DrawingHouse$Embedder" (21 : Nat) "DrawingHouse$Embedder" "block" "[I" : Cond) ∈ lw_g := lw_gi (lw_c2 (List.mem_of_getElem? (i := 88) rfl)) rfl
theorem wm_329 : (Cond.fieldLink "DrawingHouse$Embedder" (25 : Nat) "DrawingHouse$Embedder" "drawn" "[Z" : Cond) ∈ lw_g := lw_gi (lw_c2 (List.mem_of_getElem? (i := 89) rfl)) rfl
theorem wm_330 : (Cond.fieldLink "DrawingHouse$Embedder" (29 : Nat) "DrawingHouse$Embedder" "kept" "[Z" : Cond) ∈ lw_g := lw_gi (lw_c2 (List.mem_of_getElem? (i := 90) rfl)) rfl
theorem wm_331 : (Cond.fieldLink "DrawingHouse$Embedder" (32 : Nat) "DrawingHouse$Embedder" "blockNodes" "I" : Cond) ∈ lw_g := lw_gi (lw_c2 (List.mem_of_getElem? (i := 91) rfl)) rfl
theorem wm_332 : (Cond.fieldLink "DrawingHouse$Embedder" (36 : Nat) "DrawingHouse$Embedder" "drawnNodes" "I" : Cond) ∈ lw_g := lw_gi (lw_c2 (List.mem_of_getElem? (i := 92) rfl)) rfl
theorem wm_333 : (Cond.fieldLink "DrawingHouse$Embedder" (39 : Nat) "DrawingHouse$Embedder" "cycles" "I" : Cond) ∈ lw_g := lw_gi (lw_c2 (List.mem_of_getElem? (i := 93) rfl)) rfl
theorem wm_334 : (Cond.fieldLink "DrawingHouse$Embedder" (42 : Nat) "DrawingHouse$Embedder" "cycle" "[I" : Cond) ∈ lw_g := lw_gi (lw_c2 (List.mem_of_getElem? (i := 94) rfl)) rfl
theorem wm_335 : (Cond.fieldLink "DrawingHouse$Embedder" (45 : Nat) "DrawingHouse$Embedder" "cycleLength" "[I" : Cond) ∈ lw_g := lw_gi (lw_c2 (List.mem_of_getElem? (i := 95) rfl)) rfl
theorem wm_336 : (Cond.fieldLink "DrawingHouse$Embedder" (48 : Nat) "DrawingHouse$Embedder" "cycleNodes" "[I" : Cond) ∈ lw_g := lw_gi (lw_c2 (List.mem_of_getElem? (i := 96) rfl)) rfl
theorem wm_337 : (Cond.fieldLink "DrawingHouse$Embedder" (51 : Nat) "DrawingHouse$Embedder" "fresh" "[I" : Cond) ∈ lw_g := lw_gi (lw_c2 (List.mem_of_getElem? (i := 97) rfl)) rfl
theorem wm_338 : (Cond.fieldLink "DrawingHouse$Embedder" (54 : Nat) "DrawingHouse$Embedder" "after" "[I" : Cond) ∈ lw_g := lw_gi (lw_c2 (List.mem_of_getElem? (i := 98) rfl)) rfl
theorem wm_339 : (Cond.fieldLink "DrawingHouse$Embedder" (57 : Nat) "DrawingHouse$Embedder" "level" "[I" : Cond) ∈ lw_g := lw_gi (lw_c2 (List.mem_of_getElem? (i := 99) rfl)) rfl
theorem wm_340 : (Cond.fieldLink "DrawingHouse$Embedder" (60 : Nat) "DrawingHouse$Embedder" "way" "[I" : Cond) ∈ lw_g := lw_gi (lw_c2 (List.mem_of_getElem? (i := 100) rfl)) rfl
theorem wm_341 : (Cond.fieldLink "DrawingHouse$Embedder" (63 : Nat) "DrawingHouse$Embedder" "wayLength" "I" : Cond) ∈ lw_g := lw_gi (lw_c2 (List.mem_of_getElem? (i := 101) rfl)) rfl
theorem wm_342 : (Cond.fieldLink "DrawingHouse$Embedder" (66 : Nat) "DrawingHouse$Embedder" "pieceNodes" "I" : Cond) ∈ lw_g := lw_gi (lw_c2 (List.mem_of_getElem? (i := 102) rfl)) rfl
theorem wm_343 : (Cond.fieldLink "DrawingHouse$Embedder" (69 : Nat) "DrawingHouse$Embedder" "pieceEnds" "I" : Cond) ∈ lw_g := lw_gi (lw_c2 (List.mem_of_getElem? (i := 103) rfl)) rfl
theorem wm_344 : (Cond.fieldLink "DrawingHouse$Embedder" (72 : Nat) "DrawingHouse$Embedder" "pieceCycle" "I" : Cond) ∈ lw_g := lw_gi (lw_c2 (List.mem_of_getElem? (i := 104) rfl)) rfl
theorem wm_345 : (Cond.fieldLink "DrawingHouse$Embedder" (75 : Nat) "DrawingHouse$Embedder" "around" "[I" : Cond) ∈ lw_g := lw_gi (lw_c2 (List.mem_of_getElem? (i := 105) rfl)) rfl
theorem wn_244 : (Cond.methodLinkNest "DrawingHouse$Embedder" (17 : Nat) ({ cls := "DrawingHouse$Net", name := "<init>", desc := "()V" } : MethodName) "DrawingHouse" : Cond) ∈ lw_n := lw_ni (lw_c2 (List.mem_of_getElem? (i := 4) rfl)) rfl
abbrev b_Em_init : ByteArray := prog_3_method_1_code
def y_Em_init : MethodName := ⟨"DrawingHouse$Embedder", "<init>", "()V"⟩
abbrev z_Em_init : List Cond := Cond.code y_Em_init b_Em_init 1 none :: lw_g
theorem d_Em_init_0 : decode b_Em_init 0 = .ok (.aload_n 0, 1) := by decide +kernel
theorem d_Em_init_1 : decode b_Em_init 1 = .ok (.invokespecial 3, 3) := by decide +kernel
theorem d_Em_init_4 : decode b_Em_init 4 = .ok (.aload_n 0, 1) := by decide +kernel
theorem d_Em_init_5 : decode b_Em_init 5 = .ok (.aconst_null, 1) := by decide +kernel
theorem d_Em_init_6 : decode b_Em_init 6 = .ok (.putfield 9, 3) := by decide +kernel
theorem d_Em_init_9 : decode b_Em_init 9 = .ok (.aload_n 0, 1) := by decide +kernel
theorem d_Em_init_10 : decode b_Em_init 10 = .ok (.new 15, 3) := by decide +kernel
theorem d_Em_init_13 : decode b_Em_init 13 = .ok (.dup, 1) := by decide +kernel
theorem d_Em_init_14 : decode b_Em_init 14 = .ok (.invokespecial 17, 3) := by decide +kernel
theorem d_Em_init_17 : decode b_Em_init 17 = .ok (.putfield 18, 3) := by decide +kernel
theorem d_Em_init_20 : decode b_Em_init 20 = .ok (.aload_n 0, 1) := by decide +kernel
theorem d_Em_init_21 : decode b_Em_init 21 = .ok (.bipush 72, 2) := by decide +kernel
theorem d_Em_init_23 : decode b_Em_init 23 = .ok (.newarray .int, 2) := by decide +kernel
theorem d_Em_init_25 : decode b_Em_init 25 = .ok (.putfield 21, 3) := by decide +kernel
theorem d_Em_init_28 : decode b_Em_init 28 = .ok (.aload_n 0, 1) := by decide +kernel
theorem d_Em_init_29 : decode b_Em_init 29 = .ok (.bipush 72, 2) := by decide +kernel
theorem d_Em_init_31 : decode b_Em_init 31 = .ok (.newarray .boolean, 2) := by decide +kernel
theorem d_Em_init_33 : decode b_Em_init 33 = .ok (.putfield 25, 3) := by decide +kernel
theorem d_Em_init_36 : decode b_Em_init 36 = .ok (.aload_n 0, 1) := by decide +kernel
theorem d_Em_init_37 : decode b_Em_init 37 = .ok (.bipush 48, 2) := by decide +kernel
theorem d_Em_init_39 : decode b_Em_init 39 = .ok (.newarray .boolean, 2) := by decide +kernel
theorem d_Em_init_41 : decode b_Em_init 41 = .ok (.putfield 29, 3) := by decide +kernel
theorem d_Em_init_44 : decode b_Em_init 44 = .ok (.aload_n 0, 1) := by decide +kernel
theorem d_Em_init_45 : decode b_Em_init 45 = .ok (.iconst 0, 1) := by decide +kernel
theorem d_Em_init_46 : decode b_Em_init 46 = .ok (.putfield 32, 3) := by decide +kernel
theorem d_Em_init_49 : decode b_Em_init 49 = .ok (.aload_n 0, 1) := by decide +kernel
theorem d_Em_init_50 : decode b_Em_init 50 = .ok (.iconst 0, 1) := by decide +kernel
theorem d_Em_init_51 : decode b_Em_init 51 = .ok (.putfield 36, 3) := by decide +kernel
theorem d_Em_init_54 : decode b_Em_init 54 = .ok (.aload_n 0, 1) := by decide +kernel
theorem d_Em_init_55 : decode b_Em_init 55 = .ok (.iconst 0, 1) := by decide +kernel
theorem d_Em_init_56 : decode b_Em_init 56 = .ok (.putfield 39, 3) := by decide +kernel
theorem d_Em_init_59 : decode b_Em_init 59 = .ok (.aload_n 0, 1) := by decide +kernel
theorem d_Em_init_60 : decode b_Em_init 60 = .ok (.sipush 1250, 3) := by decide +kernel
theorem d_Em_init_63 : decode b_Em_init 63 = .ok (.newarray .int, 2) := by decide +kernel
theorem d_Em_init_65 : decode b_Em_init 65 = .ok (.putfield 42, 3) := by decide +kernel
theorem d_Em_init_68 : decode b_Em_init 68 = .ok (.aload_n 0, 1) := by decide +kernel
theorem d_Em_init_69 : decode b_Em_init 69 = .ok (.bipush 50, 2) := by decide +kernel
theorem d_Em_init_71 : decode b_Em_init 71 = .ok (.newarray .int, 2) := by decide +kernel
theorem d_Em_init_73 : decode b_Em_init 73 = .ok (.putfield 45, 3) := by decide +kernel
theorem d_Em_init_76 : decode b_Em_init 76 = .ok (.aload_n 0, 1) := by decide +kernel
theorem d_Em_init_77 : decode b_Em_init 77 = .ok (.bipush 50, 2) := by decide +kernel
theorem d_Em_init_79 : decode b_Em_init 79 = .ok (.newarray .int, 2) := by decide +kernel
theorem d_Em_init_81 : decode b_Em_init 81 = .ok (.putfield 48, 3) := by decide +kernel
theorem d_Em_init_84 : decode b_Em_init 84 = .ok (.aload_n 0, 1) := by decide +kernel
theorem d_Em_init_85 : decode b_Em_init 85 = .ok (.bipush 50, 2) := by decide +kernel
theorem d_Em_init_87 : decode b_Em_init 87 = .ok (.newarray .int, 2) := by decide +kernel
theorem d_Em_init_89 : decode b_Em_init 89 = .ok (.putfield 51, 3) := by decide +kernel
theorem d_Em_init_92 : decode b_Em_init 92 = .ok (.aload_n 0, 1) := by decide +kernel
theorem d_Em_init_93 : decode b_Em_init 93 = .ok (.sipush 144, 3) := by decide +kernel
theorem d_Em_init_96 : decode b_Em_init 96 = .ok (.newarray .int, 2) := by decide +kernel
theorem d_Em_init_98 : decode b_Em_init 98 = .ok (.putfield 54, 3) := by decide +kernel
theorem d_Em_init_101 : decode b_Em_init 101 = .ok (.aload_n 0, 1) := by decide +kernel
theorem d_Em_init_102 : decode b_Em_init 102 = .ok (.bipush 26, 2) := by decide +kernel
theorem d_Em_init_104 : decode b_Em_init 104 = .ok (.newarray .int, 2) := by decide +kernel
theorem d_Em_init_106 : decode b_Em_init 106 = .ok (.putfield 57, 3) := by decide +kernel
theorem d_Em_init_109 : decode b_Em_init 109 = .ok (.aload_n 0, 1) := by decide +kernel
theorem d_Em_init_110 : decode b_Em_init 110 = .ok (.bipush 27, 2) := by decide +kernel
theorem d_Em_init_112 : decode b_Em_init 112 = .ok (.newarray .int, 2) := by decide +kernel
theorem d_Em_init_114 : decode b_Em_init 114 = .ok (.putfield 60, 3) := by decide +kernel
theorem d_Em_init_117 : decode b_Em_init 117 = .ok (.aload_n 0, 1) := by decide +kernel
theorem d_Em_init_118 : decode b_Em_init 118 = .ok (.iconst 0, 1) := by decide +kernel
theorem d_Em_init_119 : decode b_Em_init 119 = .ok (.putfield 63, 3) := by decide +kernel
theorem d_Em_init_122 : decode b_Em_init 122 = .ok (.aload_n 0, 1) := by decide +kernel
theorem d_Em_init_123 : decode b_Em_init 123 = .ok (.iconst 0, 1) := by decide +kernel
theorem d_Em_init_124 : decode b_Em_init 124 = .ok (.putfield 66, 3) := by decide +kernel
theorem d_Em_init_127 : decode b_Em_init 127 = .ok (.aload_n 0, 1) := by decide +kernel
theorem d_Em_init_128 : decode b_Em_init 128 = .ok (.iconst 0, 1) := by decide +kernel
theorem d_Em_init_129 : decode b_Em_init 129 = .ok (.putfield 69, 3) := by decide +kernel
theorem d_Em_init_132 : decode b_Em_init 132 = .ok (.aload_n 0, 1) := by decide +kernel
theorem d_Em_init_133 : decode b_Em_init 133 = .ok (.iconst 0, 1) := by decide +kernel
theorem d_Em_init_134 : decode b_Em_init 134 = .ok (.putfield 72, 3) := by decide +kernel
theorem d_Em_init_137 : decode b_Em_init 137 = .ok (.aload_n 0, 1) := by decide +kernel
theorem d_Em_init_138 : decode b_Em_init 138 = .ok (.bipush 72, 2) := by decide +kernel
theorem d_Em_init_140 : decode b_Em_init 140 = .ok (.newarray .int, 2) := by decide +kernel
theorem d_Em_init_142 : decode b_Em_init 142 = .ok (.putfield 75, 3) := by decide +kernel
theorem d_Em_init_145 : decode b_Em_init 145 = .ok (.return_, 1) := by decide +kernel
abbrev f0Em : List Value := [.null, .null, .null, .null, .null, .int 0, .int 0, .int 0, .null, .null, .null, .null, .null, .null, .null, .int 0, .int 0, .int 0, .int 0, .null]
set_option maxRecDepth 20000 in
theorem f0Em_ok : ∀ j, j < 20 → defaultValue (t_Em j) = vp_V f0Em j := by decide +kernel
def wEm (kA : Nat → ClassId) (h : Nat) (q : Nat → Nat) (x : Nat → Int32) (a : Nat → Nat → Int32) (o0 : Option Nat) : va_W := [(h, .inr (1, [va_rf o0, .ref (q 1), .ref (q 2), .ref (q 3), .ref (q 4), .int (x 5), .int (x 6), .int (x 7), .ref (q 8), .ref (q 9), .ref (q 10), .ref (q 11), .ref (q 12), .ref (q 13), .ref (q 14), .int (x 15), .int (x 16), .int (x 17), .int (x 18), .ref (q 19)])), (q 2, .inl (kA 0, 72, .inl (a 2))), (q 3, .inl (kA 2, 72, .inl (a 3))), (q 4, .inl (kA 2, 48, .inl (a 4))), (q 8, .inl (kA 0, 1250, .inl (a 8))), (q 9, .inl (kA 0, 50, .inl (a 9))), (q 10, .inl (kA 0, 50, .inl (a 10))), (q 11, .inl (kA 0, 50, .inl (a 11))), (q 12, .inl (kA 0, 144, .inl (a 12))), (q 13, .inl (kA 0, 26, .inl (a 13))), (q 14, .inl (kA 0, 27, .inl (a 14))), (q 19, .inl (kA 0, 72, .inl (a 19)))]
def x0Em : Nat → Int32 := fun _ => 0
def a0Em : Nat → Nat → Int32 := fun _ => fun _ => 0
set_option maxRecDepth 100000 in
set_option maxHeartbeats 4000000 in
/-- DrawingHouse$Embedder()V -/
theorem c_Em_init (l : Launch) (D : va_G) (kA : Nat → ClassId) (h : Nat) : Cv l y_Em_init z_Em_init { frames := 2, cells := 22, slots := 3322, locals := 32 } D classes (TY kA) [.ref h] [[(h, .inr (1, f0Em))]] (fun u : (Nat → Nat → Nat) => True) (fun u => [wEm kA h ((u 0)) x0Em a0Em none, wNe kA (u 0 1) ((u 1)) x0Ne a0Ne]) 22 3322 := by
  intro sz
  refine k_met (cc := b_Em_init) (maxL := 1) (ret := none) (by decide) rfl (Nat.le_of_ble_eq_true rfl) (fun p e s m below meth c ls X hl hB => ?_)
  obtain ⟨hsz, hP, hK, hD0, hN⟩ := hB
  subst hsz
  have hD := hD0.self (sz := s.heap.size)
  generalize hAe : va_A (cat [[(h, .inr (1, [.null, .null, .null, .null, .null, .int 0, .int 0, .int 0, .null, .null, .null, .null, .null, .null, .null, .int 0, .int 0, .int 0, .int 0, .null]))]]) s.heap.size = A at hD ⊢
  have hA : ∀ q : Nat, s.heap.size ≤ q → A q := fun q h => by rw [← hAe]; exact Or.inr h
  have hS : va_S A s.heap s.heap [] := va_S.rf
  obtain ⟨hx, hb, hml, hown, hts, hr, hlk, hnm⟩ := id X
  have hl : lv_has ls 1 [(0, .ref h)] := hl
  have hP : va_P D classes (cat [[(h, .inr (1, [.null, .null, .null, .null, .null, .int 0, .int 0, .int 0, .null, .null, .null, .null, .null, .null, .null, .int 0, .int 0, .int 0, .int 0, .null]))]]) s.heap := hP
  have hK : va_K D classes (TY kA) s := hK
  refine lv_aload_n (pc := 0) hx hb d_Em_init_0 rfl (lv_at hl 0 rfl) ?_
  refine W.objInit hx hb hown (hts _ wm_241) (hts _ wm_31) (hts _ wm_32) rfl (by rw [hml]; exact hl.1) rfl d_Em_init_1 (Nat.le_of_ble_eq_true rfl) (Nat.le_of_ble_eq_true rfl) ?_
  refine W.eq (g2 := F0 m 4 ls []) rfl ?_
  refine lv_aload_n (pc := 4) hx hb d_Em_init_4 rfl (lv_at hl 0 rfl) ?_
  refine lv_null (pc := 5) hx hb d_Em_init_5 ?_
  refine k_put (pc := 6) X hK hP hD hS 0 rfl rfl i_Em t_Em t_Em_ok n_Em 0 (by decide) wm_326 rfl (Or.inl rfl) rfl rfl (Nat.le_of_ble_eq_true rfl) d_Em_init_6 (fun H locs hP hD hS => ?_)
  have hP : va_P D classes (cat [[(h, .inr (1, [.null, .null, .null, .null, .null, .int 0, .int 0, .int 0, .null, .null, .null, .null, .null, .null, .null, .int 0, .int 0, .int 0, .int 0, .null]))]]) H := hP
  have hD : va_D A (cat [[(h, .inr (1, [.null, .null, .null, .null, .null, .int 0, .int 0, .int 0, .null, .null, .null, .null, .null, .null, .null, .int 0, .int 0, .int 0, .int 0, .null]))]]) := hD
  refine lv_aload_n (pc := 9) hx hb d_Em_init_9 rfl (lv_at hl 0 rfl) ?_
  refine k_new (pc := 10) (fs := f0Ne) X i_Ne t_Ne t_Ne_ok wm_242 wm_243 wm_6 hK hP hD hS hA (ci := 5) rfl f0Ne_ok (Nat.le_of_ble_eq_true rfl) (Nat.le_of_ble_eq_true rfl) d_Em_init_10 (fun q1 H hP hD hS => ?_)
  have hP : va_P D classes (cat [[(h, .inr (1, [.null, .null, .null, .null, .null, .int 0, .int 0, .int 0, .null, .null, .null, .null, .null, .null, .null, .int 0, .int 0, .int 0, .int 0, .null]))], [(q1, .inr (5, [.int 0, .int 0, .int 0, .int 0, .null, .int 0, .int 0, .null, .null, .null, .null, .null, .null, .int 0, .null, .null, .null]))]]) H := hP
  have hD : va_D A (cat [[(h, .inr (1, [.null, .null, .null, .null, .null, .int 0, .int 0, .int 0, .null, .null, .null, .null, .null, .null, .null, .int 0, .int 0, .int 0, .int 0, .null]))], [(q1, .inr (5, [.int 0, .int 0, .int 0, .int 0, .null, .int 0, .int 0, .null, .null, .null, .null, .null, .null, .int 0, .null, .null, .null]))]]) := hD
  refine W.widen (k := 1) (n := 17) (by omega) (by omega) ?_
  refine lv_dup (pc := 13) hx hb d_Em_init_13 rfl ?_
  refine k_goV (gr := [[(h, .inr (1, [.null, .null, .null, .null, .null, .int 0, .int 0, .int 0, .null, .null, .null, .null, .null, .null, .null, .int 0, .int 0, .int 0, .int 0, .null]))]]) (k_rIN (pc := 14) (As := []) (rest := [.ref q1, .ref h]) hN X (c_Ne_init l D kA q1 H.size) rfl wm_246 wm_6 wn_244 wm_245 rfl 0 (by decide +kernel) ⟨Nat.le_of_ble_eq_true rfl, Nat.le_of_ble_eq_true rfl⟩ rfl rfl (k_pre hN hK hP hD [1] [0] 2 rfl (by decide) rfl) rfl hl.1 rfl (Nat.le_of_ble_eq_true rfl) d_Em_init_14 ⟨Nat.le_of_ble_eq_true rfl, Nat.le_of_ble_eq_true rfl⟩) hP hD hS hA [1] [0] 2 rfl (by decide) rfl rfl (fun u2 H locs hu2 hP hD hS => ?_)
  have hP : va_P D classes (cat [[(h, .inr (1, [.null, .null, .null, .null, .null, .int 0, .int 0, .int 0, .null, .null, .null, .null, .null, .null, .null, .int 0, .int 0, .int 0, .int 0, .null]))], wNe kA q1 u2 x0Ne a0Ne]) H := hP
  have hD : va_D A (cat [[(h, .inr (1, [.null, .null, .null, .null, .null, .int 0, .int 0, .int 0, .null, .null, .null, .null, .null, .null, .null, .int 0, .int 0, .int 0, .int 0, .null]))], wNe kA q1 u2 x0Ne a0Ne]) := hD
  refine W.widen (k := 11) (n := 1461) (by omega) (by omega) ?_
  refine k_put (pc := 17) X hK hP hD hS 0 rfl rfl i_Em t_Em t_Em_ok n_Em 1 (by decide) wm_327 rfl (Or.inr ⟨rfl, rfl⟩) rfl rfl (Nat.le_of_ble_eq_true rfl) d_Em_init_17 (fun H locs hP hD hS => ?_)
  have hP : va_P D classes (cat [[(h, .inr (1, [.null, .ref q1, .null, .null, .null, .int 0, .int 0, .int 0, .null, .null, .null, .null, .null, .null, .null, .int 0, .int 0, .int 0, .int 0, .null]))], wNe kA q1 u2 x0Ne a0Ne]) H := hP
  have hD : va_D A (cat [[(h, .inr (1, [.null, .ref q1, .null, .null, .null, .int 0, .int 0, .int 0, .null, .null, .null, .null, .null, .null, .null, .int 0, .int 0, .int 0, .int 0, .null]))], wNe kA q1 u2 x0Ne a0Ne]) := hD
  refine lv_aload_n (pc := 20) hx hb d_Em_init_20 rfl (lv_at hl 0 rfl) ?_
  refine lv_bipush (pc := 21) (v := 72) hx hb d_Em_init_21 (by decide) ?_
  refine k_newa (pc := 23) (atype := .int) X (ty := .int) (a0 := (72, .inl (fun _ => 0))) rfl rfl wm_193 hK hP hD hS hA 0 rfl (fun _ => rfl) (by decide) rfl (by decide) (Nat.le_of_ble_eq_true rfl) (Nat.le_of_ble_eq_true rfl) d_Em_init_23 (fun q3 H hP hD hS => ?_)
  have hP : va_P D classes (cat [[(h, .inr (1, [.null, .ref q1, .null, .null, .null, .int 0, .int 0, .int 0, .null, .null, .null, .null, .null, .null, .null, .int 0, .int 0, .int 0, .int 0, .null]))], wNe kA q1 u2 x0Ne a0Ne, [(q3, .inl (kA 0, 72, .inl (fun _ => 0)))]]) H := hP
  have hD : va_D A (cat [[(h, .inr (1, [.null, .ref q1, .null, .null, .null, .int 0, .int 0, .int 0, .null, .null, .null, .null, .null, .null, .null, .int 0, .int 0, .int 0, .int 0, .null]))], wNe kA q1 u2 x0Ne a0Ne, [(q3, .inl (kA 0, 72, .inl (fun _ => 0)))]]) := hD
  refine W.widen (k := 12) (n := 1533) (by omega) (by omega) ?_
  refine k_put (pc := 25) X hK hP hD hS 0 rfl rfl i_Em t_Em t_Em_ok n_Em 2 (by decide) wm_328 rfl (Or.inr ⟨rfl, rfl⟩) rfl rfl (Nat.le_of_ble_eq_true rfl) d_Em_init_25 (fun H locs hP hD hS => ?_)
  have hP : va_P D classes (cat [[(h, .inr (1, [.null, .ref q1, .ref q3, .null, .null, .int 0, .int 0, .int 0, .null, .null, .null, .null, .null, .null, .null, .int 0, .int 0, .int 0, .int 0, .null]))], wNe kA q1 u2 x0Ne a0Ne, [(q3, .inl (kA 0, 72, .inl (fun _ => 0)))]]) H := hP
  have hD : va_D A (cat [[(h, .inr (1, [.null, .ref q1, .ref q3, .null, .null, .int 0, .int 0, .int 0, .null, .null, .null, .null, .null, .null, .null, .int 0, .int 0, .int 0, .int 0, .null]))], wNe kA q1 u2 x0Ne a0Ne, [(q3, .inl (kA 0, 72, .inl (fun _ => 0)))]]) := hD
  refine lv_aload_n (pc := 28) hx hb d_Em_init_28 rfl (lv_at hl 0 rfl) ?_
  refine lv_bipush (pc := 29) (v := 72) hx hb d_Em_init_29 (by decide) ?_
  refine k_newa (pc := 31) (atype := .boolean) X (ty := .boolean) (a0 := (72, .inl (fun _ => 0))) rfl rfl wm_387 hK hP hD hS hA 2 rfl (fun _ => rfl) (by decide) rfl (by decide) (Nat.le_of_ble_eq_true rfl) (Nat.le_of_ble_eq_true rfl) d_Em_init_31 (fun q4 H hP hD hS => ?_)
  have hP : va_P D classes (cat [[(h, .inr (1, [.null, .ref q1, .ref q3, .null, .null, .int 0, .int 0, .int 0, .null, .null, .null, .null, .null, .null, .null, .int 0, .int 0, .int 0, .int 0, .null]))], wNe kA q1 u2 x0Ne a0Ne, [(q3, .inl (kA 0, 72, .inl (fun _ => 0)))], [(q4, .inl (kA 2, 72, .inl (fun _ => 0)))]]) H := hP
  have hD : va_D A (cat [[(h, .inr (1, [.null, .ref q1, .ref q3, .null, .null, .int 0, .int 0, .int 0, .null, .null, .null, .null, .null, .null, .null, .int 0, .int 0, .int 0, .int 0, .null]))], wNe kA q1 u2 x0Ne a0Ne, [(q3, .inl (kA 0, 72, .inl (fun _ => 0)))], [(q4, .inl (kA 2, 72, .inl (fun _ => 0)))]]) := hD
  refine W.widen (k := 13) (n := 1605) (by omega) (by omega) ?_
  refine k_put (pc := 33) X hK hP hD hS 0 rfl rfl i_Em t_Em t_Em_ok n_Em 3 (by decide) wm_329 rfl (Or.inr ⟨rfl, rfl⟩) rfl rfl (Nat.le_of_ble_eq_true rfl) d_Em_init_33 (fun H locs hP hD hS => ?_)
  have hP : va_P D classes (cat [[(h, .inr (1, [.null, .ref q1, .ref q3, .ref q4, .null, .int 0, .int 0, .int 0, .null, .null, .null, .null, .null, .null, .null, .int 0, .int 0, .int 0, .int 0, .null]))], wNe kA q1 u2 x0Ne a0Ne, [(q3, .inl (kA 0, 72, .inl (fun _ => 0)))], [(q4, .inl (kA 2, 72, .inl (fun _ => 0)))]]) H := hP
  have hD : va_D A (cat [[(h, .inr (1, [.null, .ref q1, .ref q3, .ref q4, .null, .int 0, .int 0, .int 0, .null, .null, .null, .null, .null, .null, .null, .int 0, .int 0, .int 0, .int 0, .null]))], wNe kA q1 u2 x0Ne a0Ne, [(q3, .inl (kA 0, 72, .inl (fun _ => 0)))], [(q4, .inl (kA 2, 72, .inl (fun _ => 0)))]]) := hD
  refine lv_aload_n (pc := 36) hx hb d_Em_init_36 rfl (lv_at hl 0 rfl) ?_
  refine lv_bipush (pc := 37) (v := 48) hx hb d_Em_init_37 (by decide) ?_
  refine k_newa (pc := 39) (atype := .boolean) X (ty := .boolean) (a0 := (48, .inl (fun _ => 0))) rfl rfl wm_387 hK hP hD hS hA 2 rfl (fun _ => rfl) (by decide) rfl (by decide) (Nat.le_of_ble_eq_true rfl) (Nat.le_of_ble_eq_true rfl) d_Em_init_39 (fun q5 H hP hD hS => ?_)
  have hP : va_P D classes (cat [[(h, .inr (1, [.null, .ref q1, .ref q3, .ref q4, .null, .int 0, .int 0, .int 0, .null, .null, .null, .null, .null, .null, .null, .int 0, .int 0, .int 0, .int 0, .null]))], wNe kA q1 u2 x0Ne a0Ne, [(q3, .inl (kA 0, 72, .inl (fun _ => 0)))], [(q4, .inl (kA 2, 72, .inl (fun _ => 0)))], [(q5, .inl (kA 2, 48, .inl (fun _ => 0)))]]) H := hP
  have hD : va_D A (cat [[(h, .inr (1, [.null, .ref q1, .ref q3, .ref q4, .null, .int 0, .int 0, .int 0, .null, .null, .null, .null, .null, .null, .null, .int 0, .int 0, .int 0, .int 0, .null]))], wNe kA q1 u2 x0Ne a0Ne, [(q3, .inl (kA 0, 72, .inl (fun _ => 0)))], [(q4, .inl (kA 2, 72, .inl (fun _ => 0)))], [(q5, .inl (kA 2, 48, .inl (fun _ => 0)))]]) := hD
  refine W.widen (k := 14) (n := 1653) (by omega) (by omega) ?_
  refine k_put (pc := 41) X hK hP hD hS 0 rfl rfl i_Em t_Em t_Em_ok n_Em 4 (by decide) wm_330 rfl (Or.inr ⟨rfl, rfl⟩) rfl rfl (Nat.le_of_ble_eq_true rfl) d_Em_init_41 (fun H locs hP hD hS => ?_)
  have hP : va_P D classes (cat [[(h, .inr (1, [.null, .ref q1, .ref q3, .ref q4, .ref q5, .int 0, .int 0, .int 0, .null, .null, .null, .null, .null, .null, .null, .int 0, .int 0, .int 0, .int 0, .null]))], wNe kA q1 u2 x0Ne a0Ne, [(q3, .inl (kA 0, 72, .inl (fun _ => 0)))], [(q4, .inl (kA 2, 72, .inl (fun _ => 0)))], [(q5, .inl (kA 2, 48, .inl (fun _ => 0)))]]) H := hP
  have hD : va_D A (cat [[(h, .inr (1, [.null, .ref q1, .ref q3, .ref q4, .ref q5, .int 0, .int 0, .int 0, .null, .null, .null, .null, .null, .null, .null, .int 0, .int 0, .int 0, .int 0, .null]))], wNe kA q1 u2 x0Ne a0Ne, [(q3, .inl (kA 0, 72, .inl (fun _ => 0)))], [(q4, .inl (kA 2, 72, .inl (fun _ => 0)))], [(q5, .inl (kA 2, 48, .inl (fun _ => 0)))]]) := hD
  refine lv_aload_n (pc := 44) hx hb d_Em_init_44 rfl (lv_at hl 0 rfl) ?_
  refine lv_iconst (pc := 45) (v := 0) hx hb d_Em_init_45 (by decide) ?_
  refine k_put (pc := 46) X hK hP hD hS 0 rfl rfl i_Em t_Em t_Em_ok n_Em 5 (by decide) wm_331 rfl (Or.inl rfl) rfl rfl (Nat.le_of_ble_eq_true rfl) d_Em_init_46 (fun H locs hP hD hS => ?_)
  have hP : va_P D classes (cat [[(h, .inr (1, [.null, .ref q1, .ref q3, .ref q4, .ref q5, .int 0, .int 0, .int 0, .null, .null, .null, .null, .null, .null, .null, .int 0, .int 0, .int 0, .int 0, .null]))], wNe kA q1 u2 x0Ne a0Ne, [(q3, .inl (kA 0, 72, .inl (fun _ => 0)))], [(q4, .inl (kA 2, 72, .inl (fun _ => 0)))], [(q5, .inl (kA 2, 48, .inl (fun _ => 0)))]]) H := hP
  have hD : va_D A (cat [[(h, .inr (1, [.null, .ref q1, .ref q3, .ref q4, .ref q5, .int 0, .int 0, .int 0, .null, .null, .null, .null, .null, .null, .null, .int 0, .int 0, .int 0, .int 0, .null]))], wNe kA q1 u2 x0Ne a0Ne, [(q3, .inl (kA 0, 72, .inl (fun _ => 0)))], [(q4, .inl (kA 2, 72, .inl (fun _ => 0)))], [(q5, .inl (kA 2, 48, .inl (fun _ => 0)))]]) := hD
  refine lv_aload_n (pc := 49) hx hb d_Em_init_49 rfl (lv_at hl 0 rfl) ?_
  refine lv_iconst (pc := 50) (v := 0) hx hb d_Em_init_50 (by decide) ?_
  refine k_put (pc := 51) X hK hP hD hS 0 rfl rfl i_Em t_Em t_Em_ok n_Em 6 (by decide) wm_332 rfl (Or.inl rfl) rfl rfl (Nat.le_of_ble_eq_true rfl) d_Em_init_51 (fun H locs hP hD hS => ?_)
  have hP : va_P D classes (cat [[(h, .inr (1, [.null, .ref q1, .ref q3, .ref q4, .ref q5, .int 0, .int 0, .int 0, .null, .null, .null, .null, .null, .null, .null, .int 0, .int 0, .int 0, .int 0, .null]))], wNe kA q1 u2 x0Ne a0Ne, [(q3, .inl (kA 0, 72, .inl (fun _ => 0)))], [(q4, .inl (kA 2, 72, .inl (fun _ => 0)))], [(q5, .inl (kA 2, 48, .inl (fun _ => 0)))]]) H := hP
  have hD : va_D A (cat [[(h, .inr (1, [.null, .ref q1, .ref q3, .ref q4, .ref q5, .int 0, .int 0, .int 0, .null, .null, .null, .null, .null, .null, .null, .int 0, .int 0, .int 0, .int 0, .null]))], wNe kA q1 u2 x0Ne a0Ne, [(q3, .inl (kA 0, 72, .inl (fun _ => 0)))], [(q4, .inl (kA 2, 72, .inl (fun _ => 0)))], [(q5, .inl (kA 2, 48, .inl (fun _ => 0)))]]) := hD
  refine lv_aload_n (pc := 54) hx hb d_Em_init_54 rfl (lv_at hl 0 rfl) ?_
  refine lv_iconst (pc := 55) (v := 0) hx hb d_Em_init_55 (by decide) ?_
  refine k_put (pc := 56) X hK hP hD hS 0 rfl rfl i_Em t_Em t_Em_ok n_Em 7 (by decide) wm_333 rfl (Or.inl rfl) rfl rfl (Nat.le_of_ble_eq_true rfl) d_Em_init_56 (fun H locs hP hD hS => ?_)
  have hP : va_P D classes (cat [[(h, .inr (1, [.null, .ref q1, .ref q3, .ref q4, .ref q5, .int 0, .int 0, .int 0, .null, .null, .null, .null, .null, .null, .null, .int 0, .int 0, .int 0, .int 0, .null]))], wNe kA q1 u2 x0Ne a0Ne, [(q3, .inl (kA 0, 72, .inl (fun _ => 0)))], [(q4, .inl (kA 2, 72, .inl (fun _ => 0)))], [(q5, .inl (kA 2, 48, .inl (fun _ => 0)))]]) H := hP
  have hD : va_D A (cat [[(h, .inr (1, [.null, .ref q1, .ref q3, .ref q4, .ref q5, .int 0, .int 0, .int 0, .null, .null, .null, .null, .null, .null, .null, .int 0, .int 0, .int 0, .int 0, .null]))], wNe kA q1 u2 x0Ne a0Ne, [(q3, .inl (kA 0, 72, .inl (fun _ => 0)))], [(q4, .inl (kA 2, 72, .inl (fun _ => 0)))], [(q5, .inl (kA 2, 48, .inl (fun _ => 0)))]]) := hD
  refine lv_aload_n (pc := 59) hx hb d_Em_init_59 rfl (lv_at hl 0 rfl) ?_
  refine lv_sipush (pc := 60) (v := 1250) hx hb d_Em_init_60 (by decide) ?_
  refine k_newa (pc := 63) (atype := .int) X (ty := .int) (a0 := (1250, .inl (fun _ => 0))) rfl rfl wm_193 hK hP hD hS hA 0 rfl (fun _ => rfl) (by decide) rfl (by decide) (Nat.le_of_ble_eq_true rfl) (Nat.le_of_ble_eq_true rfl) d_Em_init_63 (fun q6 H hP hD hS => ?_)
  have hP : va_P D classes (cat [[(h, .inr (1, [.null, .ref q1, .ref q3, .ref q4, .ref q5, .int 0, .int 0, .int 0, .null, .null, .null, .null, .null, .null, .null, .int 0, .int 0, .int 0, .int 0, .null]))], wNe kA q1 u2 x0Ne a0Ne, [(q3, .inl (kA 0, 72, .inl (fun _ => 0)))], [(q4, .inl (kA 2, 72, .inl (fun _ => 0)))], [(q5, .inl (kA 2, 48, .inl (fun _ => 0)))], [(q6, .inl (kA 0, 1250, .inl (fun _ => 0)))]]) H := hP
  have hD : va_D A (cat [[(h, .inr (1, [.null, .ref q1, .ref q3, .ref q4, .ref q5, .int 0, .int 0, .int 0, .null, .null, .null, .null, .null, .null, .null, .int 0, .int 0, .int 0, .int 0, .null]))], wNe kA q1 u2 x0Ne a0Ne, [(q3, .inl (kA 0, 72, .inl (fun _ => 0)))], [(q4, .inl (kA 2, 72, .inl (fun _ => 0)))], [(q5, .inl (kA 2, 48, .inl (fun _ => 0)))], [(q6, .inl (kA 0, 1250, .inl (fun _ => 0)))]]) := hD
  refine W.widen (k := 15) (n := 2903) (by omega) (by omega) ?_
  refine k_put (pc := 65) X hK hP hD hS 0 rfl rfl i_Em t_Em t_Em_ok n_Em 8 (by decide) wm_334 rfl (Or.inr ⟨rfl, rfl⟩) rfl rfl (Nat.le_of_ble_eq_true rfl) d_Em_init_65 (fun H locs hP hD hS => ?_)
  have hP : va_P D classes (cat [[(h, .inr (1, [.null, .ref q1, .ref q3, .ref q4, .ref q5, .int 0, .int 0, .int 0, .ref q6, .null, .null, .null, .null, .null, .null, .int 0, .int 0, .int 0, .int 0, .null]))], wNe kA q1 u2 x0Ne a0Ne, [(q3, .inl (kA 0, 72, .inl (fun _ => 0)))], [(q4, .inl (kA 2, 72, .inl (fun _ => 0)))], [(q5, .inl (kA 2, 48, .inl (fun _ => 0)))], [(q6, .inl (kA 0, 1250, .inl (fun _ => 0)))]]) H := hP
  have hD : va_D A (cat [[(h, .inr (1, [.null, .ref q1, .ref q3, .ref q4, .ref q5, .int 0, .int 0, .int 0, .ref q6, .null, .null, .null, .null, .null, .null, .int 0, .int 0, .int 0, .int 0, .null]))], wNe kA q1 u2 x0Ne a0Ne, [(q3, .inl (kA 0, 72, .inl (fun _ => 0)))], [(q4, .inl (kA 2, 72, .inl (fun _ => 0)))], [(q5, .inl (kA 2, 48, .inl (fun _ => 0)))], [(q6, .inl (kA 0, 1250, .inl (fun _ => 0)))]]) := hD
  refine lv_aload_n (pc := 68) hx hb d_Em_init_68 rfl (lv_at hl 0 rfl) ?_
  refine lv_bipush (pc := 69) (v := 50) hx hb d_Em_init_69 (by decide) ?_
  refine k_newa (pc := 71) (atype := .int) X (ty := .int) (a0 := (50, .inl (fun _ => 0))) rfl rfl wm_193 hK hP hD hS hA 0 rfl (fun _ => rfl) (by decide) rfl (by decide) (Nat.le_of_ble_eq_true rfl) (Nat.le_of_ble_eq_true rfl) d_Em_init_71 (fun q7 H hP hD hS => ?_)
  have hP : va_P D classes (cat [[(h, .inr (1, [.null, .ref q1, .ref q3, .ref q4, .ref q5, .int 0, .int 0, .int 0, .ref q6, .null, .null, .null, .null, .null, .null, .int 0, .int 0, .int 0, .int 0, .null]))], wNe kA q1 u2 x0Ne a0Ne, [(q3, .inl (kA 0, 72, .inl (fun _ => 0)))], [(q4, .inl (kA 2, 72, .inl (fun _ => 0)))], [(q5, .inl (kA 2, 48, .inl (fun _ => 0)))], [(q6, .inl (kA 0, 1250, .inl (fun _ => 0)))], [(q7, .inl (kA 0, 50, .inl (fun _ => 0)))]]) H := hP
  have hD : va_D A (cat [[(h, .inr (1, [.null, .ref q1, .ref q3, .ref q4, .ref q5, .int 0, .int 0, .int 0, .ref q6, .null, .null, .null, .null, .null, .null, .int 0, .int 0, .int 0, .int 0, .null]))], wNe kA q1 u2 x0Ne a0Ne, [(q3, .inl (kA 0, 72, .inl (fun _ => 0)))], [(q4, .inl (kA 2, 72, .inl (fun _ => 0)))], [(q5, .inl (kA 2, 48, .inl (fun _ => 0)))], [(q6, .inl (kA 0, 1250, .inl (fun _ => 0)))], [(q7, .inl (kA 0, 50, .inl (fun _ => 0)))]]) := hD
  refine W.widen (k := 16) (n := 2953) (by omega) (by omega) ?_
  refine k_put (pc := 73) X hK hP hD hS 0 rfl rfl i_Em t_Em t_Em_ok n_Em 9 (by decide) wm_335 rfl (Or.inr ⟨rfl, rfl⟩) rfl rfl (Nat.le_of_ble_eq_true rfl) d_Em_init_73 (fun H locs hP hD hS => ?_)
  have hP : va_P D classes (cat [[(h, .inr (1, [.null, .ref q1, .ref q3, .ref q4, .ref q5, .int 0, .int 0, .int 0, .ref q6, .ref q7, .null, .null, .null, .null, .null, .int 0, .int 0, .int 0, .int 0, .null]))], wNe kA q1 u2 x0Ne a0Ne, [(q3, .inl (kA 0, 72, .inl (fun _ => 0)))], [(q4, .inl (kA 2, 72, .inl (fun _ => 0)))], [(q5, .inl (kA 2, 48, .inl (fun _ => 0)))], [(q6, .inl (kA 0, 1250, .inl (fun _ => 0)))], [(q7, .inl (kA 0, 50, .inl (fun _ => 0)))]]) H := hP
  have hD : va_D A (cat [[(h, .inr (1, [.null, .ref q1, .ref q3, .ref q4, .ref q5, .int 0, .int 0, .int 0, .ref q6, .ref q7, .null, .null, .null, .null, .null, .int 0, .int 0, .int 0, .int 0, .null]))], wNe kA q1 u2 x0Ne a0Ne, [(q3, .inl (kA 0, 72, .inl (fun _ => 0)))], [(q4, .inl (kA 2, 72, .inl (fun _ => 0)))], [(q5, .inl (kA 2, 48, .inl (fun _ => 0)))], [(q6, .inl (kA 0, 1250, .inl (fun _ => 0)))], [(q7, .inl (kA 0, 50, .inl (fun _ => 0)))]]) := hD
  refine lv_aload_n (pc := 76) hx hb d_Em_init_76 rfl (lv_at hl 0 rfl) ?_
  refine lv_bipush (pc := 77) (v := 50) hx hb d_Em_init_77 (by decide) ?_
  refine k_newa (pc := 79) (atype := .int) X (ty := .int) (a0 := (50, .inl (fun _ => 0))) rfl rfl wm_193 hK hP hD hS hA 0 rfl (fun _ => rfl) (by decide) rfl (by decide) (Nat.le_of_ble_eq_true rfl) (Nat.le_of_ble_eq_true rfl) d_Em_init_79 (fun q8 H hP hD hS => ?_)
  have hP : va_P D classes (cat [[(h, .inr (1, [.null, .ref q1, .ref q3, .ref q4, .ref q5, .int 0, .int 0, .int 0, .ref q6, .ref q7, .null, .null, .null, .null, .null, .int 0, .int 0, .int 0, .int 0, .null]))], wNe kA q1 u2 x0Ne a0Ne, [(q3, .inl (kA 0, 72, .inl (fun _ => 0)))], [(q4, .inl (kA 2, 72, .inl (fun _ => 0)))], [(q5, .inl (kA 2, 48, .inl (fun _ => 0)))], [(q6, .inl (kA 0, 1250, .inl (fun _ => 0)))], [(q7, .inl (kA 0, 50, .inl (fun _ => 0)))], [(q8, .inl (kA 0, 50, .inl (fun _ => 0)))]]) H := hP
  have hD : va_D A (cat [[(h, .inr (1, [.null, .ref q1, .ref q3, .ref q4, .ref q5, .int 0, .int 0, .int 0, .ref q6, .ref q7, .null, .null, .null, .null, .null, .int 0, .int 0, .int 0, .int 0, .null]))], wNe kA q1 u2 x0Ne a0Ne, [(q3, .inl (kA 0, 72, .inl (fun _ => 0)))], [(q4, .inl (kA 2, 72, .inl (fun _ => 0)))], [(q5, .inl (kA 2, 48, .inl (fun _ => 0)))], [(q6, .inl (kA 0, 1250, .inl (fun _ => 0)))], [(q7, .inl (kA 0, 50, .inl (fun _ => 0)))], [(q8, .inl (kA 0, 50, .inl (fun _ => 0)))]]) := hD
  refine W.widen (k := 17) (n := 3003) (by omega) (by omega) ?_
  refine k_put (pc := 81) X hK hP hD hS 0 rfl rfl i_Em t_Em t_Em_ok n_Em 10 (by decide) wm_336 rfl (Or.inr ⟨rfl, rfl⟩) rfl rfl (Nat.le_of_ble_eq_true rfl) d_Em_init_81 (fun H locs hP hD hS => ?_)
  have hP : va_P D classes (cat [[(h, .inr (1, [.null, .ref q1, .ref q3, .ref q4, .ref q5, .int 0, .int 0, .int 0, .ref q6, .ref q7, .ref q8, .null, .null, .null, .null, .int 0, .int 0, .int 0, .int 0, .null]))], wNe kA q1 u2 x0Ne a0Ne, [(q3, .inl (kA 0, 72, .inl (fun _ => 0)))], [(q4, .inl (kA 2, 72, .inl (fun _ => 0)))], [(q5, .inl (kA 2, 48, .inl (fun _ => 0)))], [(q6, .inl (kA 0, 1250, .inl (fun _ => 0)))], [(q7, .inl (kA 0, 50, .inl (fun _ => 0)))], [(q8, .inl (kA 0, 50, .inl (fun _ => 0)))]]) H := hP
  have hD : va_D A (cat [[(h, .inr (1, [.null, .ref q1, .ref q3, .ref q4, .ref q5, .int 0, .int 0, .int 0, .ref q6, .ref q7, .ref q8, .null, .null, .null, .null, .int 0, .int 0, .int 0, .int 0, .null]))], wNe kA q1 u2 x0Ne a0Ne, [(q3, .inl (kA 0, 72, .inl (fun _ => 0)))], [(q4, .inl (kA 2, 72, .inl (fun _ => 0)))], [(q5, .inl (kA 2, 48, .inl (fun _ => 0)))], [(q6, .inl (kA 0, 1250, .inl (fun _ => 0)))], [(q7, .inl (kA 0, 50, .inl (fun _ => 0)))], [(q8, .inl (kA 0, 50, .inl (fun _ => 0)))]]) := hD
  refine lv_aload_n (pc := 84) hx hb d_Em_init_84 rfl (lv_at hl 0 rfl) ?_
  refine lv_bipush (pc := 85) (v := 50) hx hb d_Em_init_85 (by decide) ?_
  refine k_newa (pc := 87) (atype := .int) X (ty := .int) (a0 := (50, .inl (fun _ => 0))) rfl rfl wm_193 hK hP hD hS hA 0 rfl (fun _ => rfl) (by decide) rfl (by decide) (Nat.le_of_ble_eq_true rfl) (Nat.le_of_ble_eq_true rfl) d_Em_init_87 (fun q9 H hP hD hS => ?_)
  have hP : va_P D classes (cat [[(h, .inr (1, [.null, .ref q1, .ref q3, .ref q4, .ref q5, .int 0, .int 0, .int 0, .ref q6, .ref q7, .ref q8, .null, .null, .null, .null, .int 0, .int 0, .int 0, .int 0, .null]))], wNe kA q1 u2 x0Ne a0Ne, [(q3, .inl (kA 0, 72, .inl (fun _ => 0)))], [(q4, .inl (kA 2, 72, .inl (fun _ => 0)))], [(q5, .inl (kA 2, 48, .inl (fun _ => 0)))], [(q6, .inl (kA 0, 1250, .inl (fun _ => 0)))], [(q7, .inl (kA 0, 50, .inl (fun _ => 0)))], [(q8, .inl (kA 0, 50, .inl (fun _ => 0)))], [(q9, .inl (kA 0, 50, .inl (fun _ => 0)))]]) H := hP
  have hD : va_D A (cat [[(h, .inr (1, [.null, .ref q1, .ref q3, .ref q4, .ref q5, .int 0, .int 0, .int 0, .ref q6, .ref q7, .ref q8, .null, .null, .null, .null, .int 0, .int 0, .int 0, .int 0, .null]))], wNe kA q1 u2 x0Ne a0Ne, [(q3, .inl (kA 0, 72, .inl (fun _ => 0)))], [(q4, .inl (kA 2, 72, .inl (fun _ => 0)))], [(q5, .inl (kA 2, 48, .inl (fun _ => 0)))], [(q6, .inl (kA 0, 1250, .inl (fun _ => 0)))], [(q7, .inl (kA 0, 50, .inl (fun _ => 0)))], [(q8, .inl (kA 0, 50, .inl (fun _ => 0)))], [(q9, .inl (kA 0, 50, .inl (fun _ => 0)))]]) := hD
  refine W.widen (k := 18) (n := 3053) (by omega) (by omega) ?_
  refine k_put (pc := 89) X hK hP hD hS 0 rfl rfl i_Em t_Em t_Em_ok n_Em 11 (by decide) wm_337 rfl (Or.inr ⟨rfl, rfl⟩) rfl rfl (Nat.le_of_ble_eq_true rfl) d_Em_init_89 (fun H locs hP hD hS => ?_)
  have hP : va_P D classes (cat [[(h, .inr (1, [.null, .ref q1, .ref q3, .ref q4, .ref q5, .int 0, .int 0, .int 0, .ref q6, .ref q7, .ref q8, .ref q9, .null, .null, .null, .int 0, .int 0, .int 0, .int 0, .null]))], wNe kA q1 u2 x0Ne a0Ne, [(q3, .inl (kA 0, 72, .inl (fun _ => 0)))], [(q4, .inl (kA 2, 72, .inl (fun _ => 0)))], [(q5, .inl (kA 2, 48, .inl (fun _ => 0)))], [(q6, .inl (kA 0, 1250, .inl (fun _ => 0)))], [(q7, .inl (kA 0, 50, .inl (fun _ => 0)))], [(q8, .inl (kA 0, 50, .inl (fun _ => 0)))], [(q9, .inl (kA 0, 50, .inl (fun _ => 0)))]]) H := hP
  have hD : va_D A (cat [[(h, .inr (1, [.null, .ref q1, .ref q3, .ref q4, .ref q5, .int 0, .int 0, .int 0, .ref q6, .ref q7, .ref q8, .ref q9, .null, .null, .null, .int 0, .int 0, .int 0, .int 0, .null]))], wNe kA q1 u2 x0Ne a0Ne, [(q3, .inl (kA 0, 72, .inl (fun _ => 0)))], [(q4, .inl (kA 2, 72, .inl (fun _ => 0)))], [(q5, .inl (kA 2, 48, .inl (fun _ => 0)))], [(q6, .inl (kA 0, 1250, .inl (fun _ => 0)))], [(q7, .inl (kA 0, 50, .inl (fun _ => 0)))], [(q8, .inl (kA 0, 50, .inl (fun _ => 0)))], [(q9, .inl (kA 0, 50, .inl (fun _ => 0)))]]) := hD
  refine lv_aload_n (pc := 92) hx hb d_Em_init_92 rfl (lv_at hl 0 rfl) ?_
  refine lv_sipush (pc := 93) (v := 144) hx hb d_Em_init_93 (by decide) ?_
  refine k_newa (pc := 96) (atype := .int) X (ty := .int) (a0 := (144, .inl (fun _ => 0))) rfl rfl wm_193 hK hP hD hS hA 0 rfl (fun _ => rfl) (by decide) rfl (by decide) (Nat.le_of_ble_eq_true rfl) (Nat.le_of_ble_eq_true rfl) d_Em_init_96 (fun q10 H hP hD hS => ?_)
  have hP : va_P D classes (cat [[(h, .inr (1, [.null, .ref q1, .ref q3, .ref q4, .ref q5, .int 0, .int 0, .int 0, .ref q6, .ref q7, .ref q8, .ref q9, .null, .null, .null, .int 0, .int 0, .int 0, .int 0, .null]))], wNe kA q1 u2 x0Ne a0Ne, [(q3, .inl (kA 0, 72, .inl (fun _ => 0)))], [(q4, .inl (kA 2, 72, .inl (fun _ => 0)))], [(q5, .inl (kA 2, 48, .inl (fun _ => 0)))], [(q6, .inl (kA 0, 1250, .inl (fun _ => 0)))], [(q7, .inl (kA 0, 50, .inl (fun _ => 0)))], [(q8, .inl (kA 0, 50, .inl (fun _ => 0)))], [(q9, .inl (kA 0, 50, .inl (fun _ => 0)))], [(q10, .inl (kA 0, 144, .inl (fun _ => 0)))]]) H := hP
  have hD : va_D A (cat [[(h, .inr (1, [.null, .ref q1, .ref q3, .ref q4, .ref q5, .int 0, .int 0, .int 0, .ref q6, .ref q7, .ref q8, .ref q9, .null, .null, .null, .int 0, .int 0, .int 0, .int 0, .null]))], wNe kA q1 u2 x0Ne a0Ne, [(q3, .inl (kA 0, 72, .inl (fun _ => 0)))], [(q4, .inl (kA 2, 72, .inl (fun _ => 0)))], [(q5, .inl (kA 2, 48, .inl (fun _ => 0)))], [(q6, .inl (kA 0, 1250, .inl (fun _ => 0)))], [(q7, .inl (kA 0, 50, .inl (fun _ => 0)))], [(q8, .inl (kA 0, 50, .inl (fun _ => 0)))], [(q9, .inl (kA 0, 50, .inl (fun _ => 0)))], [(q10, .inl (kA 0, 144, .inl (fun _ => 0)))]]) := hD
  refine W.widen (k := 19) (n := 3197) (by omega) (by omega) ?_
  refine k_put (pc := 98) X hK hP hD hS 0 rfl rfl i_Em t_Em t_Em_ok n_Em 12 (by decide) wm_338 rfl (Or.inr ⟨rfl, rfl⟩) rfl rfl (Nat.le_of_ble_eq_true rfl) d_Em_init_98 (fun H locs hP hD hS => ?_)
  have hP : va_P D classes (cat [[(h, .inr (1, [.null, .ref q1, .ref q3, .ref q4, .ref q5, .int 0, .int 0, .int 0, .ref q6, .ref q7, .ref q8, .ref q9, .ref q10, .null, .null, .int 0, .int 0, .int 0, .int 0, .null]))], wNe kA q1 u2 x0Ne a0Ne, [(q3, .inl (kA 0, 72, .inl (fun _ => 0)))], [(q4, .inl (kA 2, 72, .inl (fun _ => 0)))], [(q5, .inl (kA 2, 48, .inl (fun _ => 0)))], [(q6, .inl (kA 0, 1250, .inl (fun _ => 0)))], [(q7, .inl (kA 0, 50, .inl (fun _ => 0)))], [(q8, .inl (kA 0, 50, .inl (fun _ => 0)))], [(q9, .inl (kA 0, 50, .inl (fun _ => 0)))], [(q10, .inl (kA 0, 144, .inl (fun _ => 0)))]]) H := hP
  have hD : va_D A (cat [[(h, .inr (1, [.null, .ref q1, .ref q3, .ref q4, .ref q5, .int 0, .int 0, .int 0, .ref q6, .ref q7, .ref q8, .ref q9, .ref q10, .null, .null, .int 0, .int 0, .int 0, .int 0, .null]))], wNe kA q1 u2 x0Ne a0Ne, [(q3, .inl (kA 0, 72, .inl (fun _ => 0)))], [(q4, .inl (kA 2, 72, .inl (fun _ => 0)))], [(q5, .inl (kA 2, 48, .inl (fun _ => 0)))], [(q6, .inl (kA 0, 1250, .inl (fun _ => 0)))], [(q7, .inl (kA 0, 50, .inl (fun _ => 0)))], [(q8, .inl (kA 0, 50, .inl (fun _ => 0)))], [(q9, .inl (kA 0, 50, .inl (fun _ => 0)))], [(q10, .inl (kA 0, 144, .inl (fun _ => 0)))]]) := hD
  refine lv_aload_n (pc := 101) hx hb d_Em_init_101 rfl (lv_at hl 0 rfl) ?_
  refine lv_bipush (pc := 102) (v := 26) hx hb d_Em_init_102 (by decide) ?_
  refine k_newa (pc := 104) (atype := .int) X (ty := .int) (a0 := (26, .inl (fun _ => 0))) rfl rfl wm_193 hK hP hD hS hA 0 rfl (fun _ => rfl) (by decide) rfl (by decide) (Nat.le_of_ble_eq_true rfl) (Nat.le_of_ble_eq_true rfl) d_Em_init_104 (fun q11 H hP hD hS => ?_)
  have hP : va_P D classes (cat [[(h, .inr (1, [.null, .ref q1, .ref q3, .ref q4, .ref q5, .int 0, .int 0, .int 0, .ref q6, .ref q7, .ref q8, .ref q9, .ref q10, .null, .null, .int 0, .int 0, .int 0, .int 0, .null]))], wNe kA q1 u2 x0Ne a0Ne, [(q3, .inl (kA 0, 72, .inl (fun _ => 0)))], [(q4, .inl (kA 2, 72, .inl (fun _ => 0)))], [(q5, .inl (kA 2, 48, .inl (fun _ => 0)))], [(q6, .inl (kA 0, 1250, .inl (fun _ => 0)))], [(q7, .inl (kA 0, 50, .inl (fun _ => 0)))], [(q8, .inl (kA 0, 50, .inl (fun _ => 0)))], [(q9, .inl (kA 0, 50, .inl (fun _ => 0)))], [(q10, .inl (kA 0, 144, .inl (fun _ => 0)))], [(q11, .inl (kA 0, 26, .inl (fun _ => 0)))]]) H := hP
  have hD : va_D A (cat [[(h, .inr (1, [.null, .ref q1, .ref q3, .ref q4, .ref q5, .int 0, .int 0, .int 0, .ref q6, .ref q7, .ref q8, .ref q9, .ref q10, .null, .null, .int 0, .int 0, .int 0, .int 0, .null]))], wNe kA q1 u2 x0Ne a0Ne, [(q3, .inl (kA 0, 72, .inl (fun _ => 0)))], [(q4, .inl (kA 2, 72, .inl (fun _ => 0)))], [(q5, .inl (kA 2, 48, .inl (fun _ => 0)))], [(q6, .inl (kA 0, 1250, .inl (fun _ => 0)))], [(q7, .inl (kA 0, 50, .inl (fun _ => 0)))], [(q8, .inl (kA 0, 50, .inl (fun _ => 0)))], [(q9, .inl (kA 0, 50, .inl (fun _ => 0)))], [(q10, .inl (kA 0, 144, .inl (fun _ => 0)))], [(q11, .inl (kA 0, 26, .inl (fun _ => 0)))]]) := hD
  refine W.widen (k := 20) (n := 3223) (by omega) (by omega) ?_
  refine k_put (pc := 106) X hK hP hD hS 0 rfl rfl i_Em t_Em t_Em_ok n_Em 13 (by decide) wm_339 rfl (Or.inr ⟨rfl, rfl⟩) rfl rfl (Nat.le_of_ble_eq_true rfl) d_Em_init_106 (fun H locs hP hD hS => ?_)
  have hP : va_P D classes (cat [[(h, .inr (1, [.null, .ref q1, .ref q3, .ref q4, .ref q5, .int 0, .int 0, .int 0, .ref q6, .ref q7, .ref q8, .ref q9, .ref q10, .ref q11, .null, .int 0, .int 0, .int 0, .int 0, .null]))], wNe kA q1 u2 x0Ne a0Ne, [(q3, .inl (kA 0, 72, .inl (fun _ => 0)))], [(q4, .inl (kA 2, 72, .inl (fun _ => 0)))], [(q5, .inl (kA 2, 48, .inl (fun _ => 0)))], [(q6, .inl (kA 0, 1250, .inl (fun _ => 0)))], [(q7, .inl (kA 0, 50, .inl (fun _ => 0)))], [(q8, .inl (kA 0, 50, .inl (fun _ => 0)))], [(q9, .inl (kA 0, 50, .inl (fun _ => 0)))], [(q10, .inl (kA 0, 144, .inl (fun _ => 0)))], [(q11, .inl (kA 0, 26, .inl (fun _ => 0)))]]) H := hP
  have hD : va_D A (cat [[(h, .inr (1, [.null, .ref q1, .ref q3, .ref q4, .ref q5, .int 0, .int 0, .int 0, .ref q6, .ref q7, .ref q8, .ref q9, .ref q10, .ref q11, .null, .int 0, .int 0, .int 0, .int 0, .null]))], wNe kA q1 u2 x0Ne a0Ne, [(q3, .inl (kA 0, 72, .inl (fun _ => 0)))], [(q4, .inl (kA 2, 72, .inl (fun _ => 0)))], [(q5, .inl (kA 2, 48, .inl (fun _ => 0)))], [(q6, .inl (kA 0, 1250, .inl (fun _ => 0)))], [(q7, .inl (kA 0, 50, .inl (fun _ => 0)))], [(q8, .inl (kA 0, 50, .inl (fun _ => 0)))], [(q9, .inl (kA 0, 50, .inl (fun _ => 0)))], [(q10, .inl (kA 0, 144, .inl (fun _ => 0)))], [(q11, .inl (kA 0, 26, .inl (fun _ => 0)))]]) := hD
  refine lv_aload_n (pc := 109) hx hb d_Em_init_109 rfl (lv_at hl 0 rfl) ?_
  refine lv_bipush (pc := 110) (v := 27) hx hb d_Em_init_110 (by decide) ?_
  refine k_newa (pc := 112) (atype := .int) X (ty := .int) (a0 := (27, .inl (fun _ => 0))) rfl rfl wm_193 hK hP hD hS hA 0 rfl (fun _ => rfl) (by decide) rfl (by decide) (Nat.le_of_ble_eq_true rfl) (Nat.le_of_ble_eq_true rfl) d_Em_init_112 (fun q12 H hP hD hS => ?_)
  have hP : va_P D classes (cat [[(h, .inr (1, [.null, .ref q1, .ref q3, .ref q4, .ref q5, .int 0, .int 0, .int 0, .ref q6, .ref q7, .ref q8, .ref q9, .ref q10, .ref q11, .null, .int 0, .int 0, .int 0, .int 0, .null]))], wNe kA q1 u2 x0Ne a0Ne, [(q3, .inl (kA 0, 72, .inl (fun _ => 0)))], [(q4, .inl (kA 2, 72, .inl (fun _ => 0)))], [(q5, .inl (kA 2, 48, .inl (fun _ => 0)))], [(q6, .inl (kA 0, 1250, .inl (fun _ => 0)))], [(q7, .inl (kA 0, 50, .inl (fun _ => 0)))], [(q8, .inl (kA 0, 50, .inl (fun _ => 0)))], [(q9, .inl (kA 0, 50, .inl (fun _ => 0)))], [(q10, .inl (kA 0, 144, .inl (fun _ => 0)))], [(q11, .inl (kA 0, 26, .inl (fun _ => 0)))], [(q12, .inl (kA 0, 27, .inl (fun _ => 0)))]]) H := hP
  have hD : va_D A (cat [[(h, .inr (1, [.null, .ref q1, .ref q3, .ref q4, .ref q5, .int 0, .int 0, .int 0, .ref q6, .ref q7, .ref q8, .ref q9, .ref q10, .ref q11, .null, .int 0, .int 0, .int 0, .int 0, .null]))], wNe kA q1 u2 x0Ne a0Ne, [(q3, .inl (kA 0, 72, .inl (fun _ => 0)))], [(q4, .inl (kA 2, 72, .inl (fun _ => 0)))], [(q5, .inl (kA 2, 48, .inl (fun _ => 0)))], [(q6, .inl (kA 0, 1250, .inl (fun _ => 0)))], [(q7, .inl (kA 0, 50, .inl (fun _ => 0)))], [(q8, .inl (kA 0, 50, .inl (fun _ => 0)))], [(q9, .inl (kA 0, 50, .inl (fun _ => 0)))], [(q10, .inl (kA 0, 144, .inl (fun _ => 0)))], [(q11, .inl (kA 0, 26, .inl (fun _ => 0)))], [(q12, .inl (kA 0, 27, .inl (fun _ => 0)))]]) := hD
  refine W.widen (k := 21) (n := 3250) (by omega) (by omega) ?_
  refine k_put (pc := 114) X hK hP hD hS 0 rfl rfl i_Em t_Em t_Em_ok n_Em 14 (by decide) wm_340 rfl (Or.inr ⟨rfl, rfl⟩) rfl rfl (Nat.le_of_ble_eq_true rfl) d_Em_init_114 (fun H locs hP hD hS => ?_)
  have hP : va_P D classes (cat [[(h, .inr (1, [.null, .ref q1, .ref q3, .ref q4, .ref q5, .int 0, .int 0, .int 0, .ref q6, .ref q7, .ref q8, .ref q9, .ref q10, .ref q11, .ref q12, .int 0, .int 0, .int 0, .int 0, .null]))], wNe kA q1 u2 x0Ne a0Ne, [(q3, .inl (kA 0, 72, .inl (fun _ => 0)))], [(q4, .inl (kA 2, 72, .inl (fun _ => 0)))], [(q5, .inl (kA 2, 48, .inl (fun _ => 0)))], [(q6, .inl (kA 0, 1250, .inl (fun _ => 0)))], [(q7, .inl (kA 0, 50, .inl (fun _ => 0)))], [(q8, .inl (kA 0, 50, .inl (fun _ => 0)))], [(q9, .inl (kA 0, 50, .inl (fun _ => 0)))], [(q10, .inl (kA 0, 144, .inl (fun _ => 0)))], [(q11, .inl (kA 0, 26, .inl (fun _ => 0)))], [(q12, .inl (kA 0, 27, .inl (fun _ => 0)))]]) H := hP
  have hD : va_D A (cat [[(h, .inr (1, [.null, .ref q1, .ref q3, .ref q4, .ref q5, .int 0, .int 0, .int 0, .ref q6, .ref q7, .ref q8, .ref q9, .ref q10, .ref q11, .ref q12, .int 0, .int 0, .int 0, .int 0, .null]))], wNe kA q1 u2 x0Ne a0Ne, [(q3, .inl (kA 0, 72, .inl (fun _ => 0)))], [(q4, .inl (kA 2, 72, .inl (fun _ => 0)))], [(q5, .inl (kA 2, 48, .inl (fun _ => 0)))], [(q6, .inl (kA 0, 1250, .inl (fun _ => 0)))], [(q7, .inl (kA 0, 50, .inl (fun _ => 0)))], [(q8, .inl (kA 0, 50, .inl (fun _ => 0)))], [(q9, .inl (kA 0, 50, .inl (fun _ => 0)))], [(q10, .inl (kA 0, 144, .inl (fun _ => 0)))], [(q11, .inl (kA 0, 26, .inl (fun _ => 0)))], [(q12, .inl (kA 0, 27, .inl (fun _ => 0)))]]) := hD
  refine lv_aload_n (pc := 117) hx hb d_Em_init_117 rfl (lv_at hl 0 rfl) ?_
  refine lv_iconst (pc := 118) (v := 0) hx hb d_Em_init_118 (by decide) ?_
  refine k_put (pc := 119) X hK hP hD hS 0 rfl rfl i_Em t_Em t_Em_ok n_Em 15 (by decide) wm_341 rfl (Or.inl rfl) rfl rfl (Nat.le_of_ble_eq_true rfl) d_Em_init_119 (fun H locs hP hD hS => ?_)
  have hP : va_P D classes (cat [[(h, .inr (1, [.null, .ref q1, .ref q3, .ref q4, .ref q5, .int 0, .int 0, .int 0, .ref q6, .ref q7, .ref q8, .ref q9, .ref q10, .ref q11, .ref q12, .int 0, .int 0, .int 0, .int 0, .null]))], wNe kA q1 u2 x0Ne a0Ne, [(q3, .inl (kA 0, 72, .inl (fun _ => 0)))], [(q4, .inl (kA 2, 72, .inl (fun _ => 0)))], [(q5, .inl (kA 2, 48, .inl (fun _ => 0)))], [(q6, .inl (kA 0, 1250, .inl (fun _ => 0)))], [(q7, .inl (kA 0, 50, .inl (fun _ => 0)))], [(q8, .inl (kA 0, 50, .inl (fun _ => 0)))], [(q9, .inl (kA 0, 50, .inl (fun _ => 0)))], [(q10, .inl (kA 0, 144, .inl (fun _ => 0)))], [(q11, .inl (kA 0, 26, .inl (fun _ => 0)))], [(q12, .inl (kA 0, 27, .inl (fun _ => 0)))]]) H := hP
  have hD : va_D A (cat [[(h, .inr (1, [.null, .ref q1, .ref q3, .ref q4, .ref q5, .int 0, .int 0, .int 0, .ref q6, .ref q7, .ref q8, .ref q9, .ref q10, .ref q11, .ref q12, .int 0, .int 0, .int 0, .int 0, .null]))], wNe kA q1 u2 x0Ne a0Ne, [(q3, .inl (kA 0, 72, .inl (fun _ => 0)))], [(q4, .inl (kA 2, 72, .inl (fun _ => 0)))], [(q5, .inl (kA 2, 48, .inl (fun _ => 0)))], [(q6, .inl (kA 0, 1250, .inl (fun _ => 0)))], [(q7, .inl (kA 0, 50, .inl (fun _ => 0)))], [(q8, .inl (kA 0, 50, .inl (fun _ => 0)))], [(q9, .inl (kA 0, 50, .inl (fun _ => 0)))], [(q10, .inl (kA 0, 144, .inl (fun _ => 0)))], [(q11, .inl (kA 0, 26, .inl (fun _ => 0)))], [(q12, .inl (kA 0, 27, .inl (fun _ => 0)))]]) := hD
  refine lv_aload_n (pc := 122) hx hb d_Em_init_122 rfl (lv_at hl 0 rfl) ?_
  refine lv_iconst (pc := 123) (v := 0) hx hb d_Em_init_123 (by decide) ?_
  refine k_put (pc := 124) X hK hP hD hS 0 rfl rfl i_Em t_Em t_Em_ok n_Em 16 (by decide) wm_342 rfl (Or.inl rfl) rfl rfl (Nat.le_of_ble_eq_true rfl) d_Em_init_124 (fun H locs hP hD hS => ?_)
  have hP : va_P D classes (cat [[(h, .inr (1, [.null, .ref q1, .ref q3, .ref q4, .ref q5, .int 0, .int 0, .int 0, .ref q6, .ref q7, .ref q8, .ref q9, .ref q10, .ref q11, .ref q12, .int 0, .int 0, .int 0, .int 0, .null]))], wNe kA q1 u2 x0Ne a0Ne, [(q3, .inl (kA 0, 72, .inl (fun _ => 0)))], [(q4, .inl (kA 2, 72, .inl (fun _ => 0)))], [(q5, .inl (kA 2, 48, .inl (fun _ => 0)))], [(q6, .inl (kA 0, 1250, .inl (fun _ => 0)))], [(q7, .inl (kA 0, 50, .inl (fun _ => 0)))], [(q8, .inl (kA 0, 50, .inl (fun _ => 0)))], [(q9, .inl (kA 0, 50, .inl (fun _ => 0)))], [(q10, .inl (kA 0, 144, .inl (fun _ => 0)))], [(q11, .inl (kA 0, 26, .inl (fun _ => 0)))], [(q12, .inl (kA 0, 27, .inl (fun _ => 0)))]]) H := hP
  have hD : va_D A (cat [[(h, .inr (1, [.null, .ref q1, .ref q3, .ref q4, .ref q5, .int 0, .int 0, .int 0, .ref q6, .ref q7, .ref q8, .ref q9, .ref q10, .ref q11, .ref q12, .int 0, .int 0, .int 0, .int 0, .null]))], wNe kA q1 u2 x0Ne a0Ne, [(q3, .inl (kA 0, 72, .inl (fun _ => 0)))], [(q4, .inl (kA 2, 72, .inl (fun _ => 0)))], [(q5, .inl (kA 2, 48, .inl (fun _ => 0)))], [(q6, .inl (kA 0, 1250, .inl (fun _ => 0)))], [(q7, .inl (kA 0, 50, .inl (fun _ => 0)))], [(q8, .inl (kA 0, 50, .inl (fun _ => 0)))], [(q9, .inl (kA 0, 50, .inl (fun _ => 0)))], [(q10, .inl (kA 0, 144, .inl (fun _ => 0)))], [(q11, .inl (kA 0, 26, .inl (fun _ => 0)))], [(q12, .inl (kA 0, 27, .inl (fun _ => 0)))]]) := hD
  refine lv_aload_n (pc := 127) hx hb d_Em_init_127 rfl (lv_at hl 0 rfl) ?_
  refine lv_iconst (pc := 128) (v := 0) hx hb d_Em_init_128 (by decide) ?_
  refine k_put (pc := 129) X hK hP hD hS 0 rfl rfl i_Em t_Em t_Em_ok n_Em 17 (by decide) wm_343 rfl (Or.inl rfl) rfl rfl (Nat.le_of_ble_eq_true rfl) d_Em_init_129 (fun H locs hP hD hS => ?_)
  have hP : va_P D classes (cat [[(h, .inr (1, [.null, .ref q1, .ref q3, .ref q4, .ref q5, .int 0, .int 0, .int 0, .ref q6, .ref q7, .ref q8, .ref q9, .ref q10, .ref q11, .ref q12, .int 0, .int 0, .int 0, .int 0, .null]))], wNe kA q1 u2 x0Ne a0Ne, [(q3, .inl (kA 0, 72, .inl (fun _ => 0)))], [(q4, .inl (kA 2, 72, .inl (fun _ => 0)))], [(q5, .inl (kA 2, 48, .inl (fun _ => 0)))], [(q6, .inl (kA 0, 1250, .inl (fun _ => 0)))], [(q7, .inl (kA 0, 50, .inl (fun _ => 0)))], [(q8, .inl (kA 0, 50, .inl (fun _ => 0)))], [(q9, .inl (kA 0, 50, .inl (fun _ => 0)))], [(q10, .inl (kA 0, 144, .inl (fun _ => 0)))], [(q11, .inl (kA 0, 26, .inl (fun _ => 0)))], [(q12, .inl (kA 0, 27, .inl (fun _ => 0)))]]) H := hP
  have hD : va_D A (cat [[(h, .inr (1, [.null, .ref q1, .ref q3, .ref q4, .ref q5, .int 0, .int 0, .int 0, .ref q6, .ref q7, .ref q8, .ref q9, .ref q10, .ref q11, .ref q12, .int 0, .int 0, .int 0, .int 0, .null]))], wNe kA q1 u2 x0Ne a0Ne, [(q3, .inl (kA 0, 72, .inl (fun _ => 0)))], [(q4, .inl (kA 2, 72, .inl (fun _ => 0)))], [(q5, .inl (kA 2, 48, .inl (fun _ => 0)))], [(q6, .inl (kA 0, 1250, .inl (fun _ => 0)))], [(q7, .inl (kA 0, 50, .inl (fun _ => 0)))], [(q8, .inl (kA 0, 50, .inl (fun _ => 0)))], [(q9, .inl (kA 0, 50, .inl (fun _ => 0)))], [(q10, .inl (kA 0, 144, .inl (fun _ => 0)))], [(q11, .inl (kA 0, 26, .inl (fun _ => 0)))], [(q12, .inl (kA 0, 27, .inl (fun _ => 0)))]]) := hD
  refine lv_aload_n (pc := 132) hx hb d_Em_init_132 rfl (lv_at hl 0 rfl) ?_
  refine lv_iconst (pc := 133) (v := 0) hx hb d_Em_init_133 (by decide) ?_
  refine k_put (pc := 134) X hK hP hD hS 0 rfl rfl i_Em t_Em t_Em_ok n_Em 18 (by decide) wm_344 rfl (Or.inl rfl) rfl rfl (Nat.le_of_ble_eq_true rfl) d_Em_init_134 (fun H locs hP hD hS => ?_)
  have hP : va_P D classes (cat [[(h, .inr (1, [.null, .ref q1, .ref q3, .ref q4, .ref q5, .int 0, .int 0, .int 0, .ref q6, .ref q7, .ref q8, .ref q9, .ref q10, .ref q11, .ref q12, .int 0, .int 0, .int 0, .int 0, .null]))], wNe kA q1 u2 x0Ne a0Ne, [(q3, .inl (kA 0, 72, .inl (fun _ => 0)))], [(q4, .inl (kA 2, 72, .inl (fun _ => 0)))], [(q5, .inl (kA 2, 48, .inl (fun _ => 0)))], [(q6, .inl (kA 0, 1250, .inl (fun _ => 0)))], [(q7, .inl (kA 0, 50, .inl (fun _ => 0)))], [(q8, .inl (kA 0, 50, .inl (fun _ => 0)))], [(q9, .inl (kA 0, 50, .inl (fun _ => 0)))], [(q10, .inl (kA 0, 144, .inl (fun _ => 0)))], [(q11, .inl (kA 0, 26, .inl (fun _ => 0)))], [(q12, .inl (kA 0, 27, .inl (fun _ => 0)))]]) H := hP
  have hD : va_D A (cat [[(h, .inr (1, [.null, .ref q1, .ref q3, .ref q4, .ref q5, .int 0, .int 0, .int 0, .ref q6, .ref q7, .ref q8, .ref q9, .ref q10, .ref q11, .ref q12, .int 0, .int 0, .int 0, .int 0, .null]))], wNe kA q1 u2 x0Ne a0Ne, [(q3, .inl (kA 0, 72, .inl (fun _ => 0)))], [(q4, .inl (kA 2, 72, .inl (fun _ => 0)))], [(q5, .inl (kA 2, 48, .inl (fun _ => 0)))], [(q6, .inl (kA 0, 1250, .inl (fun _ => 0)))], [(q7, .inl (kA 0, 50, .inl (fun _ => 0)))], [(q8, .inl (kA 0, 50, .inl (fun _ => 0)))], [(q9, .inl (kA 0, 50, .inl (fun _ => 0)))], [(q10, .inl (kA 0, 144, .inl (fun _ => 0)))], [(q11, .inl (kA 0, 26, .inl (fun _ => 0)))], [(q12, .inl (kA 0, 27, .inl (fun _ => 0)))]]) := hD
  refine lv_aload_n (pc := 137) hx hb d_Em_init_137 rfl (lv_at hl 0 rfl) ?_
  refine lv_bipush (pc := 138) (v := 72) hx hb d_Em_init_138 (by decide) ?_
  refine k_newa (pc := 140) (atype := .int) X (ty := .int) (a0 := (72, .inl (fun _ => 0))) rfl rfl wm_193 hK hP hD hS hA 0 rfl (fun _ => rfl) (by decide) rfl (by decide) (Nat.le_of_ble_eq_true rfl) (Nat.le_of_ble_eq_true rfl) d_Em_init_140 (fun q13 H hP hD hS => ?_)
  have hP : va_P D classes (cat [[(h, .inr (1, [.null, .ref q1, .ref q3, .ref q4, .ref q5, .int 0, .int 0, .int 0, .ref q6, .ref q7, .ref q8, .ref q9, .ref q10, .ref q11, .ref q12, .int 0, .int 0, .int 0, .int 0, .null]))], wNe kA q1 u2 x0Ne a0Ne, [(q3, .inl (kA 0, 72, .inl (fun _ => 0)))], [(q4, .inl (kA 2, 72, .inl (fun _ => 0)))], [(q5, .inl (kA 2, 48, .inl (fun _ => 0)))], [(q6, .inl (kA 0, 1250, .inl (fun _ => 0)))], [(q7, .inl (kA 0, 50, .inl (fun _ => 0)))], [(q8, .inl (kA 0, 50, .inl (fun _ => 0)))], [(q9, .inl (kA 0, 50, .inl (fun _ => 0)))], [(q10, .inl (kA 0, 144, .inl (fun _ => 0)))], [(q11, .inl (kA 0, 26, .inl (fun _ => 0)))], [(q12, .inl (kA 0, 27, .inl (fun _ => 0)))], [(q13, .inl (kA 0, 72, .inl (fun _ => 0)))]]) H := hP
  have hD : va_D A (cat [[(h, .inr (1, [.null, .ref q1, .ref q3, .ref q4, .ref q5, .int 0, .int 0, .int 0, .ref q6, .ref q7, .ref q8, .ref q9, .ref q10, .ref q11, .ref q12, .int 0, .int 0, .int 0, .int 0, .null]))], wNe kA q1 u2 x0Ne a0Ne, [(q3, .inl (kA 0, 72, .inl (fun _ => 0)))], [(q4, .inl (kA 2, 72, .inl (fun _ => 0)))], [(q5, .inl (kA 2, 48, .inl (fun _ => 0)))], [(q6, .inl (kA 0, 1250, .inl (fun _ => 0)))], [(q7, .inl (kA 0, 50, .inl (fun _ => 0)))], [(q8, .inl (kA 0, 50, .inl (fun _ => 0)))], [(q9, .inl (kA 0, 50, .inl (fun _ => 0)))], [(q10, .inl (kA 0, 144, .inl (fun _ => 0)))], [(q11, .inl (kA 0, 26, .inl (fun _ => 0)))], [(q12, .inl (kA 0, 27, .inl (fun _ => 0)))], [(q13, .inl (kA 0, 72, .inl (fun _ => 0)))]]) := hD
  refine W.widen (k := 22) (n := 3322) (by omega) (by omega) ?_
  refine k_put (pc := 142) X hK hP hD hS 0 rfl rfl i_Em t_Em t_Em_ok n_Em 19 (by decide) wm_345 rfl (Or.inr ⟨rfl, rfl⟩) rfl rfl (Nat.le_of_ble_eq_true rfl) d_Em_init_142 (fun H locs hP hD hS => ?_)
  have hP : va_P D classes (cat [[(h, .inr (1, [.null, .ref q1, .ref q3, .ref q4, .ref q5, .int 0, .int 0, .int 0, .ref q6, .ref q7, .ref q8, .ref q9, .ref q10, .ref q11, .ref q12, .int 0, .int 0, .int 0, .int 0, .ref q13]))], wNe kA q1 u2 x0Ne a0Ne, [(q3, .inl (kA 0, 72, .inl (fun _ => 0)))], [(q4, .inl (kA 2, 72, .inl (fun _ => 0)))], [(q5, .inl (kA 2, 48, .inl (fun _ => 0)))], [(q6, .inl (kA 0, 1250, .inl (fun _ => 0)))], [(q7, .inl (kA 0, 50, .inl (fun _ => 0)))], [(q8, .inl (kA 0, 50, .inl (fun _ => 0)))], [(q9, .inl (kA 0, 50, .inl (fun _ => 0)))], [(q10, .inl (kA 0, 144, .inl (fun _ => 0)))], [(q11, .inl (kA 0, 26, .inl (fun _ => 0)))], [(q12, .inl (kA 0, 27, .inl (fun _ => 0)))], [(q13, .inl (kA 0, 72, .inl (fun _ => 0)))]]) H := hP
  have hD : va_D A (cat [[(h, .inr (1, [.null, .ref q1, .ref q3, .ref q4, .ref q5, .int 0, .int 0, .int 0, .ref q6, .ref q7, .ref q8, .ref q9, .ref q10, .ref q11, .ref q12, .int 0, .int 0, .int 0, .int 0, .ref q13]))], wNe kA q1 u2 x0Ne a0Ne, [(q3, .inl (kA 0, 72, .inl (fun _ => 0)))], [(q4, .inl (kA 2, 72, .inl (fun _ => 0)))], [(q5, .inl (kA 2, 48, .inl (fun _ => 0)))], [(q6, .inl (kA 0, 1250, .inl (fun _ => 0)))], [(q7, .inl (kA 0, 50, .inl (fun _ => 0)))], [(q8, .inl (kA 0, 50, .inl (fun _ => 0)))], [(q9, .inl (kA 0, 50, .inl (fun _ => 0)))], [(q10, .inl (kA 0, 144, .inl (fun _ => 0)))], [(q11, .inl (kA 0, 26, .inl (fun _ => 0)))], [(q12, .inl (kA 0, 27, .inl (fun _ => 0)))], [(q13, .inl (kA 0, 72, .inl (fun _ => 0)))]]) := hD
  obtain ⟨hP, hD⟩ := k_ord (gc := [[(h, .inr (1, [.null, .ref q1, .ref q3, .ref q4, .ref q5, .int 0, .int 0, .int 0, .ref q6, .ref q7, .ref q8, .ref q9, .ref q10, .ref q11, .ref q12, .int 0, .int 0, .int 0, .int 0, .ref q13]))], [(q3, .inl (kA 0, 72, .inl (fun _ => 0)))], [(q4, .inl (kA 2, 72, .inl (fun _ => 0)))], [(q5, .inl (kA 2, 48, .inl (fun _ => 0)))], [(q6, .inl (kA 0, 1250, .inl (fun _ => 0)))], [(q7, .inl (kA 0, 50, .inl (fun _ => 0)))], [(q8, .inl (kA 0, 50, .inl (fun _ => 0)))], [(q9, .inl (kA 0, 50, .inl (fun _ => 0)))], [(q10, .inl (kA 0, 144, .inl (fun _ => 0)))], [(q11, .inl (kA 0, 26, .inl (fun _ => 0)))], [(q12, .inl (kA 0, 27, .inl (fun _ => 0)))], [(q13, .inl (kA 0, 72, .inl (fun _ => 0)))], wNe kA q1 u2 x0Ne a0Ne]) hP hD [0, 2, 3, 4, 5, 6, 7, 8, 9, 10, 11, 12, 1] 13 rfl (by decide) rfl
  refine W.widen (k := 22) (n := 3322) (Nat.le_of_ble_eq_true rfl) (Nat.le_of_ble_eq_true rfl) ?_
  exact W.vret hx hb hr (fun t ht hW => ⟨⟨(fun i => match i with | 0 => (fun k => match k with | 2 => q3 | 3 => q4 | 4 => q5 | 8 => q6 | 9 => q7 | 10 => q8 | 11 => q9 | 12 => q10 | 13 => q11 | 14 => q12 | 19 => q13 | 1 => q1 | _ => 0) | 1 => u2 | _ => fun _ => 0), rfl, trivial, by rw [ht]; exact hP, va_K.moved hW.alike hK, hD⟩, hS.F ht⟩) hS.2.2 d_Em_init_145
end
section
theorem wm_1865 : (Cond.code ({ cls := "DrawingHouse$Router", name := "<init>", desc := "()V" } : MethodName) prog_11_method_1_code (1 : Nat) (Option.none : Option ClassFile.FieldType) : Cond) ∈ lw_g := lw_gi (lw_c8 (List.mem_of_getElem? (i := 185) rfl)) rfl
theorem wm_1866 : (Cond.methodLink "DrawingHouse$Router" (3 : Nat) ({ cls := "java/lang/Object", name := "<init>", desc := "()V" } : MethodName) : Cond) ∈ lw_g := lw_gi (lw_c8 (List.mem_of_getElem? (i := 186) rfl)) rfl
theorem wm_1867 : (Cond.constant "DrawingHouse$Router" (52 : Nat) (48004 : Int32) : Cond) ∈ lw_g := lw_gi (lw_c8 (List.mem_of_getElem? (i := 187) rfl)) rfl
theorem wm_1868 : (Cond.fieldLink "DrawingHouse$Router" (9 : Nat) "DrawingHouse$Router" "graph" "LDrawingHouse$Graph;" : Cond) ∈ lw_g := lw_gi (lw_c8 (List.mem_of_getElem? (i := 188) rfl)) rfl
theorem wm_1869 : (Cond.fieldLink "DrawingHouse$Router" (15 : Nat) "DrawingHouse$Router" "drawing" "LDrawingHouse$Drawing;" : Cond) ∈ lw_g := lw_gi (lw_c8 (List.mem_of_getElem? (i := 189) rfl)) rfl
theorem wm_1870 : (Cond.fieldLink "DrawingHouse$Router" (19 : Nat) "DrawingHouse$Router" "left" "I" : Cond) ∈ lw_g := lw_gi (lw_c8 (List.mem_of_getElem? (i := 190) rfl)) rfl
theorem wm_1871 : (Cond.fieldLink "DrawingHouse$Router" (23 : Nat) "DrawingHouse$Router" "top" "I" : Cond) ∈ lw_g := lw_gi (lw_c8 (List.mem_of_getElem? (i := 191) rfl)) rfl
theorem wm_1872 : (Cond.fieldLink "DrawingHouse$Router" (26 : Nat) "DrawingHouse$Router" "width" "I" : Cond) ∈ lw_g := lw_gi (lw_c8 (List.mem_of_getElem? (i := 192) rfl)) rfl
theorem wm_1873 : (Cond.fieldLink "DrawingHouse$Router" (29 : Nat) "DrawingHouse$Router" "height" "I" : Cond) ∈ lw_g := lw_gi (lw_c8 (List.mem_of_getElem? (i := 193) rfl)) rfl
theorem wm_1874 : (Cond.fieldLink "DrawingHouse$Router" (32 : Nat) "DrawingHouse$Router" "start" "I" : Cond) ∈ lw_g := lw_gi (lw_c8 (List.mem_of_getElem? (i := 194) rfl)) rfl
theorem wm_1875 : (Cond.fieldLink "DrawingHouse$Router" (35 : Nat) "DrawingHouse$Router" "goal" "I" : Cond) ∈ lw_g := lw_gi (lw_c8 (List.mem_of_getElem? (i := 195) rfl)) rfl
theorem wm_1876 : (Cond.fieldLink "DrawingHouse$Router" (38 : Nat) "DrawingHouse$Router" "whole" "I" : Cond) ∈ lw_g := lw_gi (lw_c8 (List.mem_of_getElem? (i := 196) rfl)) rfl
theorem wm_1877 : (Cond.fieldLink "DrawingHouse$Router" (41 : Nat) "DrawingHouse$Router" "barred" "[Z" : Cond) ∈ lw_g := lw_gi (lw_c8 (List.mem_of_getElem? (i := 197) rfl)) rfl
theorem wm_1878 : (Cond.fieldLink "DrawingHouse$Router" (45 : Nat) "DrawingHouse$Router" "cost" "[I" : Cond) ∈ lw_g := lw_gi (lw_c8 (List.mem_of_getElem? (i := 198) rfl)) rfl
theorem wm_1879 : (Cond.fieldLink "DrawingHouse$Router" (49 : Nat) "DrawingHouse$Router" "list" "[I" : Cond) ∈ lw_g := lw_gi (lw_c8 (List.mem_of_getElem? (i := 199) rfl)) rfl
theorem wm_1880 : (Cond.fieldLink "DrawingHouse$Router" (53 : Nat) "DrawingHouse$Router" "entryState" "[I" : Cond) ∈ lw_g := lw_gi (lw_c8 (List.mem_of_getElem? (i := 200) rfl)) rfl
theorem wm_1881 : (Cond.fieldLink "DrawingHouse$Router" (56 : Nat) "DrawingHouse$Router" "entryNext" "[I" : Cond) ∈ lw_g := lw_gi (lw_c8 (List.mem_of_getElem? (i := 201) rfl)) rfl
theorem wm_1882 : (Cond.fieldLink "DrawingHouse$Router" (59 : Nat) "DrawingHouse$Router" "entries" "I" : Cond) ∈ lw_g := lw_gi (lw_c8 (List.mem_of_getElem? (i := 202) rfl)) rfl
theorem wm_1883 : (Cond.fieldLink "DrawingHouse$Router" (62 : Nat) "DrawingHouse$Router" "turnX" "[I" : Cond) ∈ lw_g := lw_gi (lw_c8 (List.mem_of_getElem? (i := 203) rfl)) rfl
theorem wm_1884 : (Cond.fieldLink "DrawingHouse$Router" (65 : Nat) "DrawingHouse$Router" "turnY" "[I" : Cond) ∈ lw_g := lw_gi (lw_c8 (List.mem_of_getElem? (i := 204) rfl)) rfl
theorem wm_1885 : (Cond.fieldLink "DrawingHouse$Router" (68 : Nat) "DrawingHouse$Router" "turns" "I" : Cond) ∈ lw_g := lw_gi (lw_c8 (List.mem_of_getElem? (i := 205) rfl)) rfl
abbrev b_Ro_init : ByteArray := prog_11_method_1_code
def y_Ro_init : MethodName := ⟨"DrawingHouse$Router", "<init>", "()V"⟩
abbrev z_Ro_init : List Cond := Cond.code y_Ro_init b_Ro_init 1 none :: lw_g
theorem d_Ro_init_0 : decode b_Ro_init 0 = .ok (.aload_n 0, 1) := by decide +kernel
theorem d_Ro_init_1 : decode b_Ro_init 1 = .ok (.invokespecial 3, 3) := by decide +kernel
theorem d_Ro_init_4 : decode b_Ro_init 4 = .ok (.aload_n 0, 1) := by decide +kernel
theorem d_Ro_init_5 : decode b_Ro_init 5 = .ok (.aconst_null, 1) := by decide +kernel
theorem d_Ro_init_6 : decode b_Ro_init 6 = .ok (.putfield 9, 3) := by decide +kernel
theorem d_Ro_init_9 : decode b_Ro_init 9 = .ok (.aload_n 0, 1) := by decide +kernel
theorem d_Ro_init_10 : decode b_Ro_init 10 = .ok (.aconst_null, 1) := by decide +kernel
theorem d_Ro_init_11 : decode b_Ro_init 11 = .ok (.putfield 15, 3) := by decide +kernel
theorem d_Ro_init_14 : decode b_Ro_init 14 = .ok (.aload_n 0, 1) := by decide +kernel
theorem d_Ro_init_15 : decode b_Ro_init 15 = .ok (.iconst 0, 1) := by decide +kernel
theorem d_Ro_init_16 : decode b_Ro_init 16 = .ok (.putfield 19, 3) := by decide +kernel
theorem d_Ro_init_19 : decode b_Ro_init 19 = .ok (.aload_n 0, 1) := by decide +kernel
theorem d_Ro_init_20 : decode b_Ro_init 20 = .ok (.iconst 0, 1) := by decide +kernel
theorem d_Ro_init_21 : decode b_Ro_init 21 = .ok (.putfield 23, 3) := by decide +kernel
theorem d_Ro_init_24 : decode b_Ro_init 24 = .ok (.aload_n 0, 1) := by decide +kernel
theorem d_Ro_init_25 : decode b_Ro_init 25 = .ok (.iconst 0, 1) := by decide +kernel
theorem d_Ro_init_26 : decode b_Ro_init 26 = .ok (.putfield 26, 3) := by decide +kernel
theorem d_Ro_init_29 : decode b_Ro_init 29 = .ok (.aload_n 0, 1) := by decide +kernel
theorem d_Ro_init_30 : decode b_Ro_init 30 = .ok (.iconst 0, 1) := by decide +kernel
theorem d_Ro_init_31 : decode b_Ro_init 31 = .ok (.putfield 29, 3) := by decide +kernel
theorem d_Ro_init_34 : decode b_Ro_init 34 = .ok (.aload_n 0, 1) := by decide +kernel
theorem d_Ro_init_35 : decode b_Ro_init 35 = .ok (.iconst 0, 1) := by decide +kernel
theorem d_Ro_init_36 : decode b_Ro_init 36 = .ok (.putfield 32, 3) := by decide +kernel
theorem d_Ro_init_39 : decode b_Ro_init 39 = .ok (.aload_n 0, 1) := by decide +kernel
theorem d_Ro_init_40 : decode b_Ro_init 40 = .ok (.iconst 0, 1) := by decide +kernel
theorem d_Ro_init_41 : decode b_Ro_init 41 = .ok (.putfield 35, 3) := by decide +kernel
theorem d_Ro_init_44 : decode b_Ro_init 44 = .ok (.aload_n 0, 1) := by decide +kernel
theorem d_Ro_init_45 : decode b_Ro_init 45 = .ok (.iconst 0, 1) := by decide +kernel
theorem d_Ro_init_46 : decode b_Ro_init 46 = .ok (.putfield 38, 3) := by decide +kernel
theorem d_Ro_init_49 : decode b_Ro_init 49 = .ok (.aload_n 0, 1) := by decide +kernel
theorem d_Ro_init_50 : decode b_Ro_init 50 = .ok (.sipush 6000, 3) := by decide +kernel
theorem d_Ro_init_53 : decode b_Ro_init 53 = .ok (.newarray .boolean, 2) := by decide +kernel
theorem d_Ro_init_55 : decode b_Ro_init 55 = .ok (.putfield 41, 3) := by decide +kernel
theorem d_Ro_init_58 : decode b_Ro_init 58 = .ok (.aload_n 0, 1) := by decide +kernel
theorem d_Ro_init_59 : decode b_Ro_init 59 = .ok (.sipush 24000, 3) := by decide +kernel
theorem d_Ro_init_62 : decode b_Ro_init 62 = .ok (.newarray .int, 2) := by decide +kernel
theorem d_Ro_init_64 : decode b_Ro_init 64 = .ok (.putfield 45, 3) := by decide +kernel
theorem d_Ro_init_67 : decode b_Ro_init 67 = .ok (.aload_n 0, 1) := by decide +kernel
theorem d_Ro_init_68 : decode b_Ro_init 68 = .ok (.iconst 4, 1) := by decide +kernel
theorem d_Ro_init_69 : decode b_Ro_init 69 = .ok (.newarray .int, 2) := by decide +kernel
theorem d_Ro_init_71 : decode b_Ro_init 71 = .ok (.putfield 49, 3) := by decide +kernel
theorem d_Ro_init_74 : decode b_Ro_init 74 = .ok (.aload_n 0, 1) := by decide +kernel
theorem d_Ro_init_75 : decode b_Ro_init 75 = .ok (.ldc 52, 2) := by decide +kernel
theorem d_Ro_init_77 : decode b_Ro_init 77 = .ok (.newarray .int, 2) := by decide +kernel
theorem d_Ro_init_79 : decode b_Ro_init 79 = .ok (.putfield 53, 3) := by decide +kernel
theorem d_Ro_init_82 : decode b_Ro_init 82 = .ok (.aload_n 0, 1) := by decide +kernel
theorem d_Ro_init_83 : decode b_Ro_init 83 = .ok (.ldc 52, 2) := by decide +kernel
theorem d_Ro_init_85 : decode b_Ro_init 85 = .ok (.newarray .int, 2) := by decide +kernel
theorem d_Ro_init_87 : decode b_Ro_init 87 = .ok (.putfield 56, 3) := by decide +kernel
theorem d_Ro_init_90 : decode b_Ro_init 90 = .ok (.aload_n 0, 1) := by decide +kernel
theorem d_Ro_init_91 : decode b_Ro_init 91 = .ok (.iconst 0, 1) := by decide +kernel
theorem d_Ro_init_92 : decode b_Ro_init 92 = .ok (.putfield 59, 3) := by decide +kernel
theorem d_Ro_init_95 : decode b_Ro_init 95 = .ok (.aload_n 0, 1) := by decide +kernel
theorem d_Ro_init_96 : decode b_Ro_init 96 = .ok (.bipush 24, 2) := by decide +kernel
theorem d_Ro_init_98 : decode b_Ro_init 98 = .ok (.newarray .int, 2) := by decide +kernel
theorem d_Ro_init_100 : decode b_Ro_init 100 = .ok (.putfield 62, 3) := by decide +kernel
theorem d_Ro_init_103 : decode b_Ro_init 103 = .ok (.aload_n 0, 1) := by decide +kernel
theorem d_Ro_init_104 : decode b_Ro_init 104 = .ok (.bipush 24, 2) := by decide +kernel
theorem d_Ro_init_106 : decode b_Ro_init 106 = .ok (.newarray .int, 2) := by decide +kernel
theorem d_Ro_init_108 : decode b_Ro_init 108 = .ok (.putfield 65, 3) := by decide +kernel
theorem d_Ro_init_111 : decode b_Ro_init 111 = .ok (.aload_n 0, 1) := by decide +kernel
theorem d_Ro_init_112 : decode b_Ro_init 112 = .ok (.iconst 0, 1) := by decide +kernel
theorem d_Ro_init_113 : decode b_Ro_init 113 = .ok (.putfield 68, 3) := by decide +kernel
theorem d_Ro_init_116 : decode b_Ro_init 116 = .ok (.return_, 1) := by decide +kernel
abbrev f0Ro : List Value := [.null, .null, .int 0, .int 0, .int 0, .int 0, .int 0, .int 0, .int 0, .null, .null, .null, .null, .null, .int 0, .null, .null, .int 0]
set_option maxRecDepth 20000 in
theorem f0Ro_ok : ∀ j, j < 18 → defaultValue (t_Ro j) = vp_V f0Ro j := by decide +kernel
def wRo (kA : Nat → ClassId) (h : Nat) (q : Nat → Nat) (x : Nat → Int32) (a : Nat → Nat → Int32) (o0 : Option Nat) (o1 : Option Nat) : va_W := [(h, .inr (9, [va_rf o0, va_rf o1, .int (x 2), .int (x 3), .int (x 4), .int (x 5), .int (x 6), .int (x 7), .int (x 8), .ref (q 9), .ref (q 10), .ref (q 11), .ref (q 12), .ref (q 13), .int (x 14), .ref (q 15), .ref (q 16), .int (x 17)])), (q 9, .inl (kA 2, 6000, .inl (a 9))), (q 10, .inl (kA 0, 24000, .inl (a 10))), (q 11, .inl (kA 0, 4, .inl (a 11))), (q 12, .inl (kA 0, 48004, .inl (a 12))), (q 13, .inl (kA 0, 48004, .inl (a 13))), (q 15, .inl (kA 0, 24, .inl (a 15))), (q 16, .inl (kA 0, 24, .inl (a 16)))]
def x0Ro : Nat → Int32 := fun _ => 0
def a0Ro : Nat → Nat → Int32 := fun _ => fun _ => 0
set_option maxRecDepth 100000 in
set_option maxHeartbeats 4000000 in
/-- DrawingHouse$Router()V -/
theorem c_Ro_init (l : Launch) (D : va_G) (kA : Nat → ClassId) (h : Nat) : Cv l y_Ro_init z_Ro_init { frames := 1, cells := 7, slots := 126060, locals := 12 } D classes (TY kA) [.ref h] [[(h, .inr (9, f0Ro))]] (fun u : (Nat → Nat) => True) (fun u => [wRo kA h u x0Ro a0Ro none none]) 7 126060 := by
  intro sz
  refine k_met (cc := b_Ro_init) (maxL := 1) (ret := none) (by decide) rfl (Nat.le_of_ble_eq_true rfl) (fun p e s m below meth c ls X hl hB => ?_)
  obtain ⟨hsz, hP, hK, hD0, hN⟩ := hB
  subst hsz
  have hD := hD0.self (sz := s.heap.size)
  generalize hAe : va_A (cat [[(h, .inr (9, [.null, .null, .int 0, .int 0, .int 0, .int 0, .int 0, .int 0, .int 0, .null, .null, .null, .null, .null, .int 0, .null, .null, .int 0]))]]) s.heap.size = A at hD ⊢
  have hA : ∀ q : Nat, s.heap.size ≤ q → A q := fun q h => by rw [← hAe]; exact Or.inr h
  have hS : va_S A s.heap s.heap [] := va_S.rf
  obtain ⟨hx, hb, hml, hown, hts, hr, hlk, hnm⟩ := id X
  have hl : lv_has ls 1 [(0, .ref h)] := hl
  have hP : va_P D classes (cat [[(h, .inr (9, [.null, .null, .int 0, .int 0, .int 0, .int 0, .int 0, .int 0, .int 0, .null, .null, .null, .null, .null, .int 0, .null, .null, .int 0]))]]) s.heap := hP
  have hK : va_K D classes (TY kA) s := hK
  refine lv_aload_n (pc := 0) hx hb d_Ro_init_0 rfl (lv_at hl 0 rfl) ?_
  refine W.objInit hx hb hown (hts _ wm_1866) (hts _ wm_31) (hts _ wm_32) rfl (by rw [hml]; exact hl.1) rfl d_Ro_init_1 (Nat.le_of_ble_eq_true rfl) (Nat.le_of_ble_eq_true rfl) ?_
  refine W.eq (g2 := F0 m 4 ls []) rfl ?_
  refine lv_aload_n (pc := 4) hx hb d_Ro_init_4 rfl (lv_at hl 0 rfl) ?_
  refine lv_null (pc := 5) hx hb d_Ro_init_5 ?_
  refine k_put (pc := 6) X hK hP hD hS 0 rfl rfl i_Ro t_Ro t_Ro_ok n_Ro 0 (by decide) wm_1868 rfl (Or.inl rfl) rfl rfl (Nat.le_of_ble_eq_true rfl) d_Ro_init_6 (fun H locs hP hD hS => ?_)
  have hP : va_P D classes (cat [[(h, .inr (9, [.null, .null, .int 0, .int 0, .int 0, .int 0, .int 0, .int 0, .int 0, .null, .null, .null, .null, .null, .int 0, .null, .null, .int 0]))]]) H := hP
  have hD : va_D A (cat [[(h, .inr (9, [.null, .null, .int 0, .int 0, .int 0, .int 0, .int 0, .int 0, .int 0, .null, .null, .null, .null, .null, .int 0, .null, .null, .int 0]))]]) := hD
  refine lv_aload_n (pc := 9) hx hb d_Ro_init_9 rfl (lv_at hl 0 rfl) ?_
  refine lv_null (pc := 10) hx hb d_Ro_init_10 ?_
  refine k_put (pc := 11) X hK hP hD hS 0 rfl rfl i_Ro t_Ro t_Ro_ok n_Ro 1 (by decide) wm_1869 rfl (Or.inl rfl) rfl rfl (Nat.le_of_ble_eq_true rfl) d_Ro_init_11 (fun H locs hP hD hS => ?_)
  have hP : va_P D classes (cat [[(h, .inr (9, [.null, .null, .int 0, .int 0, .int 0, .int 0, .int 0, .int 0, .int 0, .null, .null, .null, .null, .null, .int 0, .null, .null, .int 0]))]]) H := hP
  have hD : va_D A (cat [[(h, .inr (9, [.null, .null, .int 0, .int 0, .int 0, .int 0, .int 0, .int 0, .int 0, .null, .null, .null, .null, .null, .int 0, .null, .null, .int 0]))]]) := hD
  refine lv_aload_n (pc := 14) hx hb d_Ro_init_14 rfl (lv_at hl 0 rfl) ?_
  refine lv_iconst (pc := 15) (v := 0) hx hb d_Ro_init_15 (by decide) ?_
  refine k_put (pc := 16) X hK hP hD hS 0 rfl rfl i_Ro t_Ro t_Ro_ok n_Ro 2 (by decide) wm_1870 rfl (Or.inl rfl) rfl rfl (Nat.le_of_ble_eq_true rfl) d_Ro_init_16 (fun H locs hP hD hS => ?_)
  have hP : va_P D classes (cat [[(h, .inr (9, [.null, .null, .int 0, .int 0, .int 0, .int 0, .int 0, .int 0, .int 0, .null, .null, .null, .null, .null, .int 0, .null, .null, .int 0]))]]) H := hP
  have hD : va_D A (cat [[(h, .inr (9, [.null, .null, .int 0, .int 0, .int 0, .int 0, .int 0, .int 0, .int 0, .null, .null, .null, .null, .null, .int 0, .null, .null, .int 0]))]]) := hD
  refine lv_aload_n (pc := 19) hx hb d_Ro_init_19 rfl (lv_at hl 0 rfl) ?_
  refine lv_iconst (pc := 20) (v := 0) hx hb d_Ro_init_20 (by decide) ?_
  refine k_put (pc := 21) X hK hP hD hS 0 rfl rfl i_Ro t_Ro t_Ro_ok n_Ro 3 (by decide) wm_1871 rfl (Or.inl rfl) rfl rfl (Nat.le_of_ble_eq_true rfl) d_Ro_init_21 (fun H locs hP hD hS => ?_)
  have hP : va_P D classes (cat [[(h, .inr (9, [.null, .null, .int 0, .int 0, .int 0, .int 0, .int 0, .int 0, .int 0, .null, .null, .null, .null, .null, .int 0, .null, .null, .int 0]))]]) H := hP
  have hD : va_D A (cat [[(h, .inr (9, [.null, .null, .int 0, .int 0, .int 0, .int 0, .int 0, .int 0, .int 0, .null, .null, .null, .null, .null, .int 0, .null, .null, .int 0]))]]) := hD
  refine lv_aload_n (pc := 24) hx hb d_Ro_init_24 rfl (lv_at hl 0 rfl) ?_
  refine lv_iconst (pc := 25) (v := 0) hx hb d_Ro_init_25 (by decide) ?_
  refine k_put (pc := 26) X hK hP hD hS 0 rfl rfl i_Ro t_Ro t_Ro_ok n_Ro 4 (by decide) wm_1872 rfl (Or.inl rfl) rfl rfl (Nat.le_of_ble_eq_true rfl) d_Ro_init_26 (fun H locs hP hD hS => ?_)
  have hP : va_P D classes (cat [[(h, .inr (9, [.null, .null, .int 0, .int 0, .int 0, .int 0, .int 0, .int 0, .int 0, .null, .null, .null, .null, .null, .int 0, .null, .null, .int 0]))]]) H := hP
  have hD : va_D A (cat [[(h, .inr (9, [.null, .null, .int 0, .int 0, .int 0, .int 0, .int 0, .int 0, .int 0, .null, .null, .null, .null, .null, .int 0, .null, .null, .int 0]))]]) := hD
  refine lv_aload_n (pc := 29) hx hb d_Ro_init_29 rfl (lv_at hl 0 rfl) ?_
  refine lv_iconst (pc := 30) (v := 0) hx hb d_Ro_init_30 (by decide) ?_
  refine k_put (pc := 31) X hK hP hD hS 0 rfl rfl i_Ro t_Ro t_Ro_ok n_Ro 5 (by decide) wm_1873 rfl (Or.inl rfl) rfl rfl (Nat.le_of_ble_eq_true rfl) d_Ro_init_31 (fun H locs hP hD hS => ?_)
  have hP : va_P D classes (cat [[(h, .inr (9, [.null, .null, .int 0, .int 0, .int 0, .int 0, .int 0, .int 0, .int 0, .null, .null, .null, .null, .null, .int 0, .null, .null, .int 0]))]]) H := hP
  have hD : va_D A (cat [[(h, .inr (9, [.null, .null, .int 0, .int 0, .int 0, .int 0, .int 0, .int 0, .int 0, .null, .null, .null, .null, .null, .int 0, .null, .null, .int 0]))]]) := hD
  refine lv_aload_n (pc := 34) hx hb d_Ro_init_34 rfl (lv_at hl 0 rfl) ?_
  refine lv_iconst (pc := 35) (v := 0) hx hb d_Ro_init_35 (by decide) ?_
  refine k_put (pc := 36) X hK hP hD hS 0 rfl rfl i_Ro t_Ro t_Ro_ok n_Ro 6 (by decide) wm_1874 rfl (Or.inl rfl) rfl rfl (Nat.le_of_ble_eq_true rfl) d_Ro_init_36 (fun H locs hP hD hS => ?_)
  have hP : va_P D classes (cat [[(h, .inr (9, [.null, .null, .int 0, .int 0, .int 0, .int 0, .int 0, .int 0, .int 0, .null, .null, .null, .null, .null, .int 0, .null, .null, .int 0]))]]) H := hP
  have hD : va_D A (cat [[(h, .inr (9, [.null, .null, .int 0, .int 0, .int 0, .int 0, .int 0, .int 0, .int 0, .null, .null, .null, .null, .null, .int 0, .null, .null, .int 0]))]]) := hD
  refine lv_aload_n (pc := 39) hx hb d_Ro_init_39 rfl (lv_at hl 0 rfl) ?_
  refine lv_iconst (pc := 40) (v := 0) hx hb d_Ro_init_40 (by decide) ?_
  refine k_put (pc := 41) X hK hP hD hS 0 rfl rfl i_Ro t_Ro t_Ro_ok n_Ro 7 (by decide) wm_1875 rfl (Or.inl rfl) rfl rfl (Nat.le_of_ble_eq_true rfl) d_Ro_init_41 (fun H locs hP hD hS => ?_)
  have hP : va_P D classes (cat [[(h, .inr (9, [.null, .null, .int 0, .int 0, .int 0, .int 0, .int 0, .int 0, .int 0, .null, .null, .null, .null, .null, .int 0, .null, .null, .int 0]))]]) H := hP
  have hD : va_D A (cat [[(h, .inr (9, [.null, .null, .int 0, .int 0, .int 0, .int 0, .int 0, .int 0, .int 0, .null, .null, .null, .null, .null, .int 0, .null, .null, .int 0]))]]) := hD
  refine lv_aload_n (pc := 44) hx hb d_Ro_init_44 rfl (lv_at hl 0 rfl) ?_
  refine lv_iconst (pc := 45) (v := 0) hx hb d_Ro_init_45 (by decide) ?_
  refine k_put (pc := 46) X hK hP hD hS 0 rfl rfl i_Ro t_Ro t_Ro_ok n_Ro 8 (by decide) wm_1876 rfl (Or.inl rfl) rfl rfl (Nat.le_of_ble_eq_true rfl) d_Ro_init_46 (fun H locs hP hD hS => ?_)
  have hP : va_P D classes (cat [[(h, .inr (9, [.null, .null, .int 0, .int 0, .int 0, .int 0, .int 0, .int 0, .int 0, .null, .null, .null, .null, .null, .int 0, .null, .null, .int 0]))]]) H := hP
  have hD : va_D A (cat [[(h, .inr (9, [.null, .null, .int 0, .int 0, .int 0, .int 0, .int 0, .int 0, .int 0, .null, .null, .null, .null, .null, .int 0, .null, .null, .int 0]))]]) := hD
  refine lv_aload_n (pc := 49) hx hb d_Ro_init_49 rfl (lv_at hl 0 rfl) ?_
  refine lv_sipush (pc := 50) (v := 6000) hx hb d_Ro_init_50 (by decide) ?_
  refine k_newa (pc := 53) (atype := .boolean) X (ty := .boolean) (a0 := (6000, .inl (fun _ => 0))) rfl rfl wm_387 hK hP hD hS hA 2 rfl (fun _ => rfl) (by decide) rfl (by decide) (Nat.le_of_ble_eq_true rfl) (Nat.le_of_ble_eq_true rfl) d_Ro_init_53 (fun q1 H hP hD hS => ?_)
  have hP : va_P D classes (cat [[(h, .inr (9, [.null, .null, .int 0, .int 0, .int 0, .int 0, .int 0, .int 0, .int 0, .null, .null, .null, .null, .null, .int 0, .null, .null, .int 0]))], [(q1, .inl (kA 2, 6000, .inl (fun _ => 0)))]]) H := hP
  have hD : va_D A (cat [[(h, .inr (9, [.null, .null, .int 0, .int 0, .int 0, .int 0, .int 0, .int 0, .int 0, .null, .null, .null, .null, .null, .int 0, .null, .null, .int 0]))], [(q1, .inl (kA 2, 6000, .inl (fun _ => 0)))]]) := hD
  refine W.widen (k := 1) (n := 6000) (by omega) (by omega) ?_
  refine k_put (pc := 55) X hK hP hD hS 0 rfl rfl i_Ro t_Ro t_Ro_ok n_Ro 9 (by decide) wm_1877 rfl (Or.inr ⟨rfl, rfl⟩) rfl rfl (Nat.le_of_ble_eq_true rfl) d_Ro_init_55 (fun H locs hP hD hS => ?_)
  have hP : va_P D classes (cat [[(h, .inr (9, [.null, .null, .int 0, .int 0, .int 0, .int 0, .int 0, .int 0, .int 0, .ref q1, .null, .null, .null, .null, .int 0, .null, .null, .int 0]))], [(q1, .inl (kA 2, 6000, .inl (fun _ => 0)))]]) H := hP
  have hD : va_D A (cat [[(h, .inr (9, [.null, .null, .int 0, .int 0, .int 0, .int 0, .int 0, .int 0, .int 0, .ref q1, .null, .null, .null, .null, .int 0, .null, .null, .int 0]))], [(q1, .inl (kA 2, 6000, .inl (fun _ => 0)))]]) := hD
  refine lv_aload_n (pc := 58) hx hb d_Ro_init_58 rfl (lv_at hl 0 rfl) ?_
  refine lv_sipush (pc := 59) (v := 24000) hx hb d_Ro_init_59 (by decide) ?_
  refine k_newa (pc := 62) (atype := .int) X (ty := .int) (a0 := (24000, .inl (fun _ => 0))) rfl rfl wm_193 hK hP hD hS hA 0 rfl (fun _ => rfl) (by decide) rfl (by decide) (Nat.le_of_ble_eq_true rfl) (Nat.le_of_ble_eq_true rfl) d_Ro_init_62 (fun q2 H hP hD hS => ?_)
  have hP : va_P D classes (cat [[(h, .inr (9, [.null, .null, .int 0, .int 0, .int 0, .int 0, .int 0, .int 0, .int 0, .ref q1, .null, .null, .null, .null, .int 0, .null, .null, .int 0]))], [(q1, .inl (kA 2, 6000, .inl (fun _ => 0)))], [(q2, .inl (kA 0, 24000, .inl (fun _ => 0)))]]) H := hP
  have hD : va_D A (cat [[(h, .inr (9, [.null, .null, .int 0, .int 0, .int 0, .int 0, .int 0, .int 0, .int 0, .ref q1, .null, .null, .null, .null, .int 0, .null, .null, .int 0]))], [(q1, .inl (kA 2, 6000, .inl (fun _ => 0)))], [(q2, .inl (kA 0, 24000, .inl (fun _ => 0)))]]) := hD
  refine W.widen (k := 2) (n := 30000) (by omega) (by omega) ?_
  refine k_put (pc := 64) X hK hP hD hS 0 rfl rfl i_Ro t_Ro t_Ro_ok n_Ro 10 (by decide) wm_1878 rfl (Or.inr ⟨rfl, rfl⟩) rfl rfl (Nat.le_of_ble_eq_true rfl) d_Ro_init_64 (fun H locs hP hD hS => ?_)
  have hP : va_P D classes (cat [[(h, .inr (9, [.null, .null, .int 0, .int 0, .int 0, .int 0, .int 0, .int 0, .int 0, .ref q1, .ref q2, .null, .null, .null, .int 0, .null, .null, .int 0]))], [(q1, .inl (kA 2, 6000, .inl (fun _ => 0)))], [(q2, .inl (kA 0, 24000, .inl (fun _ => 0)))]]) H := hP
  have hD : va_D A (cat [[(h, .inr (9, [.null, .null, .int 0, .int 0, .int 0, .int 0, .int 0, .int 0, .int 0, .ref q1, .ref q2, .null, .null, .null, .int 0, .null, .null, .int 0]))], [(q1, .inl (kA 2, 6000, .inl (fun _ => 0)))], [(q2, .inl (kA 0, 24000, .inl (fun _ => 0)))]]) := hD
  refine lv_aload_n (pc := 67) hx hb d_Ro_init_67 rfl (lv_at hl 0 rfl) ?_
  refine lv_iconst (pc := 68) (v := 4) hx hb d_Ro_init_68 (by decide) ?_
  refine k_newa (pc := 69) (atype := .int) X (ty := .int) (a0 := (4, .inl (fun _ => 0))) rfl rfl wm_193 hK hP hD hS hA 0 rfl (fun _ => rfl) (by decide) rfl (by decide) (Nat.le_of_ble_eq_true rfl) (Nat.le_of_ble_eq_true rfl) d_Ro_init_69 (fun q3 H hP hD hS => ?_)
  have hP : va_P D classes (cat [[(h, .inr (9, [.null, .null, .int 0, .int 0, .int 0, .int 0, .int 0, .int 0, .int 0, .ref q1, .ref q2, .null, .null, .null, .int 0, .null, .null, .int 0]))], [(q1, .inl (kA 2, 6000, .inl (fun _ => 0)))], [(q2, .inl (kA 0, 24000, .inl (fun _ => 0)))], [(q3, .inl (kA 0, 4, .inl (fun _ => 0)))]]) H := hP
  have hD : va_D A (cat [[(h, .inr (9, [.null, .null, .int 0, .int 0, .int 0, .int 0, .int 0, .int 0, .int 0, .ref q1, .ref q2, .null, .null, .null, .int 0, .null, .null, .int 0]))], [(q1, .inl (kA 2, 6000, .inl (fun _ => 0)))], [(q2, .inl (kA 0, 24000, .inl (fun _ => 0)))], [(q3, .inl (kA 0, 4, .inl (fun _ => 0)))]]) := hD
  refine W.widen (k := 3) (n := 30004) (by omega) (by omega) ?_
  refine k_put (pc := 71) X hK hP hD hS 0 rfl rfl i_Ro t_Ro t_Ro_ok n_Ro 11 (by decide) wm_1879 rfl (Or.inr ⟨rfl, rfl⟩) rfl rfl (Nat.le_of_ble_eq_true rfl) d_Ro_init_71 (fun H locs hP hD hS => ?_)
  have hP : va_P D classes (cat [[(h, .inr (9, [.null, .null, .int 0, .int 0, .int 0, .int 0, .int 0, .int 0, .int 0, .ref q1, .ref q2, .ref q3, .null, .null, .int 0, .null, .null, .int 0]))], [(q1, .inl (kA 2, 6000, .inl (fun _ => 0)))], [(q2, .inl (kA 0, 24000, .inl (fun _ => 0)))], [(q3, .inl (kA 0, 4, .inl (fun _ => 0)))]]) H := hP
  have hD : va_D A (cat [[(h, .inr (9, [.null, .null, .int 0, .int 0, .int 0, .int 0, .int 0, .int 0, .int 0, .ref q1, .ref q2, .ref q3, .null, .null, .int 0, .null, .null, .int 0]))], [(q1, .inl (kA 2, 6000, .inl (fun _ => 0)))], [(q2, .inl (kA 0, 24000, .inl (fun _ => 0)))], [(q3, .inl (kA 0, 4, .inl (fun _ => 0)))]]) := hD
  refine lv_aload_n (pc := 74) hx hb d_Ro_init_74 rfl (lv_at hl 0 rfl) ?_
  refine lv_ldc (pc := 75) (v := 48004) hx hb hown (hts _ wm_1867) d_Ro_init_75 ?_
  refine k_newa (pc := 77) (atype := .int) X (ty := .int) (a0 := (48004, .inl (fun _ => 0))) rfl rfl wm_193 hK hP hD hS hA 0 rfl (fun _ => rfl) (by decide) rfl (by decide) (Nat.le_of_ble_eq_true rfl) (Nat.le_of_ble_eq_true rfl) d_Ro_init_77 (fun q4 H hP hD hS => ?_)
  have hP : va_P D classes (cat [[(h, .inr (9, [.null, .null, .int 0, .int 0, .int 0, .int 0, .int 0, .int 0, .int 0, .ref q1, .ref q2, .ref q3, .null, .null, .int 0, .null, .null, .int 0]))], [(q1, .inl (kA 2, 6000, .inl (fun _ => 0)))], [(q2, .inl (kA 0, 24000, .inl (fun _ => 0)))], [(q3, .inl (kA 0, 4, .inl (fun _ => 0)))], [(q4, .inl (kA 0, 48004, .inl (fun _ => 0)))]]) H := hP
  have hD : va_D A (cat [[(h, .inr (9, [.null, .null, .int 0, .int 0, .int 0, .int 0, .int 0, .int 0, .int 0, .ref q1, .ref q2, .ref q3, .null, .null, .int 0, .null, .null, .int 0]))], [(q1, .inl (kA 2, 6000, .inl (fun _ => 0)))], [(q2, .inl (kA 0, 24000, .inl (fun _ => 0)))], [(q3, .inl (kA 0, 4, .inl (fun _ => 0)))], [(q4, .inl (kA 0, 48004, .inl (fun _ => 0)))]]) := hD
  refine W.widen (k := 4) (n := 78008) (by omega) (by omega) ?_
  refine k_put (pc := 79) X hK hP hD hS 0 rfl rfl i_Ro t_Ro t_Ro_ok n_Ro 12 (by decide) wm_1880 rfl (Or.inr ⟨rfl, rfl⟩) rfl rfl (Nat.le_of_ble_eq_true rfl) d_Ro_init_79 (fun H locs hP hD hS => ?_)
  have hP : va_P D classes (cat [[(h, .inr (9, [.null, .null, .int 0, .int 0, .int 0, .int 0, .int 0, .int 0, .int 0, .ref q1, .ref q2, .ref q3, .ref q4, .null, .int 0, .null, .null, .int 0]))], [(q1, .inl (kA 2, 6000, .inl (fun _ => 0)))], [(q2, .inl (kA 0, 24000, .inl (fun _ => 0)))], [(q3, .inl (kA 0, 4, .inl (fun _ => 0)))], [(q4, .inl (kA 0, 48004, .inl (fun _ => 0)))]]) H := hP
  have hD : va_D A (cat [[(h, .inr (9, [.null, .null, .int 0, .int 0, .int 0, .int 0, .int 0, .int 0, .int 0, .ref q1, .ref q2, .ref q3, .ref q4, .null, .int 0, .null, .null, .int 0]))], [(q1, .inl (kA 2, 6000, .inl (fun _ => 0)))], [(q2, .inl (kA 0, 24000, .inl (fun _ => 0)))], [(q3, .inl (kA 0, 4, .inl (fun _ => 0)))], [(q4, .inl (kA 0, 48004, .inl (fun _ => 0)))]]) := hD
  refine lv_aload_n (pc := 82) hx hb d_Ro_init_82 rfl (lv_at hl 0 rfl) ?_
  refine lv_ldc (pc := 83) (v := 48004) hx hb hown (hts _ wm_1867) d_Ro_init_83 ?_
  refine k_newa (pc := 85) (atype := .int) X (ty := .int) (a0 := (48004, .inl (fun _ => 0))) rfl rfl wm_193 hK hP hD hS hA 0 rfl (fun _ => rfl) (by decide) rfl (by decide) (Nat.le_of_ble_eq_true rfl) (Nat.le_of_ble_eq_true rfl) d_Ro_init_85 (fun q5 H hP hD hS => ?_)
  have hP : va_P D classes (cat [[(h, .inr (9, [.null, .null, .int 0, .int 0, .int 0, .int 0, .int 0, .int 0, .int 0, .ref q1, .ref q2, .ref q3, .ref q4, .null, .int 0, .null, .null, .int 0]))], [(q1, .inl (kA 2, 6000, .inl (fun _ => 0)))], [(q2, .inl (kA 0, 24000, .inl (fun _ => 0)))], [(q3, .inl (kA 0, 4, .inl (fun _ => 0)))], [(q4, .inl (kA 0, 48004, .inl (fun _ => 0)))], [(q5, .inl (kA 0, 48004, .inl (fun _ => 0)))]]) H := hP
  have hD : va_D A (cat [[(h, .inr (9, [.null, .null, .int 0, .int 0, .int 0, .int 0, .int 0, .int 0, .int 0, .ref q1, .ref q2, .ref q3, .ref q4, .null, .int 0, .null, .null, .int 0]))], [(q1, .inl (kA 2, 6000, .inl (fun _ => 0)))], [(q2, .inl (kA 0, 24000, .inl (fun _ => 0)))], [(q3, .inl (kA 0, 4, .inl (fun _ => 0)))], [(q4, .inl (kA 0, 48004, .inl (fun _ => 0)))], [(q5, .inl (kA 0, 48004, .inl (fun _ => 0)))]]) := hD
  refine W.widen (k := 5) (n := 126012) (by omega) (by omega) ?_
  refine k_put (pc := 87) X hK hP hD hS 0 rfl rfl i_Ro t_Ro t_Ro_ok n_Ro 13 (by decide) wm_1881 rfl (Or.inr ⟨rfl, rfl⟩) rfl rfl (Nat.le_of_ble_eq_true rfl) d_Ro_init_87 (fun H locs hP hD hS => ?_)
  have hP : va_P D classes (cat [[(h, .inr (9, [.null, .null, .int 0, .int 0, .int 0, .int 0, .int 0, .int 0, .int 0, .ref q1, .ref q2, .ref q3, .ref q4, .ref q5, .int 0, .null, .null, .int 0]))], [(q1, .inl (kA 2, 6000, .inl (fun _ => 0)))], [(q2, .inl (kA 0, 24000, .inl (fun _ => 0)))], [(q3, .inl (kA 0, 4, .inl (fun _ => 0)))], [(q4, .inl (kA 0, 48004, .inl (fun _ => 0)))], [(q5, .inl (kA 0, 48004, .inl (fun _ => 0)))]]) H := hP
  have hD : va_D A (cat [[(h, .inr (9, [.null, .null, .int 0, .int 0, .int 0, .int 0, .int 0, .int 0, .int 0, .ref q1, .ref q2, .ref q3, .ref q4, .ref q5, .int 0, .null, .null, .int 0]))], [(q1, .inl (kA 2, 6000, .inl (fun _ => 0)))], [(q2, .inl (kA 0, 24000, .inl (fun _ => 0)))], [(q3, .inl (kA 0, 4, .inl (fun _ => 0)))], [(q4, .inl (kA 0, 48004, .inl (fun _ => 0)))], [(q5, .inl (kA 0, 48004, .inl (fun _ => 0)))]]) := hD
  refine lv_aload_n (pc := 90) hx hb d_Ro_init_90 rfl (lv_at hl 0 rfl) ?_
  refine lv_iconst (pc := 91) (v := 0) hx hb d_Ro_init_91 (by decide) ?_
  refine k_put (pc := 92) X hK hP hD hS 0 rfl rfl i_Ro t_Ro t_Ro_ok n_Ro 14 (by decide) wm_1882 rfl (Or.inl rfl) rfl rfl (Nat.le_of_ble_eq_true rfl) d_Ro_init_92 (fun H locs hP hD hS => ?_)
  have hP : va_P D classes (cat [[(h, .inr (9, [.null, .null, .int 0, .int 0, .int 0, .int 0, .int 0, .int 0, .int 0, .ref q1, .ref q2, .ref q3, .ref q4, .ref q5, .int 0, .null, .null, .int 0]))], [(q1, .inl (kA 2, 6000, .inl (fun _ => 0)))], [(q2, .inl (kA 0, 24000, .inl (fun _ => 0)))], [(q3, .inl (kA 0, 4, .inl (fun _ => 0)))], [(q4, .inl (kA 0, 48004, .inl (fun _ => 0)))], [(q5, .inl (kA 0, 48004, .inl (fun _ => 0)))]]) H := hP
  have hD : va_D A (cat [[(h, .inr (9, [.null, .null, .int 0, .int 0, .int 0, .int 0, .int 0, .int 0, .int 0, .ref q1, .ref q2, .ref q3, .ref q4, .ref q5, .int 0, .null, .null, .int 0]))], [(q1, .inl (kA 2, 6000, .inl (fun _ => 0)))], [(q2, .inl (kA 0, 24000, .inl (fun _ => 0)))], [(q3, .inl (kA 0, 4, .inl (fun _ => 0)))], [(q4, .inl (kA 0, 48004, .inl (fun _ => 0)))], [(q5, .inl (kA 0, 48004, .inl (fun _ => 0)))]]) := hD
  refine lv_aload_n (pc := 95) hx hb d_Ro_init_95 rfl (lv_at hl 0 rfl) ?_
  refine lv_bipush (pc := 96) (v := 24) hx hb d_Ro_init_96 (by decide) ?_
  refine k_newa (pc := 98) (atype := .int) X (ty := .int) (a0 := (24, .inl (fun _ => 0))) rfl rfl wm_193 hK hP hD hS hA 0 rfl (fun _ => rfl) (by decide) rfl (by decide) (Nat.le_of_ble_eq_true rfl) (Nat.le_of_ble_eq_true rfl) d_Ro_init_98 (fun q6 H hP hD hS => ?_)
  have hP : va_P D classes (cat [[(h, .inr (9, [.null, .null, .int 0, .int 0, .int 0, .int 0, .int 0, .int 0, .int 0, .ref q1, .ref q2, .ref q3, .ref q4, .ref q5, .int 0, .null, .null, .int 0]))], [(q1, .inl (kA 2, 6000, .inl (fun _ => 0)))], [(q2, .inl (kA 0, 24000, .inl (fun _ => 0)))], [(q3, .inl (kA 0, 4, .inl (fun _ => 0)))], [(q4, .inl (kA 0, 48004, .inl (fun _ => 0)))], [(q5, .inl (kA 0, 48004, .inl (fun _ => 0)))], [(q6, .inl (kA 0, 24, .inl (fun _ => 0)))]]) H := hP
  have hD : va_D A (cat [[(h, .inr (9, [.null, .null, .int 0, .int 0, .int 0, .int 0, .int 0, .int 0, .int 0, .ref q1, .ref q2, .ref q3, .ref q4, .ref q5, .int 0, .null, .null, .int 0]))], [(q1, .inl (kA 2, 6000, .inl (fun _ => 0)))], [(q2, .inl (kA 0, 24000, .inl (fun _ => 0)))], [(q3, .inl (kA 0, 4, .inl (fun _ => 0)))], [(q4, .inl (kA 0, 48004, .inl (fun _ => 0)))], [(q5, .inl (kA 0, 48004, .inl (fun _ => 0)))], [(q6, .inl (kA 0, 24, .inl (fun _ => 0)))]]) := hD
  refine W.widen (k := 6) (n := 126036) (by omega) (by omega) ?_
  refine k_put (pc := 100) X hK hP hD hS 0 rfl rfl i_Ro t_Ro t_Ro_ok n_Ro 15 (by decide) wm_1883 rfl (Or.inr ⟨rfl, rfl⟩) rfl rfl (Nat.le_of_ble_eq_true rfl) d_Ro_init_100 (fun H locs hP hD hS => ?_)
  have hP : va_P D classes (cat [[(h, .inr (9, [.null, .null, .int 0, .int 0, .int 0, .int 0, .int 0, .int 0, .int 0, .ref q1, .ref q2, .ref q3, .ref q4, .ref q5, .int 0, .ref q6, .null, .int 0]))], [(q1, .inl (kA 2, 6000, .inl (fun _ => 0)))], [(q2, .inl (kA 0, 24000, .inl (fun _ => 0)))], [(q3, .inl (kA 0, 4, .inl (fun _ => 0)))], [(q4, .inl (kA 0, 48004, .inl (fun _ => 0)))], [(q5, .inl (kA 0, 48004, .inl (fun _ => 0)))], [(q6, .inl (kA 0, 24, .inl (fun _ => 0)))]]) H := hP
  have hD : va_D A (cat [[(h, .inr (9, [.null, .null, .int 0, .int 0, .int 0, .int 0, .int 0, .int 0, .int 0, .ref q1, .ref q2, .ref q3, .ref q4, .ref q5, .int 0, .ref q6, .null, .int 0]))], [(q1, .inl (kA 2, 6000, .inl (fun _ => 0)))], [(q2, .inl (kA 0, 24000, .inl (fun _ => 0)))], [(q3, .inl (kA 0, 4, .inl (fun _ => 0)))], [(q4, .inl (kA 0, 48004, .inl (fun _ => 0)))], [(q5, .inl (kA 0, 48004, .inl (fun _ => 0)))], [(q6, .inl (kA 0, 24, .inl (fun _ => 0)))]]) := hD
  refine lv_aload_n (pc := 103) hx hb d_Ro_init_103 rfl (lv_at hl 0 rfl) ?_
  refine lv_bipush (pc := 104) (v := 24) hx hb d_Ro_init_104 (by decide) ?_
  refine k_newa (pc := 106) (atype := .int) X (ty := .int) (a0 := (24, .inl (fun _ => 0))) rfl rfl wm_193 hK hP hD hS hA 0 rfl (fun _ => rfl) (by decide) rfl (by decide) (Nat.le_of_ble_eq_true rfl) (Nat.le_of_ble_eq_true rfl) d_Ro_init_106 (fun q7 H hP hD hS => ?_)
  have hP : va_P D classes (cat [[(h, .inr (9, [.null, .null, .int 0, .int 0, .int 0, .int 0, .int 0, .int 0, .int 0, .ref q1, .ref q2, .ref q3, .ref q4, .ref q5, .int 0, .ref q6, .null, .int 0]))], [(q1, .inl (kA 2, 6000, .inl (fun _ => 0)))], [(q2, .inl (kA 0, 24000, .inl (fun _ => 0)))], [(q3, .inl (kA 0, 4, .inl (fun _ => 0)))], [(q4, .inl (kA 0, 48004, .inl (fun _ => 0)))], [(q5, .inl (kA 0, 48004, .inl (fun _ => 0)))], [(q6, .inl (kA 0, 24, .inl (fun _ => 0)))], [(q7, .inl (kA 0, 24, .inl (fun _ => 0)))]]) H := hP
  have hD : va_D A (cat [[(h, .inr (9, [.null, .null, .int 0, .int 0, .int 0, .int 0, .int 0, .int 0, .int 0, .ref q1, .ref q2, .ref q3, .ref q4, .ref q5, .int 0, .ref q6, .null, .int 0]))], [(q1, .inl (kA 2, 6000, .inl (fun _ => 0)))], [(q2, .inl (kA 0, 24000, .inl (fun _ => 0)))], [(q3, .inl (kA 0, 4, .inl (fun _ => 0)))], [(q4, .inl (kA 0, 48004, .inl (fun _ => 0)))], [(q5, .inl (kA 0, 48004, .inl (fun _ => 0)))], [(q6, .inl (kA 0, 24, .inl (fun _ => 0)))], [(q7, .inl (kA 0, 24, .inl (fun _ => 0)))]]) := hD
  refine W.widen (k := 7) (n := 126060) (by omega) (by omega) ?_
  refine k_put (pc := 108) X hK hP hD hS 0 rfl rfl i_Ro t_Ro t_Ro_ok n_Ro 16 (by decide) wm_1884 rfl (Or.inr ⟨rfl, rfl⟩) rfl rfl (Nat.le_of_ble_eq_true rfl) d_Ro_init_108 (fun H locs hP hD hS => ?_)
  have hP : va_P D classes (cat [[(h, .inr (9, [.null, .null, .int 0, .int 0, .int 0, .int 0, .int 0, .int 0, .int 0, .ref q1, .ref q2, .ref q3, .ref q4, .ref q5, .int 0, .ref q6, .ref q7, .int 0]))], [(q1, .inl (kA 2, 6000, .inl (fun _ => 0)))], [(q2, .inl (kA 0, 24000, .inl (fun _ => 0)))], [(q3, .inl (kA 0, 4, .inl (fun _ => 0)))], [(q4, .inl (kA 0, 48004, .inl (fun _ => 0)))], [(q5, .inl (kA 0, 48004, .inl (fun _ => 0)))], [(q6, .inl (kA 0, 24, .inl (fun _ => 0)))], [(q7, .inl (kA 0, 24, .inl (fun _ => 0)))]]) H := hP
  have hD : va_D A (cat [[(h, .inr (9, [.null, .null, .int 0, .int 0, .int 0, .int 0, .int 0, .int 0, .int 0, .ref q1, .ref q2, .ref q3, .ref q4, .ref q5, .int 0, .ref q6, .ref q7, .int 0]))], [(q1, .inl (kA 2, 6000, .inl (fun _ => 0)))], [(q2, .inl (kA 0, 24000, .inl (fun _ => 0)))], [(q3, .inl (kA 0, 4, .inl (fun _ => 0)))], [(q4, .inl (kA 0, 48004, .inl (fun _ => 0)))], [(q5, .inl (kA 0, 48004, .inl (fun _ => 0)))], [(q6, .inl (kA 0, 24, .inl (fun _ => 0)))], [(q7, .inl (kA 0, 24, .inl (fun _ => 0)))]]) := hD
  refine lv_aload_n (pc := 111) hx hb d_Ro_init_111 rfl (lv_at hl 0 rfl) ?_
  refine lv_iconst (pc := 112) (v := 0) hx hb d_Ro_init_112 (by decide) ?_
  refine k_put (pc := 113) X hK hP hD hS 0 rfl rfl i_Ro t_Ro t_Ro_ok n_Ro 17 (by decide) wm_1885 rfl (Or.inl rfl) rfl rfl (Nat.le_of_ble_eq_true rfl) d_Ro_init_113 (fun H locs hP hD hS => ?_)
  have hP : va_P D classes (cat [[(h, .inr (9, [.null, .null, .int 0, .int 0, .int 0, .int 0, .int 0, .int 0, .int 0, .ref q1, .ref q2, .ref q3, .ref q4, .ref q5, .int 0, .ref q6, .ref q7, .int 0]))], [(q1, .inl (kA 2, 6000, .inl (fun _ => 0)))], [(q2, .inl (kA 0, 24000, .inl (fun _ => 0)))], [(q3, .inl (kA 0, 4, .inl (fun _ => 0)))], [(q4, .inl (kA 0, 48004, .inl (fun _ => 0)))], [(q5, .inl (kA 0, 48004, .inl (fun _ => 0)))], [(q6, .inl (kA 0, 24, .inl (fun _ => 0)))], [(q7, .inl (kA 0, 24, .inl (fun _ => 0)))]]) H := hP
  have hD : va_D A (cat [[(h, .inr (9, [.null, .null, .int 0, .int 0, .int 0, .int 0, .int 0, .int 0, .int 0, .ref q1, .ref q2, .ref q3, .ref q4, .ref q5, .int 0, .ref q6, .ref q7, .int 0]))], [(q1, .inl (kA 2, 6000, .inl (fun _ => 0)))], [(q2, .inl (kA 0, 24000, .inl (fun _ => 0)))], [(q3, .inl (kA 0, 4, .inl (fun _ => 0)))], [(q4, .inl (kA 0, 48004, .inl (fun _ => 0)))], [(q5, .inl (kA 0, 48004, .inl (fun _ => 0)))], [(q6, .inl (kA 0, 24, .inl (fun _ => 0)))], [(q7, .inl (kA 0, 24, .inl (fun _ => 0)))]]) := hD
  obtain ⟨hP, hD⟩ := k_ord (gc := [[(h, .inr (9, [.null, .null, .int 0, .int 0, .int 0, .int 0, .int 0, .int 0, .int 0, .ref q1, .ref q2, .ref q3, .ref q4, .ref q5, .int 0, .ref q6, .ref q7, .int 0]))], [(q1, .inl (kA 2, 6000, .inl (fun _ => 0)))], [(q2, .inl (kA 0, 24000, .inl (fun _ => 0)))], [(q3, .inl (kA 0, 4, .inl (fun _ => 0)))], [(q4, .inl (kA 0, 48004, .inl (fun _ => 0)))], [(q5, .inl (kA 0, 48004, .inl (fun _ => 0)))], [(q6, .inl (kA 0, 24, .inl (fun _ => 0)))], [(q7, .inl (kA 0, 24, .inl (fun _ => 0)))]]) hP hD [0, 1, 2, 3, 4, 5, 6, 7] 8 rfl (by decide) rfl
  refine W.widen (k := 7) (n := 126060) (Nat.le_of_ble_eq_true rfl) (Nat.le_of_ble_eq_true rfl) ?_
  exact W.vret hx hb hr (fun t ht hW => ⟨⟨(fun k => match k with | 9 => q1 | 10 => q2 | 11 => q3 | 12 => q4 | 13 => q5 | 15 => q6 | 16 => q7 | _ => 0), rfl, trivial, by rw [ht]; exact hP, va_K.moved hW.alike hK, hD⟩, hS.F ht⟩) hS.2.2 d_Ro_init_116
end
section
theorem wm_1624 : (Cond.code ({ cls := "DrawingHouse$PlainWays", name := "<init>", desc := "()V" } : MethodName) prog_8_method_1_code (1 : Nat) (Option.none : Option ClassFile.FieldType) : Cond) ∈ lw_g := lw_gi (lw_c7 (List.mem_of_getElem? (i := 184) rfl)) rfl
theorem wm_1625 : (Cond.methodLink "DrawingHouse$PlainWays" (3 : Nat) ({ cls := "java/lang/Object", name := "<init>", desc := "()V" } : MethodName) : Cond) ∈ lw_g := lw_gi (lw_c7 (List.mem_of_getElem? (i := 185) rfl)) rfl
theorem wm_1626 : (Cond.fieldLink "DrawingHouse$PlainWays" (9 : Nat) "DrawingHouse$PlainWays" "graph" "LDrawingHouse$Graph;" : Cond) ∈ lw_g := lw_gi (lw_c7 (List.mem_of_getElem? (i := 186) rfl)) rfl
theorem wm_1627 : (Cond.fieldLink "DrawingHouse$PlainWays" (15 : Nat) "DrawingHouse$PlainWays" "drawing" "LDrawingHouse$Drawing;" : Cond) ∈ lw_g := lw_gi (lw_c7 (List.mem_of_getElem? (i := 187) rfl)) rfl
theorem wm_1628 : (Cond.fieldLink "DrawingHouse$PlainWays" (19 : Nat) "DrawingHouse$PlainWays" "order" "[I" : Cond) ∈ lw_g := lw_gi (lw_c7 (List.mem_of_getElem? (i := 188) rfl)) rfl
theorem wm_1629 : (Cond.fieldLink "DrawingHouse$PlainWays" (23 : Nat) "DrawingHouse$PlainWays" "best" "[I" : Cond) ∈ lw_g := lw_gi (lw_c7 (List.mem_of_getElem? (i := 189) rfl)) rfl
theorem wm_1630 : (Cond.fieldLink "DrawingHouse$PlainWays" (26 : Nat) "DrawingHouse$PlainWays" "level" "[I" : Cond) ∈ lw_g := lw_gi (lw_c7 (List.mem_of_getElem? (i := 190) rfl)) rfl
theorem wm_1631 : (Cond.fieldLink "DrawingHouse$PlainWays" (29 : Nat) "DrawingHouse$PlainWays" "parent" "[I" : Cond) ∈ lw_g := lw_gi (lw_c7 (List.mem_of_getElem? (i := 191) rfl)) rfl
theorem wm_1632 : (Cond.fieldLink "DrawingHouse$PlainWays" (32 : Nat) "DrawingHouse$PlainWays" "under" "[I" : Cond) ∈ lw_g := lw_gi (lw_c7 (List.mem_of_getElem? (i := 192) rfl)) rfl
theorem wm_1633 : (Cond.fieldLink "DrawingHouse$PlainWays" (35 : Nat) "DrawingHouse$PlainWays" "kids" "[I" : Cond) ∈ lw_g := lw_gi (lw_c7 (List.mem_of_getElem? (i := 193) rfl)) rfl
theorem wm_1634 : (Cond.fieldLink "DrawingHouse$PlainWays" (38 : Nat) "DrawingHouse$PlainWays" "fewest" "I" : Cond) ∈ lw_g := lw_gi (lw_c7 (List.mem_of_getElem? (i := 194) rfl)) rfl
theorem wm_1635 : (Cond.fieldLink "DrawingHouse$PlainWays" (42 : Nat) "DrawingHouse$PlainWays" "item" "[I" : Cond) ∈ lw_g := lw_gi (lw_c7 (List.mem_of_getElem? (i := 195) rfl)) rfl
theorem wm_1636 : (Cond.fieldLink "DrawingHouse$PlainWays" (45 : Nat) "DrawingHouse$PlainWays" "itemSize" "[I" : Cond) ∈ lw_g := lw_gi (lw_c7 (List.mem_of_getElem? (i := 196) rfl)) rfl
theorem wm_1637 : (Cond.fieldLink "DrawingHouse$PlainWays" (48 : Nat) "DrawingHouse$PlainWays" "items" "I" : Cond) ∈ lw_g := lw_gi (lw_c7 (List.mem_of_getElem? (i := 197) rfl)) rfl
theorem wm_1638 : (Cond.fieldLink "DrawingHouse$PlainWays" (51 : Nat) "DrawingHouse$PlainWays" "space" "[I" : Cond) ∈ lw_g := lw_gi (lw_c7 (List.mem_of_getElem? (i := 198) rfl)) rfl
theorem wm_1639 : (Cond.fieldLink "DrawingHouse$PlainWays" (54 : Nat) "DrawingHouse$PlainWays" "shapeLong" "J" : Cond) ∈ lw_g := lw_gi (lw_c7 (List.mem_of_getElem? (i := 199) rfl)) rfl
theorem wm_1640 : (Cond.fieldLink "DrawingHouse$PlainWays" (58 : Nat) "DrawingHouse$PlainWays" "shapeShort" "J" : Cond) ∈ lw_g := lw_gi (lw_c7 (List.mem_of_getElem? (i := 200) rfl)) rfl
theorem wm_1641 : (Cond.fieldLink "DrawingHouse$PlainWays" (61 : Nat) "DrawingHouse$PlainWays" "placeX" "[J" : Cond) ∈ lw_g := lw_gi (lw_c7 (List.mem_of_getElem? (i := 201) rfl)) rfl
theorem wm_1642 : (Cond.fieldLink "DrawingHouse$PlainWays" (65 : Nat) "DrawingHouse$PlainWays" "placeY" "[J" : Cond) ∈ lw_g := lw_gi (lw_c7 (List.mem_of_getElem? (i := 202) rfl)) rfl
theorem wm_1643 : (Cond.fieldLink "DrawingHouse$PlainWays" (68 : Nat) "DrawingHouse$PlainWays" "pullX" "[J" : Cond) ∈ lw_g := lw_gi (lw_c7 (List.mem_of_getElem? (i := 203) rfl)) rfl
theorem wm_1644 : (Cond.fieldLink "DrawingHouse$PlainWays" (71 : Nat) "DrawingHouse$PlainWays" "pullY" "[J" : Cond) ∈ lw_g := lw_gi (lw_c7 (List.mem_of_getElem? (i := 204) rfl)) rfl
theorem wm_1684 : (Cond.arrayClass ClassFile.FieldType.long : Cond) ∈ lw_g := lw_gi (lw_c8 (List.mem_of_getElem? (i := 4) rfl)) rfl
theorem wm_2095 : (Cond.methodLink "DrawingHouse$Styler" (3 : Nat) ({ cls := "java/lang/Object", name := "<init>", desc := "()V" } : MethodName) : Cond) ∈ lw_g := lw_gi (lw_c9 (List.mem_of_getElem? (i := 175) rfl)) rfl
theorem wm_2097 : (Cond.fieldLink "DrawingHouse$Styler" (9 : Nat) "DrawingHouse$Styler" "rules" "I" : Cond) ∈ lw_g := lw_gi (lw_c9 (List.mem_of_getElem? (i := 177) rfl)) rfl
theorem wm_2099 : (Cond.fieldLink "DrawingHouse$Styler" (15 : Nat) "DrawingHouse$Styler" "fault" "I" : Cond) ∈ lw_g := lw_gi (lw_c9 (List.mem_of_getElem? (i := 179) rfl)) rfl
theorem wm_2101 : (Cond.fieldLink "DrawingHouse$Styler" (18 : Nat) "DrawingHouse$Styler" "faultPlace" "I" : Cond) ∈ lw_g := lw_gi (lw_c9 (List.mem_of_getElem? (i := 181) rfl)) rfl
theorem wm_2103 : (Cond.fieldLink "DrawingHouse$Styler" (21 : Nat) "DrawingHouse$Styler" "bytes" "[B" : Cond) ∈ lw_g := lw_gi (lw_c9 (List.mem_of_getElem? (i := 183) rfl)) rfl
theorem wm_2104 : (Cond.fieldLink "DrawingHouse$Styler" (25 : Nat) "DrawingHouse$Styler" "end" "I" : Cond) ∈ lw_g := lw_gi (lw_c9 (List.mem_of_getElem? (i := 184) rfl)) rfl
theorem wm_2105 : (Cond.fieldLink "DrawingHouse$Styler" (28 : Nat) "DrawingHouse$Styler" "next" "I" : Cond) ∈ lw_g := lw_gi (lw_c9 (List.mem_of_getElem? (i := 185) rfl)) rfl
theorem wm_2106 : (Cond.fieldLink "DrawingHouse$Styler" (31 : Nat) "DrawingHouse$Styler" "kind" "I" : Cond) ∈ lw_g := lw_gi (lw_c9 (List.mem_of_getElem? (i := 186) rfl)) rfl
theorem wm_2107 : (Cond.fieldLink "DrawingHouse$Styler" (34 : Nat) "DrawingHouse$Styler" "begin" "I" : Cond) ∈ lw_g := lw_gi (lw_c9 (List.mem_of_getElem? (i := 187) rfl)) rfl
theorem wm_2108 : (Cond.fieldLink "DrawingHouse$Styler" (37 : Nat) "DrawingHouse$Styler" "number" "I" : Cond) ∈ lw_g := lw_gi (lw_c9 (List.mem_of_getElem? (i := 188) rfl)) rfl
abbrev b_Pl_init : ByteArray := prog_8_method_1_code
def y_Pl_init : MethodName := ⟨"DrawingHouse$PlainWays", "<init>", "()V"⟩
abbrev z_Pl_init : List Cond := Cond.code y_Pl_init b_Pl_init 1 none :: lw_g
theorem d_Pl_init_0 : decode b_Pl_init 0 = .ok (.aload_n 0, 1) := by decide +kernel
theorem d_Pl_init_1 : decode b_Pl_init 1 = .ok (.invokespecial 3, 3) := by decide +kernel
theorem d_Pl_init_4 : decode b_Pl_init 4 = .ok (.aload_n 0, 1) := by decide +kernel
theorem d_Pl_init_5 : decode b_Pl_init 5 = .ok (.aconst_null, 1) := by decide +kernel
theorem d_Pl_init_6 : decode b_Pl_init 6 = .ok (.putfield 9, 3) := by decide +kernel
theorem d_Pl_init_9 : decode b_Pl_init 9 = .ok (.aload_n 0, 1) := by decide +kernel
theorem d_Pl_init_10 : decode b_Pl_init 10 = .ok (.aconst_null, 1) := by decide +kernel
theorem d_Pl_init_11 : decode b_Pl_init 11 = .ok (.putfield 15, 3) := by decide +kernel
theorem d_Pl_init_14 : decode b_Pl_init 14 = .ok (.aload_n 0, 1) := by decide +kernel
theorem d_Pl_init_15 : decode b_Pl_init 15 = .ok (.bipush 24, 2) := by decide +kernel
theorem d_Pl_init_17 : decode b_Pl_init 17 = .ok (.newarray .int, 2) := by decide +kernel
theorem d_Pl_init_19 : decode b_Pl_init 19 = .ok (.putfield 19, 3) := by decide +kernel
theorem d_Pl_init_22 : decode b_Pl_init 22 = .ok (.aload_n 0, 1) := by decide +kernel
theorem d_Pl_init_23 : decode b_Pl_init 23 = .ok (.bipush 24, 2) := by decide +kernel
theorem d_Pl_init_25 : decode b_Pl_init 25 = .ok (.newarray .int, 2) := by decide +kernel
theorem d_Pl_init_27 : decode b_Pl_init 27 = .ok (.putfield 23, 3) := by decide +kernel
theorem d_Pl_init_30 : decode b_Pl_init 30 = .ok (.aload_n 0, 1) := by decide +kernel
theorem d_Pl_init_31 : decode b_Pl_init 31 = .ok (.bipush 24, 2) := by decide +kernel
theorem d_Pl_init_33 : decode b_Pl_init 33 = .ok (.newarray .int, 2) := by decide +kernel
theorem d_Pl_init_35 : decode b_Pl_init 35 = .ok (.putfield 26, 3) := by decide +kernel
theorem d_Pl_init_38 : decode b_Pl_init 38 = .ok (.aload_n 0, 1) := by decide +kernel
theorem d_Pl_init_39 : decode b_Pl_init 39 = .ok (.bipush 24, 2) := by decide +kernel
theorem d_Pl_init_41 : decode b_Pl_init 41 = .ok (.newarray .int, 2) := by decide +kernel
theorem d_Pl_init_43 : decode b_Pl_init 43 = .ok (.putfield 29, 3) := by decide +kernel
theorem d_Pl_init_46 : decode b_Pl_init 46 = .ok (.aload_n 0, 1) := by decide +kernel
theorem d_Pl_init_47 : decode b_Pl_init 47 = .ok (.bipush 24, 2) := by decide +kernel
theorem d_Pl_init_49 : decode b_Pl_init 49 = .ok (.newarray .int, 2) := by decide +kernel
theorem d_Pl_init_51 : decode b_Pl_init 51 = .ok (.putfield 32, 3) := by decide +kernel
theorem d_Pl_init_54 : decode b_Pl_init 54 = .ok (.aload_n 0, 1) := by decide +kernel
theorem d_Pl_init_55 : decode b_Pl_init 55 = .ok (.bipush 24, 2) := by decide +kernel
theorem d_Pl_init_57 : decode b_Pl_init 57 = .ok (.newarray .int, 2) := by decide +kernel
theorem d_Pl_init_59 : decode b_Pl_init 59 = .ok (.putfield 35, 3) := by decide +kernel
theorem d_Pl_init_62 : decode b_Pl_init 62 = .ok (.aload_n 0, 1) := by decide +kernel
theorem d_Pl_init_63 : decode b_Pl_init 63 = .ok (.iconst 0, 1) := by decide +kernel
theorem d_Pl_init_64 : decode b_Pl_init 64 = .ok (.putfield 38, 3) := by decide +kernel
theorem d_Pl_init_67 : decode b_Pl_init 67 = .ok (.aload_n 0, 1) := by decide +kernel
theorem d_Pl_init_68 : decode b_Pl_init 68 = .ok (.bipush 32, 2) := by decide +kernel
theorem d_Pl_init_70 : decode b_Pl_init 70 = .ok (.newarray .int, 2) := by decide +kernel
theorem d_Pl_init_72 : decode b_Pl_init 72 = .ok (.putfield 42, 3) := by decide +kernel
theorem d_Pl_init_75 : decode b_Pl_init 75 = .ok (.aload_n 0, 1) := by decide +kernel
theorem d_Pl_init_76 : decode b_Pl_init 76 = .ok (.bipush 32, 2) := by decide +kernel
theorem d_Pl_init_78 : decode b_Pl_init 78 = .ok (.newarray .int, 2) := by decide +kernel
theorem d_Pl_init_80 : decode b_Pl_init 80 = .ok (.putfield 45, 3) := by decide +kernel
theorem d_Pl_init_83 : decode b_Pl_init 83 = .ok (.aload_n 0, 1) := by decide +kernel
theorem d_Pl_init_84 : decode b_Pl_init 84 = .ok (.iconst 0, 1) := by decide +kernel
theorem d_Pl_init_85 : decode b_Pl_init 85 = .ok (.putfield 48, 3) := by decide +kernel
theorem d_Pl_init_88 : decode b_Pl_init 88 = .ok (.aload_n 0, 1) := by decide +kernel
theorem d_Pl_init_89 : decode b_Pl_init 89 = .ok (.iconst 4, 1) := by decide +kernel
theorem d_Pl_init_90 : decode b_Pl_init 90 = .ok (.newarray .int, 2) := by decide +kernel
theorem d_Pl_init_92 : decode b_Pl_init 92 = .ok (.putfield 51, 3) := by decide +kernel
theorem d_Pl_init_95 : decode b_Pl_init 95 = .ok (.aload_n 0, 1) := by decide +kernel
theorem d_Pl_init_96 : decode b_Pl_init 96 = .ok (.lconst 0, 1) := by decide +kernel
theorem d_Pl_init_97 : decode b_Pl_init 97 = .ok (.putfield 54, 3) := by decide +kernel
theorem d_Pl_init_100 : decode b_Pl_init 100 = .ok (.aload_n 0, 1) := by decide +kernel
theorem d_Pl_init_101 : decode b_Pl_init 101 = .ok (.lconst 1, 1) := by decide +kernel
theorem d_Pl_init_102 : decode b_Pl_init 102 = .ok (.putfield 58, 3) := by decide +kernel
theorem d_Pl_init_105 : decode b_Pl_init 105 = .ok (.aload_n 0, 1) := by decide +kernel
theorem d_Pl_init_106 : decode b_Pl_init 106 = .ok (.bipush 24, 2) := by decide +kernel
theorem d_Pl_init_108 : decode b_Pl_init 108 = .ok (.newarray .long, 2) := by decide +kernel
theorem d_Pl_init_110 : decode b_Pl_init 110 = .ok (.putfield 61, 3) := by decide +kernel
theorem d_Pl_init_113 : decode b_Pl_init 113 = .ok (.aload_n 0, 1) := by decide +kernel
theorem d_Pl_init_114 : decode b_Pl_init 114 = .ok (.bipush 24, 2) := by decide +kernel
theorem d_Pl_init_116 : decode b_Pl_init 116 = .ok (.newarray .long, 2) := by decide +kernel
theorem d_Pl_init_118 : decode b_Pl_init 118 = .ok (.putfield 65, 3) := by decide +kernel
theorem d_Pl_init_121 : decode b_Pl_init 121 = .ok (.aload_n 0, 1) := by decide +kernel
theorem d_Pl_init_122 : decode b_Pl_init 122 = .ok (.bipush 24, 2) := by decide +kernel
theorem d_Pl_init_124 : decode b_Pl_init 124 = .ok (.newarray .long, 2) := by decide +kernel
theorem d_Pl_init_126 : decode b_Pl_init 126 = .ok (.putfield 68, 3) := by decide +kernel
theorem d_Pl_init_129 : decode b_Pl_init 129 = .ok (.aload_n 0, 1) := by decide +kernel
theorem d_Pl_init_130 : decode b_Pl_init 130 = .ok (.bipush 24, 2) := by decide +kernel
theorem d_Pl_init_132 : decode b_Pl_init 132 = .ok (.newarray .long, 2) := by decide +kernel
theorem d_Pl_init_134 : decode b_Pl_init 134 = .ok (.putfield 71, 3) := by decide +kernel
theorem d_Pl_init_137 : decode b_Pl_init 137 = .ok (.return_, 1) := by decide +kernel
abbrev f0Pl : List Value := [.null, .null, .null, .null, .null, .null, .null, .null, .int 0, .null, .null, .int 0, .null, .long 0, .long 0, .null, .null, .null, .null]
set_option maxRecDepth 20000 in
theorem f0Pl_ok : ∀ j, j < 19 → defaultValue (t_Pl j) = vp_V f0Pl j := by decide +kernel
def wPl (kA : Nat → ClassId) (h : Nat) (q : Nat → Nat) (x : Nat → Int32) (a : Nat → Nat → Int32) (y : Nat → Int64) (b : Nat → Nat → Int64) (o0 : Option Nat) (o1 : Option Nat) : va_W := [(h, .inr (6, [va_rf o0, va_rf o1, .ref (q 2), .ref (q 3), .ref (q 4), .ref (q 5), .ref (q 6), .ref (q 7), .int (x 8), .ref (q 9), .ref (q 10), .int (x 11), .ref (q 12), .long (y 13), .long (y 14), .ref (q 15), .ref (q 16), .ref (q 17), .ref (q 18)])), (q 2, .inl (kA 0, 24, .inl (a 2))), (q 3, .inl (kA 0, 24, .inl (a 3))), (q 4, .inl (kA 0, 24, .inl (a 4))), (q 5, .inl (kA 0, 24, .inl (a 5))), (q 6, .inl (kA 0, 24, .inl (a 6))), (q 7, .inl (kA 0, 24, .inl (a 7))), (q 9, .inl (kA 0, 32, .inl (a 9))), (q 10, .inl (kA 0, 32, .inl (a 10))), (q 12, .inl (kA 0, 4, .inl (a 12))), (q 15, .inl (kA 3, 24, .inr (.inl (b 15)))), (q 16, .inl (kA 3, 24, .inr (.inl (b 16)))), (q 17, .inl (kA 3, 24, .inr (.inl (b 17)))), (q 18, .inl (kA 3, 24, .inr (.inl (b 18))))]
def x0Pl : Nat → Int32 := fun _ => 0
def a0Pl : Nat → Nat → Int32 := fun _ => fun _ => 0
def y0Pl : Nat → Int64 := fun k => match k with | 14 => 1 | _ => 0
set_option maxRecDepth 100000 in
set_option maxHeartbeats 4000000 in
/-- DrawingHouse$PlainWays()V -/
theorem c_Pl_init (l : Launch) (D : va_G) (kA : Nat → ClassId) (h : Nat) : Cv l y_Pl_init z_Pl_init { frames := 1, cells := 13, slots := 308, locals := 12 } D classes (TY kA) [.ref h] [[(h, .inr (6, f0Pl))]] (fun u : (Nat → Nat) => True) (fun u => [wPl kA h u x0Pl a0Pl y0Pl (fun _ _ => 0) none none]) 13 308 := by
  intro sz
  refine k_met (cc := b_Pl_init) (maxL := 1) (ret := none) (by decide) rfl (Nat.le_of_ble_eq_true rfl) (fun p e s m below meth c ls X hl hB => ?_)
  obtain ⟨hsz, hP, hK, hD0, hN⟩ := hB
  subst hsz
  have hD := hD0.self (sz := s.heap.size)
  generalize hAe : va_A (cat [[(h, .inr (6, [.null, .null, .null, .null, .null, .null, .null, .null, .int 0, .null, .null, .int 0, .null, .long 0, .long 0, .null, .null, .null, .null]))]]) s.heap.size = A at hD ⊢
  have hA : ∀ q : Nat, s.heap.size ≤ q → A q := fun q h => by rw [← hAe]; exact Or.inr h
  have hS : va_S A s.heap s.heap [] := va_S.rf
  obtain ⟨hx, hb, hml, hown, hts, hr, hlk, hnm⟩ := id X
  have hl : lv_has ls 1 [(0, .ref h)] := hl
  have hP : va_P D classes (cat [[(h, .inr (6, [.null, .null, .null, .null, .null, .null, .null, .null, .int 0, .null, .null, .int 0, .null, .long 0, .long 0, .null, .null, .null, .null]))]]) s.heap := hP
  have hK : va_K D classes (TY kA) s := hK
  refine lv_aload_n (pc := 0) hx hb d_Pl_init_0 rfl (lv_at hl 0 rfl) ?_
  refine W.objInit hx hb hown (hts _ wm_1625) (hts _ wm_31) (hts _ wm_32) rfl (by rw [hml]; exact hl.1) rfl d_Pl_init_1 (Nat.le_of_ble_eq_true rfl) (Nat.le_of_ble_eq_true rfl) ?_
  refine W.eq (g2 := F0 m 4 ls []) rfl ?_
  refine lv_aload_n (pc := 4) hx hb d_Pl_init_4 rfl (lv_at hl 0 rfl) ?_
  refine lv_null (pc := 5) hx hb d_Pl_init_5 ?_
  refine k_put (pc := 6) X hK hP hD hS 0 rfl rfl i_Pl t_Pl t_Pl_ok n_Pl 0 (by decide) wm_1626 rfl (Or.inl rfl) rfl rfl (Nat.le_of_ble_eq_true rfl) d_Pl_init_6 (fun H locs hP hD hS => ?_)
  have hP : va_P D classes (cat [[(h, .inr (6, [.null, .null, .null, .null, .null, .null, .null, .null, .int 0, .null, .null, .int 0, .null, .long 0, .long 0, .null, .null, .null, .null]))]]) H := hP
  have hD : va_D A (cat [[(h, .inr (6, [.null, .null, .null, .null, .null, .null, .null, .null, .int 0, .null, .null, .int 0, .null, .long 0, .long 0, .null, .null, .null, .null]))]]) := hD
  refine lv_aload_n (pc := 9) hx hb d_Pl_init_9 rfl (lv_at hl 0 rfl) ?_
  refine lv_null (pc := 10) hx hb d_Pl_init_10 ?_
  refine k_put (pc := 11) X hK hP hD hS 0 rfl rfl i_Pl t_Pl t_Pl_ok n_Pl 1 (by decide) wm_1627 rfl (Or.inl rfl) rfl rfl (Nat.le_of_ble_eq_true rfl) d_Pl_init_11 (fun H locs hP hD hS => ?_)
  have hP : va_P D classes (cat [[(h, .inr (6, [.null, .null, .null, .null, .null, .null, .null, .null, .int 0, .null, .null, .int 0, .null, .long 0, .long 0, .null, .null, .null, .null]))]]) H := hP
  have hD : va_D A (cat [[(h, .inr (6, [.null, .null, .null, .null, .null, .null, .null, .null, .int 0, .null, .null, .int 0, .null, .long 0, .long 0, .null, .null, .null, .null]))]]) := hD
  refine lv_aload_n (pc := 14) hx hb d_Pl_init_14 rfl (lv_at hl 0 rfl) ?_
  refine lv_bipush (pc := 15) (v := 24) hx hb d_Pl_init_15 (by decide) ?_
  refine k_newa (pc := 17) (atype := .int) X (ty := .int) (a0 := (24, .inl (fun _ => 0))) rfl rfl wm_193 hK hP hD hS hA 0 rfl (fun _ => rfl) (by decide) rfl (by decide) (Nat.le_of_ble_eq_true rfl) (Nat.le_of_ble_eq_true rfl) d_Pl_init_17 (fun q1 H hP hD hS => ?_)
  have hP : va_P D classes (cat [[(h, .inr (6, [.null, .null, .null, .null, .null, .null, .null, .null, .int 0, .null, .null, .int 0, .null, .long 0, .long 0, .null, .null, .null, .null]))], [(q1, .inl (kA 0, 24, .inl (fun _ => 0)))]]) H := hP
  have hD : va_D A (cat [[(h, .inr (6, [.null, .null, .null, .null, .null, .null, .null, .null, .int 0, .null, .null, .int 0, .null, .long 0, .long 0, .null, .null, .null, .null]))], [(q1, .inl (kA 0, 24, .inl (fun _ => 0)))]]) := hD
  refine W.widen (k := 1) (n := 24) (by omega) (by omega) ?_
  refine k_put (pc := 19) X hK hP hD hS 0 rfl rfl i_Pl t_Pl t_Pl_ok n_Pl 2 (by decide) wm_1628 rfl (Or.inr ⟨rfl, rfl⟩) rfl rfl (Nat.le_of_ble_eq_true rfl) d_Pl_init_19 (fun H locs hP hD hS => ?_)
  have hP : va_P D classes (cat [[(h, .inr (6, [.null, .null, .ref q1, .null, .null, .null, .null, .null, .int 0, .null, .null, .int 0, .null, .long 0, .long 0, .null, .null, .null, .null]))], [(q1, .inl (kA 0, 24, .inl (fun _ => 0)))]]) H := hP
  have hD : va_D A (cat [[(h, .inr (6, [.null, .null, .ref q1, .null, .null, .null, .null, .null, .int 0, .null, .null, .int 0, .null, .long 0, .long 0, .null, .null, .null, .null]))], [(q1, .inl (kA 0, 24, .inl (fun _ => 0)))]]) := hD
  refine lv_aload_n (pc := 22) hx hb d_Pl_init_22 rfl (lv_at hl 0 rfl) ?_
  refine lv_bipush (pc := 23) (v := 24) hx hb d_Pl_init_23 (by decide) ?_
  refine k_newa (pc := 25) (atype := .int) X (ty := .int) (a0 := (24, .inl (fun _ => 0))) rfl rfl wm_193 hK hP hD hS hA 0 rfl (fun _ => rfl) (by decide) rfl (by decide) (Nat.le_of_ble_eq_true rfl) (Nat.le_of_ble_eq_true rfl) d_Pl_init_25 (fun q2 H hP hD hS => ?_)
  have hP : va_P D classes (cat [[(h, .inr (6, [.null, .null, .ref q1, .null, .null, .null, .null, .null, .int 0, .null, .null, .int 0, .null, .long 0, .long 0, .null, .null, .null, .null]))], [(q1, .inl (kA 0, 24, .inl (fun _ => 0)))], [(q2, .inl (kA 0, 24, .inl (fun _ => 0)))]]) H := hP
  have hD : va_D A (cat [[(h, .inr (6, [.null, .null, .ref q1, .null, .null, .null, .null, .null, .int 0, .null, .null, .int 0, .null, .long 0, .long 0, .null, .null, .null, .null]))], [(q1, .inl (kA 0, 24, .inl (fun _ => 0)))], [(q2, .inl (kA 0, 24, .inl (fun _ => 0)))]]) := hD
  refine W.widen (k := 2) (n := 48) (by omega) (by omega) ?_
  refine k_put (pc := 27) X hK hP hD hS 0 rfl rfl i_Pl t_Pl t_Pl_ok n_Pl 3 (by decide) wm_1629 rfl (Or.inr ⟨rfl, rfl⟩) rfl rfl (Nat.le_of_ble_eq_true rfl) d_Pl_init_27 (fun H locs hP hD hS => ?_)
  have hP : va_P D classes (cat [[(h, .inr (6, [.null, .null, .ref q1, .ref q2, .null, .null, .null, .null, .int 0, .null, .null, .int 0, .null, .long 0, .long 0, .null, .null, .null, .null]))], [(q1, .inl (kA 0, 24, .inl (fun _ => 0)))], [(q2, .inl (kA 0, 24, .inl (fun _ => 0)))]]) H := hP
  have hD : va_D A (cat [[(h, .inr (6, [.null, .null, .ref q1, .ref q2, .null, .null, .null, .null, .int 0, .null, .null, .int 0, .null, .long 0, .long 0, .null, .null, .null, .null]))], [(q1, .inl (kA 0, 24, .inl (fun _ => 0)))], [(q2, .inl (kA 0, 24, .inl (fun _ => 0)))]]) := hD
  refine lv_aload_n (pc := 30) hx hb d_Pl_init_30 rfl (lv_at hl 0 rfl) ?_
  refine lv_bipush (pc := 31) (v := 24) hx hb d_Pl_init_31 (by decide) ?_
  refine k_newa (pc := 33) (atype := .int) X (ty := .int) (a0 := (24, .inl (fun _ => 0))) rfl rfl wm_193 hK hP hD hS hA 0 rfl (fun _ => rfl) (by decide) rfl (by decide) (Nat.le_of_ble_eq_true rfl) (Nat.le_of_ble_eq_true rfl) d_Pl_init_33 (fun q3 H hP hD hS => ?_)
  have hP : va_P D classes (cat [[(h, .inr (6, [.null, .null, .ref q1, .ref q2, .null, .null, .null, .null, .int 0, .null, .null, .int 0, .null, .long 0, .long 0, .null, .null, .null, .null]))], [(q1, .inl (kA 0, 24, .inl (fun _ => 0)))], [(q2, .inl (kA 0, 24, .inl (fun _ => 0)))], [(q3, .inl (kA 0, 24, .inl (fun _ => 0)))]]) H := hP
  have hD : va_D A (cat [[(h, .inr (6, [.null, .null, .ref q1, .ref q2, .null, .null, .null, .null, .int 0, .null, .null, .int 0, .null, .long 0, .long 0, .null, .null, .null, .null]))], [(q1, .inl (kA 0, 24, .inl (fun _ => 0)))], [(q2, .inl (kA 0, 24, .inl (fun _ => 0)))], [(q3, .inl (kA 0, 24, .inl (fun _ => 0)))]]) := hD
  refine W.widen (k := 3) (n := 72) (by omega) (by omega) ?_
  refine k_put (pc := 35) X hK hP hD hS 0 rfl rfl i_Pl t_Pl t_Pl_ok n_Pl 4 (by decide) wm_1630 rfl (Or.inr ⟨rfl, rfl⟩) rfl rfl (Nat.le_of_ble_eq_true rfl) d_Pl_init_35 (fun H locs hP hD hS => ?_)
  have hP : va_P D classes (cat [[(h, .inr (6, [.null, .null, .ref q1, .ref q2, .ref q3, .null, .null, .null, .int 0, .null, .null, .int 0, .null, .long 0, .long 0, .null, .null, .null, .null]))], [(q1, .inl (kA 0, 24, .inl (fun _ => 0)))], [(q2, .inl (kA 0, 24, .inl (fun _ => 0)))], [(q3, .inl (kA 0, 24, .inl (fun _ => 0)))]]) H := hP
  have hD : va_D A (cat [[(h, .inr (6, [.null, .null, .ref q1, .ref q2, .ref q3, .null, .null, .null, .int 0, .null, .null, .int 0, .null, .long 0, .long 0, .null, .null, .null, .null]))], [(q1, .inl (kA 0, 24, .inl (fun _ => 0)))], [(q2, .inl (kA 0, 24, .inl (fun _ => 0)))], [(q3, .inl (kA 0, 24, .inl (fun _ => 0)))]]) := hD
  refine lv_aload_n (pc := 38) hx hb d_Pl_init_38 rfl (lv_at hl 0 rfl) ?_
  refine lv_bipush (pc := 39) (v := 24) hx hb d_Pl_init_39 (by decide) ?_
  refine k_newa (pc := 41) (atype := .int) X (ty := .int) (a0 := (24, .inl (fun _ => 0))) rfl rfl wm_193 hK hP hD hS hA 0 rfl (fun _ => rfl) (by decide) rfl (by decide) (Nat.le_of_ble_eq_true rfl) (Nat.le_of_ble_eq_true rfl) d_Pl_init_41 (fun q4 H hP hD hS => ?_)
  have hP : va_P D classes (cat [[(h, .inr (6, [.null, .null, .ref q1, .ref q2, .ref q3, .null, .null, .null, .int 0, .null, .null, .int 0, .null, .long 0, .long 0, .null, .null, .null, .null]))], [(q1, .inl (kA 0, 24, .inl (fun _ => 0)))], [(q2, .inl (kA 0, 24, .inl (fun _ => 0)))], [(q3, .inl (kA 0, 24, .inl (fun _ => 0)))], [(q4, .inl (kA 0, 24, .inl (fun _ => 0)))]]) H := hP
  have hD : va_D A (cat [[(h, .inr (6, [.null, .null, .ref q1, .ref q2, .ref q3, .null, .null, .null, .int 0, .null, .null, .int 0, .null, .long 0, .long 0, .null, .null, .null, .null]))], [(q1, .inl (kA 0, 24, .inl (fun _ => 0)))], [(q2, .inl (kA 0, 24, .inl (fun _ => 0)))], [(q3, .inl (kA 0, 24, .inl (fun _ => 0)))], [(q4, .inl (kA 0, 24, .inl (fun _ => 0)))]]) := hD
  refine W.widen (k := 4) (n := 96) (by omega) (by omega) ?_
  refine k_put (pc := 43) X hK hP hD hS 0 rfl rfl i_Pl t_Pl t_Pl_ok n_Pl 5 (by decide) wm_1631 rfl (Or.inr ⟨rfl, rfl⟩) rfl rfl (Nat.le_of_ble_eq_true rfl) d_Pl_init_43 (fun H locs hP hD hS => ?_)
  have hP : va_P D classes (cat [[(h, .inr (6, [.null, .null, .ref q1, .ref q2, .ref q3, .ref q4, .null, .null, .int 0, .null, .null, .int 0, .null, .long 0, .long 0, .null, .null, .null, .null]))], [(q1, .inl (kA 0, 24, .inl (fun _ => 0)))], [(q2, .inl (kA 0, 24, .inl (fun _ => 0)))], [(q3, .inl (kA 0, 24, .inl (fun _ => 0)))], [(q4, .inl (kA 0, 24, .inl (fun _ => 0)))]]) H := hP
  have hD : va_D A (cat [[(h, .inr (6, [.null, .null, .ref q1, .ref q2, .ref q3, .ref q4, .null, .null, .int 0, .null, .null, .int 0, .null, .long 0, .long 0, .null, .null, .null, .null]))], [(q1, .inl (kA 0, 24, .inl (fun _ => 0)))], [(q2, .inl (kA 0, 24, .inl (fun _ => 0)))], [(q3, .inl (kA 0, 24, .inl (fun _ => 0)))], [(q4, .inl (kA 0, 24, .inl (fun _ => 0)))]]) := hD
  refine lv_aload_n (pc := 46) hx hb d_Pl_init_46 rfl (lv_at hl 0 rfl) ?_
  refine lv_bipush (pc := 47) (v := 24) hx hb d_Pl_init_47 (by decide) ?_
  refine k_newa (pc := 49) (atype := .int) X (ty := .int) (a0 := (24, .inl (fun _ => 0))) rfl rfl wm_193 hK hP hD hS hA 0 rfl (fun _ => rfl) (by decide) rfl (by decide) (Nat.le_of_ble_eq_true rfl) (Nat.le_of_ble_eq_true rfl) d_Pl_init_49 (fun q5 H hP hD hS => ?_)
  have hP : va_P D classes (cat [[(h, .inr (6, [.null, .null, .ref q1, .ref q2, .ref q3, .ref q4, .null, .null, .int 0, .null, .null, .int 0, .null, .long 0, .long 0, .null, .null, .null, .null]))], [(q1, .inl (kA 0, 24, .inl (fun _ => 0)))], [(q2, .inl (kA 0, 24, .inl (fun _ => 0)))], [(q3, .inl (kA 0, 24, .inl (fun _ => 0)))], [(q4, .inl (kA 0, 24, .inl (fun _ => 0)))], [(q5, .inl (kA 0, 24, .inl (fun _ => 0)))]]) H := hP
  have hD : va_D A (cat [[(h, .inr (6, [.null, .null, .ref q1, .ref q2, .ref q3, .ref q4, .null, .null, .int 0, .null, .null, .int 0, .null, .long 0, .long 0, .null, .null, .null, .null]))], [(q1, .inl (kA 0, 24, .inl (fun _ => 0)))], [(q2, .inl (kA 0, 24, .inl (fun _ => 0)))], [(q3, .inl (kA 0, 24, .inl (fun _ => 0)))], [(q4, .inl (kA 0, 24, .inl (fun _ => 0)))], [(q5, .inl (kA 0, 24, .inl (fun _ => 0)))]]) := hD
  refine W.widen (k := 5) (n := 120) (by omega) (by omega) ?_
  refine k_put (pc := 51) X hK hP hD hS 0 rfl rfl i_Pl t_Pl t_Pl_ok n_Pl 6 (by decide) wm_1632 rfl (Or.inr ⟨rfl, rfl⟩) rfl rfl (Nat.le_of_ble_eq_true rfl) d_Pl_init_51 (fun H locs hP hD hS => ?_)
  have hP : va_P D classes (cat [[(h, .inr (6, [.null, .null, .ref q1, .ref q2, .ref q3, .ref q4, .ref q5, .null, .int 0, .null, .null, .int 0, .null, .long 0, .long 0, .null, .null, .null, .null]))], [(q1, .inl (kA 0, 24, .inl (fun _ => 0)))], [(q2, .inl (kA 0, 24, .inl (fun _ => 0)))], [(q3, .inl (kA 0, 24, .inl (fun _ => 0)))], [(q4, .inl (kA 0, 24, .inl (fun _ => 0)))], [(q5, .inl (kA 0, 24, .inl (fun _ => 0)))]]) H := hP
  have hD : va_D A (cat [[(h, .inr (6, [.null, .null, .ref q1, .ref q2, .ref q3, .ref q4, .ref q5, .null, .int 0, .null, .null, .int 0, .null, .long 0, .long 0, .null, .null, .null, .null]))], [(q1, .inl (kA 0, 24, .inl (fun _ => 0)))], [(q2, .inl (kA 0, 24, .inl (fun _ => 0)))], [(q3, .inl (kA 0, 24, .inl (fun _ => 0)))], [(q4, .inl (kA 0, 24, .inl (fun _ => 0)))], [(q5, .inl (kA 0, 24, .inl (fun _ => 0)))]]) := hD
  refine lv_aload_n (pc := 54) hx hb d_Pl_init_54 rfl (lv_at hl 0 rfl) ?_
  refine lv_bipush (pc := 55) (v := 24) hx hb d_Pl_init_55 (by decide) ?_
  refine k_newa (pc := 57) (atype := .int) X (ty := .int) (a0 := (24, .inl (fun _ => 0))) rfl rfl wm_193 hK hP hD hS hA 0 rfl (fun _ => rfl) (by decide) rfl (by decide) (Nat.le_of_ble_eq_true rfl) (Nat.le_of_ble_eq_true rfl) d_Pl_init_57 (fun q6 H hP hD hS => ?_)
  have hP : va_P D classes (cat [[(h, .inr (6, [.null, .null, .ref q1, .ref q2, .ref q3, .ref q4, .ref q5, .null, .int 0, .null, .null, .int 0, .null, .long 0, .long 0, .null, .null, .null, .null]))], [(q1, .inl (kA 0, 24, .inl (fun _ => 0)))], [(q2, .inl (kA 0, 24, .inl (fun _ => 0)))], [(q3, .inl (kA 0, 24, .inl (fun _ => 0)))], [(q4, .inl (kA 0, 24, .inl (fun _ => 0)))], [(q5, .inl (kA 0, 24, .inl (fun _ => 0)))], [(q6, .inl (kA 0, 24, .inl (fun _ => 0)))]]) H := hP
  have hD : va_D A (cat [[(h, .inr (6, [.null, .null, .ref q1, .ref q2, .ref q3, .ref q4, .ref q5, .null, .int 0, .null, .null, .int 0, .null, .long 0, .long 0, .null, .null, .null, .null]))], [(q1, .inl (kA 0, 24, .inl (fun _ => 0)))], [(q2, .inl (kA 0, 24, .inl (fun _ => 0)))], [(q3, .inl (kA 0, 24, .inl (fun _ => 0)))], [(q4, .inl (kA 0, 24, .inl (fun _ => 0)))], [(q5, .inl (kA 0, 24, .inl (fun _ => 0)))], [(q6, .inl (kA 0, 24, .inl (fun _ => 0)))]]) := hD
  refine W.widen (k := 6) (n := 144) (by omega) (by omega) ?_
  refine k_put (pc := 59) X hK hP hD hS 0 rfl rfl i_Pl t_Pl t_Pl_ok n_Pl 7 (by decide) wm_1633 rfl (Or.inr ⟨rfl, rfl⟩) rfl rfl (Nat.le_of_ble_eq_true rfl) d_Pl_init_59 (fun H locs hP hD hS => ?_)
  have hP : va_P D classes (cat [[(h, .inr (6, [.null, .null, .ref q1, .ref q2, .ref q3, .ref q4, .ref q5, .ref q6, .int 0, .null, .null, .int 0, .null, .long 0, .long 0, .null, .null, .null, .null]))], [(q1, .inl (kA 0, 24, .inl (fun _ => 0)))], [(q2, .inl (kA 0, 24, .inl (fun _ => 0)))], [(q3, .inl (kA 0, 24, .inl (fun _ => 0)))], [(q4, .inl (kA 0, 24, .inl (fun _ => 0)))], [(q5, .inl (kA 0, 24, .inl (fun _ => 0)))], [(q6, .inl (kA 0, 24, .inl (fun _ => 0)))]]) H := hP
  have hD : va_D A (cat [[(h, .inr (6, [.null, .null, .ref q1, .ref q2, .ref q3, .ref q4, .ref q5, .ref q6, .int 0, .null, .null, .int 0, .null, .long 0, .long 0, .null, .null, .null, .null]))], [(q1, .inl (kA 0, 24, .inl (fun _ => 0)))], [(q2, .inl (kA 0, 24, .inl (fun _ => 0)))], [(q3, .inl (kA 0, 24, .inl (fun _ => 0)))], [(q4, .inl (kA 0, 24, .inl (fun _ => 0)))], [(q5, .inl (kA 0, 24, .inl (fun _ => 0)))], [(q6, .inl (kA 0, 24, .inl (fun _ => 0)))]]) := hD
  refine lv_aload_n (pc := 62) hx hb d_Pl_init_62 rfl (lv_at hl 0 rfl) ?_
  refine lv_iconst (pc := 63) (v := 0) hx hb d_Pl_init_63 (by decide) ?_
  refine k_put (pc := 64) X hK hP hD hS 0 rfl rfl i_Pl t_Pl t_Pl_ok n_Pl 8 (by decide) wm_1634 rfl (Or.inl rfl) rfl rfl (Nat.le_of_ble_eq_true rfl) d_Pl_init_64 (fun H locs hP hD hS => ?_)
  have hP : va_P D classes (cat [[(h, .inr (6, [.null, .null, .ref q1, .ref q2, .ref q3, .ref q4, .ref q5, .ref q6, .int 0, .null, .null, .int 0, .null, .long 0, .long 0, .null, .null, .null, .null]))], [(q1, .inl (kA 0, 24, .inl (fun _ => 0)))], [(q2, .inl (kA 0, 24, .inl (fun _ => 0)))], [(q3, .inl (kA 0, 24, .inl (fun _ => 0)))], [(q4, .inl (kA 0, 24, .inl (fun _ => 0)))], [(q5, .inl (kA 0, 24, .inl (fun _ => 0)))], [(q6, .inl (kA 0, 24, .inl (fun _ => 0)))]]) H := hP
  have hD : va_D A (cat [[(h, .inr (6, [.null, .null, .ref q1, .ref q2, .ref q3, .ref q4, .ref q5, .ref q6, .int 0, .null, .null, .int 0, .null, .long 0, .long 0, .null, .null, .null, .null]))], [(q1, .inl (kA 0, 24, .inl (fun _ => 0)))], [(q2, .inl (kA 0, 24, .inl (fun _ => 0)))], [(q3, .inl (kA 0, 24, .inl (fun _ => 0)))], [(q4, .inl (kA 0, 24, .inl (fun _ => 0)))], [(q5, .inl (kA 0, 24, .inl (fun _ => 0)))], [(q6, .inl (kA 0, 24, .inl (fun _ => 0)))]]) := hD
  refine lv_aload_n (pc := 67) hx hb d_Pl_init_67 rfl (lv_at hl 0 rfl) ?_
  refine lv_bipush (pc := 68) (v := 32) hx hb d_Pl_init_68 (by decide) ?_
  refine k_newa (pc := 70) (atype := .int) X (ty := .int) (a0 := (32, .inl (fun _ => 0))) rfl rfl wm_193 hK hP hD hS hA 0 rfl (fun _ => rfl) (by decide) rfl (by decide) (Nat.le_of_ble_eq_true rfl) (Nat.le_of_ble_eq_true rfl) d_Pl_init_70 (fun q7 H hP hD hS => ?_)
  have hP : va_P D classes (cat [[(h, .inr (6, [.null, .null, .ref q1, .ref q2, .ref q3, .ref q4, .ref q5, .ref q6, .int 0, .null, .null, .int 0, .null, .long 0, .long 0, .null, .null, .null, .null]))], [(q1, .inl (kA 0, 24, .inl (fun _ => 0)))], [(q2, .inl (kA 0, 24, .inl (fun _ => 0)))], [(q3, .inl (kA 0, 24, .inl (fun _ => 0)))], [(q4, .inl (kA 0, 24, .inl (fun _ => 0)))], [(q5, .inl (kA 0, 24, .inl (fun _ => 0)))], [(q6, .inl (kA 0, 24, .inl (fun _ => 0)))], [(q7, .inl (kA 0, 32, .inl (fun _ => 0)))]]) H := hP
  have hD : va_D A (cat [[(h, .inr (6, [.null, .null, .ref q1, .ref q2, .ref q3, .ref q4, .ref q5, .ref q6, .int 0, .null, .null, .int 0, .null, .long 0, .long 0, .null, .null, .null, .null]))], [(q1, .inl (kA 0, 24, .inl (fun _ => 0)))], [(q2, .inl (kA 0, 24, .inl (fun _ => 0)))], [(q3, .inl (kA 0, 24, .inl (fun _ => 0)))], [(q4, .inl (kA 0, 24, .inl (fun _ => 0)))], [(q5, .inl (kA 0, 24, .inl (fun _ => 0)))], [(q6, .inl (kA 0, 24, .inl (fun _ => 0)))], [(q7, .inl (kA 0, 32, .inl (fun _ => 0)))]]) := hD
  refine W.widen (k := 7) (n := 176) (by omega) (by omega) ?_
  refine k_put (pc := 72) X hK hP hD hS 0 rfl rfl i_Pl t_Pl t_Pl_ok n_Pl 9 (by decide) wm_1635 rfl (Or.inr ⟨rfl, rfl⟩) rfl rfl (Nat.le_of_ble_eq_true rfl) d_Pl_init_72 (fun H locs hP hD hS => ?_)
  have hP : va_P D classes (cat [[(h, .inr (6, [.null, .null, .ref q1, .ref q2, .ref q3, .ref q4, .ref q5, .ref q6, .int 0, .ref q7, .null, .int 0, .null, .long 0, .long 0, .null, .null, .null, .null]))], [(q1, .inl (kA 0, 24, .inl (fun _ => 0)))], [(q2, .inl (kA 0, 24, .inl (fun _ => 0)))], [(q3, .inl (kA 0, 24, .inl (fun _ => 0)))], [(q4, .inl (kA 0, 24, .inl (fun _ => 0)))], [(q5, .inl (kA 0, 24, .inl (fun _ => 0)))], [(q6, .inl (kA 0, 24, .inl (fun _ => 0)))], [(q7, .inl (kA 0, 32, .inl (fun _ => 0)))]]) H := hP
  have hD : va_D A (cat [[(h, .inr (6, [.null, .null, .ref q1, .ref q2, .ref q3, .ref q4, .ref q5, .ref q6, .int 0, .ref q7, .null, .int 0, .null, .long 0, .long 0, .null, .null, .null, .null]))], [(q1, .inl (kA 0, 24, .inl (fun _ => 0)))], [(q2, .inl (kA 0, 24, .inl (fun _ => 0)))], [(q3, .inl (kA 0, 24, .inl (fun _ => 0)))], [(q4, .inl (kA 0, 24, .inl (fun _ => 0)))], [(q5, .inl (kA 0, 24, .inl (fun _ => 0)))], [(q6, .inl (kA 0, 24, .inl (fun _ => 0)))], [(q7, .inl (kA 0, 32, .inl (fun _ => 0)))]]) := hD
  refine lv_aload_n (pc := 75) hx hb d_Pl_init_75 rfl (lv_at hl 0 rfl) ?_
  refine lv_bipush (pc := 76) (v := 32) hx hb d_Pl_init_76 (by decide) ?_
  refine k_newa (pc := 78) (atype := .int) X (ty := .int) (a0 := (32, .inl (fun _ => 0))) rfl rfl wm_193 hK hP hD hS hA 0 rfl (fun _ => rfl) (by decide) rfl (by decide) (Nat.le_of_ble_eq_true rfl) (Nat.le_of_ble_eq_true rfl) d_Pl_init_78 (fun q8 H hP hD hS => ?_)
  have hP : va_P D classes (cat [[(h, .inr (6, [.null, .null, .ref q1, .ref q2, .ref q3, .ref q4, .ref q5, .ref q6, .int 0, .ref q7, .null, .int 0, .null, .long 0, .long 0, .null, .null, .null, .null]))], [(q1, .inl (kA 0, 24, .inl (fun _ => 0)))], [(q2, .inl (kA 0, 24, .inl (fun _ => 0)))], [(q3, .inl (kA 0, 24, .inl (fun _ => 0)))], [(q4, .inl (kA 0, 24, .inl (fun _ => 0)))], [(q5, .inl (kA 0, 24, .inl (fun _ => 0)))], [(q6, .inl (kA 0, 24, .inl (fun _ => 0)))], [(q7, .inl (kA 0, 32, .inl (fun _ => 0)))], [(q8, .inl (kA 0, 32, .inl (fun _ => 0)))]]) H := hP
  have hD : va_D A (cat [[(h, .inr (6, [.null, .null, .ref q1, .ref q2, .ref q3, .ref q4, .ref q5, .ref q6, .int 0, .ref q7, .null, .int 0, .null, .long 0, .long 0, .null, .null, .null, .null]))], [(q1, .inl (kA 0, 24, .inl (fun _ => 0)))], [(q2, .inl (kA 0, 24, .inl (fun _ => 0)))], [(q3, .inl (kA 0, 24, .inl (fun _ => 0)))], [(q4, .inl (kA 0, 24, .inl (fun _ => 0)))], [(q5, .inl (kA 0, 24, .inl (fun _ => 0)))], [(q6, .inl (kA 0, 24, .inl (fun _ => 0)))], [(q7, .inl (kA 0, 32, .inl (fun _ => 0)))], [(q8, .inl (kA 0, 32, .inl (fun _ => 0)))]]) := hD
  refine W.widen (k := 8) (n := 208) (by omega) (by omega) ?_
  refine k_put (pc := 80) X hK hP hD hS 0 rfl rfl i_Pl t_Pl t_Pl_ok n_Pl 10 (by decide) wm_1636 rfl (Or.inr ⟨rfl, rfl⟩) rfl rfl (Nat.le_of_ble_eq_true rfl) d_Pl_init_80 (fun H locs hP hD hS => ?_)
  have hP : va_P D classes (cat [[(h, .inr (6, [.null, .null, .ref q1, .ref q2, .ref q3, .ref q4, .ref q5, .ref q6, .int 0, .ref q7, .ref q8, .int 0, .null, .long 0, .long 0, .null, .null, .null, .null]))], [(q1, .inl (kA 0, 24, .inl (fun _ => 0)))], [(q2, .inl (kA 0, 24, .inl (fun _ => 0)))], [(q3, .inl (kA 0, 24, .inl (fun _ => 0)))], [(q4, .inl (kA 0, 24, .inl (fun _ => 0)))], [(q5, .inl (kA 0, 24, .inl (fun _ => 0)))], [(q6, .inl (kA 0, 24, .inl (fun _ => 0)))], [(q7, .inl (kA 0, 32, .inl (fun _ => 0)))], [(q8, .inl (kA 0, 32, .inl (fun _ => 0)))]]) H := hP
  have hD : va_D A (cat [[(h, .inr (6, [.null, .null, .ref q1, .ref q2, .ref q3, .ref q4, .ref q5, .ref q6, .int 0, .ref q7, .ref q8, .int 0, .null, .long 0, .long 0, .null, .null, .null, .null]))], [(q1, .inl (kA 0, 24, .inl (fun _ => 0)))], [(q2, .inl (kA 0, 24, .inl (fun _ => 0)))], [(q3, .inl (kA 0, 24, .inl (fun _ => 0)))], [(q4, .inl (kA 0, 24, .inl (fun _ => 0)))], [(q5, .inl (kA 0, 24, .inl (fun _ => 0)))], [(q6, .inl (kA 0, 24, .inl (fun _ => 0)))], [(q7, .inl (kA 0, 32, .inl (fun _ => 0)))], [(q8, .inl (kA 0, 32, .inl (fun _ => 0)))]]) := hD
  refine lv_aload_n (pc := 83) hx hb d_Pl_init_83 rfl (lv_at hl 0 rfl) ?_
  refine lv_iconst (pc := 84) (v := 0) hx hb d_Pl_init_84 (by decide) ?_
  refine k_put (pc := 85) X hK hP hD hS 0 rfl rfl i_Pl t_Pl t_Pl_ok n_Pl 11 (by decide) wm_1637 rfl (Or.inl rfl) rfl rfl (Nat.le_of_ble_eq_true rfl) d_Pl_init_85 (fun H locs hP hD hS => ?_)
  have hP : va_P D classes (cat [[(h, .inr (6, [.null, .null, .ref q1, .ref q2, .ref q3, .ref q4, .ref q5, .ref q6, .int 0, .ref q7, .ref q8, .int 0, .null, .long 0, .long 0, .null, .null, .null, .null]))], [(q1, .inl (kA 0, 24, .inl (fun _ => 0)))], [(q2, .inl (kA 0, 24, .inl (fun _ => 0)))], [(q3, .inl (kA 0, 24, .inl (fun _ => 0)))], [(q4, .inl (kA 0, 24, .inl (fun _ => 0)))], [(q5, .inl (kA 0, 24, .inl (fun _ => 0)))], [(q6, .inl (kA 0, 24, .inl (fun _ => 0)))], [(q7, .inl (kA 0, 32, .inl (fun _ => 0)))], [(q8, .inl (kA 0, 32, .inl (fun _ => 0)))]]) H := hP
  have hD : va_D A (cat [[(h, .inr (6, [.null, .null, .ref q1, .ref q2, .ref q3, .ref q4, .ref q5, .ref q6, .int 0, .ref q7, .ref q8, .int 0, .null, .long 0, .long 0, .null, .null, .null, .null]))], [(q1, .inl (kA 0, 24, .inl (fun _ => 0)))], [(q2, .inl (kA 0, 24, .inl (fun _ => 0)))], [(q3, .inl (kA 0, 24, .inl (fun _ => 0)))], [(q4, .inl (kA 0, 24, .inl (fun _ => 0)))], [(q5, .inl (kA 0, 24, .inl (fun _ => 0)))], [(q6, .inl (kA 0, 24, .inl (fun _ => 0)))], [(q7, .inl (kA 0, 32, .inl (fun _ => 0)))], [(q8, .inl (kA 0, 32, .inl (fun _ => 0)))]]) := hD
  refine lv_aload_n (pc := 88) hx hb d_Pl_init_88 rfl (lv_at hl 0 rfl) ?_
  refine lv_iconst (pc := 89) (v := 4) hx hb d_Pl_init_89 (by decide) ?_
  refine k_newa (pc := 90) (atype := .int) X (ty := .int) (a0 := (4, .inl (fun _ => 0))) rfl rfl wm_193 hK hP hD hS hA 0 rfl (fun _ => rfl) (by decide) rfl (by decide) (Nat.le_of_ble_eq_true rfl) (Nat.le_of_ble_eq_true rfl) d_Pl_init_90 (fun q9 H hP hD hS => ?_)
  have hP : va_P D classes (cat [[(h, .inr (6, [.null, .null, .ref q1, .ref q2, .ref q3, .ref q4, .ref q5, .ref q6, .int 0, .ref q7, .ref q8, .int 0, .null, .long 0, .long 0, .null, .null, .null, .null]))], [(q1, .inl (kA 0, 24, .inl (fun _ => 0)))], [(q2, .inl (kA 0, 24, .inl (fun _ => 0)))], [(q3, .inl (kA 0, 24, .inl (fun _ => 0)))], [(q4, .inl (kA 0, 24, .inl (fun _ => 0)))], [(q5, .inl (kA 0, 24, .inl (fun _ => 0)))], [(q6, .inl (kA 0, 24, .inl (fun _ => 0)))], [(q7, .inl (kA 0, 32, .inl (fun _ => 0)))], [(q8, .inl (kA 0, 32, .inl (fun _ => 0)))], [(q9, .inl (kA 0, 4, .inl (fun _ => 0)))]]) H := hP
  have hD : va_D A (cat [[(h, .inr (6, [.null, .null, .ref q1, .ref q2, .ref q3, .ref q4, .ref q5, .ref q6, .int 0, .ref q7, .ref q8, .int 0, .null, .long 0, .long 0, .null, .null, .null, .null]))], [(q1, .inl (kA 0, 24, .inl (fun _ => 0)))], [(q2, .inl (kA 0, 24, .inl (fun _ => 0)))], [(q3, .inl (kA 0, 24, .inl (fun _ => 0)))], [(q4, .inl (kA 0, 24, .inl (fun _ => 0)))], [(q5, .inl (kA 0, 24, .inl (fun _ => 0)))], [(q6, .inl (kA 0, 24, .inl (fun _ => 0)))], [(q7, .inl (kA 0, 32, .inl (fun _ => 0)))], [(q8, .inl (kA 0, 32, .inl (fun _ => 0)))], [(q9, .inl (kA 0, 4, .inl (fun _ => 0)))]]) := hD
  refine W.widen (k := 9) (n := 212) (by omega) (by omega) ?_
  refine k_put (pc := 92) X hK hP hD hS 0 rfl rfl i_Pl t_Pl t_Pl_ok n_Pl 12 (by decide) wm_1638 rfl (Or.inr ⟨rfl, rfl⟩) rfl rfl (Nat.le_of_ble_eq_true rfl) d_Pl_init_92 (fun H locs hP hD hS => ?_)
  have hP : va_P D classes (cat [[(h, .inr (6, [.null, .null, .ref q1, .ref q2, .ref q3, .ref q4, .ref q5, .ref q6, .int 0, .ref q7, .ref q8, .int 0, .ref q9, .long 0, .long 0, .null, .null, .null, .null]))], [(q1, .inl (kA 0, 24, .inl (fun _ => 0)))], [(q2, .inl (kA 0, 24, .inl (fun _ => 0)))], [(q3, .inl (kA 0, 24, .inl (fun _ => 0)))], [(q4, .inl (kA 0, 24, .inl (fun _ => 0)))], [(q5, .inl (kA 0, 24, .inl (fun _ => 0)))], [(q6, .inl (kA 0, 24, .inl (fun _ => 0)))], [(q7, .inl (kA 0, 32, .inl (fun _ => 0)))], [(q8, .inl (kA 0, 32, .inl (fun _ => 0)))], [(q9, .inl (kA 0, 4, .inl (fun _ => 0)))]]) H := hP
  have hD : va_D A (cat [[(h, .inr (6, [.null, .null, .ref q1, .ref q2, .ref q3, .ref q4, .ref q5, .ref q6, .int 0, .ref q7, .ref q8, .int 0, .ref q9, .long 0, .long 0, .null, .null, .null, .null]))], [(q1, .inl (kA 0, 24, .inl (fun _ => 0)))], [(q2, .inl (kA 0, 24, .inl (fun _ => 0)))], [(q3, .inl (kA 0, 24, .inl (fun _ => 0)))], [(q4, .inl (kA 0, 24, .inl (fun _ => 0)))], [(q5, .inl (kA 0, 24, .inl (fun _ => 0)))], [(q6, .inl (kA 0, 24, .inl (fun _ => 0)))], [(q7, .inl (kA 0, 32, .inl (fun _ => 0)))], [(q8, .inl (kA 0, 32, .inl (fun _ => 0)))], [(q9, .inl (kA 0, 4, .inl (fun _ => 0)))]]) := hD
  refine lv_aload_n (pc := 95) hx hb d_Pl_init_95 rfl (lv_at hl 0 rfl) ?_
  refine lv_lconst (pc := 96) (v := 0) hx hb d_Pl_init_96 (by decide) ?_
  refine k_put (pc := 97) X hK hP hD hS 0 rfl rfl i_Pl t_Pl t_Pl_ok n_Pl 13 (by decide) wm_1639 rfl (Or.inl rfl) rfl rfl (Nat.le_of_ble_eq_true rfl) d_Pl_init_97 (fun H locs hP hD hS => ?_)
  have hP : va_P D classes (cat [[(h, .inr (6, [.null, .null, .ref q1, .ref q2, .ref q3, .ref q4, .ref q5, .ref q6, .int 0, .ref q7, .ref q8, .int 0, .ref q9, .long 0, .long 0, .null, .null, .null, .null]))], [(q1, .inl (kA 0, 24, .inl (fun _ => 0)))], [(q2, .inl (kA 0, 24, .inl (fun _ => 0)))], [(q3, .inl (kA 0, 24, .inl (fun _ => 0)))], [(q4, .inl (kA 0, 24, .inl (fun _ => 0)))], [(q5, .inl (kA 0, 24, .inl (fun _ => 0)))], [(q6, .inl (kA 0, 24, .inl (fun _ => 0)))], [(q7, .inl (kA 0, 32, .inl (fun _ => 0)))], [(q8, .inl (kA 0, 32, .inl (fun _ => 0)))], [(q9, .inl (kA 0, 4, .inl (fun _ => 0)))]]) H := hP
  have hD : va_D A (cat [[(h, .inr (6, [.null, .null, .ref q1, .ref q2, .ref q3, .ref q4, .ref q5, .ref q6, .int 0, .ref q7, .ref q8, .int 0, .ref q9, .long 0, .long 0, .null, .null, .null, .null]))], [(q1, .inl (kA 0, 24, .inl (fun _ => 0)))], [(q2, .inl (kA 0, 24, .inl (fun _ => 0)))], [(q3, .inl (kA 0, 24, .inl (fun _ => 0)))], [(q4, .inl (kA 0, 24, .inl (fun _ => 0)))], [(q5, .inl (kA 0, 24, .inl (fun _ => 0)))], [(q6, .inl (kA 0, 24, .inl (fun _ => 0)))], [(q7, .inl (kA 0, 32, .inl (fun _ => 0)))], [(q8, .inl (kA 0, 32, .inl (fun _ => 0)))], [(q9, .inl (kA 0, 4, .inl (fun _ => 0)))]]) := hD
  refine lv_aload_n (pc := 100) hx hb d_Pl_init_100 rfl (lv_at hl 0 rfl) ?_
  refine lv_lconst (pc := 101) (v := 1) hx hb d_Pl_init_101 (by decide) ?_
  refine k_put (pc := 102) X hK hP hD hS 0 rfl rfl i_Pl t_Pl t_Pl_ok n_Pl 14 (by decide) wm_1640 rfl (Or.inl rfl) rfl rfl (Nat.le_of_ble_eq_true rfl) d_Pl_init_102 (fun H locs hP hD hS => ?_)
  have hP : va_P D classes (cat [[(h, .inr (6, [.null, .null, .ref q1, .ref q2, .ref q3, .ref q4, .ref q5, .ref q6, .int 0, .ref q7, .ref q8, .int 0, .ref q9, .long 0, .long 1, .null, .null, .null, .null]))], [(q1, .inl (kA 0, 24, .inl (fun _ => 0)))], [(q2, .inl (kA 0, 24, .inl (fun _ => 0)))], [(q3, .inl (kA 0, 24, .inl (fun _ => 0)))], [(q4, .inl (kA 0, 24, .inl (fun _ => 0)))], [(q5, .inl (kA 0, 24, .inl (fun _ => 0)))], [(q6, .inl (kA 0, 24, .inl (fun _ => 0)))], [(q7, .inl (kA 0, 32, .inl (fun _ => 0)))], [(q8, .inl (kA 0, 32, .inl (fun _ => 0)))], [(q9, .inl (kA 0, 4, .inl (fun _ => 0)))]]) H := hP
  have hD : va_D A (cat [[(h, .inr (6, [.null, .null, .ref q1, .ref q2, .ref q3, .ref q4, .ref q5, .ref q6, .int 0, .ref q7, .ref q8, .int 0, .ref q9, .long 0, .long 1, .null, .null, .null, .null]))], [(q1, .inl (kA 0, 24, .inl (fun _ => 0)))], [(q2, .inl (kA 0, 24, .inl (fun _ => 0)))], [(q3, .inl (kA 0, 24, .inl (fun _ => 0)))], [(q4, .inl (kA 0, 24, .inl (fun _ => 0)))], [(q5, .inl (kA 0, 24, .inl (fun _ => 0)))], [(q6, .inl (kA 0, 24, .inl (fun _ => 0)))], [(q7, .inl (kA 0, 32, .inl (fun _ => 0)))], [(q8, .inl (kA 0, 32, .inl (fun _ => 0)))], [(q9, .inl (kA 0, 4, .inl (fun _ => 0)))]]) := hD
  refine lv_aload_n (pc := 105) hx hb d_Pl_init_105 rfl (lv_at hl 0 rfl) ?_
  refine lv_bipush (pc := 106) (v := 24) hx hb d_Pl_init_106 (by decide) ?_
  refine k_newa (pc := 108) (atype := .long) X (ty := .long) (a0 := (24, .inr (.inl (fun _ => 0)))) rfl rfl wm_1684 hK hP hD hS hA 3 rfl (fun _ => rfl) (by decide) rfl (by decide) (Nat.le_of_ble_eq_true rfl) (Nat.le_of_ble_eq_true rfl) d_Pl_init_108 (fun q10 H hP hD hS => ?_)
  have hP : va_P D classes (cat [[(h, .inr (6, [.null, .null, .ref q1, .ref q2, .ref q3, .ref q4, .ref q5, .ref q6, .int 0, .ref q7, .ref q8, .int 0, .ref q9, .long 0, .long 1, .null, .null, .null, .null]))], [(q1, .inl (kA 0, 24, .inl (fun _ => 0)))], [(q2, .inl (kA 0, 24, .inl (fun _ => 0)))], [(q3, .inl (kA 0, 24, .inl (fun _ => 0)))], [(q4, .inl (kA 0, 24, .inl (fun _ => 0)))], [(q5, .inl (kA 0, 24, .inl (fun _ => 0)))], [(q6, .inl (kA 0, 24, .inl (fun _ => 0)))], [(q7, .inl (kA 0, 32, .inl (fun _ => 0)))], [(q8, .inl (kA 0, 32, .inl (fun _ => 0)))], [(q9, .inl (kA 0, 4, .inl (fun _ => 0)))], [(q10, .inl (kA 3, 24, .inr (.inl (fun _ => 0))))]]) H := hP
  have hD : va_D A (cat [[(h, .inr (6, [.null, .null, .ref q1, .ref q2, .ref q3, .ref q4, .ref q5, .ref q6, .int 0, .ref q7, .ref q8, .int 0, .ref q9, .long 0, .long 1, .null, .null, .null, .null]))], [(q1, .inl (kA 0, 24, .inl (fun _ => 0)))], [(q2, .inl (kA 0, 24, .inl (fun _ => 0)))], [(q3, .inl (kA 0, 24, .inl (fun _ => 0)))], [(q4, .inl (kA 0, 24, .inl (fun _ => 0)))], [(q5, .inl (kA 0, 24, .inl (fun _ => 0)))], [(q6, .inl (kA 0, 24, .inl (fun _ => 0)))], [(q7, .inl (kA 0, 32, .inl (fun _ => 0)))], [(q8, .inl (kA 0, 32, .inl (fun _ => 0)))], [(q9, .inl (kA 0, 4, .inl (fun _ => 0)))], [(q10, .inl (kA 3, 24, .inr (.inl (fun _ => 0))))]]) := hD
  refine W.widen (k := 10) (n := 236) (by omega) (by omega) ?_
  refine k_put (pc := 110) X hK hP hD hS 0 rfl rfl i_Pl t_Pl t_Pl_ok n_Pl 15 (by decide) wm_1641 rfl (Or.inr ⟨rfl, rfl⟩) rfl rfl (Nat.le_of_ble_eq_true rfl) d_Pl_init_110 (fun H locs hP hD hS => ?_)
  have hP : va_P D classes (cat [[(h, .inr (6, [.null, .null, .ref q1, .ref q2, .ref q3, .ref q4, .ref q5, .ref q6, .int 0, .ref q7, .ref q8, .int 0, .ref q9, .long 0, .long 1, .ref q10, .null, .null, .null]))], [(q1, .inl (kA 0, 24, .inl (fun _ => 0)))], [(q2, .inl (kA 0, 24, .inl (fun _ => 0)))], [(q3, .inl (kA 0, 24, .inl (fun _ => 0)))], [(q4, .inl (kA 0, 24, .inl (fun _ => 0)))], [(q5, .inl (kA 0, 24, .inl (fun _ => 0)))], [(q6, .inl (kA 0, 24, .inl (fun _ => 0)))], [(q7, .inl (kA 0, 32, .inl (fun _ => 0)))], [(q8, .inl (kA 0, 32, .inl (fun _ => 0)))], [(q9, .inl (kA 0, 4, .inl (fun _ => 0)))], [(q10, .inl (kA 3, 24, .inr (.inl (fun _ => 0))))]]) H := hP
  have hD : va_D A (cat [[(h, .inr (6, [.null, .null, .ref q1, .ref q2, .ref q3, .ref q4, .ref q5, .ref q6, .int 0, .ref q7, .ref q8, .int 0, .ref q9, .long 0, .long 1, .ref q10, .null, .null, .null]))], [(q1, .inl (kA 0, 24, .inl (fun _ => 0)))], [(q2, .inl (kA 0, 24, .inl (fun _ => 0)))], [(q3, .inl (kA 0, 24, .inl (fun _ => 0)))], [(q4, .inl (kA 0, 24, .inl (fun _ => 0)))], [(q5, .inl (kA 0, 24, .inl (fun _ => 0)))], [(q6, .inl (kA 0, 24, .inl (fun _ => 0)))], [(q7, .inl (kA 0, 32, .inl (fun _ => 0)))], [(q8, .inl (kA 0, 32, .inl (fun _ => 0)))], [(q9, .inl (kA 0, 4, .inl (fun _ => 0)))], [(q10, .inl (kA 3, 24, .inr (.inl (fun _ => 0))))]]) := hD
  refine lv_aload_n (pc := 113) hx hb d_Pl_init_113 rfl (lv_at hl 0 rfl) ?_
  refine lv_bipush (pc := 114) (v := 24) hx hb d_Pl_init_114 (by decide) ?_
  refine k_newa (pc := 116) (atype := .long) X (ty := .long) (a0 := (24, .inr (.inl (fun _ => 0)))) rfl rfl wm_1684 hK hP hD hS hA 3 rfl (fun _ => rfl) (by decide) rfl (by decide) (Nat.le_of_ble_eq_true rfl) (Nat.le_of_ble_eq_true rfl) d_Pl_init_116 (fun q11 H hP hD hS => ?_)
  have hP : va_P D classes (cat [[(h, .inr (6, [.null, .null, .ref q1, .ref q2, .ref q3, .ref q4, .ref q5, .ref q6, .int 0, .ref q7, .ref q8, .int 0, .ref q9, .long 0, .long 1, .ref q10, .null, .null, .null]))], [(q1, .inl (kA 0, 24, .inl (fun _ => 0)))], [(q2, .inl (kA 0, 24, .inl (fun _ => 0)))], [(q3, .inl (kA 0, 24, .inl (fun _ => 0)))], [(q4, .inl (kA 0, 24, .inl (fun _ => 0)))], [(q5, .inl (kA 0, 24, .inl (fun _ => 0)))], [(q6, .inl (kA 0, 24, .inl (fun _ => 0)))], [(q7, .inl (kA 0, 32, .inl (fun _ => 0)))], [(q8, .inl (kA 0, 32, .inl (fun _ => 0)))], [(q9, .inl (kA 0, 4, .inl (fun _ => 0)))], [(q10, .inl (kA 3, 24, .inr (.inl (fun _ => 0))))], [(q11, .inl (kA 3, 24, .inr (.inl (fun _ => 0))))]]) H := hP
  have hD : va_D A (cat [[(h, .inr (6, [.null, .null, .ref q1, .ref q2, .ref q3, .ref q4, .ref q5, .ref q6, .int 0, .ref q7, .ref q8, .int 0, .ref q9, .long 0, .long 1, .ref q10, .null, .null, .null]))], [(q1, .inl (kA 0, 24, .inl (fun _ => 0)))], [(q2, .inl (kA 0, 24, .inl (fun _ => 0)))], [(q3, .inl (kA 0, 24, .inl (fun _ => 0)))], [(q4, .inl (kA 0, 24, .inl (fun _ => 0)))], [(q5, .inl (kA 0, 24, .inl (fun _ => 0)))], [(q6, .inl (kA 0, 24, .inl (fun _ => 0)))], [(q7, .inl (kA 0, 32, .inl (fun _ => 0)))], [(q8, .inl (kA 0, 32, .inl (fun _ => 0)))], [(q9, .inl (kA 0, 4, .inl (fun _ => 0)))], [(q10, .inl (kA 3, 24, .inr (.inl (fun _ => 0))))], [(q11, .inl (kA 3, 24, .inr (.inl (fun _ => 0))))]]) := hD
  refine W.widen (k := 11) (n := 260) (by omega) (by omega) ?_
  refine k_put (pc := 118) X hK hP hD hS 0 rfl rfl i_Pl t_Pl t_Pl_ok n_Pl 16 (by decide) wm_1642 rfl (Or.inr ⟨rfl, rfl⟩) rfl rfl (Nat.le_of_ble_eq_true rfl) d_Pl_init_118 (fun H locs hP hD hS => ?_)
  have hP : va_P D classes (cat [[(h, .inr (6, [.null, .null, .ref q1, .ref q2, .ref q3, .ref q4, .ref q5, .ref q6, .int 0, .ref q7, .ref q8, .int 0, .ref q9, .long 0, .long 1, .ref q10, .ref q11, .null, .null]))], [(q1, .inl (kA 0, 24, .inl (fun _ => 0)))], [(q2, .inl (kA 0, 24, .inl (fun _ => 0)))], [(q3, .inl (kA 0, 24, .inl (fun _ => 0)))], [(q4, .inl (kA 0, 24, .inl (fun _ => 0)))], [(q5, .inl (kA 0, 24, .inl (fun _ => 0)))], [(q6, .inl (kA 0, 24, .inl (fun _ => 0)))], [(q7, .inl (kA 0, 32, .inl (fun _ => 0)))], [(q8, .inl (kA 0, 32, .inl (fun _ => 0)))], [(q9, .inl (kA 0, 4, .inl (fun _ => 0)))], [(q10, .inl (kA 3, 24, .inr (.inl (fun _ => 0))))], [(q11, .inl (kA 3, 24, .inr (.inl (fun _ => 0))))]]) H := hP
  have hD : va_D A (cat [[(h, .inr (6, [.null, .null, .ref q1, .ref q2, .ref q3, .ref q4, .ref q5, .ref q6, .int 0, .ref q7, .ref q8, .int 0, .ref q9, .long 0, .long 1, .ref q10, .ref q11, .null, .null]))], [(q1, .inl (kA 0, 24, .inl (fun _ => 0)))], [(q2, .inl (kA 0, 24, .inl (fun _ => 0)))], [(q3, .inl (kA 0, 24, .inl (fun _ => 0)))], [(q4, .inl (kA 0, 24, .inl (fun _ => 0)))], [(q5, .inl (kA 0, 24, .inl (fun _ => 0)))], [(q6, .inl (kA 0, 24, .inl (fun _ => 0)))], [(q7, .inl (kA 0, 32, .inl (fun _ => 0)))], [(q8, .inl (kA 0, 32, .inl (fun _ => 0)))], [(q9, .inl (kA 0, 4, .inl (fun _ => 0)))], [(q10, .inl (kA 3, 24, .inr (.inl (fun _ => 0))))], [(q11, .inl (kA 3, 24, .inr (.inl (fun _ => 0))))]]) := hD
  refine lv_aload_n (pc := 121) hx hb d_Pl_init_121 rfl (lv_at hl 0 rfl) ?_
  refine lv_bipush (pc := 122) (v := 24) hx hb d_Pl_init_122 (by decide) ?_
  refine k_newa (pc := 124) (atype := .long) X (ty := .long) (a0 := (24, .inr (.inl (fun _ => 0)))) rfl rfl wm_1684 hK hP hD hS hA 3 rfl (fun _ => rfl) (by decide) rfl (by decide) (Nat.le_of_ble_eq_true rfl) (Nat.le_of_ble_eq_true rfl) d_Pl_init_124 (fun q12 H hP hD hS => ?_)
  have hP : va_P D classes (cat [[(h, .inr (6, [.null, .null, .ref q1, .ref q2, .ref q3, .ref q4, .ref q5, .ref q6, .int 0, .ref q7, .ref q8, .int 0, .ref q9, .long 0, .long 1, .ref q10, .ref q11, .null, .null]))], [(q1, .inl (kA 0, 24, .inl (fun _ => 0)))], [(q2, .inl (kA 0, 24, .inl (fun _ => 0)))], [(q3, .inl (kA 0, 24, .inl (fun _ => 0)))], [(q4, .inl (kA 0, 24, .inl (fun _ => 0)))], [(q5, .inl (kA 0, 24, .inl (fun _ => 0)))], [(q6, .inl (kA 0, 24, .inl (fun _ => 0)))], [(q7, .inl (kA 0, 32, .inl (fun _ => 0)))], [(q8, .inl (kA 0, 32, .inl (fun _ => 0)))], [(q9, .inl (kA 0, 4, .inl (fun _ => 0)))], [(q10, .inl (kA 3, 24, .inr (.inl (fun _ => 0))))], [(q11, .inl (kA 3, 24, .inr (.inl (fun _ => 0))))], [(q12, .inl (kA 3, 24, .inr (.inl (fun _ => 0))))]]) H := hP
  have hD : va_D A (cat [[(h, .inr (6, [.null, .null, .ref q1, .ref q2, .ref q3, .ref q4, .ref q5, .ref q6, .int 0, .ref q7, .ref q8, .int 0, .ref q9, .long 0, .long 1, .ref q10, .ref q11, .null, .null]))], [(q1, .inl (kA 0, 24, .inl (fun _ => 0)))], [(q2, .inl (kA 0, 24, .inl (fun _ => 0)))], [(q3, .inl (kA 0, 24, .inl (fun _ => 0)))], [(q4, .inl (kA 0, 24, .inl (fun _ => 0)))], [(q5, .inl (kA 0, 24, .inl (fun _ => 0)))], [(q6, .inl (kA 0, 24, .inl (fun _ => 0)))], [(q7, .inl (kA 0, 32, .inl (fun _ => 0)))], [(q8, .inl (kA 0, 32, .inl (fun _ => 0)))], [(q9, .inl (kA 0, 4, .inl (fun _ => 0)))], [(q10, .inl (kA 3, 24, .inr (.inl (fun _ => 0))))], [(q11, .inl (kA 3, 24, .inr (.inl (fun _ => 0))))], [(q12, .inl (kA 3, 24, .inr (.inl (fun _ => 0))))]]) := hD
  refine W.widen (k := 12) (n := 284) (by omega) (by omega) ?_
  refine k_put (pc := 126) X hK hP hD hS 0 rfl rfl i_Pl t_Pl t_Pl_ok n_Pl 17 (by decide) wm_1643 rfl (Or.inr ⟨rfl, rfl⟩) rfl rfl (Nat.le_of_ble_eq_true rfl) d_Pl_init_126 (fun H locs hP hD hS => ?_)
  have hP : va_P D classes (cat [[(h, .inr (6, [.null, .null, .ref q1, .ref q2, .ref q3, .ref q4, .ref q5, .ref q6, .int 0, .ref q7, .ref q8, .int 0, .ref q9, .long 0, .long 1, .ref q10, .ref q11, .ref q12, .null]))], [(q1, .inl (kA 0, 24, .inl (fun _ => 0)))], [(q2, .inl (kA 0, 24, .inl (fun _ => 0)))], [(q3, .inl (kA 0, 24, .inl (fun _ => 0)))], [(q4, .inl (kA 0, 24, .inl (fun _ => 0)))], [(q5, .inl (kA 0, 24, .inl (fun _ => 0)))], [(q6, .inl (kA 0, 24, .inl (fun _ => 0)))], [(q7, .inl (kA 0, 32, .inl (fun _ => 0)))], [(q8, .inl (kA 0, 32, .inl (fun _ => 0)))], [(q9, .inl (kA 0, 4, .inl (fun _ => 0)))], [(q10, .inl (kA 3, 24, .inr (.inl (fun _ => 0))))], [(q11, .inl (kA 3, 24, .inr (.inl (fun _ => 0))))], [(q12, .inl (kA 3, 24, .inr (.inl (fun _ => 0))))]]) H := hP
  have hD : va_D A (cat [[(h, .inr (6, [.null, .null, .ref q1, .ref q2, .ref q3, .ref q4, .ref q5, .ref q6, .int 0, .ref q7, .ref q8, .int 0, .ref q9, .long 0, .long 1, .ref q10, .ref q11, .ref q12, .null]))], [(q1, .inl (kA 0, 24, .inl (fun _ => 0)))], [(q2, .inl (kA 0, 24, .inl (fun _ => 0)))], [(q3, .inl (kA 0, 24, .inl (fun _ => 0)))], [(q4, .inl (kA 0, 24, .inl (fun _ => 0)))], [(q5, .inl (kA 0, 24, .inl (fun _ => 0)))], [(q6, .inl (kA 0, 24, .inl (fun _ => 0)))], [(q7, .inl (kA 0, 32, .inl (fun _ => 0)))], [(q8, .inl (kA 0, 32, .inl (fun _ => 0)))], [(q9, .inl (kA 0, 4, .inl (fun _ => 0)))], [(q10, .inl (kA 3, 24, .inr (.inl (fun _ => 0))))], [(q11, .inl (kA 3, 24, .inr (.inl (fun _ => 0))))], [(q12, .inl (kA 3, 24, .inr (.inl (fun _ => 0))))]]) := hD
  refine lv_aload_n (pc := 129) hx hb d_Pl_init_129 rfl (lv_at hl 0 rfl) ?_
  refine lv_bipush (pc := 130) (v := 24) hx hb d_Pl_init_130 (by decide) ?_
  refine k_newa (pc := 132) (atype := .long) X (ty := .long) (a0 := (24, .inr (.inl (fun _ => 0)))) rfl rfl wm_1684 hK hP hD hS hA 3 rfl (fun _ => rfl) (by decide) rfl (by decide) (Nat.le_of_ble_eq_true rfl) (Nat.le_of_ble_eq_true rfl) d_Pl_init_132 (fun q13 H hP hD hS => ?_)
  have hP : va_P D classes (cat [[(h, .inr (6, [.null, .null, .ref q1, .ref q2, .ref q3, .ref q4, .ref q5, .ref q6, .int 0, .ref q7, .ref q8, .int 0, .ref q9, .long 0, .long 1, .ref q10, .ref q11, .ref q12, .null]))], [(q1, .inl (kA 0, 24, .inl (fun _ => 0)))], [(q2, .inl (kA 0, 24, .inl (fun _ => 0)))], [(q3, .inl (kA 0, 24, .inl (fun _ => 0)))], [(q4, .inl (kA 0, 24, .inl (fun _ => 0)))], [(q5, .inl (kA 0, 24, .inl (fun _ => 0)))], [(q6, .inl (kA 0, 24, .inl (fun _ => 0)))], [(q7, .inl (kA 0, 32, .inl (fun _ => 0)))], [(q8, .inl (kA 0, 32, .inl (fun _ => 0)))], [(q9, .inl (kA 0, 4, .inl (fun _ => 0)))], [(q10, .inl (kA 3, 24, .inr (.inl (fun _ => 0))))], [(q11, .inl (kA 3, 24, .inr (.inl (fun _ => 0))))], [(q12, .inl (kA 3, 24, .inr (.inl (fun _ => 0))))], [(q13, .inl (kA 3, 24, .inr (.inl (fun _ => 0))))]]) H := hP
  have hD : va_D A (cat [[(h, .inr (6, [.null, .null, .ref q1, .ref q2, .ref q3, .ref q4, .ref q5, .ref q6, .int 0, .ref q7, .ref q8, .int 0, .ref q9, .long 0, .long 1, .ref q10, .ref q11, .ref q12, .null]))], [(q1, .inl (kA 0, 24, .inl (fun _ => 0)))], [(q2, .inl (kA 0, 24, .inl (fun _ => 0)))], [(q3, .inl (kA 0, 24, .inl (fun _ => 0)))], [(q4, .inl (kA 0, 24, .inl (fun _ => 0)))], [(q5, .inl (kA 0, 24, .inl (fun _ => 0)))], [(q6, .inl (kA 0, 24, .inl (fun _ => 0)))], [(q7, .inl (kA 0, 32, .inl (fun _ => 0)))], [(q8, .inl (kA 0, 32, .inl (fun _ => 0)))], [(q9, .inl (kA 0, 4, .inl (fun _ => 0)))], [(q10, .inl (kA 3, 24, .inr (.inl (fun _ => 0))))], [(q11, .inl (kA 3, 24, .inr (.inl (fun _ => 0))))], [(q12, .inl (kA 3, 24, .inr (.inl (fun _ => 0))))], [(q13, .inl (kA 3, 24, .inr (.inl (fun _ => 0))))]]) := hD
  refine W.widen (k := 13) (n := 308) (by omega) (by omega) ?_
  refine k_put (pc := 134) X hK hP hD hS 0 rfl rfl i_Pl t_Pl t_Pl_ok n_Pl 18 (by decide) wm_1644 rfl (Or.inr ⟨rfl, rfl⟩) rfl rfl (Nat.le_of_ble_eq_true rfl) d_Pl_init_134 (fun H locs hP hD hS => ?_)
  have hP : va_P D classes (cat [[(h, .inr (6, [.null, .null, .ref q1, .ref q2, .ref q3, .ref q4, .ref q5, .ref q6, .int 0, .ref q7, .ref q8, .int 0, .ref q9, .long 0, .long 1, .ref q10, .ref q11, .ref q12, .ref q13]))], [(q1, .inl (kA 0, 24, .inl (fun _ => 0)))], [(q2, .inl (kA 0, 24, .inl (fun _ => 0)))], [(q3, .inl (kA 0, 24, .inl (fun _ => 0)))], [(q4, .inl (kA 0, 24, .inl (fun _ => 0)))], [(q5, .inl (kA 0, 24, .inl (fun _ => 0)))], [(q6, .inl (kA 0, 24, .inl (fun _ => 0)))], [(q7, .inl (kA 0, 32, .inl (fun _ => 0)))], [(q8, .inl (kA 0, 32, .inl (fun _ => 0)))], [(q9, .inl (kA 0, 4, .inl (fun _ => 0)))], [(q10, .inl (kA 3, 24, .inr (.inl (fun _ => 0))))], [(q11, .inl (kA 3, 24, .inr (.inl (fun _ => 0))))], [(q12, .inl (kA 3, 24, .inr (.inl (fun _ => 0))))], [(q13, .inl (kA 3, 24, .inr (.inl (fun _ => 0))))]]) H := hP
  have hD : va_D A (cat [[(h, .inr (6, [.null, .null, .ref q1, .ref q2, .ref q3, .ref q4, .ref q5, .ref q6, .int 0, .ref q7, .ref q8, .int 0, .ref q9, .long 0, .long 1, .ref q10, .ref q11, .ref q12, .ref q13]))], [(q1, .inl (kA 0, 24, .inl (fun _ => 0)))], [(q2, .inl (kA 0, 24, .inl (fun _ => 0)))], [(q3, .inl (kA 0, 24, .inl (fun _ => 0)))], [(q4, .inl (kA 0, 24, .inl (fun _ => 0)))], [(q5, .inl (kA 0, 24, .inl (fun _ => 0)))], [(q6, .inl (kA 0, 24, .inl (fun _ => 0)))], [(q7, .inl (kA 0, 32, .inl (fun _ => 0)))], [(q8, .inl (kA 0, 32, .inl (fun _ => 0)))], [(q9, .inl (kA 0, 4, .inl (fun _ => 0)))], [(q10, .inl (kA 3, 24, .inr (.inl (fun _ => 0))))], [(q11, .inl (kA 3, 24, .inr (.inl (fun _ => 0))))], [(q12, .inl (kA 3, 24, .inr (.inl (fun _ => 0))))], [(q13, .inl (kA 3, 24, .inr (.inl (fun _ => 0))))]]) := hD
  obtain ⟨hP, hD⟩ := k_ord (gc := [[(h, .inr (6, [.null, .null, .ref q1, .ref q2, .ref q3, .ref q4, .ref q5, .ref q6, .int 0, .ref q7, .ref q8, .int 0, .ref q9, .long 0, .long 1, .ref q10, .ref q11, .ref q12, .ref q13]))], [(q1, .inl (kA 0, 24, .inl (fun _ => 0)))], [(q2, .inl (kA 0, 24, .inl (fun _ => 0)))], [(q3, .inl (kA 0, 24, .inl (fun _ => 0)))], [(q4, .inl (kA 0, 24, .inl (fun _ => 0)))], [(q5, .inl (kA 0, 24, .inl (fun _ => 0)))], [(q6, .inl (kA 0, 24, .inl (fun _ => 0)))], [(q7, .inl (kA 0, 32, .inl (fun _ => 0)))], [(q8, .inl (kA 0, 32, .inl (fun _ => 0)))], [(q9, .inl (kA 0, 4, .inl (fun _ => 0)))], [(q10, .inl (kA 3, 24, .inr (.inl (fun _ => 0))))], [(q11, .inl (kA 3, 24, .inr (.inl (fun _ => 0))))], [(q12, .inl (kA 3, 24, .inr (.inl (fun _ => 0))))], [(q13, .inl (kA 3, 24, .inr (.inl (fun _ => 0))))]]) hP hD [0, 1, 2, 3, 4, 5, 6, 7, 8, 9, 10, 11, 12, 13] 14 rfl (by decide) rfl
  refine W.widen (k := 13) (n := 308) (Nat.le_of_ble_eq_true rfl) (Nat.le_of_ble_eq_true rfl) ?_
  exact W.vret hx hb hr (fun t ht hW => ⟨⟨(fun k => match k with | 2 => q1 | 3 => q2 | 4 => q3 | 5 => q4 | 6 => q5 | 7 => q6 | 9 => q7 | 10 => q8 | 12 => q9 | 15 => q10 | 16 => q11 | 17 => q12 | 18 => q13 | _ => 0), rfl, trivial, by rw [ht]; exact hP, va_K.moved hW.alike hK, hD⟩, hS.F ht⟩) hS.2.2 d_Pl_init_137
end
section
theorem wm_1470 : (Cond.code ({ cls := "DrawingHouse$PlanarWays", name := "<init>", desc := "()V" } : MethodName) prog_9_method_1_code (1 : Nat) (Option.none : Option ClassFile.FieldType) : Cond) ∈ lw_g := lw_gi (lw_c7 (List.mem_of_getElem? (i := 30) rfl)) rfl
theorem wm_1471 : (Cond.methodLink "DrawingHouse$PlanarWays" (3 : Nat) ({ cls := "java/lang/Object", name := "<init>", desc := "()V" } : MethodName) : Cond) ∈ lw_g := lw_gi (lw_c7 (List.mem_of_getElem? (i := 31) rfl)) rfl
theorem wm_1472 : (Cond.classLink "DrawingHouse$PlanarWays" (9 : Nat) "DrawingHouse$Net" : Cond) ∈ lw_g := lw_gi (lw_c7 (List.mem_of_getElem? (i := 32) rfl)) rfl
theorem wm_1474 : (Cond.fieldLink "DrawingHouse$PlanarWays" (12 : Nat) "DrawingHouse$PlanarWays" "net" "LDrawingHouse$Net;" : Cond) ∈ lw_g := lw_gi (lw_c7 (List.mem_of_getElem? (i := 34) rfl)) rfl
theorem wm_1475 : (Cond.fieldLink "DrawingHouse$PlanarWays" (18 : Nat) "DrawingHouse$PlanarWays" "order" "[I" : Cond) ∈ lw_g := lw_gi (lw_c7 (List.mem_of_getElem? (i := 35) rfl)) rfl
theorem wm_1476 : (Cond.fieldLink "DrawingHouse$PlanarWays" (22 : Nat) "DrawingHouse$PlanarWays" "line" "[I" : Cond) ∈ lw_g := lw_gi (lw_c7 (List.mem_of_getElem? (i := 36) rfl)) rfl
theorem wm_1477 : (Cond.fieldLink "DrawingHouse$PlanarWays" (25 : Nat) "DrawingHouse$PlanarWays" "lineLength" "I" : Cond) ∈ lw_g := lw_gi (lw_c7 (List.mem_of_getElem? (i := 37) rfl)) rfl
theorem wm_1478 : (Cond.fieldLink "DrawingHouse$PlanarWays" (29 : Nat) "DrawingHouse$PlanarWays" "under" "[I" : Cond) ∈ lw_g := lw_gi (lw_c7 (List.mem_of_getElem? (i := 38) rfl)) rfl
theorem wm_1479 : (Cond.fieldLink "DrawingHouse$PlanarWays" (32 : Nat) "DrawingHouse$PlanarWays" "level" "[I" : Cond) ∈ lw_g := lw_gi (lw_c7 (List.mem_of_getElem? (i := 39) rfl)) rfl
theorem wm_1480 : (Cond.fieldLink "DrawingHouse$PlanarWays" (35 : Nat) "DrawingHouse$PlanarWays" "way" "[I" : Cond) ∈ lw_g := lw_gi (lw_c7 (List.mem_of_getElem? (i := 40) rfl)) rfl
theorem wm_1481 : (Cond.fieldLink "DrawingHouse$PlanarWays" (38 : Nat) "DrawingHouse$PlanarWays" "faceX" "[I" : Cond) ∈ lw_g := lw_gi (lw_c7 (List.mem_of_getElem? (i := 41) rfl)) rfl
theorem wm_1482 : (Cond.fieldLink "DrawingHouse$PlanarWays" (41 : Nat) "DrawingHouse$PlanarWays" "edgeX" "[I" : Cond) ∈ lw_g := lw_gi (lw_c7 (List.mem_of_getElem? (i := 42) rfl)) rfl
theorem wn_1473 : (Cond.methodLinkNest "DrawingHouse$PlanarWays" (11 : Nat) ({ cls := "DrawingHouse$Net", name := "<init>", desc := "()V" } : MethodName) "DrawingHouse" : Cond) ∈ lw_n := lw_ni (lw_c7 (List.mem_of_getElem? (i := 33) rfl)) rfl
abbrev b_Pn_init : ByteArray := prog_9_method_1_code
def y_Pn_init : MethodName := ⟨"DrawingHouse$PlanarWays", "<init>", "()V"⟩
abbrev z_Pn_init : List Cond := Cond.code y_Pn_init b_Pn_init 1 none :: lw_g
theorem d_Pn_init_0 : decode b_Pn_init 0 = .ok (.aload_n 0, 1) := by decide +kernel
theorem d_Pn_init_1 : decode b_Pn_init 1 = .ok (.invokespecial 3, 3) := by decide +kernel
theorem d_Pn_init_4 : decode b_Pn_init 4 = .ok (.aload_n 0, 1) := by decide +kernel
theorem d_Pn_init_5 : decode b_Pn_init 5 = .ok (.new 9, 3) := by decide +kernel
theorem d_Pn_init_8 : decode b_Pn_init 8 = .ok (.dup, 1) := by decide +kernel
theorem d_Pn_init_9 : decode b_Pn_init 9 = .ok (.invokespecial 11, 3) := by decide +kernel
theorem d_Pn_init_12 : decode b_Pn_init 12 = .ok (.putfield 12, 3) := by decide +kernel
theorem d_Pn_init_15 : decode b_Pn_init 15 = .ok (.aload_n 0, 1) := by decide +kernel
theorem d_Pn_init_16 : decode b_Pn_init 16 = .ok (.bipush 24, 2) := by decide +kernel
theorem d_Pn_init_18 : decode b_Pn_init 18 = .ok (.newarray .int, 2) := by decide +kernel
theorem d_Pn_init_20 : decode b_Pn_init 20 = .ok (.putfield 18, 3) := by decide +kernel
theorem d_Pn_init_23 : decode b_Pn_init 23 = .ok (.aload_n 0, 1) := by decide +kernel
theorem d_Pn_init_24 : decode b_Pn_init 24 = .ok (.bipush 24, 2) := by decide +kernel
theorem d_Pn_init_26 : decode b_Pn_init 26 = .ok (.newarray .int, 2) := by decide +kernel
theorem d_Pn_init_28 : decode b_Pn_init 28 = .ok (.putfield 22, 3) := by decide +kernel
theorem d_Pn_init_31 : decode b_Pn_init 31 = .ok (.aload_n 0, 1) := by decide +kernel
theorem d_Pn_init_32 : decode b_Pn_init 32 = .ok (.iconst 0, 1) := by decide +kernel
theorem d_Pn_init_33 : decode b_Pn_init 33 = .ok (.putfield 25, 3) := by decide +kernel
theorem d_Pn_init_36 : decode b_Pn_init 36 = .ok (.aload_n 0, 1) := by decide +kernel
theorem d_Pn_init_37 : decode b_Pn_init 37 = .ok (.bipush 24, 2) := by decide +kernel
theorem d_Pn_init_39 : decode b_Pn_init 39 = .ok (.newarray .int, 2) := by decide +kernel
theorem d_Pn_init_41 : decode b_Pn_init 41 = .ok (.putfield 29, 3) := by decide +kernel
theorem d_Pn_init_44 : decode b_Pn_init 44 = .ok (.aload_n 0, 1) := by decide +kernel
theorem d_Pn_init_45 : decode b_Pn_init 45 = .ok (.bipush 26, 2) := by decide +kernel
theorem d_Pn_init_47 : decode b_Pn_init 47 = .ok (.newarray .int, 2) := by decide +kernel
theorem d_Pn_init_49 : decode b_Pn_init 49 = .ok (.putfield 32, 3) := by decide +kernel
theorem d_Pn_init_52 : decode b_Pn_init 52 = .ok (.aload_n 0, 1) := by decide +kernel
theorem d_Pn_init_53 : decode b_Pn_init 53 = .ok (.bipush 27, 2) := by decide +kernel
theorem d_Pn_init_55 : decode b_Pn_init 55 = .ok (.newarray .int, 2) := by decide +kernel
theorem d_Pn_init_57 : decode b_Pn_init 57 = .ok (.putfield 35, 3) := by decide +kernel
theorem d_Pn_init_60 : decode b_Pn_init 60 = .ok (.aload_n 0, 1) := by decide +kernel
theorem d_Pn_init_61 : decode b_Pn_init 61 = .ok (.sipush 144, 3) := by decide +kernel
theorem d_Pn_init_64 : decode b_Pn_init 64 = .ok (.newarray .int, 2) := by decide +kernel
theorem d_Pn_init_66 : decode b_Pn_init 66 = .ok (.putfield 38, 3) := by decide +kernel
theorem d_Pn_init_69 : decode b_Pn_init 69 = .ok (.aload_n 0, 1) := by decide +kernel
theorem d_Pn_init_70 : decode b_Pn_init 70 = .ok (.bipush 48, 2) := by decide +kernel
theorem d_Pn_init_72 : decode b_Pn_init 72 = .ok (.newarray .int, 2) := by decide +kernel
theorem d_Pn_init_74 : decode b_Pn_init 74 = .ok (.putfield 41, 3) := by decide +kernel
theorem d_Pn_init_77 : decode b_Pn_init 77 = .ok (.return_, 1) := by decide +kernel
abbrev f0Pn : List Value := [.null, .null, .null, .int 0, .null, .null, .null, .null, .null]
set_option maxRecDepth 20000 in
theorem f0Pn_ok : ∀ j, j < 9 → defaultValue (t_Pn j) = vp_V f0Pn j := by decide +kernel
def wPn (kA : Nat → ClassId) (h : Nat) (q : Nat → Nat) (x : Nat → Int32) (a : Nat → Nat → Int32) : va_W := [(h, .inr (7, [.ref (q 0), .ref (q 1), .ref (q 2), .int (x 3), .ref (q 4), .ref (q 5), .ref (q 6), .ref (q 7), .ref (q 8)])), (q 1, .inl (kA 0, 24, .inl (a 1))), (q 2, .inl (kA 0, 24, .inl (a 2))), (q 4, .inl (kA 0, 24, .inl (a 4))), (q 5, .inl (kA 0, 26, .inl (a 5))), (q 6, .inl (kA 0, 27, .inl (a 6))), (q 7, .inl (kA 0, 144, .inl (a 7))), (q 8, .inl (kA 0, 48, .inl (a 8)))]
def x0Pn : Nat → Int32 := fun _ => 0
def a0Pn : Nat → Nat → Int32 := fun _ => fun _ => 0
set_option maxRecDepth 100000 in
set_option maxHeartbeats 4000000 in
/-- DrawingHouse$PlanarWays()V -/
theorem c_Pn_init (l : Launch) (D : va_G) (kA : Nat → ClassId) (h : Nat) : Cv l y_Pn_init z_Pn_init { frames := 2, cells := 18, slots := 1778, locals := 32 } D classes (TY kA) [.ref h] [[(h, .inr (7, f0Pn))]] (fun u : (Nat → Nat → Nat) => True) (fun u => [wPn kA h ((u 0)) x0Pn a0Pn, wNe kA (u 0 0) ((u 1)) x0Ne a0Ne]) 18 1778 := by
  intro sz
  refine k_met (cc := b_Pn_init) (maxL := 1) (ret := none) (by decide) rfl (Nat.le_of_ble_eq_true rfl) (fun p e s m below meth c ls X hl hB => ?_)
  obtain ⟨hsz, hP, hK, hD0, hN⟩ := hB
  subst hsz
  have hD := hD0.self (sz := s.heap.size)
  generalize hAe : va_A (cat [[(h, .inr (7, [.null, .null, .null, .int 0, .null, .null, .null, .null, .null]))]]) s.heap.size = A at hD ⊢
  have hA : ∀ q : Nat, s.heap.size ≤ q → A q := fun q h => by rw [← hAe]; exact Or.inr h
  have hS : va_S A s.heap s.heap [] := va_S.rf
  obtain ⟨hx, hb, hml, hown, hts, hr, hlk, hnm⟩ := id X
  have hl : lv_has ls 1 [(0, .ref h)] := hl
  have hP : va_P D classes (cat [[(h, .inr (7, [.null, .null, .null, .int 0, .null, .null, .null, .null, .null]))]]) s.heap := hP
  have hK : va_K D classes (TY kA) s := hK
  refine lv_aload_n (pc := 0) hx hb d_Pn_init_0 rfl (lv_at hl 0 rfl) ?_
  refine W.objInit hx hb hown (hts _ wm_1471) (hts _ wm_31) (hts _ wm_32) rfl (by rw [hml]; exact hl.1) rfl d_Pn_init_1 (Nat.le_of_ble_eq_true rfl) (Nat.le_of_ble_eq_true rfl) ?_
  refine W.eq (g2 := F0 m 4 ls []) rfl ?_
  refine lv_aload_n (pc := 4) hx hb d_Pn_init_4 rfl (lv_at hl 0 rfl) ?_
  refine k_new (pc := 5) (fs := f0Ne) X i_Ne t_Ne t_Ne_ok wm_1472 wm_243 wm_6 hK hP hD hS hA (ci := 5) rfl f0Ne_ok (Nat.le_of_ble_eq_true rfl) (Nat.le_of_ble_eq_true rfl) d_Pn_init_5 (fun q1 H hP hD hS => ?_)
  have hP : va_P D classes (cat [[(h, .inr (7, [.null, .null, .null, .int 0, .null, .null, .null, .null, .null]))], [(q1, .inr (5, [.int 0, .int 0, .int 0, .int 0, .null, .int 0, .int 0, .null, .null, .null, .null, .null, .null, .int 0, .null, .null, .null]))]]) H := hP
  have hD : va_D A (cat [[(h, .inr (7, [.null, .null, .null, .int 0, .null, .null, .null, .null, .null]))], [(q1, .inr (5, [.int 0, .int 0, .int 0, .int 0, .null, .int 0, .int 0, .null, .null, .null, .null, .null, .null, .int 0, .null, .null, .null]))]]) := hD
  refine W.widen (k := 1) (n := 17) (by omega) (by omega) ?_
  refine lv_dup (pc := 8) hx hb d_Pn_init_8 rfl ?_
  refine k_goV (gr := [[(h, .inr (7, [.null, .null, .null, .int 0, .null, .null, .null, .null, .null]))]]) (k_rIN (pc := 9) (As := []) (rest := [.ref q1, .ref h]) hN X (c_Ne_init l D kA q1 H.size) rfl wm_246 wm_6 wn_1473 wm_245 rfl 0 (by decide +kernel) ⟨Nat.le_of_ble_eq_true rfl, Nat.le_of_ble_eq_true rfl⟩ rfl rfl (k_pre hN hK hP hD [1] [0] 2 rfl (by decide) rfl) rfl hl.1 rfl (Nat.le_of_ble_eq_true rfl) d_Pn_init_9 ⟨Nat.le_of_ble_eq_true rfl, Nat.le_of_ble_eq_true rfl⟩) hP hD hS hA [1] [0] 2 rfl (by decide) rfl rfl (fun u2 H locs hu2 hP hD hS => ?_)
  have hP : va_P D classes (cat [[(h, .inr (7, [.null, .null, .null, .int 0, .null, .null, .null, .null, .null]))], wNe kA q1 u2 x0Ne a0Ne]) H := hP
  have hD : va_D A (cat [[(h, .inr (7, [.null, .null, .null, .int 0, .null, .null, .null, .null, .null]))], wNe kA q1 u2 x0Ne a0Ne]) := hD
  refine W.widen (k := 11) (n := 1461) (by omega) (by omega) ?_
  refine k_put (pc := 12) X hK hP hD hS 0 rfl rfl i_Pn t_Pn t_Pn_ok n_Pn 0 (by decide) wm_1474 rfl (Or.inr ⟨rfl, rfl⟩) rfl rfl (Nat.le_of_ble_eq_true rfl) d_Pn_init_12 (fun H locs hP hD hS => ?_)
  have hP : va_P D classes (cat [[(h, .inr (7, [.ref q1, .null, .null, .int 0, .null, .null, .null, .null, .null]))], wNe kA q1 u2 x0Ne a0Ne]) H := hP
  have hD : va_D A (cat [[(h, .inr (7, [.ref q1, .null, .null, .int 0, .null, .null, .null, .null, .null]))], wNe kA q1 u2 x0Ne a0Ne]) := hD
  refine lv_aload_n (pc := 15) hx hb d_Pn_init_15 rfl (lv_at hl 0 rfl) ?_
  refine lv_bipush (pc := 16) (v := 24) hx hb d_Pn_init_16 (by decide) ?_
  refine k_newa (pc := 18) (atype := .int) X (ty := .int) (a0 := (24, .inl (fun _ => 0))) rfl rfl wm_193 hK hP hD hS hA 0 rfl (fun _ => rfl) (by decide) rfl (by decide) (Nat.le_of_ble_eq_true rfl) (Nat.le_of_ble_eq_true rfl) d_Pn_init_18 (fun q3 H hP hD hS => ?_)
  have hP : va_P D classes (cat [[(h, .inr (7, [.ref q1, .null, .null, .int 0, .null, .null, .null, .null, .null]))], wNe kA q1 u2 x0Ne a0Ne, [(q3, .inl (kA 0, 24, .inl (fun _ => 0)))]]) H := hP
  have hD : va_D A (cat [[(h, .inr (7, [.ref q1, .null, .null, .int 0, .null, .null, .null, .null, .null]))], wNe kA q1 u2 x0Ne a0Ne, [(q3, .inl (kA 0, 24, .inl (fun _ => 0)))]]) := hD
  refine W.widen (k := 12) (n := 1485) (by omega) (by omega) ?_
  refine k_put (pc := 20) X hK hP hD hS 0 rfl rfl i_Pn t_Pn t_Pn_ok n_Pn 1 (by decide) wm_1475 rfl (Or.inr ⟨rfl, rfl⟩) rfl rfl (Nat.le_of_ble_eq_true rfl) d_Pn_init_20 (fun H locs hP hD hS => ?_)
  have hP : va_P D classes (cat [[(h, .inr (7, [.ref q1, .ref q3, .null, .int 0, .null, .null, .null, .null, .null]))], wNe kA q1 u2 x0Ne a0Ne, [(q3, .inl (kA 0, 24, .inl (fun _ => 0)))]]) H := hP
  have hD : va_D A (cat [[(h, .inr (7, [.ref q1, .ref q3, .null, .int 0, .null, .null, .null, .null, .null]))], wNe kA q1 u2 x0Ne a0Ne, [(q3, .inl (kA 0, 24, .inl (fun _ => 0)))]]) := hD
  refine lv_aload_n (pc := 23) hx hb d_Pn_init_23 rfl (lv_at hl 0 rfl) ?_
  refine lv_bipush (pc := 24) (v := 24) hx hb d_Pn_init_24 (by decide) ?_
  refine k_newa (pc := 26) (atype := .int) X (ty := .int) (a0 := (24, .inl (fun _ => 0))) rfl rfl wm_193 hK hP hD hS hA 0 rfl (fun _ => rfl) (by decide) rfl (by decide) (Nat.le_of_ble_eq_true rfl) (Nat.le_of_ble_eq_true rfl) d_Pn_init_26 (fun q4 H hP hD hS => ?_)
  have hP : va_P D classes (cat [[(h, .inr (7, [.ref q1, .ref q3, .null, .int 0, .null, .null, .null, .null, .null]))], wNe kA q1 u2 x0Ne a0Ne, [(q3, .inl (kA 0, 24, .inl (fun _ => 0)))], [(q4, .inl (kA 0, 24, .inl (fun _ => 0)))]]) H := hP
  have hD : va_D A (cat [[(h, .inr (7, [.ref q1, .ref q3, .null, .int 0, .null, .null, .null, .null, .null]))], wNe kA q1 u2 x0Ne a0Ne, [(q3, .inl (kA 0, 24, .inl (fun _ => 0)))], [(q4, .inl (kA 0, 24, .inl (fun _ => 0)))]]) := hD
  refine W.widen (k := 13) (n := 1509) (by omega) (by omega) ?_
  refine k_put (pc := 28) X hK hP hD hS 0 rfl rfl i_Pn t_Pn t_Pn_ok n_Pn 2 (by decide) wm_1476 rfl (Or.inr ⟨rfl, rfl⟩) rfl rfl (Nat.le_of_ble_eq_true rfl) d_Pn_init_28 (fun H locs hP hD hS => ?_)
  have hP : va_P D classes (cat [[(h, .inr (7, [.ref q1, .ref q3, .ref q4, .int 0, .null, .null, .null, .null, .null]))], wNe kA q1 u2 x0Ne a0Ne, [(q3, .inl (kA 0, 24, .inl (fun _ => 0)))], [(q4, .inl (kA 0, 24, .inl (fun _ => 0)))]]) H := hP
  have hD : va_D A (cat [[(h, .inr (7, [.ref q1, .ref q3, .ref q4, .int 0, .null, .null, .null, .null, .null]))], wNe kA q1 u2 x0Ne a0Ne, [(q3, .inl (kA 0, 24, .inl (fun _ => 0)))], [(q4, .inl (kA 0, 24, .inl (fun _ => 0)))]]) := hD
  refine lv_aload_n (pc := 31) hx hb d_Pn_init_31 rfl (lv_at hl 0 rfl) ?_
  refine lv_iconst (pc := 32) (v := 0) hx hb d_Pn_init_32 (by decide) ?_
  refine k_put (pc := 33) X hK hP hD hS 0 rfl rfl i_Pn t_Pn t_Pn_ok n_Pn 3 (by decide) wm_1477 rfl (Or.inl rfl) rfl rfl (Nat.le_of_ble_eq_true rfl) d_Pn_init_33 (fun H locs hP hD hS => ?_)
  have hP : va_P D classes (cat [[(h, .inr (7, [.ref q1, .ref q3, .ref q4, .int 0, .null, .null, .null, .null, .null]))], wNe kA q1 u2 x0Ne a0Ne, [(q3, .inl (kA 0, 24, .inl (fun _ => 0)))], [(q4, .inl (kA 0, 24, .inl (fun _ => 0)))]]) H := hP
  have hD : va_D A (cat [[(h, .inr (7, [.ref q1, .ref q3, .ref q4, .int 0, .null, .null, .null, .null, .null]))], wNe kA q1 u2 x0Ne a0Ne, [(q3, .inl (kA 0, 24, .inl (fun _ => 0)))], [(q4, .inl (kA 0, 24, .inl (fun _ => 0)))]]) := hD
  refine lv_aload_n (pc := 36) hx hb d_Pn_init_36 rfl (lv_at hl 0 rfl) ?_
  refine lv_bipush (pc := 37) (v := 24) hx hb d_Pn_init_37 (by decide) ?_
  refine k_newa (pc := 39) (atype := .int) X (ty := .int) (a0 := (24, .inl (fun _ => 0))) rfl rfl wm_193 hK hP hD hS hA 0 rfl (fun _ => rfl) (by decide) rfl (by decide) (Nat.le_of_ble_eq_true rfl) (Nat.le_of_ble_eq_true rfl) d_Pn_init_39 (fun q5 H hP hD hS => ?_)
  have hP : va_P D classes (cat [[(h, .inr (7, [.ref q1, .ref q3, .ref q4, .int 0, .null, .null, .null, .null, .null]))], wNe kA q1 u2 x0Ne a0Ne, [(q3, .inl (kA 0, 24, .inl (fun _ => 0)))], [(q4, .inl (kA 0, 24, .inl (fun _ => 0)))], [(q5, .inl (kA 0, 24, .inl (fun _ => 0)))]]) H := hP
  have hD : va_D A (cat [[(h, .inr (7, [.ref q1, .ref q3, .ref q4, .int 0, .null, .null, .null, .null, .null]))], wNe kA q1 u2 x0Ne a0Ne, [(q3, .inl (kA 0, 24, .inl (fun _ => 0)))], [(q4, .inl (kA 0, 24, .inl (fun _ => 0)))], [(q5, .inl (kA 0, 24, .inl (fun _ => 0)))]]) := hD
  refine W.widen (k := 14) (n := 1533) (by omega) (by omega) ?_
  refine k_put (pc := 41) X hK hP hD hS 0 rfl rfl i_Pn t_Pn t_Pn_ok n_Pn 4 (by decide) wm_1478 rfl (Or.inr ⟨rfl, rfl⟩) rfl rfl (Nat.le_of_ble_eq_true rfl) d_Pn_init_41 (fun H locs hP hD hS => ?_)
  have hP : va_P D classes (cat [[(h, .inr (7, [.ref q1, .ref q3, .ref q4, .int 0, .ref q5, .null, .null, .null, .null]))], wNe kA q1 u2 x0Ne a0Ne, [(q3, .inl (kA 0, 24, .inl (fun _ => 0)))], [(q4, .inl (kA 0, 24, .inl (fun _ => 0)))], [(q5, .inl (kA 0, 24, .inl (fun _ => 0)))]]) H := hP
  have hD : va_D A (cat [[(h, .inr (7, [.ref q1, .ref q3, .ref q4, .int 0, .ref q5, .null, .null, .null, .null]))], wNe kA q1 u2 x0Ne a0Ne, [(q3, .inl (kA 0, 24, .inl (fun _ => 0)))], [(q4, .inl (kA 0, 24, .inl (fun _ => 0)))], [(q5, .inl (kA 0, 24, .inl (fun _ => 0)))]]) := hD
  refine lv_aload_n (pc := 44) hx hb d_Pn_init_44 rfl (lv_at hl 0 rfl) ?_
  refine lv_bipush (pc := 45) (v := 26) hx hb d_Pn_init_45 (by decide) ?_
  refine k_newa (pc := 47) (atype := .int) X (ty := .int) (a0 := (26, .inl (fun _ => 0))) rfl rfl wm_193 hK hP hD hS hA 0 rfl (fun _ => rfl) (by decide) rfl (by decide) (Nat.le_of_ble_eq_true rfl) (Nat.le_of_ble_eq_true rfl) d_Pn_init_47 (fun q6 H hP hD hS => ?_)
  have hP : va_P D classes (cat [[(h, .inr (7, [.ref q1, .ref q3, .ref q4, .int 0, .ref q5, .null, .null, .null, .null]))], wNe kA q1 u2 x0Ne a0Ne, [(q3, .inl (kA 0, 24, .inl (fun _ => 0)))], [(q4, .inl (kA 0, 24, .inl (fun _ => 0)))], [(q5, .inl (kA 0, 24, .inl (fun _ => 0)))], [(q6, .inl (kA 0, 26, .inl (fun _ => 0)))]]) H := hP
  have hD : va_D A (cat [[(h, .inr (7, [.ref q1, .ref q3, .ref q4, .int 0, .ref q5, .null, .null, .null, .null]))], wNe kA q1 u2 x0Ne a0Ne, [(q3, .inl (kA 0, 24, .inl (fun _ => 0)))], [(q4, .inl (kA 0, 24, .inl (fun _ => 0)))], [(q5, .inl (kA 0, 24, .inl (fun _ => 0)))], [(q6, .inl (kA 0, 26, .inl (fun _ => 0)))]]) := hD
  refine W.widen (k := 15) (n := 1559) (by omega) (by omega) ?_
  refine k_put (pc := 49) X hK hP hD hS 0 rfl rfl i_Pn t_Pn t_Pn_ok n_Pn 5 (by decide) wm_1479 rfl (Or.inr ⟨rfl, rfl⟩) rfl rfl (Nat.le_of_ble_eq_true rfl) d_Pn_init_49 (fun H locs hP hD hS => ?_)
  have hP : va_P D classes (cat [[(h, .inr (7, [.ref q1, .ref q3, .ref q4, .int 0, .ref q5, .ref q6, .null, .null, .null]))], wNe kA q1 u2 x0Ne a0Ne, [(q3, .inl (kA 0, 24, .inl (fun _ => 0)))], [(q4, .inl (kA 0, 24, .inl (fun _ => 0)))], [(q5, .inl (kA 0, 24, .inl (fun _ => 0)))], [(q6, .inl (kA 0, 26, .inl (fun _ => 0)))]]) H := hP
  have hD : va_D A (cat [[(h, .inr (7, [.ref q1, .ref q3, .ref q4, .int 0, .ref q5, .ref q6, .null, .null, .null]))], wNe kA q1 u2 x0Ne a0Ne, [(q3, .inl (kA 0, 24, .inl (fun _ => 0)))], [(q4, .inl (kA 0, 24, .inl (fun _ => 0)))], [(q5, .inl (kA 0, 24, .inl (fun _ => 0)))], [(q6, .inl (kA 0, 26, .inl (fun _ => 0)))]]) := hD
  refine lv_aload_n (pc := 52) hx hb d_Pn_init_52 rfl (lv_at hl 0 rfl) ?_
  refine lv_bipush (pc := 53) (v := 27) hx hb d_Pn_init_53 (by decide) ?_
  refine k_newa (pc := 55) (atype := .int) X (ty := .int) (a0 := (27, .inl (fun _ => 0))) rfl rfl wm_193 hK hP hD hS hA 0 rfl (fun _ => rfl) (by decide) rfl (by decide) (Nat.le_of_ble_eq_true rfl) (Nat.le_of_ble_eq_true rfl) d_Pn_init_55 (fun q7 H hP hD hS => ?_)
  have hP : va_P D classes (cat [[(h, .inr (7, [.ref q1, .ref q3, .ref q4, .int 0, .ref q5, .ref q6, .null, .null, .null]))], wNe kA q1 u2 x0Ne a0Ne, [(q3, .inl (kA 0, 24, .inl (fun _ => 0)))], [(q4, .inl (kA 0, 24, .inl (fun _ => 0)))], [(q5, .inl (kA 0, 24, .inl (fun _ => 0)))], [(q6, .inl (kA 0, 26, .inl (fun _ => 0)))], [(q7, .inl (kA 0, 27, .inl (fun _ => 0)))]]) H := hP
  have hD : va_D A (cat [[(h, .inr (7, [.ref q1, .ref q3, .ref q4, .int 0, .ref q5, .ref q6, .null, .null, .null]))], wNe kA q1 u2 x0Ne a0Ne, [(q3, .inl (kA 0, 24, .inl (fun _ => 0)))], [(q4, .inl (kA 0, 24, .inl (fun _ => 0)))], [(q5, .inl (kA 0, 24, .inl (fun _ => 0)))], [(q6, .inl (kA 0, 26, .inl (fun _ => 0)))], [(q7, .inl (kA 0, 27, .inl (fun _ => 0)))]]) := hD
  refine W.widen (k := 16) (n := 1586) (by omega) (by omega) ?_
  refine k_put (pc := 57) X hK hP hD hS 0 rfl rfl i_Pn t_Pn t_Pn_ok n_Pn 6 (by decide) wm_1480 rfl (Or.inr ⟨rfl, rfl⟩) rfl rfl (Nat.le_of_ble_eq_true rfl) d_Pn_init_57 (fun H locs hP hD hS => ?_)
  have hP : va_P D classes (cat [[(h, .inr (7, [.ref q1, .ref q3, .ref q4, .int 0, .ref q5, .ref q6, .ref q7, .null, .null]))], wNe kA q1 u2 x0Ne a0Ne, [(q3, .inl (kA 0, 24, .inl (fun _ => 0)))], [(q4, .inl (kA 0, 24, .inl (fun _ => 0)))], [(q5, .inl (kA 0, 24, .inl (fun _ => 0)))], [(q6, .inl (kA 0, 26, .inl (fun _ => 0)))], [(q7, .inl (kA 0, 27, .inl (fun _ => 0)))]]) H := hP
  have hD : va_D A (cat [[(h, .inr (7, [.ref q1, .ref q3, .ref q4, .int 0, .ref q5, .ref q6, .ref q7, .null, .null]))], wNe kA q1 u2 x0Ne a0Ne, [(q3, .inl (kA 0, 24, .inl (fun _ => 0)))], [(q4, .inl (kA 0, 24, .inl (fun _ => 0)))], [(q5, .inl (kA 0, 24, .inl (fun _ => 0)))], [(q6, .inl (kA 0, 26, .inl (fun _ => 0)))], [(q7, .inl (kA 0, 27, .inl (fun _ => 0)))]]) := hD
  refine lv_aload_n (pc := 60) hx hb d_Pn_init_60 rfl (lv_at hl 0 rfl) ?_
  refine lv_sipush (pc := 61) (v := 144) hx hb d_Pn_init_61 (by decide) ?_
  refine k_newa (pc := 64) (atype := .int) X (ty := .int) (a0 := (144, .inl (fun _ => 0))) rfl rfl wm_193 hK hP hD hS hA 0 rfl (fun _ => rfl) (by decide) rfl (by decide) (Nat.le_of_ble_eq_true rfl) (Nat.le_of_ble_eq_true rfl) d_Pn_init_64 (fun q8 H hP hD hS => ?_)
  have hP : va_P D classes (cat [[(h, .inr (7, [.ref q1, .ref q3, .ref q4, .int 0, .ref q5, .ref q6, .ref q7, .null, .null]))], wNe kA q1 u2 x0Ne a0Ne, [(q3, .inl (kA 0, 24, .inl (fun _ => 0)))], [(q4, .inl (kA 0, 24, .inl (fun _ => 0)))], [(q5, .inl (kA 0, 24, .inl (fun _ => 0)))], [(q6, .inl (kA 0, 26, .inl (fun _ => 0)))], [(q7, .inl (kA 0, 27, .inl (fun _ => 0)))], [(q8, .inl (kA 0, 144, .inl (fun _ => 0)))]]) H := hP
  have hD : va_D A (cat [[(h, .inr (7, [.ref q1, .ref q3, .ref q4, .int 0, .ref q5, .ref q6, .ref q7, .null, .null]))], wNe kA q1 u2 x0Ne a0Ne, [(q3, .inl (kA 0, 24, .inl (fun _ => 0)))], [(q4, .inl (kA 0, 24, .inl (fun _ => 0)))], [(q5, .inl (kA 0, 24, .inl (fun _ => 0)))], [(q6, .inl (kA 0, 26, .inl (fun _ => 0)))], [(q7, .inl (kA 0, 27, .inl (fun _ => 0)))], [(q8, .inl (kA 0, 144, .inl (fun _ => 0)))]]) := hD
  refine W.widen (k := 17) (n := 1730) (by omega) (by omega) ?_
  refine k_put (pc := 66) X hK hP hD hS 0 rfl rfl i_Pn t_Pn t_Pn_ok n_Pn 7 (by decide) wm_1481 rfl (Or.inr ⟨rfl, rfl⟩) rfl rfl (Nat.le_of_ble_eq_true rfl) d_Pn_init_66 (fun H locs hP hD hS => ?_)
  have hP : va_P D classes (cat [[(h, .inr (7, [.ref q1, .ref q3, .ref q4, .int 0, .ref q5, .ref q6, .ref q7, .ref q8, .null]))], wNe kA q1 u2 x0Ne a0Ne, [(q3, .inl (kA 0, 24, .inl (fun _ => 0)))], [(q4, .inl (kA 0, 24, .inl (fun _ => 0)))], [(q5, .inl (kA 0, 24, .inl (fun _ => 0)))], [(q6, .inl (kA 0, 26, .inl (fun _ => 0)))], [(q7, .inl (kA 0, 27, .inl (fun _ => 0)))], [(q8, .inl (kA 0, 144, .inl (fun _ => 0)))]]) H := hP
  have hD : va_D A (cat [[(h, .inr (7, [.ref q1, .ref q3, .ref q4, .int 0, .ref q5, .ref q6, .ref q7, .ref q8, .null]))], wNe kA q1 u2 x0Ne a0Ne, [(q3, .inl (kA 0, 24, .inl (fun _ => 0)))], [(q4, .inl (kA 0, 24, .inl (fun _ => 0)))], [(q5, .inl (kA 0, 24, .inl (fun _ => 0)))], [(q6, .inl (kA 0, 26, .inl (fun _ => 0)))], [(q7, .inl (kA 0, 27, .inl (fun _ => 0)))], [(q8, .inl (kA 0, 144, .inl (fun _ => 0)))]]) := hD
  refine lv_aload_n (pc := 69) hx hb d_Pn_init_69 rfl (lv_at hl 0 rfl) ?_
  refine lv_bipush (pc := 70) (v := 48) hx hb d_Pn_init_70 (by decide) ?_
  refine k_newa (pc := 72) (atype := .int) X (ty := .int) (a0 := (48, .inl (fun _ => 0))) rfl rfl wm_193 hK hP hD hS hA 0 rfl (fun _ => rfl) (by decide) rfl (by decide) (Nat.le_of_ble_eq_true rfl) (Nat.le_of_ble_eq_true rfl) d_Pn_init_72 (fun q9 H hP hD hS => ?_)
  have hP : va_P D classes (cat [[(h, .inr (7, [.ref q1, .ref q3, .ref q4, .int 0, .ref q5, .ref q6, .ref q7, .ref q8, .null]))], wNe kA q1 u2 x0Ne a0Ne, [(q3, .inl (kA 0, 24, .inl (fun _ => 0)))], [(q4, .inl (kA 0, 24, .inl (fun _ => 0)))], [(q5, .inl (kA 0, 24, .inl (fun _ => 0)))], [(q6, .inl (kA 0, 26, .inl (fun _ => 0)))], [(q7, .inl (kA 0, 27, .inl (fun _ => 0)))], [(q8, .inl (kA 0, 144, .inl (fun _ => 0)))], [(q9, .inl (kA 0, 48, .inl (fun _ => 0)))]]) H := hP
  have hD : va_D A (cat [[(h, .inr (7, [.ref q1, .ref q3, .ref q4, .int 0, .ref q5, .ref q6, .ref q7, .ref q8, .null]))], wNe kA q1 u2 x0Ne a0Ne, [(q3, .inl (kA 0, 24, .inl (fun _ => 0)))], [(q4, .inl (kA 0, 24, .inl (fun _ => 0)))], [(q5, .inl (kA 0, 24, .inl (fun _ => 0)))], [(q6, .inl (kA 0, 26, .inl (fun _ => 0)))], [(q7, .inl (kA 0, 27, .inl (fun _ => 0)))], [(q8, .inl (kA 0, 144, .inl (fun _ => 0)))], [(q9, .inl (kA 0, 48, .inl (fun _ => 0)))]]) := hD
  refine W.widen (k := 18) (n := 1778) (by omega) (by omega) ?_
  refine k_put (pc := 74) X hK hP hD hS 0 rfl rfl i_Pn t_Pn t_Pn_ok n_Pn 8 (by decide) wm_1482 rfl (Or.inr ⟨rfl, rfl⟩) rfl rfl (Nat.le_of_ble_eq_true rfl) d_Pn_init_74 (fun H locs hP hD hS => ?_)
  have hP : va_P D classes (cat [[(h, .inr (7, [.ref q1, .ref q3, .ref q4, .int 0, .ref q5, .ref q6, .ref q7, .ref q8, .ref q9]))], wNe kA q1 u2 x0Ne a0Ne, [(q3, .inl (kA 0, 24, .inl (fun _ => 0)))], [(q4, .inl (kA 0, 24, .inl (fun _ => 0)))], [(q5, .inl (kA 0, 24, .inl (fun _ => 0)))], [(q6, .inl (kA 0, 26, .inl (fun _ => 0)))], [(q7, .inl (kA 0, 27, .inl (fun _ => 0)))], [(q8, .inl (kA 0, 144, .inl (fun _ => 0)))], [(q9, .inl (kA 0, 48, .inl (fun _ => 0)))]]) H := hP
  have hD : va_D A (cat [[(h, .inr (7, [.ref q1, .ref q3, .ref q4, .int 0, .ref q5, .ref q6, .ref q7, .ref q8, .ref q9]))], wNe kA q1 u2 x0Ne a0Ne, [(q3, .inl (kA 0, 24, .inl (fun _ => 0)))], [(q4, .inl (kA 0, 24, .inl (fun _ => 0)))], [(q5, .inl (kA 0, 24, .inl (fun _ => 0)))], [(q6, .inl (kA 0, 26, .inl (fun _ => 0)))], [(q7, .inl (kA 0, 27, .inl (fun _ => 0)))], [(q8, .inl (kA 0, 144, .inl (fun _ => 0)))], [(q9, .inl (kA 0, 48, .inl (fun _ => 0)))]]) := hD
  obtain ⟨hP, hD⟩ := k_ord (gc := [[(h, .inr (7, [.ref q1, .ref q3, .ref q4, .int 0, .ref q5, .ref q6, .ref q7, .ref q8, .ref q9]))], [(q3, .inl (kA 0, 24, .inl (fun _ => 0)))], [(q4, .inl (kA 0, 24, .inl (fun _ => 0)))], [(q5, .inl (kA 0, 24, .inl (fun _ => 0)))], [(q6, .inl (kA 0, 26, .inl (fun _ => 0)))], [(q7, .inl (kA 0, 27, .inl (fun _ => 0)))], [(q8, .inl (kA 0, 144, .inl (fun _ => 0)))], [(q9, .inl (kA 0, 48, .inl (fun _ => 0)))], wNe kA q1 u2 x0Ne a0Ne]) hP hD [0, 2, 3, 4, 5, 6, 7, 8, 1] 9 rfl (by decide) rfl
  refine W.widen (k := 18) (n := 1778) (Nat.le_of_ble_eq_true rfl) (Nat.le_of_ble_eq_true rfl) ?_
  exact W.vret hx hb hr (fun t ht hW => ⟨⟨(fun i => match i with | 0 => (fun k => match k with | 1 => q3 | 2 => q4 | 4 => q5 | 5 => q6 | 6 => q7 | 7 => q8 | 8 => q9 | 0 => q1 | _ => 0) | 1 => u2 | _ => fun _ => 0), rfl, trivial, by rw [ht]; exact hP, va_K.moved hW.alike hK, hD⟩, hS.F ht⟩) hS.2.2 d_Pn_init_77
end
section
theorem wm_2 : (Cond.initialized "DrawingHouse$Reader" : Cond) ∈ lw_g := lw_gi (lw_c1 (List.mem_of_getElem? (i := 2) rfl)) rfl
theorem wm_5 : (Cond.initialized "DrawingHouse$Embedder" : Cond) ∈ lw_g := lw_gi (lw_c1 (List.mem_of_getElem? (i := 5) rfl)) rfl
theorem wm_7 : (Cond.initialized "DrawingHouse$Facts" : Cond) ∈ lw_g := lw_gi (lw_c1 (List.mem_of_getElem? (i := 7) rfl)) rfl
theorem wm_8 : (Cond.initialized "DrawingHouse$Drawing" : Cond) ∈ lw_g := lw_gi (lw_c1 (List.mem_of_getElem? (i := 8) rfl)) rfl
theorem wm_29 : (Cond.code ({ cls := "DrawingHouse", name := "<init>", desc := "()V" } : MethodName) prog_1_method_1_code (2 : Nat) (Option.none : Option ClassFile.FieldType) : Cond) ∈ lw_g := lw_gi (lw_c1 (List.mem_of_getElem? (i := 29) rfl)) rfl
theorem wm_30 : (Cond.methodLink "DrawingHouse" (5 : Nat) ({ cls := "java/lang/Object", name := "<init>", desc := "()V" } : MethodName) : Cond) ∈ lw_g := lw_gi (lw_c1 (List.mem_of_getElem? (i := 30) rfl)) rfl
theorem wm_33 : (Cond.classLink "DrawingHouse" (11 : Nat) "DrawingHouse$Graph" : Cond) ∈ lw_g := lw_gi (lw_c1 (List.mem_of_getElem? (i := 33) rfl)) rfl
theorem wm_35 : (Cond.classLink "DrawingHouse" (17 : Nat) "DrawingHouse$Facts" : Cond) ∈ lw_g := lw_gi (lw_c1 (List.mem_of_getElem? (i := 35) rfl)) rfl
theorem wm_37 : (Cond.classLink "DrawingHouse" (23 : Nat) "DrawingHouse$Net" : Cond) ∈ lw_g := lw_gi (lw_c1 (List.mem_of_getElem? (i := 37) rfl)) rfl
theorem wm_39 : (Cond.classLink "DrawingHouse" (29 : Nat) "DrawingHouse$Drawing" : Cond) ∈ lw_g := lw_gi (lw_c1 (List.mem_of_getElem? (i := 39) rfl)) rfl
theorem wm_41 : (Cond.classLink "DrawingHouse" (35 : Nat) "DrawingHouse$Reader" : Cond) ∈ lw_g := lw_gi (lw_c1 (List.mem_of_getElem? (i := 41) rfl)) rfl
theorem wm_42 : (Cond.instantiable "DrawingHouse$Reader" (12 : Nat) : Cond) ∈ lw_g := lw_gi (lw_c1 (List.mem_of_getElem? (i := 42) rfl)) rfl
theorem wm_44 : (Cond.instanceMethod ({ cls := "DrawingHouse$Reader", name := "<init>", desc := "()V" } : MethodName) : Cond) ∈ lw_g := lw_gi (lw_c1 (List.mem_of_getElem? (i := 44) rfl)) rfl
theorem wm_236 : (Cond.classLink "DrawingHouse" (42 : Nat) "DrawingHouse$Embedder" : Cond) ∈ lw_g := lw_gi (lw_c1 (List.mem_of_getElem? (i := 236) rfl)) rfl
theorem wm_237 : (Cond.instantiable "DrawingHouse$Embedder" (20 : Nat) : Cond) ∈ lw_g := lw_gi (lw_c1 (List.mem_of_getElem? (i := 237) rfl)) rfl
theorem wm_239 : (Cond.instanceMethod ({ cls := "DrawingHouse$Embedder", name := "<init>", desc := "()V" } : MethodName) : Cond) ∈ lw_g := lw_gi (lw_c1 (List.mem_of_getElem? (i := 239) rfl)) rfl
theorem wm_388 : (Cond.methodLink "DrawingHouse" (102 : Nat) ({ cls := "DrawingHouse$Graph", name := "<init>", desc := "()V" } : MethodName) : Cond) ∈ lw_g := lw_gi (lw_c2 (List.mem_of_getElem? (i := 148) rfl)) rfl
theorem wm_389 : (Cond.instantiable "DrawingHouse$Facts" (15 : Nat) : Cond) ∈ lw_g := lw_gi (lw_c2 (List.mem_of_getElem? (i := 149) rfl)) rfl
theorem wm_391 : (Cond.instanceMethod ({ cls := "DrawingHouse$Facts", name := "<init>", desc := "()V" } : MethodName) : Cond) ∈ lw_g := lw_gi (lw_c2 (List.mem_of_getElem? (i := 151) rfl)) rfl
theorem wm_460 : (Cond.instantiable "DrawingHouse$Drawing" (21 : Nat) : Cond) ∈ lw_g := lw_gi (lw_c2 (List.mem_of_getElem? (i := 220) rfl)) rfl
theorem wm_461 : (Cond.methodLink "DrawingHouse" (105 : Nat) ({ cls := "DrawingHouse$Drawing", name := "<init>", desc := "(LDrawingHouse$Graph;)V" } : MethodName) : Cond) ∈ lw_g := lw_gi (lw_c2 (List.mem_of_getElem? (i := 221) rfl)) rfl
theorem wm_462 : (Cond.instanceMethod ({ cls := "DrawingHouse$Drawing", name := "<init>", desc := "(LDrawingHouse$Graph;)V" } : MethodName) : Cond) ∈ lw_g := lw_gi (lw_c2 (List.mem_of_getElem? (i := 222) rfl)) rfl
theorem wm_555 : (Cond.fieldLink "DrawingHouse" (13 : Nat) "DrawingHouse" "graphs" "[LDrawingHouse$Graph;" : Cond) ∈ lw_g := lw_gi (lw_c3 (List.mem_of_getElem? (i := 75) rfl)) rfl
theorem wm_556 : (Cond.fieldLink "DrawingHouse" (19 : Nat) "DrawingHouse" "facts" "[LDrawingHouse$Facts;" : Cond) ∈ lw_g := lw_gi (lw_c3 (List.mem_of_getElem? (i := 76) rfl)) rfl
theorem wm_557 : (Cond.fieldLink "DrawingHouse" (25 : Nat) "DrawingHouse" "nets" "[LDrawingHouse$Net;" : Cond) ∈ lw_g := lw_gi (lw_c3 (List.mem_of_getElem? (i := 77) rfl)) rfl
theorem wm_558 : (Cond.fieldLink "DrawingHouse" (31 : Nat) "DrawingHouse" "drawings" "[LDrawingHouse$Drawing;" : Cond) ∈ lw_g := lw_gi (lw_c3 (List.mem_of_getElem? (i := 78) rfl)) rfl
theorem wm_559 : (Cond.fieldLink "DrawingHouse" (38 : Nat) "DrawingHouse" "reader" "LDrawingHouse$Reader;" : Cond) ∈ lw_g := lw_gi (lw_c3 (List.mem_of_getElem? (i := 79) rfl)) rfl
theorem wm_560 : (Cond.fieldLink "DrawingHouse" (45 : Nat) "DrawingHouse" "embedder" "LDrawingHouse$Embedder;" : Cond) ∈ lw_g := lw_gi (lw_c3 (List.mem_of_getElem? (i := 80) rfl)) rfl
theorem wm_561 : (Cond.fieldLink "DrawingHouse" (49 : Nat) "DrawingHouse" "became" "[I" : Cond) ∈ lw_g := lw_gi (lw_c3 (List.mem_of_getElem? (i := 81) rfl)) rfl
theorem wm_562 : (Cond.fieldLink "DrawingHouse" (53 : Nat) "DrawingHouse" "becameNodes" "I" : Cond) ∈ lw_g := lw_gi (lw_c3 (List.mem_of_getElem? (i := 82) rfl)) rfl
theorem wm_563 : (Cond.fieldLink "DrawingHouse" (57 : Nat) "DrawingHouse" "steps" "I" : Cond) ∈ lw_g := lw_gi (lw_c3 (List.mem_of_getElem? (i := 83) rfl)) rfl
theorem wm_564 : (Cond.fieldLink "DrawingHouse" (60 : Nat) "DrawingHouse" "written" "[B" : Cond) ∈ lw_g := lw_gi (lw_c3 (List.mem_of_getElem? (i := 84) rfl)) rfl
theorem wm_565 : (Cond.fieldLink "DrawingHouse" (64 : Nat) "DrawingHouse" "spare" "[B" : Cond) ∈ lw_g := lw_gi (lw_c3 (List.mem_of_getElem? (i := 85) rfl)) rfl
theorem wm_566 : (Cond.fieldLink "DrawingHouse" (67 : Nat) "DrawingHouse" "writtenLength" "I" : Cond) ∈ lw_g := lw_gi (lw_c3 (List.mem_of_getElem? (i := 86) rfl)) rfl
theorem wm_567 : (Cond.fieldLink "DrawingHouse" (70 : Nat) "DrawingHouse" "spareLength" "I" : Cond) ∈ lw_g := lw_gi (lw_c3 (List.mem_of_getElem? (i := 87) rfl)) rfl
theorem wm_568 : (Cond.fieldLink "DrawingHouse" (73 : Nat) "DrawingHouse" "plane" "[I" : Cond) ∈ lw_g := lw_gi (lw_c3 (List.mem_of_getElem? (i := 88) rfl)) rfl
theorem wm_569 : (Cond.fieldLink "DrawingHouse" (76 : Nat) "DrawingHouse" "planeWidth" "I" : Cond) ∈ lw_g := lw_gi (lw_c3 (List.mem_of_getElem? (i := 89) rfl)) rfl
theorem wm_570 : (Cond.fieldLink "DrawingHouse" (79 : Nat) "DrawingHouse" "planeHeight" "I" : Cond) ∈ lw_g := lw_gi (lw_c3 (List.mem_of_getElem? (i := 90) rfl)) rfl
theorem wm_571 : (Cond.fieldLink "DrawingHouse" (82 : Nat) "DrawingHouse" "styler" "LDrawingHouse$Styler;" : Cond) ∈ lw_g := lw_gi (lw_c3 (List.mem_of_getElem? (i := 91) rfl)) rfl
theorem wm_572 : (Cond.fieldLink "DrawingHouse" (86 : Nat) "DrawingHouse" "layers" "LDrawingHouse$Layers;" : Cond) ∈ lw_g := lw_gi (lw_c3 (List.mem_of_getElem? (i := 92) rfl)) rfl
theorem wm_573 : (Cond.fieldLink "DrawingHouse" (90 : Nat) "DrawingHouse" "planarWays" "LDrawingHouse$PlanarWays;" : Cond) ∈ lw_g := lw_gi (lw_c3 (List.mem_of_getElem? (i := 93) rfl)) rfl
theorem wm_574 : (Cond.fieldLink "DrawingHouse" (94 : Nat) "DrawingHouse" "plainWays" "LDrawingHouse$PlainWays;" : Cond) ∈ lw_g := lw_gi (lw_c3 (List.mem_of_getElem? (i := 94) rfl)) rfl
theorem wm_575 : (Cond.fieldLink "DrawingHouse" (98 : Nat) "DrawingHouse" "router" "LDrawingHouse$Router;" : Cond) ∈ lw_g := lw_gi (lw_c3 (List.mem_of_getElem? (i := 95) rfl)) rfl
theorem wn_34 : (Cond.arrayOver (ClassFile.FieldType.object "DrawingHouse$Graph") : Cond) ∈ lw_n := lw_ni (lw_c1 (List.mem_of_getElem? (i := 34) rfl)) rfl
theorem wn_36 : (Cond.arrayOver (ClassFile.FieldType.object "DrawingHouse$Facts") : Cond) ∈ lw_n := lw_ni (lw_c1 (List.mem_of_getElem? (i := 36) rfl)) rfl
theorem wn_38 : (Cond.arrayOver (ClassFile.FieldType.object "DrawingHouse$Net") : Cond) ∈ lw_n := lw_ni (lw_c1 (List.mem_of_getElem? (i := 38) rfl)) rfl
theorem wn_40 : (Cond.arrayOver (ClassFile.FieldType.object "DrawingHouse$Drawing") : Cond) ∈ lw_n := lw_ni (lw_c1 (List.mem_of_getElem? (i := 40) rfl)) rfl
theorem wn_43 : (Cond.methodLinkNest "DrawingHouse" (37 : Nat) ({ cls := "DrawingHouse$Reader", name := "<init>", desc := "()V" } : MethodName) "DrawingHouse" : Cond) ∈ lw_n := lw_ni (lw_c1 (List.mem_of_getElem? (i := 43) rfl)) rfl
theorem wn_238 : (Cond.methodLinkNest "DrawingHouse" (44 : Nat) ({ cls := "DrawingHouse$Embedder", name := "<init>", desc := "()V" } : MethodName) "DrawingHouse" : Cond) ∈ lw_n := lw_ni (lw_c1 (List.mem_of_getElem? (i := 238) rfl)) rfl
theorem wn_390 : (Cond.methodLinkNest "DrawingHouse" (103 : Nat) ({ cls := "DrawingHouse$Facts", name := "<init>", desc := "()V" } : MethodName) "DrawingHouse" : Cond) ∈ lw_n := lw_ni (lw_c2 (List.mem_of_getElem? (i := 150) rfl)) rfl
theorem wn_459 : (Cond.methodLinkNest "DrawingHouse" (104 : Nat) ({ cls := "DrawingHouse$Net", name := "<init>", desc := "()V" } : MethodName) "DrawingHouse" : Cond) ∈ lw_n := lw_ni (lw_c2 (List.mem_of_getElem? (i := 219) rfl)) rfl
abbrev b_Ho_init : ByteArray := prog_1_method_1_code
def y_Ho_init : MethodName := ⟨"DrawingHouse", "<init>", "()V"⟩
abbrev z_Ho_init : List Cond := Cond.code y_Ho_init b_Ho_init 2 none :: lw_g
theorem d_Ho_init_0 : decode b_Ho_init 0 = .ok (.aload_n 0, 1) := by decide +kernel
theorem d_Ho_init_1 : decode b_Ho_init 1 = .ok (.invokespecial 5, 3) := by decide +kernel
theorem d_Ho_init_4 : decode b_Ho_init 4 = .ok (.aload_n 0, 1) := by decide +kernel
theorem d_Ho_init_5 : decode b_Ho_init 5 = .ok (.iconst 4, 1) := by decide +kernel
theorem d_Ho_init_6 : decode b_Ho_init 6 = .ok (.anewarray 11, 3) := by decide +kernel
theorem d_Ho_init_9 : decode b_Ho_init 9 = .ok (.putfield 13, 3) := by decide +kernel
theorem d_Ho_init_12 : decode b_Ho_init 12 = .ok (.aload_n 0, 1) := by decide +kernel
theorem d_Ho_init_13 : decode b_Ho_init 13 = .ok (.iconst 4, 1) := by decide +kernel
theorem d_Ho_init_14 : decode b_Ho_init 14 = .ok (.anewarray 17, 3) := by decide +kernel
theorem d_Ho_init_17 : decode b_Ho_init 17 = .ok (.putfield 19, 3) := by decide +kernel
theorem d_Ho_init_20 : decode b_Ho_init 20 = .ok (.aload_n 0, 1) := by decide +kernel
theorem d_Ho_init_21 : decode b_Ho_init 21 = .ok (.iconst 4, 1) := by decide +kernel
theorem d_Ho_init_22 : decode b_Ho_init 22 = .ok (.anewarray 23, 3) := by decide +kernel
theorem d_Ho_init_25 : decode b_Ho_init 25 = .ok (.putfield 25, 3) := by decide +kernel
theorem d_Ho_init_28 : decode b_Ho_init 28 = .ok (.aload_n 0, 1) := by decide +kernel
theorem d_Ho_init_29 : decode b_Ho_init 29 = .ok (.iconst 4, 1) := by decide +kernel
theorem d_Ho_init_30 : decode b_Ho_init 30 = .ok (.anewarray 29, 3) := by decide +kernel
theorem d_Ho_init_33 : decode b_Ho_init 33 = .ok (.putfield 31, 3) := by decide +kernel
theorem d_Ho_init_36 : decode b_Ho_init 36 = .ok (.aload_n 0, 1) := by decide +kernel
theorem d_Ho_init_37 : decode b_Ho_init 37 = .ok (.new 35, 3) := by decide +kernel
theorem d_Ho_init_40 : decode b_Ho_init 40 = .ok (.dup, 1) := by decide +kernel
theorem d_Ho_init_41 : decode b_Ho_init 41 = .ok (.invokespecial 37, 3) := by decide +kernel
theorem d_Ho_init_44 : decode b_Ho_init 44 = .ok (.putfield 38, 3) := by decide +kernel
theorem d_Ho_init_47 : decode b_Ho_init 47 = .ok (.aload_n 0, 1) := by decide +kernel
theorem d_Ho_init_48 : decode b_Ho_init 48 = .ok (.new 42, 3) := by decide +kernel
theorem d_Ho_init_51 : decode b_Ho_init 51 = .ok (.dup, 1) := by decide +kernel
theorem d_Ho_init_52 : decode b_Ho_init 52 = .ok (.invokespecial 44, 3) := by decide +kernel
theorem d_Ho_init_55 : decode b_Ho_init 55 = .ok (.putfield 45, 3) := by decide +kernel
theorem d_Ho_init_58 : decode b_Ho_init 58 = .ok (.aload_n 0, 1) := by decide +kernel
theorem d_Ho_init_59 : decode b_Ho_init 59 = .ok (.bipush 24, 2) := by decide +kernel
theorem d_Ho_init_61 : decode b_Ho_init 61 = .ok (.newarray .int, 2) := by decide +kernel
theorem d_Ho_init_63 : decode b_Ho_init 63 = .ok (.putfield 49, 3) := by decide +kernel
theorem d_Ho_init_66 : decode b_Ho_init 66 = .ok (.aload_n 0, 1) := by decide +kernel
theorem d_Ho_init_67 : decode b_Ho_init 67 = .ok (.iconst 0, 1) := by decide +kernel
theorem d_Ho_init_68 : decode b_Ho_init 68 = .ok (.putfield 53, 3) := by decide +kernel
theorem d_Ho_init_71 : decode b_Ho_init 71 = .ok (.aload_n 0, 1) := by decide +kernel
theorem d_Ho_init_72 : decode b_Ho_init 72 = .ok (.iconst (-1), 1) := by decide +kernel
theorem d_Ho_init_73 : decode b_Ho_init 73 = .ok (.putfield 57, 3) := by decide +kernel
theorem d_Ho_init_76 : decode b_Ho_init 76 = .ok (.aload_n 0, 1) := by decide +kernel
theorem d_Ho_init_77 : decode b_Ho_init 77 = .ok (.sipush 4000, 3) := by decide +kernel
theorem d_Ho_init_80 : decode b_Ho_init 80 = .ok (.newarray .byte, 2) := by decide +kernel
theorem d_Ho_init_82 : decode b_Ho_init 82 = .ok (.putfield 60, 3) := by decide +kernel
theorem d_Ho_init_85 : decode b_Ho_init 85 = .ok (.aload_n 0, 1) := by decide +kernel
theorem d_Ho_init_86 : decode b_Ho_init 86 = .ok (.sipush 4000, 3) := by decide +kernel
theorem d_Ho_init_89 : decode b_Ho_init 89 = .ok (.newarray .byte, 2) := by decide +kernel
theorem d_Ho_init_91 : decode b_Ho_init 91 = .ok (.putfield 64, 3) := by decide +kernel
theorem d_Ho_init_94 : decode b_Ho_init 94 = .ok (.aload_n 0, 1) := by decide +kernel
theorem d_Ho_init_95 : decode b_Ho_init 95 = .ok (.iconst 0, 1) := by decide +kernel
theorem d_Ho_init_96 : decode b_Ho_init 96 = .ok (.putfield 67, 3) := by decide +kernel
theorem d_Ho_init_99 : decode b_Ho_init 99 = .ok (.aload_n 0, 1) := by decide +kernel
theorem d_Ho_init_100 : decode b_Ho_init 100 = .ok (.iconst 0, 1) := by decide +kernel
theorem d_Ho_init_101 : decode b_Ho_init 101 = .ok (.putfield 70, 3) := by decide +kernel
theorem d_Ho_init_104 : decode b_Ho_init 104 = .ok (.aload_n 0, 1) := by decide +kernel
theorem d_Ho_init_105 : decode b_Ho_init 105 = .ok (.sipush 4096, 3) := by decide +kernel
theorem d_Ho_init_108 : decode b_Ho_init 108 = .ok (.newarray .int, 2) := by decide +kernel
theorem d_Ho_init_110 : decode b_Ho_init 110 = .ok (.putfield 73, 3) := by decide +kernel
theorem d_Ho_init_113 : decode b_Ho_init 113 = .ok (.aload_n 0, 1) := by decide +kernel
theorem d_Ho_init_114 : decode b_Ho_init 114 = .ok (.iconst 0, 1) := by decide +kernel
theorem d_Ho_init_115 : decode b_Ho_init 115 = .ok (.putfield 76, 3) := by decide +kernel
theorem d_Ho_init_118 : decode b_Ho_init 118 = .ok (.aload_n 0, 1) := by decide +kernel
theorem d_Ho_init_119 : decode b_Ho_init 119 = .ok (.iconst 0, 1) := by decide +kernel
theorem d_Ho_init_120 : decode b_Ho_init 120 = .ok (.putfield 79, 3) := by decide +kernel
theorem d_Ho_init_123 : decode b_Ho_init 123 = .ok (.aload_n 0, 1) := by decide +kernel
theorem d_Ho_init_124 : decode b_Ho_init 124 = .ok (.aconst_null, 1) := by decide +kernel
theorem d_Ho_init_125 : decode b_Ho_init 125 = .ok (.putfield 82, 3) := by decide +kernel
theorem d_Ho_init_128 : decode b_Ho_init 128 = .ok (.aload_n 0, 1) := by decide +kernel
theorem d_Ho_init_129 : decode b_Ho_init 129 = .ok (.aconst_null, 1) := by decide +kernel
theorem d_Ho_init_130 : decode b_Ho_init 130 = .ok (.putfield 86, 3) := by decide +kernel
theorem d_Ho_init_133 : decode b_Ho_init 133 = .ok (.aload_n 0, 1) := by decide +kernel
theorem d_Ho_init_134 : decode b_Ho_init 134 = .ok (.aconst_null, 1) := by decide +kernel
theorem d_Ho_init_135 : decode b_Ho_init 135 = .ok (.putfield 90, 3) := by decide +kernel
theorem d_Ho_init_138 : decode b_Ho_init 138 = .ok (.aload_n 0, 1) := by decide +kernel
theorem d_Ho_init_139 : decode b_Ho_init 139 = .ok (.aconst_null, 1) := by decide +kernel
theorem d_Ho_init_140 : decode b_Ho_init 140 = .ok (.putfield 94, 3) := by decide +kernel
theorem d_Ho_init_143 : decode b_Ho_init 143 = .ok (.aload_n 0, 1) := by decide +kernel
theorem d_Ho_init_144 : decode b_Ho_init 144 = .ok (.aconst_null, 1) := by decide +kernel
theorem d_Ho_init_145 : decode b_Ho_init 145 = .ok (.putfield 98, 3) := by decide +kernel
theorem d_Ho_init_148 : decode b_Ho_init 148 = .ok (.iconst 0, 1) := by decide +kernel
theorem d_Ho_init_149 : decode b_Ho_init 149 = .ok (.istore_n 1, 1) := by decide +kernel
theorem d_Ho_init_150 : decode b_Ho_init 150 = .ok (.iload_n 1, 1) := by decide +kernel
theorem d_Ho_init_151 : decode b_Ho_init 151 = .ok (.iconst 4, 1) := by decide +kernel
theorem d_Ho_init_152 : decode b_Ho_init 152 = .ok (.if_icmp .ge 67, 3) := by decide +kernel
theorem d_Ho_init_155 : decode b_Ho_init 155 = .ok (.aload_n 0, 1) := by decide +kernel
theorem d_Ho_init_156 : decode b_Ho_init 156 = .ok (.getfield 13, 3) := by decide +kernel
theorem d_Ho_init_159 : decode b_Ho_init 159 = .ok (.iload_n 1, 1) := by decide +kernel
theorem d_Ho_init_160 : decode b_Ho_init 160 = .ok (.new 11, 3) := by decide +kernel
theorem d_Ho_init_163 : decode b_Ho_init 163 = .ok (.dup, 1) := by decide +kernel
theorem d_Ho_init_164 : decode b_Ho_init 164 = .ok (.invokespecial 102, 3) := by decide +kernel
theorem d_Ho_init_167 : decode b_Ho_init 167 = .ok (.aastore, 1) := by decide +kernel
theorem d_Ho_init_168 : decode b_Ho_init 168 = .ok (.aload_n 0, 1) := by decide +kernel
theorem d_Ho_init_169 : decode b_Ho_init 169 = .ok (.getfield 19, 3) := by decide +kernel
theorem d_Ho_init_172 : decode b_Ho_init 172 = .ok (.iload_n 1, 1) := by decide +kernel
theorem d_Ho_init_173 : decode b_Ho_init 173 = .ok (.new 17, 3) := by decide +kernel
theorem d_Ho_init_176 : decode b_Ho_init 176 = .ok (.dup, 1) := by decide +kernel
theorem d_Ho_init_177 : decode b_Ho_init 177 = .ok (.invokespecial 103, 3) := by decide +kernel
theorem d_Ho_init_180 : decode b_Ho_init 180 = .ok (.aastore, 1) := by decide +kernel
theorem d_Ho_init_181 : decode b_Ho_init 181 = .ok (.aload_n 0, 1) := by decide +kernel
theorem d_Ho_init_182 : decode b_Ho_init 182 = .ok (.getfield 25, 3) := by decide +kernel
theorem d_Ho_init_185 : decode b_Ho_init 185 = .ok (.iload_n 1, 1) := by decide +kernel
theorem d_Ho_init_186 : decode b_Ho_init 186 = .ok (.new 23, 3) := by decide +kernel
theorem d_Ho_init_189 : decode b_Ho_init 189 = .ok (.dup, 1) := by decide +kernel
theorem d_Ho_init_190 : decode b_Ho_init 190 = .ok (.invokespecial 104, 3) := by decide +kernel
theorem d_Ho_init_193 : decode b_Ho_init 193 = .ok (.aastore, 1) := by decide +kernel
theorem d_Ho_init_194 : decode b_Ho_init 194 = .ok (.aload_n 0, 1) := by decide +kernel
theorem d_Ho_init_195 : decode b_Ho_init 195 = .ok (.getfield 31, 3) := by decide +kernel
theorem d_Ho_init_198 : decode b_Ho_init 198 = .ok (.iload_n 1, 1) := by decide +kernel
theorem d_Ho_init_199 : decode b_Ho_init 199 = .ok (.new 29, 3) := by decide +kernel
theorem d_Ho_init_202 : decode b_Ho_init 202 = .ok (.dup, 1) := by decide +kernel
theorem d_Ho_init_203 : decode b_Ho_init 203 = .ok (.aload_n 0, 1) := by decide +kernel
theorem d_Ho_init_204 : decode b_Ho_init 204 = .ok (.getfield 13, 3) := by decide +kernel
theorem d_Ho_init_207 : decode b_Ho_init 207 = .ok (.iload_n 1, 1) := by decide +kernel
theorem d_Ho_init_208 : decode b_Ho_init 208 = .ok (.aaload, 1) := by decide +kernel
theorem d_Ho_init_209 : decode b_Ho_init 209 = .ok (.invokespecial 105, 3) := by decide +kernel
theorem d_Ho_init_212 : decode b_Ho_init 212 = .ok (.aastore, 1) := by decide +kernel
theorem d_Ho_init_213 : decode b_Ho_init 213 = .ok (.iinc 1 1, 3) := by decide +kernel
theorem d_Ho_init_216 : decode b_Ho_init 216 = .ok (.goto (-66), 3) := by decide +kernel
theorem d_Ho_init_219 : decode b_Ho_init 219 = .ok (.return_, 1) := by decide +kernel
abbrev f0Ho : List Value := [.null, .null, .null, .null, .null, .null, .null, .int 0, .int 0, .null, .null, .int 0, .int 0, .null, .int 0, .int 0, .null, .null, .null, .null, .null]
set_option maxRecDepth 20000 in
theorem f0Ho_ok : ∀ j, j < 21 → defaultValue (t_Ho j) = vp_V f0Ho j := by decide +kernel
def rr (g : Nat → Nat) : Nat → Option Nat := va_up (va_up (va_up (va_up (fun _ => none) 0 (some (g 0))) 1 (some (g 1))) 2 (some (g 2))) 3 (some (g 3))
def wHo (kA : Nat → ClassId) (h : Nat) (q : Nat → Nat) (x : Nat → Int32) (a : Nat → Nat → Int32) (g : Nat → Nat → Nat) (o16 : Option Nat) (o17 : Option Nat) (o18 : Option Nat) (o19 : Option Nat) (o20 : Option Nat) : va_W := [(h, .inr (12, [.ref (q 0), .ref (q 1), .ref (q 2), .ref (q 3), .ref (q 4), .ref (q 5), .ref (q 6), .int (x 7), .int (x 8), .ref (q 9), .ref (q 10), .int (x 11), .int (x 12), .ref (q 13), .int (x 14), .int (x 15), va_rf o16, va_rf o17, va_rf o18, va_rf o19, va_rf o20])), (q 0, .inl (kA 4, 4, .inr (.inr (.inr (.inr (rr (g 0))))))), (q 1, .inl (kA 5, 4, .inr (.inr (.inr (.inr (rr (g 1))))))), (q 2, .inl (kA 6, 4, .inr (.inr (.inr (.inr (rr (g 2))))))), (q 3, .inl (kA 7, 4, .inr (.inr (.inr (.inr (rr (g 3))))))), (q 6, .inl (kA 0, 24, .inl (a 6))), (q 9, .inl (kA 1, 4000, .inl (a 9))), (q 10, .inl (kA 1, 4000, .inl (a 10))), (q 13, .inl (kA 0, 4096, .inl (a 13)))]
def x0Ho : Nat → Int32 := fun k => match k with | 8 => (-1) | _ => 0
def a0Ho : Nat → Nat → Int32 := fun _ _ => 0
def sHo (kA : Nat → ClassId) (h : Nat) (u : Nat → Nat → Nat) : List va_W := [wHo kA h (u 0) x0Ho a0Ho (fun k i => u 50 (5 + 4 * i + k)) none none none none none, wRe kA (u 50 1) ((u 1)) x0Re a0Re, wGr kA (u 50 2) ((u 2)) x0Gr a0Gr none, wEm kA (u 50 3) ((u 3)) x0Em a0Em none, wNe kA (u 50 4) ((u 4)) x0Ne a0Ne, wGr kA (u 50 5) ((u 5)) x0Gr a0Gr none, wFa kA (u 50 6) ((u 6)) x0Fa a0Fa, wNe kA (u 50 7) ((u 7)) x0Ne a0Ne, wDr kA (u 50 8) ((u 8)) x0Dr a0Dr, wGr kA (u 50 9) ((u 9)) x0Gr a0Gr none, wFa kA (u 50 10) ((u 10)) x0Fa a0Fa, wNe kA (u 50 11) ((u 11)) x0Ne a0Ne, wDr kA (u 50 12) ((u 12)) x0Dr a0Dr, wGr kA (u 50 13) ((u 13)) x0Gr a0Gr none, wFa kA (u 50 14) ((u 14)) x0Fa a0Fa, wNe kA (u 50 15) ((u 15)) x0Ne a0Ne, wDr kA (u 50 16) ((u 16)) x0Dr a0Dr, wGr kA (u 50 17) ((u 17)) x0Gr a0Gr none, wFa kA (u 50 18) ((u 18)) x0Fa a0Fa, wNe kA (u 50 19) ((u 19)) x0Ne a0Ne, wDr kA (u 50 20) ((u 20)) x0Dr a0Dr]
set_option maxRecDepth 100000 in
set_option maxHeartbeats 8000000 in
/-- DrawingHouse() -/
theorem c_Ho_init (l : Launch) (D : va_G) (kA : Nat → ClassId) (h : Nat) : Cv l y_Ho_init z_Ho_init { frames := 3, cells := 248, slots := 42666, locals := 63 } D classes (TY kA) [.ref h] [[(h, .inr (12, f0Ho))]] (fun u : Nat → Nat → Nat => u 50 2 = u 1 4 ∧ u 50 4 = u 3 1 ∧ u 8 0 = u 50 5 ∧ u 12 0 = u 50 9 ∧ u 16 0 = u 50 13 ∧ u 20 0 = u 50 17) (fun u => sHo kA h u) 248 42666 := by
  intro sz
  refine k_met (cc := b_Ho_init) (maxL := 2) (ret := none) (by decide) rfl (Nat.le_of_ble_eq_true rfl) (fun p e s m below meth c ls X hl hB => ?_)
  obtain ⟨hsz, hP, hK, hD0, hN⟩ := hB
  subst hsz
  have hD := hD0.self (sz := s.heap.size)
  generalize hAe : va_A (cat [[(h, .inr (12, [.null, .null, .null, .null, .null, .null, .null, .int 0, .int 0, .null, .null, .int 0, .int 0, .null, .int 0, .int 0, .null, .null, .null, .null, .null]))]]) s.heap.size = A at hD ⊢
  have hA : ∀ q : Nat, s.heap.size ≤ q → A q := fun q h => by rw [← hAe]; exact Or.inr h
  have hS : va_S A s.heap s.heap [] := va_S.rf
  obtain ⟨hx, hb, hml, hown, hts, hr, hlk, hnm⟩ := id X
  have hl : lv_has ls 2 [(0, .ref h)] := hl
  have hP : va_P D classes (cat [[(h, .inr (12, [.null, .null, .null, .null, .null, .null, .null, .int 0, .int 0, .null, .null, .int 0, .int 0, .null, .int 0, .int 0, .null, .null, .null, .null, .null]))]]) s.heap := hP
  have hK : va_K D classes (TY kA) s := hK
  refine lv_aload_n (pc := 0) hx hb d_Ho_init_0 rfl (lv_at hl 0 rfl) ?_
  refine W.objInit hx hb hown (hts _ wm_30) (hts _ wm_31) (hts _ wm_32) rfl (by rw [hml]; exact hl.1) rfl d_Ho_init_1 (Nat.le_of_ble_eq_true rfl) (Nat.le_of_ble_eq_true rfl) ?_
  refine W.eq (g2 := F0 m 4 ls []) rfl ?_
  refine lv_aload_n (pc := 4) hx hb d_Ho_init_4 rfl (lv_at hl 0 rfl) ?_
  refine lv_iconst (pc := 5) (v := 4) hx hb d_Ho_init_5 (by decide) ?_
  refine k_newq (pc := 6) hN X (N' := 4) wm_33 wn_34 hK hP hD hS hA 4 rfl (by decide) rfl (by decide) (Nat.le_of_ble_eq_true rfl) (Nat.le_of_ble_eq_true rfl) d_Ho_init_6 (fun q1 H hP hD hS => ?_)
  have hP : va_P D classes (cat [[(h, .inr (12, [.null, .null, .null, .null, .null, .null, .null, .int 0, .int 0, .null, .null, .int 0, .int 0, .null, .int 0, .int 0, .null, .null, .null, .null, .null]))], [(q1, .inl (kA 4, 4, .inr (.inr (.inr (.inr (fun _ => none))))))]]) H := hP
  have hD : va_D A (cat [[(h, .inr (12, [.null, .null, .null, .null, .null, .null, .null, .int 0, .int 0, .null, .null, .int 0, .int 0, .null, .int 0, .int 0, .null, .null, .null, .null, .null]))], [(q1, .inl (kA 4, 4, .inr (.inr (.inr (.inr (fun _ => none))))))]]) := hD
  refine W.widen (k := 1) (n := 4) (by omega) (by omega) ?_
  refine k_put (pc := 9) X hK hP hD hS 0 rfl rfl i_Ho t_Ho t_Ho_ok n_Ho 0 (by decide) wm_555 rfl (Or.inr ⟨rfl, rfl⟩) rfl rfl (Nat.le_of_ble_eq_true rfl) d_Ho_init_9 (fun H locs hP hD hS => ?_)
  have hP : va_P D classes (cat [[(h, .inr (12, [.ref q1, .null, .null, .null, .null, .null, .null, .int 0, .int 0, .null, .null, .int 0, .int 0, .null, .int 0, .int 0, .null, .null, .null, .null, .null]))], [(q1, .inl (kA 4, 4, .inr (.inr (.inr (.inr (fun _ => none))))))]]) H := hP
  have hD : va_D A (cat [[(h, .inr (12, [.ref q1, .null, .null, .null, .null, .null, .null, .int 0, .int 0, .null, .null, .int 0, .int 0, .null, .int 0, .int 0, .null, .null, .null, .null, .null]))], [(q1, .inl (kA 4, 4, .inr (.inr (.inr (.inr (fun _ => none))))))]]) := hD
  refine lv_aload_n (pc := 12) hx hb d_Ho_init_12 rfl (lv_at hl 0 rfl) ?_
  refine lv_iconst (pc := 13) (v := 4) hx hb d_Ho_init_13 (by decide) ?_
  refine k_newq (pc := 14) hN X (N' := 4) wm_35 wn_36 hK hP hD hS hA 5 rfl (by decide) rfl (by decide) (Nat.le_of_ble_eq_true rfl) (Nat.le_of_ble_eq_true rfl) d_Ho_init_14 (fun q2 H hP hD hS => ?_)
  have hP : va_P D classes (cat [[(h, .inr (12, [.ref q1, .null, .null, .null, .null, .null, .null, .int 0, .int 0, .null, .null, .int 0, .int 0, .null, .int 0, .int 0, .null, .null, .null, .null, .null]))], [(q1, .inl (kA 4, 4, .inr (.inr (.inr (.inr (fun _ => none))))))], [(q2, .inl (kA 5, 4, .inr (.inr (.inr (.inr (fun _ => none))))))]]) H := hP
  have hD : va_D A (cat [[(h, .inr (12, [.ref q1, .null, .null, .null, .null, .null, .null, .int 0, .int 0, .null, .null, .int 0, .int 0, .null, .int 0, .int 0, .null, .null, .null, .null, .null]))], [(q1, .inl (kA 4, 4, .inr (.inr (.inr (.inr (fun _ => none))))))], [(q2, .inl (kA 5, 4, .inr (.inr (.inr (.inr (fun _ => none))))))]]) := hD
  refine W.widen (k := 2) (n := 8) (by omega) (by omega) ?_
  refine k_put (pc := 17) X hK hP hD hS 0 rfl rfl i_Ho t_Ho t_Ho_ok n_Ho 1 (by decide) wm_556 rfl (Or.inr ⟨rfl, rfl⟩) rfl rfl (Nat.le_of_ble_eq_true rfl) d_Ho_init_17 (fun H locs hP hD hS => ?_)
  have hP : va_P D classes (cat [[(h, .inr (12, [.ref q1, .ref q2, .null, .null, .null, .null, .null, .int 0, .int 0, .null, .null, .int 0, .int 0, .null, .int 0, .int 0, .null, .null, .null, .null, .null]))], [(q1, .inl (kA 4, 4, .inr (.inr (.inr (.inr (fun _ => none))))))], [(q2, .inl (kA 5, 4, .inr (.inr (.inr (.inr (fun _ => none))))))]]) H := hP
  have hD : va_D A (cat [[(h, .inr (12, [.ref q1, .ref q2, .null, .null, .null, .null, .null, .int 0, .int 0, .null, .null, .int 0, .int 0, .null, .int 0, .int 0, .null, .null, .null, .null, .null]))], [(q1, .inl (kA 4, 4, .inr (.inr (.inr (.inr (fun _ => none))))))], [(q2, .inl (kA 5, 4, .inr (.inr (.inr (.inr (fun _ => none))))))]]) := hD
  refine lv_aload_n (pc := 20) hx hb d_Ho_init_20 rfl (lv_at hl 0 rfl) ?_
  refine lv_iconst (pc := 21) (v := 4) hx hb d_Ho_init_21 (by decide) ?_
  refine k_newq (pc := 22) hN X (N' := 4) wm_37 wn_38 hK hP hD hS hA 6 rfl (by decide) rfl (by decide) (Nat.le_of_ble_eq_true rfl) (Nat.le_of_ble_eq_true rfl) d_Ho_init_22 (fun q3 H hP hD hS => ?_)
  have hP : va_P D classes (cat [[(h, .inr (12, [.ref q1, .ref q2, .null, .null, .null, .null, .null, .int 0, .int 0, .null, .null, .int 0, .int 0, .null, .int 0, .int 0, .null, .null, .null, .null, .null]))], [(q1, .inl (kA 4, 4, .inr (.inr (.inr (.inr (fun _ => none))))))], [(q2, .inl (kA 5, 4, .inr (.inr (.inr (.inr (fun _ => none))))))], [(q3, .inl (kA 6, 4, .inr (.inr (.inr (.inr (fun _ => none))))))]]) H := hP
  have hD : va_D A (cat [[(h, .inr (12, [.ref q1, .ref q2, .null, .null, .null, .null, .null, .int 0, .int 0, .null, .null, .int 0, .int 0, .null, .int 0, .int 0, .null, .null, .null, .null, .null]))], [(q1, .inl (kA 4, 4, .inr (.inr (.inr (.inr (fun _ => none))))))], [(q2, .inl (kA 5, 4, .inr (.inr (.inr (.inr (fun _ => none))))))], [(q3, .inl (kA 6, 4, .inr (.inr (.inr (.inr (fun _ => none))))))]]) := hD
  refine W.widen (k := 3) (n := 12) (by omega) (by omega) ?_
  refine k_put (pc := 25) X hK hP hD hS 0 rfl rfl i_Ho t_Ho t_Ho_ok n_Ho 2 (by decide) wm_557 rfl (Or.inr ⟨rfl, rfl⟩) rfl rfl (Nat.le_of_ble_eq_true rfl) d_Ho_init_25 (fun H locs hP hD hS => ?_)
  have hP : va_P D classes (cat [[(h, .inr (12, [.ref q1, .ref q2, .ref q3, .null, .null, .null, .null, .int 0, .int 0, .null, .null, .int 0, .int 0, .null, .int 0, .int 0, .null, .null, .null, .null, .null]))], [(q1, .inl (kA 4, 4, .inr (.inr (.inr (.inr (fun _ => none))))))], [(q2, .inl (kA 5, 4, .inr (.inr (.inr (.inr (fun _ => none))))))], [(q3, .inl (kA 6, 4, .inr (.inr (.inr (.inr (fun _ => none))))))]]) H := hP
  have hD : va_D A (cat [[(h, .inr (12, [.ref q1, .ref q2, .ref q3, .null, .null, .null, .null, .int 0, .int 0, .null, .null, .int 0, .int 0, .null, .int 0, .int 0, .null, .null, .null, .null, .null]))], [(q1, .inl (kA 4, 4, .inr (.inr (.inr (.inr (fun _ => none))))))], [(q2, .inl (kA 5, 4, .inr (.inr (.inr (.inr (fun _ => none))))))], [(q3, .inl (kA 6, 4, .inr (.inr (.inr (.inr (fun _ => none))))))]]) := hD
  refine lv_aload_n (pc := 28) hx hb d_Ho_init_28 rfl (lv_at hl 0 rfl) ?_
  refine lv_iconst (pc := 29) (v := 4) hx hb d_Ho_init_29 (by decide) ?_
  refine k_newq (pc := 30) hN X (N' := 4) wm_39 wn_40 hK hP hD hS hA 7 rfl (by decide) rfl (by decide) (Nat.le_of_ble_eq_true rfl) (Nat.le_of_ble_eq_true rfl) d_Ho_init_30 (fun q4 H hP hD hS => ?_)
  have hP : va_P D classes (cat [[(h, .inr (12, [.ref q1, .ref q2, .ref q3, .null, .null, .null, .null, .int 0, .int 0, .null, .null, .int 0, .int 0, .null, .int 0, .int 0, .null, .null, .null, .null, .null]))], [(q1, .inl (kA 4, 4, .inr (.inr (.inr (.inr (fun _ => none))))))], [(q2, .inl (kA 5, 4, .inr (.inr (.inr (.inr (fun _ => none))))))], [(q3, .inl (kA 6, 4, .inr (.inr (.inr (.inr (fun _ => none))))))], [(q4, .inl (kA 7, 4, .inr (.inr (.inr (.inr (fun _ => none))))))]]) H := hP
  have hD : va_D A (cat [[(h, .inr (12, [.ref q1, .ref q2, .ref q3, .null, .null, .null, .null, .int 0, .int 0, .null, .null, .int 0, .int 0, .null, .int 0, .int 0, .null, .null, .null, .null, .null]))], [(q1, .inl (kA 4, 4, .inr (.inr (.inr (.inr (fun _ => none))))))], [(q2, .inl (kA 5, 4, .inr (.inr (.inr (.inr (fun _ => none))))))], [(q3, .inl (kA 6, 4, .inr (.inr (.inr (.inr (fun _ => none))))))], [(q4, .inl (kA 7, 4, .inr (.inr (.inr (.inr (fun _ => none))))))]]) := hD
  refine W.widen (k := 4) (n := 16) (by omega) (by omega) ?_
  refine k_put (pc := 33) X hK hP hD hS 0 rfl rfl i_Ho t_Ho t_Ho_ok n_Ho 3 (by decide) wm_558 rfl (Or.inr ⟨rfl, rfl⟩) rfl rfl (Nat.le_of_ble_eq_true rfl) d_Ho_init_33 (fun H locs hP hD hS => ?_)
  have hP : va_P D classes (cat [[(h, .inr (12, [.ref q1, .ref q2, .ref q3, .ref q4, .null, .null, .null, .int 0, .int 0, .null, .null, .int 0, .int 0, .null, .int 0, .int 0, .null, .null, .null, .null, .null]))], [(q1, .inl (kA 4, 4, .inr (.inr (.inr (.inr (fun _ => none))))))], [(q2, .inl (kA 5, 4, .inr (.inr (.inr (.inr (fun _ => none))))))], [(q3, .inl (kA 6, 4, .inr (.inr (.inr (.inr (fun _ => none))))))], [(q4, .inl (kA 7, 4, .inr (.inr (.inr (.inr (fun _ => none))))))]]) H := hP
  have hD : va_D A (cat [[(h, .inr (12, [.ref q1, .ref q2, .ref q3, .ref q4, .null, .null, .null, .int 0, .int 0, .null, .null, .int 0, .int 0, .null, .int 0, .int 0, .null, .null, .null, .null, .null]))], [(q1, .inl (kA 4, 4, .inr (.inr (.inr (.inr (fun _ => none))))))], [(q2, .inl (kA 5, 4, .inr (.inr (.inr (.inr (fun _ => none))))))], [(q3, .inl (kA 6, 4, .inr (.inr (.inr (.inr (fun _ => none))))))], [(q4, .inl (kA 7, 4, .inr (.inr (.inr (.inr (fun _ => none))))))]]) := hD
  refine lv_aload_n (pc := 36) hx hb d_Ho_init_36 rfl (lv_at hl 0 rfl) ?_
  refine k_new (pc := 37) (fs := f0Re) X i_Re t_Re t_Re_ok wm_41 wm_42 wm_2 hK hP hD hS hA (ci := 8) rfl f0Re_ok (Nat.le_of_ble_eq_true rfl) (Nat.le_of_ble_eq_true rfl) d_Ho_init_37 (fun q5 H hP hD hS => ?_)
  have hP : va_P D classes (cat [[(h, .inr (12, [.ref q1, .ref q2, .ref q3, .ref q4, .null, .null, .null, .int 0, .int 0, .null, .null, .int 0, .int 0, .null, .int 0, .int 0, .null, .null, .null, .null, .null]))], [(q1, .inl (kA 4, 4, .inr (.inr (.inr (.inr (fun _ => none))))))], [(q2, .inl (kA 5, 4, .inr (.inr (.inr (.inr (fun _ => none))))))], [(q3, .inl (kA 6, 4, .inr (.inr (.inr (.inr (fun _ => none))))))], [(q4, .inl (kA 7, 4, .inr (.inr (.inr (.inr (fun _ => none))))))], [(q5, .inr (8, [.null, .int 0, .int 0, .int 0, .null, .int 0, .int 0, .int 0, .int 0, .int 0, .null, .int 0]))]]) H := hP
  have hD : va_D A (cat [[(h, .inr (12, [.ref q1, .ref q2, .ref q3, .ref q4, .null, .null, .null, .int 0, .int 0, .null, .null, .int 0, .int 0, .null, .int 0, .int 0, .null, .null, .null, .null, .null]))], [(q1, .inl (kA 4, 4, .inr (.inr (.inr (.inr (fun _ => none))))))], [(q2, .inl (kA 5, 4, .inr (.inr (.inr (.inr (fun _ => none))))))], [(q3, .inl (kA 6, 4, .inr (.inr (.inr (.inr (fun _ => none))))))], [(q4, .inl (kA 7, 4, .inr (.inr (.inr (.inr (fun _ => none))))))], [(q5, .inr (8, [.null, .int 0, .int 0, .int 0, .null, .int 0, .int 0, .int 0, .int 0, .int 0, .null, .int 0]))]]) := hD
  refine W.widen (k := 5) (n := 28) (by omega) (by omega) ?_
  refine lv_dup (pc := 40) hx hb d_Ho_init_40 rfl ?_
  refine k_goV (gr := [[(h, .inr (12, [.ref q1, .ref q2, .ref q3, .ref q4, .null, .null, .null, .int 0, .int 0, .null, .null, .int 0, .int 0, .null, .int 0, .int 0, .null, .null, .null, .null, .null]))], [(q1, .inl (kA 4, 4, .inr (.inr (.inr (.inr (fun _ => none))))))], [(q2, .inl (kA 5, 4, .inr (.inr (.inr (.inr (fun _ => none))))))], [(q3, .inl (kA 6, 4, .inr (.inr (.inr (.inr (fun _ => none))))))], [(q4, .inl (kA 7, 4, .inr (.inr (.inr (.inr (fun _ => none))))))]]) (k_rIN (pc := 41) (As := []) (rest := [.ref q5, .ref h]) hN X (c_Re_init l D kA q5 H.size) rfl wm_45 wm_2 wn_43 wm_44 rfl 0 (by decide +kernel) ⟨Nat.le_of_ble_eq_true rfl, Nat.le_of_ble_eq_true rfl⟩ rfl rfl (k_pre hN hK hP hD [5] [0, 1, 2, 3, 4] 6 rfl (by decide) rfl) rfl hl.1 rfl (Nat.le_of_ble_eq_true rfl) d_Ho_init_41 ⟨Nat.le_of_ble_eq_true rfl, Nat.le_of_ble_eq_true rfl⟩) hP hD hS hA [5] [0, 1, 2, 3, 4] 6 rfl (by decide) rfl rfl (fun u6 H locs hu6 hP hD hS => ?_)
  have hP : va_P D classes (cat [[(h, .inr (12, [.ref q1, .ref q2, .ref q3, .ref q4, .null, .null, .null, .int 0, .int 0, .null, .null, .int 0, .int 0, .null, .int 0, .int 0, .null, .null, .null, .null, .null]))], [(q1, .inl (kA 4, 4, .inr (.inr (.inr (.inr (fun _ => none))))))], [(q2, .inl (kA 5, 4, .inr (.inr (.inr (.inr (fun _ => none))))))], [(q3, .inl (kA 6, 4, .inr (.inr (.inr (.inr (fun _ => none))))))], [(q4, .inl (kA 7, 4, .inr (.inr (.inr (.inr (fun _ => none))))))], wRe kA q5 ((u6 0)) x0Re a0Re, wGr kA (u6 0 4) ((u6 1)) x0Gr a0Gr none]) H := hP
  have hD : va_D A (cat [[(h, .inr (12, [.ref q1, .ref q2, .ref q3, .ref q4, .null, .null, .null, .int 0, .int 0, .null, .null, .int 0, .int 0, .null, .int 0, .int 0, .null, .null, .null, .null, .null]))], [(q1, .inl (kA 4, 4, .inr (.inr (.inr (.inr (fun _ => none))))))], [(q2, .inl (kA 5, 4, .inr (.inr (.inr (.inr (fun _ => none))))))], [(q3, .inl (kA 6, 4, .inr (.inr (.inr (.inr (fun _ => none))))))], [(q4, .inl (kA 7, 4, .inr (.inr (.inr (.inr (fun _ => none))))))], wRe kA q5 ((u6 0)) x0Re a0Re, wGr kA (u6 0 4) ((u6 1)) x0Gr a0Gr none]) := hD
  refine W.widen (k := 21) (n := 3188) (by omega) (by omega) ?_
  refine k_put (pc := 44) X hK hP hD hS 0 rfl rfl i_Ho t_Ho t_Ho_ok n_Ho 4 (by decide) wm_559 rfl (Or.inr ⟨rfl, rfl⟩) rfl rfl (Nat.le_of_ble_eq_true rfl) d_Ho_init_44 (fun H locs hP hD hS => ?_)
  have hP : va_P D classes (cat [[(h, .inr (12, [.ref q1, .ref q2, .ref q3, .ref q4, .ref q5, .null, .null, .int 0, .int 0, .null, .null, .int 0, .int 0, .null, .int 0, .int 0, .null, .null, .null, .null, .null]))], [(q1, .inl (kA 4, 4, .inr (.inr (.inr (.inr (fun _ => none))))))], [(q2, .inl (kA 5, 4, .inr (.inr (.inr (.inr (fun _ => none))))))], [(q3, .inl (kA 6, 4, .inr (.inr (.inr (.inr (fun _ => none))))))], [(q4, .inl (kA 7, 4, .inr (.inr (.inr (.inr (fun _ => none))))))], wRe kA q5 ((u6 0)) x0Re a0Re, wGr kA (u6 0 4) ((u6 1)) x0Gr a0Gr none]) H := hP
  have hD : va_D A (cat [[(h, .inr (12, [.ref q1, .ref q2, .ref q3, .ref q4, .ref q5, .null, .null, .int 0, .int 0, .null, .null, .int 0, .int 0, .null, .int 0, .int 0, .null, .null, .null, .null, .null]))], [(q1, .inl (kA 4, 4, .inr (.inr (.inr (.inr (fun _ => none))))))], [(q2, .inl (kA 5, 4, .inr (.inr (.inr (.inr (fun _ => none))))))], [(q3, .inl (kA 6, 4, .inr (.inr (.inr (.inr (fun _ => none))))))], [(q4, .inl (kA 7, 4, .inr (.inr (.inr (.inr (fun _ => none))))))], wRe kA q5 ((u6 0)) x0Re a0Re, wGr kA (u6 0 4) ((u6 1)) x0Gr a0Gr none]) := hD
  refine lv_aload_n (pc := 47) hx hb d_Ho_init_47 rfl (lv_at hl 0 rfl) ?_
  refine k_new (pc := 48) (fs := f0Em) X i_Em t_Em t_Em_ok wm_236 wm_237 wm_5 hK hP hD hS hA (ci := 1) rfl f0Em_ok (Nat.le_of_ble_eq_true rfl) (Nat.le_of_ble_eq_true rfl) d_Ho_init_48 (fun q7 H hP hD hS => ?_)
  have hP : va_P D classes (cat [[(h, .inr (12, [.ref q1, .ref q2, .ref q3, .ref q4, .ref q5, .null, .null, .int 0, .int 0, .null, .null, .int 0, .int 0, .null, .int 0, .int 0, .null, .null, .null, .null, .null]))], [(q1, .inl (kA 4, 4, .inr (.inr (.inr (.inr (fun _ => none))))))], [(q2, .inl (kA 5, 4, .inr (.inr (.inr (.inr (fun _ => none))))))], [(q3, .inl (kA 6, 4, .inr (.inr (.inr (.inr (fun _ => none))))))], [(q4, .inl (kA 7, 4, .inr (.inr (.inr (.inr (fun _ => none))))))], wRe kA q5 ((u6 0)) x0Re a0Re, wGr kA (u6 0 4) ((u6 1)) x0Gr a0Gr none, [(q7, .inr (1, [.null, .null, .null, .null, .null, .int 0, .int 0, .int 0, .null, .null, .null, .null, .null, .null, .null, .int 0, .int 0, .int 0, .int 0, .null]))]]) H := hP
  have hD : va_D A (cat [[(h, .inr (12, [.ref q1, .ref q2, .ref q3, .ref q4, .ref q5, .null, .null, .int 0, .int 0, .null, .null, .int 0, .int 0, .null, .int 0, .int 0, .null, .null, .null, .null, .null]))], [(q1, .inl (kA 4, 4, .inr (.inr (.inr (.inr (fun _ => none))))))], [(q2, .inl (kA 5, 4, .inr (.inr (.inr (.inr (fun _ => none))))))], [(q3, .inl (kA 6, 4, .inr (.inr (.inr (.inr (fun _ => none))))))], [(q4, .inl (kA 7, 4, .inr (.inr (.inr (.inr (fun _ => none))))))], wRe kA q5 ((u6 0)) x0Re a0Re, wGr kA (u6 0 4) ((u6 1)) x0Gr a0Gr none, [(q7, .inr (1, [.null, .null, .null, .null, .null, .int 0, .int 0, .int 0, .null, .null, .null, .null, .null, .null, .null, .int 0, .int 0, .int 0, .int 0, .null]))]]) := hD
  refine W.widen (k := 22) (n := 3208) (by omega) (by omega) ?_
  refine lv_dup (pc := 51) hx hb d_Ho_init_51 rfl ?_
  refine k_goV (gr := [[(h, .inr (12, [.ref q1, .ref q2, .ref q3, .ref q4, .ref q5, .null, .null, .int 0, .int 0, .null, .null, .int 0, .int 0, .null, .int 0, .int 0, .null, .null, .null, .null, .null]))], [(q1, .inl (kA 4, 4, .inr (.inr (.inr (.inr (fun _ => none))))))], [(q2, .inl (kA 5, 4, .inr (.inr (.inr (.inr (fun _ => none))))))], [(q3, .inl (kA 6, 4, .inr (.inr (.inr (.inr (fun _ => none))))))], [(q4, .inl (kA 7, 4, .inr (.inr (.inr (.inr (fun _ => none))))))], wRe kA q5 ((u6 0)) x0Re a0Re, wGr kA (u6 0 4) ((u6 1)) x0Gr a0Gr none]) (k_rIN (pc := 52) (As := []) (rest := [.ref q7, .ref h]) hN X (c_Em_init l D kA q7 H.size) rfl wm_240 wm_5 wn_238 wm_239 rfl 0 (by decide +kernel) ⟨Nat.le_of_ble_eq_true rfl, Nat.le_of_ble_eq_true rfl⟩ rfl rfl (k_pre hN hK hP hD [7] [0, 1, 2, 3, 4, 5, 6] 8 rfl (by decide) rfl) rfl hl.1 rfl (Nat.le_of_ble_eq_true rfl) d_Ho_init_52 ⟨Nat.le_of_ble_eq_true rfl, Nat.le_of_ble_eq_true rfl⟩) hP hD hS hA [7] [0, 1, 2, 3, 4, 5, 6] 8 rfl (by decide) rfl rfl (fun u8 H locs hu8 hP hD hS => ?_)
  have hP : va_P D classes (cat [[(h, .inr (12, [.ref q1, .ref q2, .ref q3, .ref q4, .ref q5, .null, .null, .int 0, .int 0, .null, .null, .int 0, .int 0, .null, .int 0, .int 0, .null, .null, .null, .null, .null]))], [(q1, .inl (kA 4, 4, .inr (.inr (.inr (.inr (fun _ => none))))))], [(q2, .inl (kA 5, 4, .inr (.inr (.inr (.inr (fun _ => none))))))], [(q3, .inl (kA 6, 4, .inr (.inr (.inr (.inr (fun _ => none))))))], [(q4, .inl (kA 7, 4, .inr (.inr (.inr (.inr (fun _ => none))))))], wRe kA q5 ((u6 0)) x0Re a0Re, wGr kA (u6 0 4) ((u6 1)) x0Gr a0Gr none, wEm kA q7 ((u8 0)) x0Em a0Em none, wNe kA (u8 0 1) ((u8 1)) x0Ne a0Ne]) H := hP
  have hD : va_D A (cat [[(h, .inr (12, [.ref q1, .ref q2, .ref q3, .ref q4, .ref q5, .null, .null, .int 0, .int 0, .null, .null, .int 0, .int 0, .null, .int 0, .int 0, .null, .null, .null, .null, .null]))], [(q1, .inl (kA 4, 4, .inr (.inr (.inr (.inr (fun _ => none))))))], [(q2, .inl (kA 5, 4, .inr (.inr (.inr (.inr (fun _ => none))))))], [(q3, .inl (kA 6, 4, .inr (.inr (.inr (.inr (fun _ => none))))))], [(q4, .inl (kA 7, 4, .inr (.inr (.inr (.inr (fun _ => none))))))], wRe kA q5 ((u6 0)) x0Re a0Re, wGr kA (u6 0 4) ((u6 1)) x0Gr a0Gr none, wEm kA q7 ((u8 0)) x0Em a0Em none, wNe kA (u8 0 1) ((u8 1)) x0Ne a0Ne]) := hD
  refine W.widen (k := 44) (n := 6530) (by omega) (by omega) ?_
  refine k_put (pc := 55) X hK hP hD hS 0 rfl rfl i_Ho t_Ho t_Ho_ok n_Ho 5 (by decide) wm_560 rfl (Or.inr ⟨rfl, rfl⟩) rfl rfl (Nat.le_of_ble_eq_true rfl) d_Ho_init_55 (fun H locs hP hD hS => ?_)
  have hP : va_P D classes (cat [[(h, .inr (12, [.ref q1, .ref q2, .ref q3, .ref q4, .ref q5, .ref q7, .null, .int 0, .int 0, .null, .null, .int 0, .int 0, .null, .int 0, .int 0, .null, .null, .null, .null, .null]))], [(q1, .inl (kA 4, 4, .inr (.inr (.inr (.inr (fun _ => none))))))], [(q2, .inl (kA 5, 4, .inr (.inr (.inr (.inr (fun _ => none))))))], [(q3, .inl (kA 6, 4, .inr (.inr (.inr (.inr (fun _ => none))))))], [(q4, .inl (kA 7, 4, .inr (.inr (.inr (.inr (fun _ => none))))))], wRe kA q5 ((u6 0)) x0Re a0Re, wGr kA (u6 0 4) ((u6 1)) x0Gr a0Gr none, wEm kA q7 ((u8 0)) x0Em a0Em none, wNe kA (u8 0 1) ((u8 1)) x0Ne a0Ne]) H := hP
  have hD : va_D A (cat [[(h, .inr (12, [.ref q1, .ref q2, .ref q3, .ref q4, .ref q5, .ref q7, .null, .int 0, .int 0, .null, .null, .int 0, .int 0, .null, .int 0, .int 0, .null, .null, .null, .null, .null]))], [(q1, .inl (kA 4, 4, .inr (.inr (.inr (.inr (fun _ => none))))))], [(q2, .inl (kA 5, 4, .inr (.inr (.inr (.inr (fun _ => none))))))], [(q3, .inl (kA 6, 4, .inr (.inr (.inr (.inr (fun _ => none))))))], [(q4, .inl (kA 7, 4, .inr (.inr (.inr (.inr (fun _ => none))))))], wRe kA q5 ((u6 0)) x0Re a0Re, wGr kA (u6 0 4) ((u6 1)) x0Gr a0Gr none, wEm kA q7 ((u8 0)) x0Em a0Em none, wNe kA (u8 0 1) ((u8 1)) x0Ne a0Ne]) := hD
  refine lv_aload_n (pc := 58) hx hb d_Ho_init_58 rfl (lv_at hl 0 rfl) ?_
  refine lv_bipush (pc := 59) (v := 24) hx hb d_Ho_init_59 (by decide) ?_
  refine k_newa (pc := 61) (atype := .int) X (ty := .int) (a0 := (24, .inl (fun _ => 0))) rfl rfl wm_193 hK hP hD hS hA 0 rfl (fun _ => rfl) (by decide) rfl (by decide) (Nat.le_of_ble_eq_true rfl) (Nat.le_of_ble_eq_true rfl) d_Ho_init_61 (fun q9 H hP hD hS => ?_)
  have hP : va_P D classes (cat [[(h, .inr (12, [.ref q1, .ref q2, .ref q3, .ref q4, .ref q5, .ref q7, .null, .int 0, .int 0, .null, .null, .int 0, .int 0, .null, .int 0, .int 0, .null, .null, .null, .null, .null]))], [(q1, .inl (kA 4, 4, .inr (.inr (.inr (.inr (fun _ => none))))))], [(q2, .inl (kA 5, 4, .inr (.inr (.inr (.inr (fun _ => none))))))], [(q3, .inl (kA 6, 4, .inr (.inr (.inr (.inr (fun _ => none))))))], [(q4, .inl (kA 7, 4, .inr (.inr (.inr (.inr (fun _ => none))))))], wRe kA q5 ((u6 0)) x0Re a0Re, wGr kA (u6 0 4) ((u6 1)) x0Gr a0Gr none, wEm kA q7 ((u8 0)) x0Em a0Em none, wNe kA (u8 0 1) ((u8 1)) x0Ne a0Ne, [(q9, .inl (kA 0, 24, .inl (fun _ => 0)))]]) H := hP
  have hD : va_D A (cat [[(h, .inr (12, [.ref q1, .ref q2, .ref q3, .ref q4, .ref q5, .ref q7, .null, .int 0, .int 0, .null, .null, .int 0, .int 0, .null, .int 0, .int 0, .null, .null, .null, .null, .null]))], [(q1, .inl (kA 4, 4, .inr (.inr (.inr (.inr (fun _ => none))))))], [(q2, .inl (kA 5, 4, .inr (.inr (.inr (.inr (fun _ => none))))))], [(q3, .inl (kA 6, 4, .inr (.inr (.inr (.inr (fun _ => none))))))], [(q4, .inl (kA 7, 4, .inr (.inr (.inr (.inr (fun _ => none))))))], wRe kA q5 ((u6 0)) x0Re a0Re, wGr kA (u6 0 4) ((u6 1)) x0Gr a0Gr none, wEm kA q7 ((u8 0)) x0Em a0Em none, wNe kA (u8 0 1) ((u8 1)) x0Ne a0Ne, [(q9, .inl (kA 0, 24, .inl (fun _ => 0)))]]) := hD
  refine W.widen (k := 45) (n := 6554) (by omega) (by omega) ?_
  refine k_put (pc := 63) X hK hP hD hS 0 rfl rfl i_Ho t_Ho t_Ho_ok n_Ho 6 (by decide) wm_561 rfl (Or.inr ⟨rfl, rfl⟩) rfl rfl (Nat.le_of_ble_eq_true rfl) d_Ho_init_63 (fun H locs hP hD hS => ?_)
  have hP : va_P D classes (cat [[(h, .inr (12, [.ref q1, .ref q2, .ref q3, .ref q4, .ref q5, .ref q7, .ref q9, .int 0, .int 0, .null, .null, .int 0, .int 0, .null, .int 0, .int 0, .null, .null, .null, .null, .null]))], [(q1, .inl (kA 4, 4, .inr (.inr (.inr (.inr (fun _ => none))))))], [(q2, .inl (kA 5, 4, .inr (.inr (.inr (.inr (fun _ => none))))))], [(q3, .inl (kA 6, 4, .inr (.inr (.inr (.inr (fun _ => none))))))], [(q4, .inl (kA 7, 4, .inr (.inr (.inr (.inr (fun _ => none))))))], wRe kA q5 ((u6 0)) x0Re a0Re, wGr kA (u6 0 4) ((u6 1)) x0Gr a0Gr none, wEm kA q7 ((u8 0)) x0Em a0Em none, wNe kA (u8 0 1) ((u8 1)) x0Ne a0Ne, [(q9, .inl (kA 0, 24, .inl (fun _ => 0)))]]) H := hP
  have hD : va_D A (cat [[(h, .inr (12, [.ref q1, .ref q2, .ref q3, .ref q4, .ref q5, .ref q7, .ref q9, .int 0, .int 0, .null, .null, .int 0, .int 0, .null, .int 0, .int 0, .null, .null, .null, .null, .null]))], [(q1, .inl (kA 4, 4, .inr (.inr (.inr (.inr (fun _ => none))))))], [(q2, .inl (kA 5, 4, .inr (.inr (.inr (.inr (fun _ => none))))))], [(q3, .inl (kA 6, 4, .inr (.inr (.inr (.inr (fun _ => none))))))], [(q4, .inl (kA 7, 4, .inr (.inr (.inr (.inr (fun _ => none))))))], wRe kA q5 ((u6 0)) x0Re a0Re, wGr kA (u6 0 4) ((u6 1)) x0Gr a0Gr none, wEm kA q7 ((u8 0)) x0Em a0Em none, wNe kA (u8 0 1) ((u8 1)) x0Ne a0Ne, [(q9, .inl (kA 0, 24, .inl (fun _ => 0)))]]) := hD
  refine lv_aload_n (pc := 66) hx hb d_Ho_init_66 rfl (lv_at hl 0 rfl) ?_
  refine lv_iconst (pc := 67) (v := 0) hx hb d_Ho_init_67 (by decide) ?_
  refine k_put (pc := 68) X hK hP hD hS 0 rfl rfl i_Ho t_Ho t_Ho_ok n_Ho 7 (by decide) wm_562 rfl (Or.inl rfl) rfl rfl (Nat.le_of_ble_eq_true rfl) d_Ho_init_68 (fun H locs hP hD hS => ?_)
  have hP : va_P D classes (cat [[(h, .inr (12, [.ref q1, .ref q2, .ref q3, .ref q4, .ref q5, .ref q7, .ref q9, .int 0, .int 0, .null, .null, .int 0, .int 0, .null, .int 0, .int 0, .null, .null, .null, .null, .null]))], [(q1, .inl (kA 4, 4, .inr (.inr (.inr (.inr (fun _ => none))))))], [(q2, .inl (kA 5, 4, .inr (.inr (.inr (.inr (fun _ => none))))))], [(q3, .inl (kA 6, 4, .inr (.inr (.inr (.inr (fun _ => none))))))], [(q4, .inl (kA 7, 4, .inr (.inr (.inr (.inr (fun _ => none))))))], wRe kA q5 ((u6 0)) x0Re a0Re, wGr kA (u6 0 4) ((u6 1)) x0Gr a0Gr none, wEm kA q7 ((u8 0)) x0Em a0Em none, wNe kA (u8 0 1) ((u8 1)) x0Ne a0Ne, [(q9, .inl (kA 0, 24, .inl (fun _ => 0)))]]) H := hP
  have hD : va_D A (cat [[(h, .inr (12, [.ref q1, .ref q2, .ref q3, .ref q4, .ref q5, .ref q7, .ref q9, .int 0, .int 0, .null, .null, .int 0, .int 0, .null, .int 0, .int 0, .null, .null, .null, .null, .null]))], [(q1, .inl (kA 4, 4, .inr (.inr (.inr (.inr (fun _ => none))))))], [(q2, .inl (kA 5, 4, .inr (.inr (.inr (.inr (fun _ => none))))))], [(q3, .inl (kA 6, 4, .inr (.inr (.inr (.inr (fun _ => none))))))], [(q4, .inl (kA 7, 4, .inr (.inr (.inr (.inr (fun _ => none))))))], wRe kA q5 ((u6 0)) x0Re a0Re, wGr kA (u6 0 4) ((u6 1)) x0Gr a0Gr none, wEm kA q7 ((u8 0)) x0Em a0Em none, wNe kA (u8 0 1) ((u8 1)) x0Ne a0Ne, [(q9, .inl (kA 0, 24, .inl (fun _ => 0)))]]) := hD
  refine lv_aload_n (pc := 71) hx hb d_Ho_init_71 rfl (lv_at hl 0 rfl) ?_
  refine lv_iconst (pc := 72) (v := -1) hx hb d_Ho_init_72 (by decide) ?_
  refine k_put (pc := 73) X hK hP hD hS 0 rfl rfl i_Ho t_Ho t_Ho_ok n_Ho 8 (by decide) wm_563 rfl (Or.inl rfl) rfl rfl (Nat.le_of_ble_eq_true rfl) d_Ho_init_73 (fun H locs hP hD hS => ?_)
  have hP : va_P D classes (cat [[(h, .inr (12, [.ref q1, .ref q2, .ref q3, .ref q4, .ref q5, .ref q7, .ref q9, .int 0, .int ((-1)), .null, .null, .int 0, .int 0, .null, .int 0, .int 0, .null, .null, .null, .null, .null]))], [(q1, .inl (kA 4, 4, .inr (.inr (.inr (.inr (fun _ => none))))))], [(q2, .inl (kA 5, 4, .inr (.inr (.inr (.inr (fun _ => none))))))], [(q3, .inl (kA 6, 4, .inr (.inr (.inr (.inr (fun _ => none))))))], [(q4, .inl (kA 7, 4, .inr (.inr (.inr (.inr (fun _ => none))))))], wRe kA q5 ((u6 0)) x0Re a0Re, wGr kA (u6 0 4) ((u6 1)) x0Gr a0Gr none, wEm kA q7 ((u8 0)) x0Em a0Em none, wNe kA (u8 0 1) ((u8 1)) x0Ne a0Ne, [(q9, .inl (kA 0, 24, .inl (fun _ => 0)))]]) H := hP
  have hD : va_D A (cat [[(h, .inr (12, [.ref q1, .ref q2, .ref q3, .ref q4, .ref q5, .ref q7, .ref q9, .int 0, .int ((-1)), .null, .null, .int 0, .int 0, .null, .int 0, .int 0, .null, .null, .null, .null, .null]))], [(q1, .inl (kA 4, 4, .inr (.inr (.inr (.inr (fun _ => none))))))], [(q2, .inl (kA 5, 4, .inr (.inr (.inr (.inr (fun _ => none))))))], [(q3, .inl (kA 6, 4, .inr (.inr (.inr (.inr (fun _ => none))))))], [(q4, .inl (kA 7, 4, .inr (.inr (.inr (.inr (fun _ => none))))))], wRe kA q5 ((u6 0)) x0Re a0Re, wGr kA (u6 0 4) ((u6 1)) x0Gr a0Gr none, wEm kA q7 ((u8 0)) x0Em a0Em none, wNe kA (u8 0 1) ((u8 1)) x0Ne a0Ne, [(q9, .inl (kA 0, 24, .inl (fun _ => 0)))]]) := hD
  refine lv_aload_n (pc := 76) hx hb d_Ho_init_76 rfl (lv_at hl 0 rfl) ?_
  refine lv_sipush (pc := 77) (v := 4000) hx hb d_Ho_init_77 (by decide) ?_
  refine k_newa (pc := 80) (atype := .byte) X (ty := .byte) (a0 := (4000, .inl (fun _ => 0))) rfl rfl wm_192 hK hP hD hS hA 1 rfl (fun _ => rfl) (by decide) rfl (by decide) (Nat.le_of_ble_eq_true rfl) (Nat.le_of_ble_eq_true rfl) d_Ho_init_80 (fun q10 H hP hD hS => ?_)
  have hP : va_P D classes (cat [[(h, .inr (12, [.ref q1, .ref q2, .ref q3, .ref q4, .ref q5, .ref q7, .ref q9, .int 0, .int ((-1)), .null, .null, .int 0, .int 0, .null, .int 0, .int 0, .null, .null, .null, .null, .null]))], [(q1, .inl (kA 4, 4, .inr (.inr (.inr (.inr (fun _ => none))))))], [(q2, .inl (kA 5, 4, .inr (.inr (.inr (.inr (fun _ => none))))))], [(q3, .inl (kA 6, 4, .inr (.inr (.inr (.inr (fun _ => none))))))], [(q4, .inl (kA 7, 4, .inr (.inr (.inr (.inr (fun _ => none))))))], wRe kA q5 ((u6 0)) x0Re a0Re, wGr kA (u6 0 4) ((u6 1)) x0Gr a0Gr none, wEm kA q7 ((u8 0)) x0Em a0Em none, wNe kA (u8 0 1) ((u8 1)) x0Ne a0Ne, [(q9, .inl (kA 0, 24, .inl (fun _ => 0)))], [(q10, .inl (kA 1, 4000, .inl (fun _ => 0)))]]) H := hP
  have hD : va_D A (cat [[(h, .inr (12, [.ref q1, .ref q2, .ref q3, .ref q4, .ref q5, .ref q7, .ref q9, .int 0, .int ((-1)), .null, .null, .int 0, .int 0, .null, .int 0, .int 0, .null, .null, .null, .null, .null]))], [(q1, .inl (kA 4, 4, .inr (.inr (.inr (.inr (fun _ => none))))))], [(q2, .inl (kA 5, 4, .inr (.inr (.inr (.inr (fun _ => none))))))], [(q3, .inl (kA 6, 4, .inr (.inr (.inr (.inr (fun _ => none))))))], [(q4, .inl (kA 7, 4, .inr (.inr (.inr (.inr (fun _ => none))))))], wRe kA q5 ((u6 0)) x0Re a0Re, wGr kA (u6 0 4) ((u6 1)) x0Gr a0Gr none, wEm kA q7 ((u8 0)) x0Em a0Em none, wNe kA (u8 0 1) ((u8 1)) x0Ne a0Ne, [(q9, .inl (kA 0, 24, .inl (fun _ => 0)))], [(q10, .inl (kA 1, 4000, .inl (fun _ => 0)))]]) := hD
  refine W.widen (k := 46) (n := 10554) (by omega) (by omega) ?_
  refine k_put (pc := 82) X hK hP hD hS 0 rfl rfl i_Ho t_Ho t_Ho_ok n_Ho 9 (by decide) wm_564 rfl (Or.inl rfl) rfl rfl (Nat.le_of_ble_eq_true rfl) d_Ho_init_82 (fun H locs hP hD hS => ?_)
  have hP : va_P D classes (cat [[(h, .inr (12, [.ref q1, .ref q2, .ref q3, .ref q4, .ref q5, .ref q7, .ref q9, .int 0, .int ((-1)), .ref q10, .null, .int 0, .int 0, .null, .int 0, .int 0, .null, .null, .null, .null, .null]))], [(q1, .inl (kA 4, 4, .inr (.inr (.inr (.inr (fun _ => none))))))], [(q2, .inl (kA 5, 4, .inr (.inr (.inr (.inr (fun _ => none))))))], [(q3, .inl (kA 6, 4, .inr (.inr (.inr (.inr (fun _ => none))))))], [(q4, .inl (kA 7, 4, .inr (.inr (.inr (.inr (fun _ => none))))))], wRe kA q5 ((u6 0)) x0Re a0Re, wGr kA (u6 0 4) ((u6 1)) x0Gr a0Gr none, wEm kA q7 ((u8 0)) x0Em a0Em none, wNe kA (u8 0 1) ((u8 1)) x0Ne a0Ne, [(q9, .inl (kA 0, 24, .inl (fun _ => 0)))], [(q10, .inl (kA 1, 4000, .inl (fun _ => 0)))]]) H := hP
  have hD : va_D A (cat [[(h, .inr (12, [.ref q1, .ref q2, .ref q3, .ref q4, .ref q5, .ref q7, .ref q9, .int 0, .int ((-1)), .ref q10, .null, .int 0, .int 0, .null, .int 0, .int 0, .null, .null, .null, .null, .null]))], [(q1, .inl (kA 4, 4, .inr (.inr (.inr (.inr (fun _ => none))))))], [(q2, .inl (kA 5, 4, .inr (.inr (.inr (.inr (fun _ => none))))))], [(q3, .inl (kA 6, 4, .inr (.inr (.inr (.inr (fun _ => none))))))], [(q4, .inl (kA 7, 4, .inr (.inr (.inr (.inr (fun _ => none))))))], wRe kA q5 ((u6 0)) x0Re a0Re, wGr kA (u6 0 4) ((u6 1)) x0Gr a0Gr none, wEm kA q7 ((u8 0)) x0Em a0Em none, wNe kA (u8 0 1) ((u8 1)) x0Ne a0Ne, [(q9, .inl (kA 0, 24, .inl (fun _ => 0)))], [(q10, .inl (kA 1, 4000, .inl (fun _ => 0)))]]) := hD
  refine lv_aload_n (pc := 85) hx hb d_Ho_init_85 rfl (lv_at hl 0 rfl) ?_
  refine lv_sipush (pc := 86) (v := 4000) hx hb d_Ho_init_86 (by decide) ?_
  refine k_newa (pc := 89) (atype := .byte) X (ty := .byte) (a0 := (4000, .inl (fun _ => 0))) rfl rfl wm_192 hK hP hD hS hA 1 rfl (fun _ => rfl) (by decide) rfl (by decide) (Nat.le_of_ble_eq_true rfl) (Nat.le_of_ble_eq_true rfl) d_Ho_init_89 (fun q11 H hP hD hS => ?_)
  have hP : va_P D classes (cat [[(h, .inr (12, [.ref q1, .ref q2, .ref q3, .ref q4, .ref q5, .ref q7, .ref q9, .int 0, .int ((-1)), .ref q10, .null, .int 0, .int 0, .null, .int 0, .int 0, .null, .null, .null, .null, .null]))], [(q1, .inl (kA 4, 4, .inr (.inr (.inr (.inr (fun _ => none))))))], [(q2, .inl (kA 5, 4, .inr (.inr (.inr (.inr (fun _ => none))))))], [(q3, .inl (kA 6, 4, .inr (.inr (.inr (.inr (fun _ => none))))))], [(q4, .inl (kA 7, 4, .inr (.inr (.inr (.inr (fun _ => none))))))], wRe kA q5 ((u6 0)) x0Re a0Re, wGr kA (u6 0 4) ((u6 1)) x0Gr a0Gr none, wEm kA q7 ((u8 0)) x0Em a0Em none, wNe kA (u8 0 1) ((u8 1)) x0Ne a0Ne, [(q9, .inl (kA 0, 24, .inl (fun _ => 0)))], [(q10, .inl (kA 1, 4000, .inl (fun _ => 0)))], [(q11, .inl (kA 1, 4000, .inl (fun _ => 0)))]]) H := hP
  have hD : va_D A (cat [[(h, .inr (12, [.ref q1, .ref q2, .ref q3, .ref q4, .ref q5, .ref q7, .ref q9, .int 0, .int ((-1)), .ref q10, .null, .int 0, .int 0, .null, .int 0, .int 0, .null, .null, .null, .null, .null]))], [(q1, .inl (kA 4, 4, .inr (.inr (.inr (.inr (fun _ => none))))))], [(q2, .inl (kA 5, 4, .inr (.inr (.inr (.inr (fun _ => none))))))], [(q3, .inl (kA 6, 4, .inr (.inr (.inr (.inr (fun _ => none))))))], [(q4, .inl (kA 7, 4, .inr (.inr (.inr (.inr (fun _ => none))))))], wRe kA q5 ((u6 0)) x0Re a0Re, wGr kA (u6 0 4) ((u6 1)) x0Gr a0Gr none, wEm kA q7 ((u8 0)) x0Em a0Em none, wNe kA (u8 0 1) ((u8 1)) x0Ne a0Ne, [(q9, .inl (kA 0, 24, .inl (fun _ => 0)))], [(q10, .inl (kA 1, 4000, .inl (fun _ => 0)))], [(q11, .inl (kA 1, 4000, .inl (fun _ => 0)))]]) := hD
  refine W.widen (k := 47) (n := 14554) (by omega) (by omega) ?_
  refine k_put (pc := 91) X hK hP hD hS 0 rfl rfl i_Ho t_Ho t_Ho_ok n_Ho 10 (by decide) wm_565 rfl (Or.inl rfl) rfl rfl (Nat.le_of_ble_eq_true rfl) d_Ho_init_91 (fun H locs hP hD hS => ?_)
  have hP : va_P D classes (cat [[(h, .inr (12, [.ref q1, .ref q2, .ref q3, .ref q4, .ref q5, .ref q7, .ref q9, .int 0, .int ((-1)), .ref q10, .ref q11, .int 0, .int 0, .null, .int 0, .int 0, .null, .null, .null, .null, .null]))], [(q1, .inl (kA 4, 4, .inr (.inr (.inr (.inr (fun _ => none))))))], [(q2, .inl (kA 5, 4, .inr (.inr (.inr (.inr (fun _ => none))))))], [(q3, .inl (kA 6, 4, .inr (.inr (.inr (.inr (fun _ => none))))))], [(q4, .inl (kA 7, 4, .inr (.inr (.inr (.inr (fun _ => none))))))], wRe kA q5 ((u6 0)) x0Re a0Re, wGr kA (u6 0 4) ((u6 1)) x0Gr a0Gr none, wEm kA q7 ((u8 0)) x0Em a0Em none, wNe kA (u8 0 1) ((u8 1)) x0Ne a0Ne, [(q9, .inl (kA 0, 24, .inl (fun _ => 0)))], [(q10, .inl (kA 1, 4000, .inl (fun _ => 0)))], [(q11, .inl (kA 1, 4000, .inl (fun _ => 0)))]]) H := hP
  have hD : va_D A (cat [[(h, .inr (12, [.ref q1, .ref q2, .ref q3, .ref q4, .ref q5, .ref q7, .ref q9, .int 0, .int ((-1)), .ref q10, .ref q11, .int 0, .int 0, .null, .int 0, .int 0, .null, .null, .null, .null, .null]))], [(q1, .inl (kA 4, 4, .inr (.inr (.inr (.inr (fun _ => none))))))], [(q2, .inl (kA 5, 4, .inr (.inr (.inr (.inr (fun _ => none))))))], [(q3, .inl (kA 6, 4, .inr (.inr (.inr (.inr (fun _ => none))))))], [(q4, .inl (kA 7, 4, .inr (.inr (.inr (.inr (fun _ => none))))))], wRe kA q5 ((u6 0)) x0Re a0Re, wGr kA (u6 0 4) ((u6 1)) x0Gr a0Gr none, wEm kA q7 ((u8 0)) x0Em a0Em none, wNe kA (u8 0 1) ((u8 1)) x0Ne a0Ne, [(q9, .inl (kA 0, 24, .inl (fun _ => 0)))], [(q10, .inl (kA 1, 4000, .inl (fun _ => 0)))], [(q11, .inl (kA 1, 4000, .inl (fun _ => 0)))]]) := hD
  refine lv_aload_n (pc := 94) hx hb d_Ho_init_94 rfl (lv_at hl 0 rfl) ?_
  refine lv_iconst (pc := 95) (v := 0) hx hb d_Ho_init_95 (by decide) ?_
  refine k_put (pc := 96) X hK hP hD hS 0 rfl rfl i_Ho t_Ho t_Ho_ok n_Ho 11 (by decide) wm_566 rfl (Or.inl rfl) rfl rfl (Nat.le_of_ble_eq_true rfl) d_Ho_init_96 (fun H locs hP hD hS => ?_)
  have hP : va_P D classes (cat [[(h, .inr (12, [.ref q1, .ref q2, .ref q3, .ref q4, .ref q5, .ref q7, .ref q9, .int 0, .int ((-1)), .ref q10, .ref q11, .int 0, .int 0, .null, .int 0, .int 0, .null, .null, .null, .null, .null]))], [(q1, .inl (kA 4, 4, .inr (.inr (.inr (.inr (fun _ => none))))))], [(q2, .inl (kA 5, 4, .inr (.inr (.inr (.inr (fun _ => none))))))], [(q3, .inl (kA 6, 4, .inr (.inr (.inr (.inr (fun _ => none))))))], [(q4, .inl (kA 7, 4, .inr (.inr (.inr (.inr (fun _ => none))))))], wRe kA q5 ((u6 0)) x0Re a0Re, wGr kA (u6 0 4) ((u6 1)) x0Gr a0Gr none, wEm kA q7 ((u8 0)) x0Em a0Em none, wNe kA (u8 0 1) ((u8 1)) x0Ne a0Ne, [(q9, .inl (kA 0, 24, .inl (fun _ => 0)))], [(q10, .inl (kA 1, 4000, .inl (fun _ => 0)))], [(q11, .inl (kA 1, 4000, .inl (fun _ => 0)))]]) H := hP
  have hD : va_D A (cat [[(h, .inr (12, [.ref q1, .ref q2, .ref q3, .ref q4, .ref q5, .ref q7, .ref q9, .int 0, .int ((-1)), .ref q10, .ref q11, .int 0, .int 0, .null, .int 0, .int 0, .null, .null, .null, .null, .null]))], [(q1, .inl (kA 4, 4, .inr (.inr (.inr (.inr (fun _ => none))))))], [(q2, .inl (kA 5, 4, .inr (.inr (.inr (.inr (fun _ => none))))))], [(q3, .inl (kA 6, 4, .inr (.inr (.inr (.inr (fun _ => none))))))], [(q4, .inl (kA 7, 4, .inr (.inr (.inr (.inr (fun _ => none))))))], wRe kA q5 ((u6 0)) x0Re a0Re, wGr kA (u6 0 4) ((u6 1)) x0Gr a0Gr none, wEm kA q7 ((u8 0)) x0Em a0Em none, wNe kA (u8 0 1) ((u8 1)) x0Ne a0Ne, [(q9, .inl (kA 0, 24, .inl (fun _ => 0)))], [(q10, .inl (kA 1, 4000, .inl (fun _ => 0)))], [(q11, .inl (kA 1, 4000, .inl (fun _ => 0)))]]) := hD
  refine lv_aload_n (pc := 99) hx hb d_Ho_init_99 rfl (lv_at hl 0 rfl) ?_
  refine lv_iconst (pc := 100) (v := 0) hx hb d_Ho_init_100 (by decide) ?_
  refine k_put (pc := 101) X hK hP hD hS 0 rfl rfl i_Ho t_Ho t_Ho_ok n_Ho 12 (by decide) wm_567 rfl (Or.inl rfl) rfl rfl (Nat.le_of_ble_eq_true rfl) d_Ho_init_101 (fun H locs hP hD hS => ?_)
  have hP : va_P D classes (cat [[(h, .inr (12, [.ref q1, .ref q2, .ref q3, .ref q4, .ref q5, .ref q7, .ref q9, .int 0, .int ((-1)), .ref q10, .ref q11, .int 0, .int 0, .null, .int 0, .int 0, .null, .null, .null, .null, .null]))], [(q1, .inl (kA 4, 4, .inr (.inr (.inr (.inr (fun _ => none))))))], [(q2, .inl (kA 5, 4, .inr (.inr (.inr (.inr (fun _ => none))))))], [(q3, .inl (kA 6, 4, .inr (.inr (.inr (.inr (fun _ => none))))))], [(q4, .inl (kA 7, 4, .inr (.inr (.inr (.inr (fun _ => none))))))], wRe kA q5 ((u6 0)) x0Re a0Re, wGr kA (u6 0 4) ((u6 1)) x0Gr a0Gr none, wEm kA q7 ((u8 0)) x0Em a0Em none, wNe kA (u8 0 1) ((u8 1)) x0Ne a0Ne, [(q9, .inl (kA 0, 24, .inl (fun _ => 0)))], [(q10, .inl (kA 1, 4000, .inl (fun _ => 0)))], [(q11, .inl (kA 1, 4000, .inl (fun _ => 0)))]]) H := hP
  have hD : va_D A (cat [[(h, .inr (12, [.ref q1, .ref q2, .ref q3, .ref q4, .ref q5, .ref q7, .ref q9, .int 0, .int ((-1)), .ref q10, .ref q11, .int 0, .int 0, .null, .int 0, .int 0, .null, .null, .null, .null, .null]))], [(q1, .inl (kA 4, 4, .inr (.inr (.inr (.inr (fun _ => none))))))], [(q2, .inl (kA 5, 4, .inr (.inr (.inr (.inr (fun _ => none))))))], [(q3, .inl (kA 6, 4, .inr (.inr (.inr (.inr (fun _ => none))))))], [(q4, .inl (kA 7, 4, .inr (.inr (.inr (.inr (fun _ => none))))))], wRe kA q5 ((u6 0)) x0Re a0Re, wGr kA (u6 0 4) ((u6 1)) x0Gr a0Gr none, wEm kA q7 ((u8 0)) x0Em a0Em none, wNe kA (u8 0 1) ((u8 1)) x0Ne a0Ne, [(q9, .inl (kA 0, 24, .inl (fun _ => 0)))], [(q10, .inl (kA 1, 4000, .inl (fun _ => 0)))], [(q11, .inl (kA 1, 4000, .inl (fun _ => 0)))]]) := hD
  refine lv_aload_n (pc := 104) hx hb d_Ho_init_104 rfl (lv_at hl 0 rfl) ?_
  refine lv_sipush (pc := 105) (v := 4096) hx hb d_Ho_init_105 (by decide) ?_
  refine k_newa (pc := 108) (atype := .int) X (ty := .int) (a0 := (4096, .inl (fun _ => 0))) rfl rfl wm_193 hK hP hD hS hA 0 rfl (fun _ => rfl) (by decide) rfl (by decide) (Nat.le_of_ble_eq_true rfl) (Nat.le_of_ble_eq_true rfl) d_Ho_init_108 (fun q12 H hP hD hS => ?_)
  have hP : va_P D classes (cat [[(h, .inr (12, [.ref q1, .ref q2, .ref q3, .ref q4, .ref q5, .ref q7, .ref q9, .int 0, .int ((-1)), .ref q10, .ref q11, .int 0, .int 0, .null, .int 0, .int 0, .null, .null, .null, .null, .null]))], [(q1, .inl (kA 4, 4, .inr (.inr (.inr (.inr (fun _ => none))))))], [(q2, .inl (kA 5, 4, .inr (.inr (.inr (.inr (fun _ => none))))))], [(q3, .inl (kA 6, 4, .inr (.inr (.inr (.inr (fun _ => none))))))], [(q4, .inl (kA 7, 4, .inr (.inr (.inr (.inr (fun _ => none))))))], wRe kA q5 ((u6 0)) x0Re a0Re, wGr kA (u6 0 4) ((u6 1)) x0Gr a0Gr none, wEm kA q7 ((u8 0)) x0Em a0Em none, wNe kA (u8 0 1) ((u8 1)) x0Ne a0Ne, [(q9, .inl (kA 0, 24, .inl (fun _ => 0)))], [(q10, .inl (kA 1, 4000, .inl (fun _ => 0)))], [(q11, .inl (kA 1, 4000, .inl (fun _ => 0)))], [(q12, .inl (kA 0, 4096, .inl (fun _ => 0)))]]) H := hP
  have hD : va_D A (cat [[(h, .inr (12, [.ref q1, .ref q2, .ref q3, .ref q4, .ref q5, .ref q7, .ref q9, .int 0, .int ((-1)), .ref q10, .ref q11, .int 0, .int 0, .null, .int 0, .int 0, .null, .null, .null, .null, .null]))], [(q1, .inl (kA 4, 4, .inr (.inr (.inr (.inr (fun _ => none))))))], [(q2, .inl (kA 5, 4, .inr (.inr (.inr (.inr (fun _ => none))))))], [(q3, .inl (kA 6, 4, .inr (.inr (.inr (.inr (fun _ => none))))))], [(q4, .inl (kA 7, 4, .inr (.inr (.inr (.inr (fun _ => none))))))], wRe kA q5 ((u6 0)) x0Re a0Re, wGr kA (u6 0 4) ((u6 1)) x0Gr a0Gr none, wEm kA q7 ((u8 0)) x0Em a0Em none, wNe kA (u8 0 1) ((u8 1)) x0Ne a0Ne, [(q9, .inl (kA 0, 24, .inl (fun _ => 0)))], [(q10, .inl (kA 1, 4000, .inl (fun _ => 0)))], [(q11, .inl (kA 1, 4000, .inl (fun _ => 0)))], [(q12, .inl (kA 0, 4096, .inl (fun _ => 0)))]]) := hD
  refine W.widen (k := 48) (n := 18650) (by omega) (by omega) ?_
  refine k_put (pc := 110) X hK hP hD hS 0 rfl rfl i_Ho t_Ho t_Ho_ok n_Ho 13 (by decide) wm_568 rfl (Or.inr ⟨rfl, rfl⟩) rfl rfl (Nat.le_of_ble_eq_true rfl) d_Ho_init_110 (fun H locs hP hD hS => ?_)
  have hP : va_P D classes (cat [[(h, .inr (12, [.ref q1, .ref q2, .ref q3, .ref q4, .ref q5, .ref q7, .ref q9, .int 0, .int ((-1)), .ref q10, .ref q11, .int 0, .int 0, .ref q12, .int 0, .int 0, .null, .null, .null, .null, .null]))], [(q1, .inl (kA 4, 4, .inr (.inr (.inr (.inr (fun _ => none))))))], [(q2, .inl (kA 5, 4, .inr (.inr (.inr (.inr (fun _ => none))))))], [(q3, .inl (kA 6, 4, .inr (.inr (.inr (.inr (fun _ => none))))))], [(q4, .inl (kA 7, 4, .inr (.inr (.inr (.inr (fun _ => none))))))], wRe kA q5 ((u6 0)) x0Re a0Re, wGr kA (u6 0 4) ((u6 1)) x0Gr a0Gr none, wEm kA q7 ((u8 0)) x0Em a0Em none, wNe kA (u8 0 1) ((u8 1)) x0Ne a0Ne, [(q9, .inl (kA 0, 24, .inl (fun _ => 0)))], [(q10, .inl (kA 1, 4000, .inl (fun _ => 0)))], [(q11, .inl (kA 1, 4000, .inl (fun _ => 0)))], [(q12, .inl (kA 0, 4096, .inl (fun _ => 0)))]]) H := hP
  have hD : va_D A (cat [[(h, .inr (12, [.ref q1, .ref q2, .ref q3, .ref q4, .ref q5, .ref q7, .ref q9, .int 0, .int ((-1)), .ref q10, .ref q11, .int 0, .int 0, .ref q12, .int 0, .int 0, .null, .null, .null, .null, .null]))], [(q1, .inl (kA 4, 4, .inr (.inr (.inr (.inr (fun _ => none))))))], [(q2, .inl (kA 5, 4, .inr (.inr (.inr (.inr (fun _ => none))))))], [(q3, .inl (kA 6, 4, .inr (.inr (.inr (.inr (fun _ => none))))))], [(q4, .inl (kA 7, 4, .inr (.inr (.inr (.inr (fun _ => none))))))], wRe kA q5 ((u6 0)) x0Re a0Re, wGr kA (u6 0 4) ((u6 1)) x0Gr a0Gr none, wEm kA q7 ((u8 0)) x0Em a0Em none, wNe kA (u8 0 1) ((u8 1)) x0Ne a0Ne, [(q9, .inl (kA 0, 24, .inl (fun _ => 0)))], [(q10, .inl (kA 1, 4000, .inl (fun _ => 0)))], [(q11, .inl (kA 1, 4000, .inl (fun _ => 0)))], [(q12, .inl (kA 0, 4096, .inl (fun _ => 0)))]]) := hD
  refine lv_aload_n (pc := 113) hx hb d_Ho_init_113 rfl (lv_at hl 0 rfl) ?_
  refine lv_iconst (pc := 114) (v := 0) hx hb d_Ho_init_114 (by decide) ?_
  refine k_put (pc := 115) X hK hP hD hS 0 rfl rfl i_Ho t_Ho t_Ho_ok n_Ho 14 (by decide) wm_569 rfl (Or.inl rfl) rfl rfl (Nat.le_of_ble_eq_true rfl) d_Ho_init_115 (fun H locs hP hD hS => ?_)
  have hP : va_P D classes (cat [[(h, .inr (12, [.ref q1, .ref q2, .ref q3, .ref q4, .ref q5, .ref q7, .ref q9, .int 0, .int ((-1)), .ref q10, .ref q11, .int 0, .int 0, .ref q12, .int 0, .int 0, .null, .null, .null, .null, .null]))], [(q1, .inl (kA 4, 4, .inr (.inr (.inr (.inr (fun _ => none))))))], [(q2, .inl (kA 5, 4, .inr (.inr (.inr (.inr (fun _ => none))))))], [(q3, .inl (kA 6, 4, .inr (.inr (.inr (.inr (fun _ => none))))))], [(q4, .inl (kA 7, 4, .inr (.inr (.inr (.inr (fun _ => none))))))], wRe kA q5 ((u6 0)) x0Re a0Re, wGr kA (u6 0 4) ((u6 1)) x0Gr a0Gr none, wEm kA q7 ((u8 0)) x0Em a0Em none, wNe kA (u8 0 1) ((u8 1)) x0Ne a0Ne, [(q9, .inl (kA 0, 24, .inl (fun _ => 0)))], [(q10, .inl (kA 1, 4000, .inl (fun _ => 0)))], [(q11, .inl (kA 1, 4000, .inl (fun _ => 0)))], [(q12, .inl (kA 0, 4096, .inl (fun _ => 0)))]]) H := hP
  have hD : va_D A (cat [[(h, .inr (12, [.ref q1, .ref q2, .ref q3, .ref q4, .ref q5, .ref q7, .ref q9, .int 0, .int ((-1)), .ref q10, .ref q11, .int 0, .int 0, .ref q12, .int 0, .int 0, .null, .null, .null, .null, .null]))], [(q1, .inl (kA 4, 4, .inr (.inr (.inr (.inr (fun _ => none))))))], [(q2, .inl (kA 5, 4, .inr (.inr (.inr (.inr (fun _ => none))))))], [(q3, .inl (kA 6, 4, .inr (.inr (.inr (.inr (fun _ => none))))))], [(q4, .inl (kA 7, 4, .inr (.inr (.inr (.inr (fun _ => none))))))], wRe kA q5 ((u6 0)) x0Re a0Re, wGr kA (u6 0 4) ((u6 1)) x0Gr a0Gr none, wEm kA q7 ((u8 0)) x0Em a0Em none, wNe kA (u8 0 1) ((u8 1)) x0Ne a0Ne, [(q9, .inl (kA 0, 24, .inl (fun _ => 0)))], [(q10, .inl (kA 1, 4000, .inl (fun _ => 0)))], [(q11, .inl (kA 1, 4000, .inl (fun _ => 0)))], [(q12, .inl (kA 0, 4096, .inl (fun _ => 0)))]]) := hD
  refine lv_aload_n (pc := 118) hx hb d_Ho_init_118 rfl (lv_at hl 0 rfl) ?_
  refine lv_iconst (pc := 119) (v := 0) hx hb d_Ho_init_119 (by decide) ?_
  refine k_put (pc := 120) X hK hP hD hS 0 rfl rfl i_Ho t_Ho t_Ho_ok n_Ho 15 (by decide) wm_570 rfl (Or.inl rfl) rfl rfl (Nat.le_of_ble_eq_true rfl) d_Ho_init_120 (fun H locs hP hD hS => ?_)
  have hP : va_P D classes (cat [[(h, .inr (12, [.ref q1, .ref q2, .ref q3, .ref q4, .ref q5, .ref q7, .ref q9, .int 0, .int ((-1)), .ref q10, .ref q11, .int 0, .int 0, .ref q12, .int 0, .int 0, .null, .null, .null, .null, .null]))], [(q1, .inl (kA 4, 4, .inr (.inr (.inr (.inr (fun _ => none))))))], [(q2, .inl (kA 5, 4, .inr (.inr (.inr (.inr (fun _ => none))))))], [(q3, .inl (kA 6, 4, .inr (.inr (.inr (.inr (fun _ => none))))))], [(q4, .inl (kA 7, 4, .inr (.inr (.inr (.inr (fun _ => none))))))], wRe kA q5 ((u6 0)) x0Re a0Re, wGr kA (u6 0 4) ((u6 1)) x0Gr a0Gr none, wEm kA q7 ((u8 0)) x0Em a0Em none, wNe kA (u8 0 1) ((u8 1)) x0Ne a0Ne, [(q9, .inl (kA 0, 24, .inl (fun _ => 0)))], [(q10, .inl (kA 1, 4000, .inl (fun _ => 0)))], [(q11, .inl (kA 1, 4000, .inl (fun _ => 0)))], [(q12, .inl (kA 0, 4096, .inl (fun _ => 0)))]]) H := hP
  have hD : va_D A (cat [[(h, .inr (12, [.ref q1, .ref q2, .ref q3, .ref q4, .ref q5, .ref q7, .ref q9, .int 0, .int ((-1)), .ref q10, .ref q11, .int 0, .int 0, .ref q12, .int 0, .int 0, .null, .null, .null, .null, .null]))], [(q1, .inl (kA 4, 4, .inr (.inr (.inr (.inr (fun _ => none))))))], [(q2, .inl (kA 5, 4, .inr (.inr (.inr (.inr (fun _ => none))))))], [(q3, .inl (kA 6, 4, .inr (.inr (.inr (.inr (fun _ => none))))))], [(q4, .inl (kA 7, 4, .inr (.inr (.inr (.inr (fun _ => none))))))], wRe kA q5 ((u6 0)) x0Re a0Re, wGr kA (u6 0 4) ((u6 1)) x0Gr a0Gr none, wEm kA q7 ((u8 0)) x0Em a0Em none, wNe kA (u8 0 1) ((u8 1)) x0Ne a0Ne, [(q9, .inl (kA 0, 24, .inl (fun _ => 0)))], [(q10, .inl (kA 1, 4000, .inl (fun _ => 0)))], [(q11, .inl (kA 1, 4000, .inl (fun _ => 0)))], [(q12, .inl (kA 0, 4096, .inl (fun _ => 0)))]]) := hD
  refine lv_aload_n (pc := 123) hx hb d_Ho_init_123 rfl (lv_at hl 0 rfl) ?_
  refine lv_null (pc := 124) hx hb d_Ho_init_124 ?_
  refine k_put (pc := 125) X hK hP hD hS 0 rfl rfl i_Ho t_Ho t_Ho_ok n_Ho 16 (by decide) wm_571 rfl (Or.inl rfl) rfl rfl (Nat.le_of_ble_eq_true rfl) d_Ho_init_125 (fun H locs hP hD hS => ?_)
  have hP : va_P D classes (cat [[(h, .inr (12, [.ref q1, .ref q2, .ref q3, .ref q4, .ref q5, .ref q7, .ref q9, .int 0, .int ((-1)), .ref q10, .ref q11, .int 0, .int 0, .ref q12, .int 0, .int 0, .null, .null, .null, .null, .null]))], [(q1, .inl (kA 4, 4, .inr (.inr (.inr (.inr (fun _ => none))))))], [(q2, .inl (kA 5, 4, .inr (.inr (.inr (.inr (fun _ => none))))))], [(q3, .inl (kA 6, 4, .inr (.inr (.inr (.inr (fun _ => none))))))], [(q4, .inl (kA 7, 4, .inr (.inr (.inr (.inr (fun _ => none))))))], wRe kA q5 ((u6 0)) x0Re a0Re, wGr kA (u6 0 4) ((u6 1)) x0Gr a0Gr none, wEm kA q7 ((u8 0)) x0Em a0Em none, wNe kA (u8 0 1) ((u8 1)) x0Ne a0Ne, [(q9, .inl (kA 0, 24, .inl (fun _ => 0)))], [(q10, .inl (kA 1, 4000, .inl (fun _ => 0)))], [(q11, .inl (kA 1, 4000, .inl (fun _ => 0)))], [(q12, .inl (kA 0, 4096, .inl (fun _ => 0)))]]) H := hP
  have hD : va_D A (cat [[(h, .inr (12, [.ref q1, .ref q2, .ref q3, .ref q4, .ref q5, .ref q7, .ref q9, .int 0, .int ((-1)), .ref q10, .ref q11, .int 0, .int 0, .ref q12, .int 0, .int 0, .null, .null, .null, .null, .null]))], [(q1, .inl (kA 4, 4, .inr (.inr (.inr (.inr (fun _ => none))))))], [(q2, .inl (kA 5, 4, .inr (.inr (.inr (.inr (fun _ => none))))))], [(q3, .inl (kA 6, 4, .inr (.inr (.inr (.inr (fun _ => none))))))], [(q4, .inl (kA 7, 4, .inr (.inr (.inr (.inr (fun _ => none))))))], wRe kA q5 ((u6 0)) x0Re a0Re, wGr kA (u6 0 4) ((u6 1)) x0Gr a0Gr none, wEm kA q7 ((u8 0)) x0Em a0Em none, wNe kA (u8 0 1) ((u8 1)) x0Ne a0Ne, [(q9, .inl (kA 0, 24, .inl (fun _ => 0)))], [(q10, .inl (kA 1, 4000, .inl (fun _ => 0)))], [(q11, .inl (kA 1, 4000, .inl (fun _ => 0)))], [(q12, .inl (kA 0, 4096, .inl (fun _ => 0)))]]) := hD
  refine lv_aload_n (pc := 128) hx hb d_Ho_init_128 rfl (lv_at hl 0 rfl) ?_
  refine lv_null (pc := 129) hx hb d_Ho_init_129 ?_
  refine k_put (pc := 130) X hK hP hD hS 0 rfl rfl i_Ho t_Ho t_Ho_ok n_Ho 17 (by decide) wm_572 rfl (Or.inl rfl) rfl rfl (Nat.le_of_ble_eq_true rfl) d_Ho_init_130 (fun H locs hP hD hS => ?_)
  have hP : va_P D classes (cat [[(h, .inr (12, [.ref q1, .ref q2, .ref q3, .ref q4, .ref q5, .ref q7, .ref q9, .int 0, .int ((-1)), .ref q10, .ref q11, .int 0, .int 0, .ref q12, .int 0, .int 0, .null, .null, .null, .null, .null]))], [(q1, .inl (kA 4, 4, .inr (.inr (.inr (.inr (fun _ => none))))))], [(q2, .inl (kA 5, 4, .inr (.inr (.inr (.inr (fun _ => none))))))], [(q3, .inl (kA 6, 4, .inr (.inr (.inr (.inr (fun _ => none))))))], [(q4, .inl (kA 7, 4, .inr (.inr (.inr (.inr (fun _ => none))))))], wRe kA q5 ((u6 0)) x0Re a0Re, wGr kA (u6 0 4) ((u6 1)) x0Gr a0Gr none, wEm kA q7 ((u8 0)) x0Em a0Em none, wNe kA (u8 0 1) ((u8 1)) x0Ne a0Ne, [(q9, .inl (kA 0, 24, .inl (fun _ => 0)))], [(q10, .inl (kA 1, 4000, .inl (fun _ => 0)))], [(q11, .inl (kA 1, 4000, .inl (fun _ => 0)))], [(q12, .inl (kA 0, 4096, .inl (fun _ => 0)))]]) H := hP
  have hD : va_D A (cat [[(h, .inr (12, [.ref q1, .ref q2, .ref q3, .ref q4, .ref q5, .ref q7, .ref q9, .int 0, .int ((-1)), .ref q10, .ref q11, .int 0, .int 0, .ref q12, .int 0, .int 0, .null, .null, .null, .null, .null]))], [(q1, .inl (kA 4, 4, .inr (.inr (.inr (.inr (fun _ => none))))))], [(q2, .inl (kA 5, 4, .inr (.inr (.inr (.inr (fun _ => none))))))], [(q3, .inl (kA 6, 4, .inr (.inr (.inr (.inr (fun _ => none))))))], [(q4, .inl (kA 7, 4, .inr (.inr (.inr (.inr (fun _ => none))))))], wRe kA q5 ((u6 0)) x0Re a0Re, wGr kA (u6 0 4) ((u6 1)) x0Gr a0Gr none, wEm kA q7 ((u8 0)) x0Em a0Em none, wNe kA (u8 0 1) ((u8 1)) x0Ne a0Ne, [(q9, .inl (kA 0, 24, .inl (fun _ => 0)))], [(q10, .inl (kA 1, 4000, .inl (fun _ => 0)))], [(q11, .inl (kA 1, 4000, .inl (fun _ => 0)))], [(q12, .inl (kA 0, 4096, .inl (fun _ => 0)))]]) := hD
  refine lv_aload_n (pc := 133) hx hb d_Ho_init_133 rfl (lv_at hl 0 rfl) ?_
  refine lv_null (pc := 134) hx hb d_Ho_init_134 ?_
  refine k_put (pc := 135) X hK hP hD hS 0 rfl rfl i_Ho t_Ho t_Ho_ok n_Ho 18 (by decide) wm_573 rfl (Or.inl rfl) rfl rfl (Nat.le_of_ble_eq_true rfl) d_Ho_init_135 (fun H locs hP hD hS => ?_)
  have hP : va_P D classes (cat [[(h, .inr (12, [.ref q1, .ref q2, .ref q3, .ref q4, .ref q5, .ref q7, .ref q9, .int 0, .int ((-1)), .ref q10, .ref q11, .int 0, .int 0, .ref q12, .int 0, .int 0, .null, .null, .null, .null, .null]))], [(q1, .inl (kA 4, 4, .inr (.inr (.inr (.inr (fun _ => none))))))], [(q2, .inl (kA 5, 4, .inr (.inr (.inr (.inr (fun _ => none))))))], [(q3, .inl (kA 6, 4, .inr (.inr (.inr (.inr (fun _ => none))))))], [(q4, .inl (kA 7, 4, .inr (.inr (.inr (.inr (fun _ => none))))))], wRe kA q5 ((u6 0)) x0Re a0Re, wGr kA (u6 0 4) ((u6 1)) x0Gr a0Gr none, wEm kA q7 ((u8 0)) x0Em a0Em none, wNe kA (u8 0 1) ((u8 1)) x0Ne a0Ne, [(q9, .inl (kA 0, 24, .inl (fun _ => 0)))], [(q10, .inl (kA 1, 4000, .inl (fun _ => 0)))], [(q11, .inl (kA 1, 4000, .inl (fun _ => 0)))], [(q12, .inl (kA 0, 4096, .inl (fun _ => 0)))]]) H := hP
  have hD : va_D A (cat [[(h, .inr (12, [.ref q1, .ref q2, .ref q3, .ref q4, .ref q5, .ref q7, .ref q9, .int 0, .int ((-1)), .ref q10, .ref q11, .int 0, .int 0, .ref q12, .int 0, .int 0, .null, .null, .null, .null, .null]))], [(q1, .inl (kA 4, 4, .inr (.inr (.inr (.inr (fun _ => none))))))], [(q2, .inl (kA 5, 4, .inr (.inr (.inr (.inr (fun _ => none))))))], [(q3, .inl (kA 6, 4, .inr (.inr (.inr (.inr (fun _ => none))))))], [(q4, .inl (kA 7, 4, .inr (.inr (.inr (.inr (fun _ => none))))))], wRe kA q5 ((u6 0)) x0Re a0Re, wGr kA (u6 0 4) ((u6 1)) x0Gr a0Gr none, wEm kA q7 ((u8 0)) x0Em a0Em none, wNe kA (u8 0 1) ((u8 1)) x0Ne a0Ne, [(q9, .inl (kA 0, 24, .inl (fun _ => 0)))], [(q10, .inl (kA 1, 4000, .inl (fun _ => 0)))], [(q11, .inl (kA 1, 4000, .inl (fun _ => 0)))], [(q12, .inl (kA 0, 4096, .inl (fun _ => 0)))]]) := hD
  refine lv_aload_n (pc := 138) hx hb d_Ho_init_138 rfl (lv_at hl 0 rfl) ?_
  refine lv_null (pc := 139) hx hb d_Ho_init_139 ?_
  refine k_put (pc := 140) X hK hP hD hS 0 rfl rfl i_Ho t_Ho t_Ho_ok n_Ho 19 (by decide) wm_574 rfl (Or.inl rfl) rfl rfl (Nat.le_of_ble_eq_true rfl) d_Ho_init_140 (fun H locs hP hD hS => ?_)
  have hP : va_P D classes (cat [[(h, .inr (12, [.ref q1, .ref q2, .ref q3, .ref q4, .ref q5, .ref q7, .ref q9, .int 0, .int ((-1)), .ref q10, .ref q11, .int 0, .int 0, .ref q12, .int 0, .int 0, .null, .null, .null, .null, .null]))], [(q1, .inl (kA 4, 4, .inr (.inr (.inr (.inr (fun _ => none))))))], [(q2, .inl (kA 5, 4, .inr (.inr (.inr (.inr (fun _ => none))))))], [(q3, .inl (kA 6, 4, .inr (.inr (.inr (.inr (fun _ => none))))))], [(q4, .inl (kA 7, 4, .inr (.inr (.inr (.inr (fun _ => none))))))], wRe kA q5 ((u6 0)) x0Re a0Re, wGr kA (u6 0 4) ((u6 1)) x0Gr a0Gr none, wEm kA q7 ((u8 0)) x0Em a0Em none, wNe kA (u8 0 1) ((u8 1)) x0Ne a0Ne, [(q9, .inl (kA 0, 24, .inl (fun _ => 0)))], [(q10, .inl (kA 1, 4000, .inl (fun _ => 0)))], [(q11, .inl (kA 1, 4000, .inl (fun _ => 0)))], [(q12, .inl (kA 0, 4096, .inl (fun _ => 0)))]]) H := hP
  have hD : va_D A (cat [[(h, .inr (12, [.ref q1, .ref q2, .ref q3, .ref q4, .ref q5, .ref q7, .ref q9, .int 0, .int ((-1)), .ref q10, .ref q11, .int 0, .int 0, .ref q12, .int 0, .int 0, .null, .null, .null, .null, .null]))], [(q1, .inl (kA 4, 4, .inr (.inr (.inr (.inr (fun _ => none))))))], [(q2, .inl (kA 5, 4, .inr (.inr (.inr (.inr (fun _ => none))))))], [(q3, .inl (kA 6, 4, .inr (.inr (.inr (.inr (fun _ => none))))))], [(q4, .inl (kA 7, 4, .inr (.inr (.inr (.inr (fun _ => none))))))], wRe kA q5 ((u6 0)) x0Re a0Re, wGr kA (u6 0 4) ((u6 1)) x0Gr a0Gr none, wEm kA q7 ((u8 0)) x0Em a0Em none, wNe kA (u8 0 1) ((u8 1)) x0Ne a0Ne, [(q9, .inl (kA 0, 24, .inl (fun _ => 0)))], [(q10, .inl (kA 1, 4000, .inl (fun _ => 0)))], [(q11, .inl (kA 1, 4000, .inl (fun _ => 0)))], [(q12, .inl (kA 0, 4096, .inl (fun _ => 0)))]]) := hD
  refine lv_aload_n (pc := 143) hx hb d_Ho_init_143 rfl (lv_at hl 0 rfl) ?_
  refine lv_null (pc := 144) hx hb d_Ho_init_144 ?_
  refine k_put (pc := 145) X hK hP hD hS 0 rfl rfl i_Ho t_Ho t_Ho_ok n_Ho 20 (by decide) wm_575 rfl (Or.inl rfl) rfl rfl (Nat.le_of_ble_eq_true rfl) d_Ho_init_145 (fun H locs hP hD hS => ?_)
  have hP : va_P D classes (cat [[(h, .inr (12, [.ref q1, .ref q2, .ref q3, .ref q4, .ref q5, .ref q7, .ref q9, .int 0, .int ((-1)), .ref q10, .ref q11, .int 0, .int 0, .ref q12, .int 0, .int 0, .null, .null, .null, .null, .null]))], [(q1, .inl (kA 4, 4, .inr (.inr (.inr (.inr (fun _ => none))))))], [(q2, .inl (kA 5, 4, .inr (.inr (.inr (.inr (fun _ => none))))))], [(q3, .inl (kA 6, 4, .inr (.inr (.inr (.inr (fun _ => none))))))], [(q4, .inl (kA 7, 4, .inr (.inr (.inr (.inr (fun _ => none))))))], wRe kA q5 ((u6 0)) x0Re a0Re, wGr kA (u6 0 4) ((u6 1)) x0Gr a0Gr none, wEm kA q7 ((u8 0)) x0Em a0Em none, wNe kA (u8 0 1) ((u8 1)) x0Ne a0Ne, [(q9, .inl (kA 0, 24, .inl (fun _ => 0)))], [(q10, .inl (kA 1, 4000, .inl (fun _ => 0)))], [(q11, .inl (kA 1, 4000, .inl (fun _ => 0)))], [(q12, .inl (kA 0, 4096, .inl (fun _ => 0)))]]) H := hP
  have hD : va_D A (cat [[(h, .inr (12, [.ref q1, .ref q2, .ref q3, .ref q4, .ref q5, .ref q7, .ref q9, .int 0, .int ((-1)), .ref q10, .ref q11, .int 0, .int 0, .ref q12, .int 0, .int 0, .null, .null, .null, .null, .null]))], [(q1, .inl (kA 4, 4, .inr (.inr (.inr (.inr (fun _ => none))))))], [(q2, .inl (kA 5, 4, .inr (.inr (.inr (.inr (fun _ => none))))))], [(q3, .inl (kA 6, 4, .inr (.inr (.inr (.inr (fun _ => none))))))], [(q4, .inl (kA 7, 4, .inr (.inr (.inr (.inr (fun _ => none))))))], wRe kA q5 ((u6 0)) x0Re a0Re, wGr kA (u6 0 4) ((u6 1)) x0Gr a0Gr none, wEm kA q7 ((u8 0)) x0Em a0Em none, wNe kA (u8 0 1) ((u8 1)) x0Ne a0Ne, [(q9, .inl (kA 0, 24, .inl (fun _ => 0)))], [(q10, .inl (kA 1, 4000, .inl (fun _ => 0)))], [(q11, .inl (kA 1, 4000, .inl (fun _ => 0)))], [(q12, .inl (kA 0, 4096, .inl (fun _ => 0)))]]) := hD
  refine lv_iconst (pc := 148) (v := 0) hx hb d_Ho_init_148 (by decide) ?_
  refine lv_istore_n (pc := 149) (lv' := [(1, .int 0), (0, .ref h)]) hx hb d_Ho_init_149 rfl hl (by decide) rfl (fun ls hl => ?_)
  refine lv_iload_n (pc := 150) hx hb d_Ho_init_150 rfl (lv_at hl 0 rfl) ?_
  refine lv_iconst (pc := 151) (v := 4) hx hb d_Ho_init_151 (by decide) ?_
  refine lv_icmp_ge (pc := 152) (tgt := 219) hx hb d_Ho_init_152 (by decide) (fun c1 => absurd c1 (by decide)) (fun _ => ?_)
  refine lv_aload_n (pc := 155) hx hb d_Ho_init_155 rfl (lv_at hl 1 rfl) ?_
  refine k_get (pc := 156) X hK hP 0 rfl rfl i_Ho 0 (by decide) wm_555 rfl rfl d_Ho_init_156 ?_
  refine lv_iload_n (pc := 159) hx hb d_Ho_init_159 rfl (lv_at hl 0 rfl) ?_
  refine k_new (pc := 160) (fs := f0Gr) X i_Gr t_Gr t_Gr_ok wm_33 wm_48 wm_3 hK hP hD hS hA (ci := 3) rfl f0Gr_ok (Nat.le_of_ble_eq_true rfl) (Nat.le_of_ble_eq_true rfl) d_Ho_init_160 (fun q13 H hP hD hS => ?_)
  have hP : va_P D classes (cat [[(h, .inr (12, [.ref q1, .ref q2, .ref q3, .ref q4, .ref q5, .ref q7, .ref q9, .int 0, .int ((-1)), .ref q10, .ref q11, .int 0, .int 0, .ref q12, .int 0, .int 0, .null, .null, .null, .null, .null]))], [(q1, .inl (kA 4, 4, .inr (.inr (.inr (.inr (fun _ => none))))))], [(q2, .inl (kA 5, 4, .inr (.inr (.inr (.inr (fun _ => none))))))], [(q3, .inl (kA 6, 4, .inr (.inr (.inr (.inr (fun _ => none))))))], [(q4, .inl (kA 7, 4, .inr (.inr (.inr (.inr (fun _ => none))))))], wRe kA q5 ((u6 0)) x0Re a0Re, wGr kA (u6 0 4) ((u6 1)) x0Gr a0Gr none, wEm kA q7 ((u8 0)) x0Em a0Em none, wNe kA (u8 0 1) ((u8 1)) x0Ne a0Ne, [(q9, .inl (kA 0, 24, .inl (fun _ => 0)))], [(q10, .inl (kA 1, 4000, .inl (fun _ => 0)))], [(q11, .inl (kA 1, 4000, .inl (fun _ => 0)))], [(q12, .inl (kA 0, 4096, .inl (fun _ => 0)))], [(q13, .inr (3, [.int 0, .int 0, .int 0, .null, .null, .null, .null, .null, .null, .null, .null, .null, .null, .null, .null, .null, .null, .int 0, .int 0]))]]) H := hP
  have hD : va_D A (cat [[(h, .inr (12, [.ref q1, .ref q2, .ref q3, .ref q4, .ref q5, .ref q7, .ref q9, .int 0, .int ((-1)), .ref q10, .ref q11, .int 0, .int 0, .ref q12, .int 0, .int 0, .null, .null, .null, .null, .null]))], [(q1, .inl (kA 4, 4, .inr (.inr (.inr (.inr (fun _ => none))))))], [(q2, .inl (kA 5, 4, .inr (.inr (.inr (.inr (fun _ => none))))))], [(q3, .inl (kA 6, 4, .inr (.inr (.inr (.inr (fun _ => none))))))], [(q4, .inl (kA 7, 4, .inr (.inr (.inr (.inr (fun _ => none))))))], wRe kA q5 ((u6 0)) x0Re a0Re, wGr kA (u6 0 4) ((u6 1)) x0Gr a0Gr none, wEm kA q7 ((u8 0)) x0Em a0Em none, wNe kA (u8 0 1) ((u8 1)) x0Ne a0Ne, [(q9, .inl (kA 0, 24, .inl (fun _ => 0)))], [(q10, .inl (kA 1, 4000, .inl (fun _ => 0)))], [(q11, .inl (kA 1, 4000, .inl (fun _ => 0)))], [(q12, .inl (kA 0, 4096, .inl (fun _ => 0)))], [(q13, .inr (3, [.int 0, .int 0, .int 0, .null, .null, .null, .null, .null, .null, .null, .null, .null, .null, .null, .null, .null, .null, .int 0, .int 0]))]]) := hD
  refine W.widen (k := 49) (n := 18669) (by omega) (by omega) ?_
  refine lv_dup (pc := 163) hx hb d_Ho_init_163 rfl ?_
  refine k_goV (gr := [[(h, .inr (12, [.ref q1, .ref q2, .ref q3, .ref q4, .ref q5, .ref q7, .ref q9, .int 0, .int ((-1)), .ref q10, .ref q11, .int 0, .int 0, .ref q12, .int 0, .int 0, .null, .null, .null, .null, .null]))], [(q1, .inl (kA 4, 4, .inr (.inr (.inr (.inr (fun _ => none))))))], [(q2, .inl (kA 5, 4, .inr (.inr (.inr (.inr (fun _ => none))))))], [(q3, .inl (kA 6, 4, .inr (.inr (.inr (.inr (fun _ => none))))))], [(q4, .inl (kA 7, 4, .inr (.inr (.inr (.inr (fun _ => none))))))], wRe kA q5 ((u6 0)) x0Re a0Re, wGr kA (u6 0 4) ((u6 1)) x0Gr a0Gr none, wEm kA q7 ((u8 0)) x0Em a0Em none, wNe kA (u8 0 1) ((u8 1)) x0Ne a0Ne, [(q9, .inl (kA 0, 24, .inl (fun _ => 0)))], [(q10, .inl (kA 1, 4000, .inl (fun _ => 0)))], [(q11, .inl (kA 1, 4000, .inl (fun _ => 0)))], [(q12, .inl (kA 0, 4096, .inl (fun _ => 0)))]]) (k_rI (pc := 164) (As := []) (rest := [.ref q13, .int 0, .ref q1]) X (c_Gr_init l D kA q13 H.size) rfl wm_51 wm_3 wm_388 wm_50 rfl 0 (by decide +kernel) ⟨Nat.le_of_ble_eq_true rfl, Nat.le_of_ble_eq_true rfl⟩ rfl rfl (k_pre hN hK hP hD [13] [0, 1, 2, 3, 4, 5, 6, 7, 8, 9, 10, 11, 12] 14 rfl (by decide) rfl) rfl hl.1 rfl (Nat.le_of_ble_eq_true rfl) d_Ho_init_164 ⟨Nat.le_of_ble_eq_true rfl, Nat.le_of_ble_eq_true rfl⟩) hP hD hS hA [13] [0, 1, 2, 3, 4, 5, 6, 7, 8, 9, 10, 11, 12] 14 rfl (by decide) rfl rfl (fun u14 H locs hu14 hP hD hS => ?_)
  have hP : va_P D classes (cat [[(h, .inr (12, [.ref q1, .ref q2, .ref q3, .ref q4, .ref q5, .ref q7, .ref q9, .int 0, .int ((-1)), .ref q10, .ref q11, .int 0, .int 0, .ref q12, .int 0, .int 0, .null, .null, .null, .null, .null]))], [(q1, .inl (kA 4, 4, .inr (.inr (.inr (.inr (fun _ => none))))))], [(q2, .inl (kA 5, 4, .inr (.inr (.inr (.inr (fun _ => none))))))], [(q3, .inl (kA 6, 4, .inr (.inr (.inr (.inr (fun _ => none))))))], [(q4, .inl (kA 7, 4, .inr (.inr (.inr (.inr (fun _ => none))))))], wRe kA q5 ((u6 0)) x0Re a0Re, wGr kA (u6 0 4) ((u6 1)) x0Gr a0Gr none, wEm kA q7 ((u8 0)) x0Em a0Em none, wNe kA (u8 0 1) ((u8 1)) x0Ne a0Ne, [(q9, .inl (kA 0, 24, .inl (fun _ => 0)))], [(q10, .inl (kA 1, 4000, .inl (fun _ => 0)))], [(q11, .inl (kA 1, 4000, .inl (fun _ => 0)))], [(q12, .inl (kA 0, 4096, .inl (fun _ => 0)))], wGr kA q13 u14 x0Gr a0Gr none]) H := hP
  have hD : va_D A (cat [[(h, .inr (12, [.ref q1, .ref q2, .ref q3, .ref q4, .ref q5, .ref q7, .ref q9, .int 0, .int ((-1)), .ref q10, .ref q11, .int 0, .int 0, .ref q12, .int 0, .int 0, .null, .null, .null, .null, .null]))], [(q1, .inl (kA 4, 4, .inr (.inr (.inr (.inr (fun _ => none))))))], [(q2, .inl (kA 5, 4, .inr (.inr (.inr (.inr (fun _ => none))))))], [(q3, .inl (kA 6, 4, .inr (.inr (.inr (.inr (fun _ => none))))))], [(q4, .inl (kA 7, 4, .inr (.inr (.inr (.inr (fun _ => none))))))], wRe kA q5 ((u6 0)) x0Re a0Re, wGr kA (u6 0 4) ((u6 1)) x0Gr a0Gr none, wEm kA q7 ((u8 0)) x0Em a0Em none, wNe kA (u8 0 1) ((u8 1)) x0Ne a0Ne, [(q9, .inl (kA 0, 24, .inl (fun _ => 0)))], [(q10, .inl (kA 1, 4000, .inl (fun _ => 0)))], [(q11, .inl (kA 1, 4000, .inl (fun _ => 0)))], [(q12, .inl (kA 0, 4096, .inl (fun _ => 0)))], wGr kA q13 u14 x0Gr a0Gr none]) := hD
  refine W.widen (k := 62) (n := 19805) (by omega) (by omega) ?_
  refine va_astq (pc := 167) hx hb hK hP hD hS 1 4 49 3 rfl rfl rfl rfl (by unfold vp_in; decide) d_Ho_init_167 (fun H locs hP hD hS => ?_)
  have hP : va_P D classes (cat [[(h, .inr (12, [.ref q1, .ref q2, .ref q3, .ref q4, .ref q5, .ref q7, .ref q9, .int 0, .int ((-1)), .ref q10, .ref q11, .int 0, .int 0, .ref q12, .int 0, .int 0, .null, .null, .null, .null, .null]))], [(q1, .inl (kA 4, 4, .inr (.inr (.inr (.inr (va_up (fun _ => none) 0 (some q13)))))))], [(q2, .inl (kA 5, 4, .inr (.inr (.inr (.inr (fun _ => none))))))], [(q3, .inl (kA 6, 4, .inr (.inr (.inr (.inr (fun _ => none))))))], [(q4, .inl (kA 7, 4, .inr (.inr (.inr (.inr (fun _ => none))))))], wRe kA q5 ((u6 0)) x0Re a0Re, wGr kA (u6 0 4) ((u6 1)) x0Gr a0Gr none, wEm kA q7 ((u8 0)) x0Em a0Em none, wNe kA (u8 0 1) ((u8 1)) x0Ne a0Ne, [(q9, .inl (kA 0, 24, .inl (fun _ => 0)))], [(q10, .inl (kA 1, 4000, .inl (fun _ => 0)))], [(q11, .inl (kA 1, 4000, .inl (fun _ => 0)))], [(q12, .inl (kA 0, 4096, .inl (fun _ => 0)))], wGr kA q13 u14 x0Gr a0Gr none]) H := hP
  have hD : va_D A (cat [[(h, .inr (12, [.ref q1, .ref q2, .ref q3, .ref q4, .ref q5, .ref q7, .ref q9, .int 0, .int ((-1)), .ref q10, .ref q11, .int 0, .int 0, .ref q12, .int 0, .int 0, .null, .null, .null, .null, .null]))], [(q1, .inl (kA 4, 4, .inr (.inr (.inr (.inr (va_up (fun _ => none) 0 (some q13)))))))], [(q2, .inl (kA 5, 4, .inr (.inr (.inr (.inr (fun _ => none))))))], [(q3, .inl (kA 6, 4, .inr (.inr (.inr (.inr (fun _ => none))))))], [(q4, .inl (kA 7, 4, .inr (.inr (.inr (.inr (fun _ => none))))))], wRe kA q5 ((u6 0)) x0Re a0Re, wGr kA (u6 0 4) ((u6 1)) x0Gr a0Gr none, wEm kA q7 ((u8 0)) x0Em a0Em none, wNe kA (u8 0 1) ((u8 1)) x0Ne a0Ne, [(q9, .inl (kA 0, 24, .inl (fun _ => 0)))], [(q10, .inl (kA 1, 4000, .inl (fun _ => 0)))], [(q11, .inl (kA 1, 4000, .inl (fun _ => 0)))], [(q12, .inl (kA 0, 4096, .inl (fun _ => 0)))], wGr kA q13 u14 x0Gr a0Gr none]) := hD
  refine lv_aload_n (pc := 168) hx hb d_Ho_init_168 rfl (lv_at hl 1 rfl) ?_
  refine k_get (pc := 169) X hK hP 0 rfl rfl i_Ho 1 (by decide) wm_556 rfl rfl d_Ho_init_169 ?_
  refine lv_iload_n (pc := 172) hx hb d_Ho_init_172 rfl (lv_at hl 0 rfl) ?_
  refine k_new (pc := 173) (fs := f0Fa) X i_Fa t_Fa t_Fa_ok wm_35 wm_389 wm_7 hK hP hD hS hA (ci := 2) rfl f0Fa_ok (Nat.le_of_ble_eq_true rfl) (Nat.le_of_ble_eq_true rfl) d_Ho_init_173 (fun q15 H hP hD hS => ?_)
  have hP : va_P D classes (cat [[(h, .inr (12, [.ref q1, .ref q2, .ref q3, .ref q4, .ref q5, .ref q7, .ref q9, .int 0, .int ((-1)), .ref q10, .ref q11, .int 0, .int 0, .ref q12, .int 0, .int 0, .null, .null, .null, .null, .null]))], [(q1, .inl (kA 4, 4, .inr (.inr (.inr (.inr (va_up (fun _ => none) 0 (some q13)))))))], [(q2, .inl (kA 5, 4, .inr (.inr (.inr (.inr (fun _ => none))))))], [(q3, .inl (kA 6, 4, .inr (.inr (.inr (.inr (fun _ => none))))))], [(q4, .inl (kA 7, 4, .inr (.inr (.inr (.inr (fun _ => none))))))], wRe kA q5 ((u6 0)) x0Re a0Re, wGr kA (u6 0 4) ((u6 1)) x0Gr a0Gr none, wEm kA q7 ((u8 0)) x0Em a0Em none, wNe kA (u8 0 1) ((u8 1)) x0Ne a0Ne, [(q9, .inl (kA 0, 24, .inl (fun _ => 0)))], [(q10, .inl (kA 1, 4000, .inl (fun _ => 0)))], [(q11, .inl (kA 1, 4000, .inl (fun _ => 0)))], [(q12, .inl (kA 0, 4096, .inl (fun _ => 0)))], wGr kA q13 u14 x0Gr a0Gr none, [(q15, .inr (2, [.int 0, .int 0, .int 0, .int 0, .null, .null, .null, .null, .null, .null, .null, .null, .null, .null, .null]))]]) H := hP
  have hD : va_D A (cat [[(h, .inr (12, [.ref q1, .ref q2, .ref q3, .ref q4, .ref q5, .ref q7, .ref q9, .int 0, .int ((-1)), .ref q10, .ref q11, .int 0, .int 0, .ref q12, .int 0, .int 0, .null, .null, .null, .null, .null]))], [(q1, .inl (kA 4, 4, .inr (.inr (.inr (.inr (va_up (fun _ => none) 0 (some q13)))))))], [(q2, .inl (kA 5, 4, .inr (.inr (.inr (.inr (fun _ => none))))))], [(q3, .inl (kA 6, 4, .inr (.inr (.inr (.inr (fun _ => none))))))], [(q4, .inl (kA 7, 4, .inr (.inr (.inr (.inr (fun _ => none))))))], wRe kA q5 ((u6 0)) x0Re a0Re, wGr kA (u6 0 4) ((u6 1)) x0Gr a0Gr none, wEm kA q7 ((u8 0)) x0Em a0Em none, wNe kA (u8 0 1) ((u8 1)) x0Ne a0Ne, [(q9, .inl (kA 0, 24, .inl (fun _ => 0)))], [(q10, .inl (kA 1, 4000, .inl (fun _ => 0)))], [(q11, .inl (kA 1, 4000, .inl (fun _ => 0)))], [(q12, .inl (kA 0, 4096, .inl (fun _ => 0)))], wGr kA q13 u14 x0Gr a0Gr none, [(q15, .inr (2, [.int 0, .int 0, .int 0, .int 0, .null, .null, .null, .null, .null, .null, .null, .null, .null, .null, .null]))]]) := hD
  refine W.widen (k := 63) (n := 19820) (by omega) (by omega) ?_
  refine lv_dup (pc := 176) hx hb d_Ho_init_176 rfl ?_
  refine k_goV (gr := [[(h, .inr (12, [.ref q1, .ref q2, .ref q3, .ref q4, .ref q5, .ref q7, .ref q9, .int 0, .int ((-1)), .ref q10, .ref q11, .int 0, .int 0, .ref q12, .int 0, .int 0, .null, .null, .null, .null, .null]))], [(q1, .inl (kA 4, 4, .inr (.inr (.inr (.inr (va_up (fun _ => none) 0 (some q13)))))))], [(q2, .inl (kA 5, 4, .inr (.inr (.inr (.inr (fun _ => none))))))], [(q3, .inl (kA 6, 4, .inr (.inr (.inr (.inr (fun _ => none))))))], [(q4, .inl (kA 7, 4, .inr (.inr (.inr (.inr (fun _ => none))))))], wRe kA q5 ((u6 0)) x0Re a0Re, wGr kA (u6 0 4) ((u6 1)) x0Gr a0Gr none, wEm kA q7 ((u8 0)) x0Em a0Em none, wNe kA (u8 0 1) ((u8 1)) x0Ne a0Ne, [(q9, .inl (kA 0, 24, .inl (fun _ => 0)))], [(q10, .inl (kA 1, 4000, .inl (fun _ => 0)))], [(q11, .inl (kA 1, 4000, .inl (fun _ => 0)))], [(q12, .inl (kA 0, 4096, .inl (fun _ => 0)))], wGr kA q13 u14 x0Gr a0Gr none]) (k_rIN (pc := 177) (As := []) (rest := [.ref q15, .int 0, .ref q2]) hN X (c_Fa_init l D kA q15 H.size) rfl wm_392 wm_7 wn_390 wm_391 rfl 0 (by decide +kernel) ⟨Nat.le_of_ble_eq_true rfl, Nat.le_of_ble_eq_true rfl⟩ rfl rfl (k_pre hN hK hP hD [14] [0, 1, 2, 3, 4, 5, 6, 7, 8, 9, 10, 11, 12, 13] 15 rfl (by decide) rfl) rfl hl.1 rfl (Nat.le_of_ble_eq_true rfl) d_Ho_init_177 ⟨Nat.le_of_ble_eq_true rfl, Nat.le_of_ble_eq_true rfl⟩) hP hD hS hA [14] [0, 1, 2, 3, 4, 5, 6, 7, 8, 9, 10, 11, 12, 13] 15 rfl (by decide) rfl rfl (fun u16 H locs hu16 hP hD hS => ?_)
  have hP : va_P D classes (cat [[(h, .inr (12, [.ref q1, .ref q2, .ref q3, .ref q4, .ref q5, .ref q7, .ref q9, .int 0, .int ((-1)), .ref q10, .ref q11, .int 0, .int 0, .ref q12, .int 0, .int 0, .null, .null, .null, .null, .null]))], [(q1, .inl (kA 4, 4, .inr (.inr (.inr (.inr (va_up (fun _ => none) 0 (some q13)))))))], [(q2, .inl (kA 5, 4, .inr (.inr (.inr (.inr (fun _ => none))))))], [(q3, .inl (kA 6, 4, .inr (.inr (.inr (.inr (fun _ => none))))))], [(q4, .inl (kA 7, 4, .inr (.inr (.inr (.inr (fun _ => none))))))], wRe kA q5 ((u6 0)) x0Re a0Re, wGr kA (u6 0 4) ((u6 1)) x0Gr a0Gr none, wEm kA q7 ((u8 0)) x0Em a0Em none, wNe kA (u8 0 1) ((u8 1)) x0Ne a0Ne, [(q9, .inl (kA 0, 24, .inl (fun _ => 0)))], [(q10, .inl (kA 1, 4000, .inl (fun _ => 0)))], [(q11, .inl (kA 1, 4000, .inl (fun _ => 0)))], [(q12, .inl (kA 0, 4096, .inl (fun _ => 0)))], wGr kA q13 u14 x0Gr a0Gr none, wFa kA q15 u16 x0Fa a0Fa]) H := hP
  have hD : va_D A (cat [[(h, .inr (12, [.ref q1, .ref q2, .ref q3, .ref q4, .ref q5, .ref q7, .ref q9, .int 0, .int ((-1)), .ref q10, .ref q11, .int 0, .int 0, .ref q12, .int 0, .int 0, .null, .null, .null, .null, .null]))], [(q1, .inl (kA 4, 4, .inr (.inr (.inr (.inr (va_up (fun _ => none) 0 (some q13)))))))], [(q2, .inl (kA 5, 4, .inr (.inr (.inr (.inr (fun _ => none))))))], [(q3, .inl (kA 6, 4, .inr (.inr (.inr (.inr (fun _ => none))))))], [(q4, .inl (kA 7, 4, .inr (.inr (.inr (.inr (fun _ => none))))))], wRe kA q5 ((u6 0)) x0Re a0Re, wGr kA (u6 0 4) ((u6 1)) x0Gr a0Gr none, wEm kA q7 ((u8 0)) x0Em a0Em none, wNe kA (u8 0 1) ((u8 1)) x0Ne a0Ne, [(q9, .inl (kA 0, 24, .inl (fun _ => 0)))], [(q10, .inl (kA 1, 4000, .inl (fun _ => 0)))], [(q11, .inl (kA 1, 4000, .inl (fun _ => 0)))], [(q12, .inl (kA 0, 4096, .inl (fun _ => 0)))], wGr kA q13 u14 x0Gr a0Gr none, wFa kA q15 u16 x0Fa a0Fa]) := hD
  refine W.widen (k := 74) (n := 20236) (by omega) (by omega) ?_
  refine va_astq (pc := 180) hx hb hK hP hD hS 2 5 63 2 rfl rfl rfl rfl (by unfold vp_in; decide) d_Ho_init_180 (fun H locs hP hD hS => ?_)
  have hP : va_P D classes (cat [[(h, .inr (12, [.ref q1, .ref q2, .ref q3, .ref q4, .ref q5, .ref q7, .ref q9, .int 0, .int ((-1)), .ref q10, .ref q11, .int 0, .int 0, .ref q12, .int 0, .int 0, .null, .null, .null, .null, .null]))], [(q1, .inl (kA 4, 4, .inr (.inr (.inr (.inr (va_up (fun _ => none) 0 (some q13)))))))], [(q2, .inl (kA 5, 4, .inr (.inr (.inr (.inr (va_up (fun _ => none) 0 (some q15)))))))], [(q3, .inl (kA 6, 4, .inr (.inr (.inr (.inr (fun _ => none))))))], [(q4, .inl (kA 7, 4, .inr (.inr (.inr (.inr (fun _ => none))))))], wRe kA q5 ((u6 0)) x0Re a0Re, wGr kA (u6 0 4) ((u6 1)) x0Gr a0Gr none, wEm kA q7 ((u8 0)) x0Em a0Em none, wNe kA (u8 0 1) ((u8 1)) x0Ne a0Ne, [(q9, .inl (kA 0, 24, .inl (fun _ => 0)))], [(q10, .inl (kA 1, 4000, .inl (fun _ => 0)))], [(q11, .inl (kA 1, 4000, .inl (fun _ => 0)))], [(q12, .inl (kA 0, 4096, .inl (fun _ => 0)))], wGr kA q13 u14 x0Gr a0Gr none, wFa kA q15 u16 x0Fa a0Fa]) H := hP
  have hD : va_D A (cat [[(h, .inr (12, [.ref q1, .ref q2, .ref q3, .ref q4, .ref q5, .ref q7, .ref q9, .int 0, .int ((-1)), .ref q10, .ref q11, .int 0, .int 0, .ref q12, .int 0, .int 0, .null, .null, .null, .null, .null]))], [(q1, .inl (kA 4, 4, .inr (.inr (.inr (.inr (va_up (fun _ => none) 0 (some q13)))))))], [(q2, .inl (kA 5, 4, .inr (.inr (.inr (.inr (va_up (fun _ => none) 0 (some q15)))))))], [(q3, .inl (kA 6, 4, .inr (.inr (.inr (.inr (fun _ => none))))))], [(q4, .inl (kA 7, 4, .inr (.inr (.inr (.inr (fun _ => none))))))], wRe kA q5 ((u6 0)) x0Re a0Re, wGr kA (u6 0 4) ((u6 1)) x0Gr a0Gr none, wEm kA q7 ((u8 0)) x0Em a0Em none, wNe kA (u8 0 1) ((u8 1)) x0Ne a0Ne, [(q9, .inl (kA 0, 24, .inl (fun _ => 0)))], [(q10, .inl (kA 1, 4000, .inl (fun _ => 0)))], [(q11, .inl (kA 1, 4000, .inl (fun _ => 0)))], [(q12, .inl (kA 0, 4096, .inl (fun _ => 0)))], wGr kA q13 u14 x0Gr a0Gr none, wFa kA q15 u16 x0Fa a0Fa]) := hD
  refine lv_aload_n (pc := 181) hx hb d_Ho_init_181 rfl (lv_at hl 1 rfl) ?_
  refine k_get (pc := 182) X hK hP 0 rfl rfl i_Ho 2 (by decide) wm_557 rfl rfl d_Ho_init_182 ?_
  refine lv_iload_n (pc := 185) hx hb d_Ho_init_185 rfl (lv_at hl 0 rfl) ?_
  refine k_new (pc := 186) (fs := f0Ne) X i_Ne t_Ne t_Ne_ok wm_37 wm_243 wm_6 hK hP hD hS hA (ci := 5) rfl f0Ne_ok (Nat.le_of_ble_eq_true rfl) (Nat.le_of_ble_eq_true rfl) d_Ho_init_186 (fun q17 H hP hD hS => ?_)
  have hP : va_P D classes (cat [[(h, .inr (12, [.ref q1, .ref q2, .ref q3, .ref q4, .ref q5, .ref q7, .ref q9, .int 0, .int ((-1)), .ref q10, .ref q11, .int 0, .int 0, .ref q12, .int 0, .int 0, .null, .null, .null, .null, .null]))], [(q1, .inl (kA 4, 4, .inr (.inr (.inr (.inr (va_up (fun _ => none) 0 (some q13)))))))], [(q2, .inl (kA 5, 4, .inr (.inr (.inr (.inr (va_up (fun _ => none) 0 (some q15)))))))], [(q3, .inl (kA 6, 4, .inr (.inr (.inr (.inr (fun _ => none))))))], [(q4, .inl (kA 7, 4, .inr (.inr (.inr (.inr (fun _ => none))))))], wRe kA q5 ((u6 0)) x0Re a0Re, wGr kA (u6 0 4) ((u6 1)) x0Gr a0Gr none, wEm kA q7 ((u8 0)) x0Em a0Em none, wNe kA (u8 0 1) ((u8 1)) x0Ne a0Ne, [(q9, .inl (kA 0, 24, .inl (fun _ => 0)))], [(q10, .inl (kA 1, 4000, .inl (fun _ => 0)))], [(q11, .inl (kA 1, 4000, .inl (fun _ => 0)))], [(q12, .inl (kA 0, 4096, .inl (fun _ => 0)))], wGr kA q13 u14 x0Gr a0Gr none, wFa kA q15 u16 x0Fa a0Fa, [(q17, .inr (5, [.int 0, .int 0, .int 0, .int 0, .null, .int 0, .int 0, .null, .null, .null, .null, .null, .null, .int 0, .null, .null, .null]))]]) H := hP
  have hD : va_D A (cat [[(h, .inr (12, [.ref q1, .ref q2, .ref q3, .ref q4, .ref q5, .ref q7, .ref q9, .int 0, .int ((-1)), .ref q10, .ref q11, .int 0, .int 0, .ref q12, .int 0, .int 0, .null, .null, .null, .null, .null]))], [(q1, .inl (kA 4, 4, .inr (.inr (.inr (.inr (va_up (fun _ => none) 0 (some q13)))))))], [(q2, .inl (kA 5, 4, .inr (.inr (.inr (.inr (va_up (fun _ => none) 0 (some q15)))))))], [(q3, .inl (kA 6, 4, .inr (.inr (.inr (.inr (fun _ => none))))))], [(q4, .inl (kA 7, 4, .inr (.inr (.inr (.inr (fun _ => none))))))], wRe kA q5 ((u6 0)) x0Re a0Re, wGr kA (u6 0 4) ((u6 1)) x0Gr a0Gr none, wEm kA q7 ((u8 0)) x0Em a0Em none, wNe kA (u8 0 1) ((u8 1)) x0Ne a0Ne, [(q9, .inl (kA 0, 24, .inl (fun _ => 0)))], [(q10, .inl (kA 1, 4000, .inl (fun _ => 0)))], [(q11, .inl (kA 1, 4000, .inl (fun _ => 0)))], [(q12, .inl (kA 0, 4096, .inl (fun _ => 0)))], wGr kA q13 u14 x0Gr a0Gr none, wFa kA q15 u16 x0Fa a0Fa, [(q17, .inr (5, [.int 0, .int 0, .int 0, .int 0, .null, .int 0, .int 0, .null, .null, .null, .null, .null, .null, .int 0, .null, .null, .null]))]]) := hD
  refine W.widen (k := 75) (n := 20253) (by omega) (by omega) ?_
  refine lv_dup (pc := 189) hx hb d_Ho_init_189 rfl ?_
  refine k_goV (gr := [[(h, .inr (12, [.ref q1, .ref q2, .ref q3, .ref q4, .ref q5, .ref q7, .ref q9, .int 0, .int ((-1)), .ref q10, .ref q11, .int 0, .int 0, .ref q12, .int 0, .int 0, .null, .null, .null, .null, .null]))], [(q1, .inl (kA 4, 4, .inr (.inr (.inr (.inr (va_up (fun _ => none) 0 (some q13)))))))], [(q2, .inl (kA 5, 4, .inr (.inr (.inr (.inr (va_up (fun _ => none) 0 (some q15)))))))], [(q3, .inl (kA 6, 4, .inr (.inr (.inr (.inr (fun _ => none))))))], [(q4, .inl (kA 7, 4, .inr (.inr (.inr (.inr (fun _ => none))))))], wRe kA q5 ((u6 0)) x0Re a0Re, wGr kA (u6 0 4) ((u6 1)) x0Gr a0Gr none, wEm kA q7 ((u8 0)) x0Em a0Em none, wNe kA (u8 0 1) ((u8 1)) x0Ne a0Ne, [(q9, .inl (kA 0, 24, .inl (fun _ => 0)))], [(q10, .inl (kA 1, 4000, .inl (fun _ => 0)))], [(q11, .inl (kA 1, 4000, .inl (fun _ => 0)))], [(q12, .inl (kA 0, 4096, .inl (fun _ => 0)))], wGr kA q13 u14 x0Gr a0Gr none, wFa kA q15 u16 x0Fa a0Fa]) (k_rIN (pc := 190) (As := []) (rest := [.ref q17, .int 0, .ref q3]) hN X (c_Ne_init l D kA q17 H.size) rfl wm_246 wm_6 wn_459 wm_245 rfl 0 (by decide +kernel) ⟨Nat.le_of_ble_eq_true rfl, Nat.le_of_ble_eq_true rfl⟩ rfl rfl (k_pre hN hK hP hD [15] [0, 1, 2, 3, 4, 5, 6, 7, 8, 9, 10, 11, 12, 13, 14] 16 rfl (by decide) rfl) rfl hl.1 rfl (Nat.le_of_ble_eq_true rfl) d_Ho_init_190 ⟨Nat.le_of_ble_eq_true rfl, Nat.le_of_ble_eq_true rfl⟩) hP hD hS hA [15] [0, 1, 2, 3, 4, 5, 6, 7, 8, 9, 10, 11, 12, 13, 14] 16 rfl (by decide) rfl rfl (fun u18 H locs hu18 hP hD hS => ?_)
  have hP : va_P D classes (cat [[(h, .inr (12, [.ref q1, .ref q2, .ref q3, .ref q4, .ref q5, .ref q7, .ref q9, .int 0, .int ((-1)), .ref q10, .ref q11, .int 0, .int 0, .ref q12, .int 0, .int 0, .null, .null, .null, .null, .null]))], [(q1, .inl (kA 4, 4, .inr (.inr (.inr (.inr (va_up (fun _ => none) 0 (some q13)))))))], [(q2, .inl (kA 5, 4, .inr (.inr (.inr (.inr (va_up (fun _ => none) 0 (some q15)))))))], [(q3, .inl (kA 6, 4, .inr (.inr (.inr (.inr (fun _ => none))))))], [(q4, .inl (kA 7, 4, .inr (.inr (.inr (.inr (fun _ => none))))))], wRe kA q5 ((u6 0)) x0Re a0Re, wGr kA (u6 0 4) ((u6 1)) x0Gr a0Gr none, wEm kA q7 ((u8 0)) x0Em a0Em none, wNe kA (u8 0 1) ((u8 1)) x0Ne a0Ne, [(q9, .inl (kA 0, 24, .inl (fun _ => 0)))], [(q10, .inl (kA 1, 4000, .inl (fun _ => 0)))], [(q11, .inl (kA 1, 4000, .inl (fun _ => 0)))], [(q12, .inl (kA 0, 4096, .inl (fun _ => 0)))], wGr kA q13 u14 x0Gr a0Gr none, wFa kA q15 u16 x0Fa a0Fa, wNe kA q17 u18 x0Ne a0Ne]) H := hP
  have hD : va_D A (cat [[(h, .inr (12, [.ref q1, .ref q2, .ref q3, .ref q4, .ref q5, .ref q7, .ref q9, .int 0, .int ((-1)), .ref q10, .ref q11, .int 0, .int 0, .ref q12, .int 0, .int 0, .null, .null, .null, .null, .null]))], [(q1, .inl (kA 4, 4, .inr (.inr (.inr (.inr (va_up (fun _ => none) 0 (some q13)))))))], [(q2, .inl (kA 5, 4, .inr (.inr (.inr (.inr (va_up (fun _ => none) 0 (some q15)))))))], [(q3, .inl (kA 6, 4, .inr (.inr (.inr (.inr (fun _ => none))))))], [(q4, .inl (kA 7, 4, .inr (.inr (.inr (.inr (fun _ => none))))))], wRe kA q5 ((u6 0)) x0Re a0Re, wGr kA (u6 0 4) ((u6 1)) x0Gr a0Gr none, wEm kA q7 ((u8 0)) x0Em a0Em none, wNe kA (u8 0 1) ((u8 1)) x0Ne a0Ne, [(q9, .inl (kA 0, 24, .inl (fun _ => 0)))], [(q10, .inl (kA 1, 4000, .inl (fun _ => 0)))], [(q11, .inl (kA 1, 4000, .inl (fun _ => 0)))], [(q12, .inl (kA 0, 4096, .inl (fun _ => 0)))], wGr kA q13 u14 x0Gr a0Gr none, wFa kA q15 u16 x0Fa a0Fa, wNe kA q17 u18 x0Ne a0Ne]) := hD
  refine W.widen (k := 85) (n := 21697) (by omega) (by omega) ?_
  refine va_astq (pc := 193) hx hb hK hP hD hS 3 6 75 5 rfl rfl rfl rfl (by unfold vp_in; decide) d_Ho_init_193 (fun H locs hP hD hS => ?_)
  have hP : va_P D classes (cat [[(h, .inr (12, [.ref q1, .ref q2, .ref q3, .ref q4, .ref q5, .ref q7, .ref q9, .int 0, .int ((-1)), .ref q10, .ref q11, .int 0, .int 0, .ref q12, .int 0, .int 0, .null, .null, .null, .null, .null]))], [(q1, .inl (kA 4, 4, .inr (.inr (.inr (.inr (va_up (fun _ => none) 0 (some q13)))))))], [(q2, .inl (kA 5, 4, .inr (.inr (.inr (.inr (va_up (fun _ => none) 0 (some q15)))))))], [(q3, .inl (kA 6, 4, .inr (.inr (.inr (.inr (va_up (fun _ => none) 0 (some q17)))))))], [(q4, .inl (kA 7, 4, .inr (.inr (.inr (.inr (fun _ => none))))))], wRe kA q5 ((u6 0)) x0Re a0Re, wGr kA (u6 0 4) ((u6 1)) x0Gr a0Gr none, wEm kA q7 ((u8 0)) x0Em a0Em none, wNe kA (u8 0 1) ((u8 1)) x0Ne a0Ne, [(q9, .inl (kA 0, 24, .inl (fun _ => 0)))], [(q10, .inl (kA 1, 4000, .inl (fun _ => 0)))], [(q11, .inl (kA 1, 4000, .inl (fun _ => 0)))], [(q12, .inl (kA 0, 4096, .inl (fun _ => 0)))], wGr kA q13 u14 x0Gr a0Gr none, wFa kA q15 u16 x0Fa a0Fa, wNe kA q17 u18 x0Ne a0Ne]) H := hP
  have hD : va_D A (cat [[(h, .inr (12, [.ref q1, .ref q2, .ref q3, .ref q4, .ref q5, .ref q7, .ref q9, .int 0, .int ((-1)), .ref q10, .ref q11, .int 0, .int 0, .ref q12, .int 0, .int 0, .null, .null, .null, .null, .null]))], [(q1, .inl (kA 4, 4, .inr (.inr (.inr (.inr (va_up (fun _ => none) 0 (some q13)))))))], [(q2, .inl (kA 5, 4, .inr (.inr (.inr (.inr (va_up (fun _ => none) 0 (some q15)))))))], [(q3, .inl (kA 6, 4, .inr (.inr (.inr (.inr (va_up (fun _ => none) 0 (some q17)))))))], [(q4, .inl (kA 7, 4, .inr (.inr (.inr (.inr (fun _ => none))))))], wRe kA q5 ((u6 0)) x0Re a0Re, wGr kA (u6 0 4) ((u6 1)) x0Gr a0Gr none, wEm kA q7 ((u8 0)) x0Em a0Em none, wNe kA (u8 0 1) ((u8 1)) x0Ne a0Ne, [(q9, .inl (kA 0, 24, .inl (fun _ => 0)))], [(q10, .inl (kA 1, 4000, .inl (fun _ => 0)))], [(q11, .inl (kA 1, 4000, .inl (fun _ => 0)))], [(q12, .inl (kA 0, 4096, .inl (fun _ => 0)))], wGr kA q13 u14 x0Gr a0Gr none, wFa kA q15 u16 x0Fa a0Fa, wNe kA q17 u18 x0Ne a0Ne]) := hD
  refine lv_aload_n (pc := 194) hx hb d_Ho_init_194 rfl (lv_at hl 1 rfl) ?_
  refine k_get (pc := 195) X hK hP 0 rfl rfl i_Ho 3 (by decide) wm_558 rfl rfl d_Ho_init_195 ?_
  refine lv_iload_n (pc := 198) hx hb d_Ho_init_198 rfl (lv_at hl 0 rfl) ?_
  refine k_new (pc := 199) (fs := f0Dr) X i_Dr t_Dr t_Dr_ok wm_39 wm_460 wm_8 hK hP hD hS hA (ci := 0) rfl f0Dr_ok (Nat.le_of_ble_eq_true rfl) (Nat.le_of_ble_eq_true rfl) d_Ho_init_199 (fun q19 H hP hD hS => ?_)
  have hP : va_P D classes (cat [[(h, .inr (12, [.ref q1, .ref q2, .ref q3, .ref q4, .ref q5, .ref q7, .ref q9, .int 0, .int ((-1)), .ref q10, .ref q11, .int 0, .int 0, .ref q12, .int 0, .int 0, .null, .null, .null, .null, .null]))], [(q1, .inl (kA 4, 4, .inr (.inr (.inr (.inr (va_up (fun _ => none) 0 (some q13)))))))], [(q2, .inl (kA 5, 4, .inr (.inr (.inr (.inr (va_up (fun _ => none) 0 (some q15)))))))], [(q3, .inl (kA 6, 4, .inr (.inr (.inr (.inr (va_up (fun _ => none) 0 (some q17)))))))], [(q4, .inl (kA 7, 4, .inr (.inr (.inr (.inr (fun _ => none))))))], wRe kA q5 ((u6 0)) x0Re a0Re, wGr kA (u6 0 4) ((u6 1)) x0Gr a0Gr none, wEm kA q7 ((u8 0)) x0Em a0Em none, wNe kA (u8 0 1) ((u8 1)) x0Ne a0Ne, [(q9, .inl (kA 0, 24, .inl (fun _ => 0)))], [(q10, .inl (kA 1, 4000, .inl (fun _ => 0)))], [(q11, .inl (kA 1, 4000, .inl (fun _ => 0)))], [(q12, .inl (kA 0, 4096, .inl (fun _ => 0)))], wGr kA q13 u14 x0Gr a0Gr none, wFa kA q15 u16 x0Fa a0Fa, wNe kA q17 u18 x0Ne a0Ne, [(q19, .inr (0, [.null, .int 0, .null, .null, .null, .null, .null, .int 0, .int 0, .int 0, .null, .null, .null, .null, .null, .null, .null, .int 0, .int 0, .int 0, .int 0]))]]) H := hP
  have hD : va_D A (cat [[(h, .inr (12, [.ref q1, .ref q2, .ref q3, .ref q4, .ref q5, .ref q7, .ref q9, .int 0, .int ((-1)), .ref q10, .ref q11, .int 0, .int 0, .ref q12, .int 0, .int 0, .null, .null, .null, .null, .null]))], [(q1, .inl (kA 4, 4, .inr (.inr (.inr (.inr (va_up (fun _ => none) 0 (some q13)))))))], [(q2, .inl (kA 5, 4, .inr (.inr (.inr (.inr (va_up (fun _ => none) 0 (some q15)))))))], [(q3, .inl (kA 6, 4, .inr (.inr (.inr (.inr (va_up (fun _ => none) 0 (some q17)))))))], [(q4, .inl (kA 7, 4, .inr (.inr (.inr (.inr (fun _ => none))))))], wRe kA q5 ((u6 0)) x0Re a0Re, wGr kA (u6 0 4) ((u6 1)) x0Gr a0Gr none, wEm kA q7 ((u8 0)) x0Em a0Em none, wNe kA (u8 0 1) ((u8 1)) x0Ne a0Ne, [(q9, .inl (kA 0, 24, .inl (fun _ => 0)))], [(q10, .inl (kA 1, 4000, .inl (fun _ => 0)))], [(q11, .inl (kA 1, 4000, .inl (fun _ => 0)))], [(q12, .inl (kA 0, 4096, .inl (fun _ => 0)))], wGr kA q13 u14 x0Gr a0Gr none, wFa kA q15 u16 x0Fa a0Fa, wNe kA q17 u18 x0Ne a0Ne, [(q19, .inr (0, [.null, .int 0, .null, .null, .null, .null, .null, .int 0, .int 0, .int 0, .null, .null, .null, .null, .null, .null, .null, .int 0, .int 0, .int 0, .int 0]))]]) := hD
  refine W.widen (k := 86) (n := 21718) (by omega) (by omega) ?_
  refine lv_dup (pc := 202) hx hb d_Ho_init_202 rfl ?_
  refine lv_aload_n (pc := 203) hx hb d_Ho_init_203 rfl (lv_at hl 1 rfl) ?_
  refine k_get (pc := 204) X hK hP 0 rfl rfl i_Ho 0 (by decide) wm_555 rfl rfl d_Ho_init_204 ?_
  refine lv_iload_n (pc := 207) hx hb d_Ho_init_207 rfl (lv_at hl 0 rfl) ?_
  refine va_aldq (pc := 208) hx hb hK hP 1 4 rfl rfl (by unfold vp_in; decide) d_Ho_init_208 ?_
  refine W.eq (g2 := F0 m 209 ls [.ref q13, .ref q19, .ref q19, .int 0, .ref q4]) rfl ?_
  refine k_goV (gr := [[(h, .inr (12, [.ref q1, .ref q2, .ref q3, .ref q4, .ref q5, .ref q7, .ref q9, .int 0, .int ((-1)), .ref q10, .ref q11, .int 0, .int 0, .ref q12, .int 0, .int 0, .null, .null, .null, .null, .null]))], [(q1, .inl (kA 4, 4, .inr (.inr (.inr (.inr (va_up (fun _ => none) 0 (some q13)))))))], [(q2, .inl (kA 5, 4, .inr (.inr (.inr (.inr (va_up (fun _ => none) 0 (some q15)))))))], [(q3, .inl (kA 6, 4, .inr (.inr (.inr (.inr (va_up (fun _ => none) 0 (some q17)))))))], [(q4, .inl (kA 7, 4, .inr (.inr (.inr (.inr (fun _ => none))))))], wRe kA q5 ((u6 0)) x0Re a0Re, wGr kA (u6 0 4) ((u6 1)) x0Gr a0Gr none, wEm kA q7 ((u8 0)) x0Em a0Em none, wNe kA (u8 0 1) ((u8 1)) x0Ne a0Ne, [(q9, .inl (kA 0, 24, .inl (fun _ => 0)))], [(q10, .inl (kA 1, 4000, .inl (fun _ => 0)))], [(q11, .inl (kA 1, 4000, .inl (fun _ => 0)))], [(q12, .inl (kA 0, 4096, .inl (fun _ => 0)))], wGr kA q13 u14 x0Gr a0Gr none, wFa kA q15 u16 x0Fa a0Fa, wNe kA q17 u18 x0Ne a0Ne]) (k_rI (pc := 209) (As := [.ref q13]) (rest := [.ref q19, .int 0, .ref q4]) X (c_Dr_init l D kA q19 q13 H.size) rfl wm_463 wm_8 wm_461 wm_462 rfl 1 (by decide +kernel) ⟨Nat.le_of_ble_eq_true rfl, Nat.le_of_ble_eq_true rfl⟩ rfl rfl (k_pre hN hK hP hD [16] [0, 1, 2, 3, 4, 5, 6, 7, 8, 9, 10, 11, 12, 13, 14, 15] 17 rfl (by decide) rfl) rfl hl.1 rfl (Nat.le_of_ble_eq_true rfl) d_Ho_init_209 ⟨Nat.le_of_ble_eq_true rfl, Nat.le_of_ble_eq_true rfl⟩) hP hD hS hA [16] [0, 1, 2, 3, 4, 5, 6, 7, 8, 9, 10, 11, 12, 13, 14, 15] 17 rfl (by decide) rfl rfl (fun u20 H locs hu20 hP hD hS => ?_)
  have hP : va_P D classes (cat [[(h, .inr (12, [.ref q1, .ref q2, .ref q3, .ref q4, .ref q5, .ref q7, .ref q9, .int 0, .int ((-1)), .ref q10, .ref q11, .int 0, .int 0, .ref q12, .int 0, .int 0, .null, .null, .null, .null, .null]))], [(q1, .inl (kA 4, 4, .inr (.inr (.inr (.inr (va_up (fun _ => none) 0 (some q13)))))))], [(q2, .inl (kA 5, 4, .inr (.inr (.inr (.inr (va_up (fun _ => none) 0 (some q15)))))))], [(q3, .inl (kA 6, 4, .inr (.inr (.inr (.inr (va_up (fun _ => none) 0 (some q17)))))))], [(q4, .inl (kA 7, 4, .inr (.inr (.inr (.inr (fun _ => none))))))], wRe kA q5 ((u6 0)) x0Re a0Re, wGr kA (u6 0 4) ((u6 1)) x0Gr a0Gr none, wEm kA q7 ((u8 0)) x0Em a0Em none, wNe kA (u8 0 1) ((u8 1)) x0Ne a0Ne, [(q9, .inl (kA 0, 24, .inl (fun _ => 0)))], [(q10, .inl (kA 1, 4000, .inl (fun _ => 0)))], [(q11, .inl (kA 1, 4000, .inl (fun _ => 0)))], [(q12, .inl (kA 0, 4096, .inl (fun _ => 0)))], wGr kA q13 u14 x0Gr a0Gr none, wFa kA q15 u16 x0Fa a0Fa, wNe kA q17 u18 x0Ne a0Ne, wDr kA q19 u20 x0Dr a0Dr]) H := hP
  have hD : va_D A (cat [[(h, .inr (12, [.ref q1, .ref q2, .ref q3, .ref q4, .ref q5, .ref q7, .ref q9, .int 0, .int ((-1)), .ref q10, .ref q11, .int 0, .int 0, .ref q12, .int 0, .int 0, .null, .null, .null, .null, .null]))], [(q1, .inl (kA 4, 4, .inr (.inr (.inr (.inr (va_up (fun _ => none) 0 (some q13)))))))], [(q2, .inl (kA 5, 4, .inr (.inr (.inr (.inr (va_up (fun _ => none) 0 (some q15)))))))], [(q3, .inl (kA 6, 4, .inr (.inr (.inr (.inr (va_up (fun _ => none) 0 (some q17)))))))], [(q4, .inl (kA 7, 4, .inr (.inr (.inr (.inr (fun _ => none))))))], wRe kA q5 ((u6 0)) x0Re a0Re, wGr kA (u6 0 4) ((u6 1)) x0Gr a0Gr none, wEm kA q7 ((u8 0)) x0Em a0Em none, wNe kA (u8 0 1) ((u8 1)) x0Ne a0Ne, [(q9, .inl (kA 0, 24, .inl (fun _ => 0)))], [(q10, .inl (kA 1, 4000, .inl (fun _ => 0)))], [(q11, .inl (kA 1, 4000, .inl (fun _ => 0)))], [(q12, .inl (kA 0, 4096, .inl (fun _ => 0)))], wGr kA q13 u14 x0Gr a0Gr none, wFa kA q15 u16 x0Fa a0Fa, wNe kA q17 u18 x0Ne a0Ne, wDr kA q19 u20 x0Dr a0Dr]) := hD
  refine W.widen (k := 98) (n := 24654) (by omega) (by omega) ?_
  refine va_astq (pc := 212) hx hb hK hP hD hS 4 7 86 0 rfl rfl rfl rfl (by unfold vp_in; decide) d_Ho_init_212 (fun H locs hP hD hS => ?_)
  have hP : va_P D classes (cat [[(h, .inr (12, [.ref q1, .ref q2, .ref q3, .ref q4, .ref q5, .ref q7, .ref q9, .int 0, .int ((-1)), .ref q10, .ref q11, .int 0, .int 0, .ref q12, .int 0, .int 0, .null, .null, .null, .null, .null]))], [(q1, .inl (kA 4, 4, .inr (.inr (.inr (.inr (va_up (fun _ => none) 0 (some q13)))))))], [(q2, .inl (kA 5, 4, .inr (.inr (.inr (.inr (va_up (fun _ => none) 0 (some q15)))))))], [(q3, .inl (kA 6, 4, .inr (.inr (.inr (.inr (va_up (fun _ => none) 0 (some q17)))))))], [(q4, .inl (kA 7, 4, .inr (.inr (.inr (.inr (va_up (fun _ => none) 0 (some q19)))))))], wRe kA q5 ((u6 0)) x0Re a0Re, wGr kA (u6 0 4) ((u6 1)) x0Gr a0Gr none, wEm kA q7 ((u8 0)) x0Em a0Em none, wNe kA (u8 0 1) ((u8 1)) x0Ne a0Ne, [(q9, .inl (kA 0, 24, .inl (fun _ => 0)))], [(q10, .inl (kA 1, 4000, .inl (fun _ => 0)))], [(q11, .inl (kA 1, 4000, .inl (fun _ => 0)))], [(q12, .inl (kA 0, 4096, .inl (fun _ => 0)))], wGr kA q13 u14 x0Gr a0Gr none, wFa kA q15 u16 x0Fa a0Fa, wNe kA q17 u18 x0Ne a0Ne, wDr kA q19 u20 x0Dr a0Dr]) H := hP
  have hD : va_D A (cat [[(h, .inr (12, [.ref q1, .ref q2, .ref q3, .ref q4, .ref q5, .ref q7, .ref q9, .int 0, .int ((-1)), .ref q10, .ref q11, .int 0, .int 0, .ref q12, .int 0, .int 0, .null, .null, .null, .null, .null]))], [(q1, .inl (kA 4, 4, .inr (.inr (.inr (.inr (va_up (fun _ => none) 0 (some q13)))))))], [(q2, .inl (kA 5, 4, .inr (.inr (.inr (.inr (va_up (fun _ => none) 0 (some q15)))))))], [(q3, .inl (kA 6, 4, .inr (.inr (.inr (.inr (va_up (fun _ => none) 0 (some q17)))))))], [(q4, .inl (kA 7, 4, .inr (.inr (.inr (.inr (va_up (fun _ => none) 0 (some q19)))))))], wRe kA q5 ((u6 0)) x0Re a0Re, wGr kA (u6 0 4) ((u6 1)) x0Gr a0Gr none, wEm kA q7 ((u8 0)) x0Em a0Em none, wNe kA (u8 0 1) ((u8 1)) x0Ne a0Ne, [(q9, .inl (kA 0, 24, .inl (fun _ => 0)))], [(q10, .inl (kA 1, 4000, .inl (fun _ => 0)))], [(q11, .inl (kA 1, 4000, .inl (fun _ => 0)))], [(q12, .inl (kA 0, 4096, .inl (fun _ => 0)))], wGr kA q13 u14 x0Gr a0Gr none, wFa kA q15 u16 x0Fa a0Fa, wNe kA q17 u18 x0Ne a0Ne, wDr kA q19 u20 x0Dr a0Dr]) := hD
  refine lv_iinc (pc := 213) (v := 1) (lv' := [(1, .int 1), (0, .ref h)]) hx hb d_Ho_init_213 hl (k := 0) rfl (by decide) (by decide) rfl (fun ls hl => ?_)
  refine lv_goto (pc := 216) (tgt := 150) hx hb d_Ho_init_216 (by decide) ?_
  refine lv_iload_n (pc := 150) hx hb d_Ho_init_150 rfl (lv_at hl 0 rfl) ?_
  refine lv_iconst (pc := 151) (v := 4) hx hb d_Ho_init_151 (by decide) ?_
  refine lv_icmp_ge (pc := 152) (tgt := 219) hx hb d_Ho_init_152 (by decide) (fun c1 => absurd c1 (by decide)) (fun _ => ?_)
  refine lv_aload_n (pc := 155) hx hb d_Ho_init_155 rfl (lv_at hl 1 rfl) ?_
  refine k_get (pc := 156) X hK hP 0 rfl rfl i_Ho 0 (by decide) wm_555 rfl rfl d_Ho_init_156 ?_
  refine lv_iload_n (pc := 159) hx hb d_Ho_init_159 rfl (lv_at hl 0 rfl) ?_
  refine k_new (pc := 160) (fs := f0Gr) X i_Gr t_Gr t_Gr_ok wm_33 wm_48 wm_3 hK hP hD hS hA (ci := 3) rfl f0Gr_ok (Nat.le_of_ble_eq_true rfl) (Nat.le_of_ble_eq_true rfl) d_Ho_init_160 (fun q21 H hP hD hS => ?_)
  have hP : va_P D classes (cat [[(h, .inr (12, [.ref q1, .ref q2, .ref q3, .ref q4, .ref q5, .ref q7, .ref q9, .int 0, .int ((-1)), .ref q10, .ref q11, .int 0, .int 0, .ref q12, .int 0, .int 0, .null, .null, .null, .null, .null]))], [(q1, .inl (kA 4, 4, .inr (.inr (.inr (.inr (va_up (fun _ => none) 0 (some q13)))))))], [(q2, .inl (kA 5, 4, .inr (.inr (.inr (.inr (va_up (fun _ => none) 0 (some q15)))))))], [(q3, .inl (kA 6, 4, .inr (.inr (.inr (.inr (va_up (fun _ => none) 0 (some q17)))))))], [(q4, .inl (kA 7, 4, .inr (.inr (.inr (.inr (va_up (fun _ => none) 0 (some q19)))))))], wRe kA q5 ((u6 0)) x0Re a0Re, wGr kA (u6 0 4) ((u6 1)) x0Gr a0Gr none, wEm kA q7 ((u8 0)) x0Em a0Em none, wNe kA (u8 0 1) ((u8 1)) x0Ne a0Ne, [(q9, .inl (kA 0, 24, .inl (fun _ => 0)))], [(q10, .inl (kA 1, 4000, .inl (fun _ => 0)))], [(q11, .inl (kA 1, 4000, .inl (fun _ => 0)))], [(q12, .inl (kA 0, 4096, .inl (fun _ => 0)))], wGr kA q13 u14 x0Gr a0Gr none, wFa kA q15 u16 x0Fa a0Fa, wNe kA q17 u18 x0Ne a0Ne, wDr kA q19 u20 x0Dr a0Dr, [(q21, .inr (3, [.int 0, .int 0, .int 0, .null, .null, .null, .null, .null, .null, .null, .null, .null, .null, .null, .null, .null, .null, .int 0, .int 0]))]]) H := hP
  have hD : va_D A (cat [[(h, .inr (12, [.ref q1, .ref q2, .ref q3, .ref q4, .ref q5, .ref q7, .ref q9, .int 0, .int ((-1)), .ref q10, .ref q11, .int 0, .int 0, .ref q12, .int 0, .int 0, .null, .null, .null, .null, .null]))], [(q1, .inl (kA 4, 4, .inr (.inr (.inr (.inr (va_up (fun _ => none) 0 (some q13)))))))], [(q2, .inl (kA 5, 4, .inr (.inr (.inr (.inr (va_up (fun _ => none) 0 (some q15)))))))], [(q3, .inl (kA 6, 4, .inr (.inr (.inr (.inr (va_up (fun _ => none) 0 (some q17)))))))], [(q4, .inl (kA 7, 4, .inr (.inr (.inr (.inr (va_up (fun _ => none) 0 (some q19)))))))], wRe kA q5 ((u6 0)) x0Re a0Re, wGr kA (u6 0 4) ((u6 1)) x0Gr a0Gr none, wEm kA q7 ((u8 0)) x0Em a0Em none, wNe kA (u8 0 1) ((u8 1)) x0Ne a0Ne, [(q9, .inl (kA 0, 24, .inl (fun _ => 0)))], [(q10, .inl (kA 1, 4000, .inl (fun _ => 0)))], [(q11, .inl (kA 1, 4000, .inl (fun _ => 0)))], [(q12, .inl (kA 0, 4096, .inl (fun _ => 0)))], wGr kA q13 u14 x0Gr a0Gr none, wFa kA q15 u16 x0Fa a0Fa, wNe kA q17 u18 x0Ne a0Ne, wDr kA q19 u20 x0Dr a0Dr, [(q21, .inr (3, [.int 0, .int 0, .int 0, .null, .null, .null, .null, .null, .null, .null, .null, .null, .null, .null, .null, .null, .null, .int 0, .int 0]))]]) := hD
  refine W.widen (k := 99) (n := 24673) (by omega) (by omega) ?_
  refine lv_dup (pc := 163) hx hb d_Ho_init_163 rfl ?_
  refine k_goV (gr := [[(h, .inr (12, [.ref q1, .ref q2, .ref q3, .ref q4, .ref q5, .ref q7, .ref q9, .int 0, .int ((-1)), .ref q10, .ref q11, .int 0, .int 0, .ref q12, .int 0, .int 0, .null, .null, .null, .null, .null]))], [(q1, .inl (kA 4, 4, .inr (.inr (.inr (.inr (va_up (fun _ => none) 0 (some q13)))))))], [(q2, .inl (kA 5, 4, .inr (.inr (.inr (.inr (va_up (fun _ => none) 0 (some q15)))))))], [(q3, .inl (kA 6, 4, .inr (.inr (.inr (.inr (va_up (fun _ => none) 0 (some q17)))))))], [(q4, .inl (kA 7, 4, .inr (.inr (.inr (.inr (va_up (fun _ => none) 0 (some q19)))))))], wRe kA q5 ((u6 0)) x0Re a0Re, wGr kA (u6 0 4) ((u6 1)) x0Gr a0Gr none, wEm kA q7 ((u8 0)) x0Em a0Em none, wNe kA (u8 0 1) ((u8 1)) x0Ne a0Ne, [(q9, .inl (kA 0, 24, .inl (fun _ => 0)))], [(q10, .inl (kA 1, 4000, .inl (fun _ => 0)))], [(q11, .inl (kA 1, 4000, .inl (fun _ => 0)))], [(q12, .inl (kA 0, 4096, .inl (fun _ => 0)))], wGr kA q13 u14 x0Gr a0Gr none, wFa kA q15 u16 x0Fa a0Fa, wNe kA q17 u18 x0Ne a0Ne, wDr kA q19 u20 x0Dr a0Dr]) (k_rI (pc := 164) (As := []) (rest := [.ref q21, .int 1, .ref q1]) X (c_Gr_init l D kA q21 H.size) rfl wm_51 wm_3 wm_388 wm_50 rfl 0 (by decide +kernel) ⟨Nat.le_of_ble_eq_true rfl, Nat.le_of_ble_eq_true rfl⟩ rfl rfl (k_pre hN hK hP hD [17] [0, 1, 2, 3, 4, 5, 6, 7, 8, 9, 10, 11, 12, 13, 14, 15, 16] 18 rfl (by decide) rfl) rfl hl.1 rfl (Nat.le_of_ble_eq_true rfl) d_Ho_init_164 ⟨Nat.le_of_ble_eq_true rfl, Nat.le_of_ble_eq_true rfl⟩) hP hD hS hA [17] [0, 1, 2, 3, 4, 5, 6, 7, 8, 9, 10, 11, 12, 13, 14, 15, 16] 18 rfl (by decide) rfl rfl (fun u22 H locs hu22 hP hD hS => ?_)
  have hP : va_P D classes (cat [[(h, .inr (12, [.ref q1, .ref q2, .ref q3, .ref q4, .ref q5, .ref q7, .ref q9, .int 0, .int ((-1)), .ref q10, .ref q11, .int 0, .int 0, .ref q12, .int 0, .int 0, .null, .null, .null, .null, .null]))], [(q1, .inl (kA 4, 4, .inr (.inr (.inr (.inr (va_up (fun _ => none) 0 (some q13)))))))], [(q2, .inl (kA 5, 4, .inr (.inr (.inr (.inr (va_up (fun _ => none) 0 (some q15)))))))], [(q3, .inl (kA 6, 4, .inr (.inr (.inr (.inr (va_up (fun _ => none) 0 (some q17)))))))], [(q4, .inl (kA 7, 4, .inr (.inr (.inr (.inr (va_up (fun _ => none) 0 (some q19)))))))], wRe kA q5 ((u6 0)) x0Re a0Re, wGr kA (u6 0 4) ((u6 1)) x0Gr a0Gr none, wEm kA q7 ((u8 0)) x0Em a0Em none, wNe kA (u8 0 1) ((u8 1)) x0Ne a0Ne, [(q9, .inl (kA 0, 24, .inl (fun _ => 0)))], [(q10, .inl (kA 1, 4000, .inl (fun _ => 0)))], [(q11, .inl (kA 1, 4000, .inl (fun _ => 0)))], [(q12, .inl (kA 0, 4096, .inl (fun _ => 0)))], wGr kA q13 u14 x0Gr a0Gr none, wFa kA q15 u16 x0Fa a0Fa, wNe kA q17 u18 x0Ne a0Ne, wDr kA q19 u20 x0Dr a0Dr, wGr kA q21 u22 x0Gr a0Gr none]) H := hP
  have hD : va_D A (cat [[(h, .inr (12, [.ref q1, .ref q2, .ref q3, .ref q4, .ref q5, .ref q7, .ref q9, .int 0, .int ((-1)), .ref q10, .ref q11, .int 0, .int 0, .ref q12, .int 0, .int 0, .null, .null, .null, .null, .null]))], [(q1, .inl (kA 4, 4, .inr (.inr (.inr (.inr (va_up (fun _ => none) 0 (some q13)))))))], [(q2, .inl (kA 5, 4, .inr (.inr (.inr (.inr (va_up (fun _ => none) 0 (some q15)))))))], [(q3, .inl (kA 6, 4, .inr (.inr (.inr (.inr (va_up (fun _ => none) 0 (some q17)))))))], [(q4, .inl (kA 7, 4, .inr (.inr (.inr (.inr (va_up (fun _ => none) 0 (some q19)))))))], wRe kA q5 ((u6 0)) x0Re a0Re, wGr kA (u6 0 4) ((u6 1)) x0Gr a0Gr none, wEm kA q7 ((u8 0)) x0Em a0Em none, wNe kA (u8 0 1) ((u8 1)) x0Ne a0Ne, [(q9, .inl (kA 0, 24, .inl (fun _ => 0)))], [(q10, .inl (kA 1, 4000, .inl (fun _ => 0)))], [(q11, .inl (kA 1, 4000, .inl (fun _ => 0)))], [(q12, .inl (kA 0, 4096, .inl (fun _ => 0)))], wGr kA q13 u14 x0Gr a0Gr none, wFa kA q15 u16 x0Fa a0Fa, wNe kA q17 u18 x0Ne a0Ne, wDr kA q19 u20 x0Dr a0Dr, wGr kA q21 u22 x0Gr a0Gr none]) := hD
  refine W.widen (k := 112) (n := 25809) (by omega) (by omega) ?_
  refine va_astq (pc := 167) hx hb hK hP hD hS 1 4 99 3 rfl rfl rfl rfl (by unfold vp_in; decide) d_Ho_init_167 (fun H locs hP hD hS => ?_)
  have hP : va_P D classes (cat [[(h, .inr (12, [.ref q1, .ref q2, .ref q3, .ref q4, .ref q5, .ref q7, .ref q9, .int 0, .int ((-1)), .ref q10, .ref q11, .int 0, .int 0, .ref q12, .int 0, .int 0, .null, .null, .null, .null, .null]))], [(q1, .inl (kA 4, 4, .inr (.inr (.inr (.inr (va_up (va_up (fun _ => none) 0 (some q13)) 1 (some q21)))))))], [(q2, .inl (kA 5, 4, .inr (.inr (.inr (.inr (va_up (fun _ => none) 0 (some q15)))))))], [(q3, .inl (kA 6, 4, .inr (.inr (.inr (.inr (va_up (fun _ => none) 0 (some q17)))))))], [(q4, .inl (kA 7, 4, .inr (.inr (.inr (.inr (va_up (fun _ => none) 0 (some q19)))))))], wRe kA q5 ((u6 0)) x0Re a0Re, wGr kA (u6 0 4) ((u6 1)) x0Gr a0Gr none, wEm kA q7 ((u8 0)) x0Em a0Em none, wNe kA (u8 0 1) ((u8 1)) x0Ne a0Ne, [(q9, .inl (kA 0, 24, .inl (fun _ => 0)))], [(q10, .inl (kA 1, 4000, .inl (fun _ => 0)))], [(q11, .inl (kA 1, 4000, .inl (fun _ => 0)))], [(q12, .inl (kA 0, 4096, .inl (fun _ => 0)))], wGr kA q13 u14 x0Gr a0Gr none, wFa kA q15 u16 x0Fa a0Fa, wNe kA q17 u18 x0Ne a0Ne, wDr kA q19 u20 x0Dr a0Dr, wGr kA q21 u22 x0Gr a0Gr none]) H := hP
  have hD : va_D A (cat [[(h, .inr (12, [.ref q1, .ref q2, .ref q3, .ref q4, .ref q5, .ref q7, .ref q9, .int 0, .int ((-1)), .ref q10, .ref q11, .int 0, .int 0, .ref q12, .int 0, .int 0, .null, .null, .null, .null, .null]))], [(q1, .inl (kA 4, 4, .inr (.inr (.inr (.inr (va_up (va_up (fun _ => none) 0 (some q13)) 1 (some q21)))))))], [(q2, .inl (kA 5, 4, .inr (.inr (.inr (.inr (va_up (fun _ => none) 0 (some q15)))))))], [(q3, .inl (kA 6, 4, .inr (.inr (.inr (.inr (va_up (fun _ => none) 0 (some q17)))))))], [(q4, .inl (kA 7, 4, .inr (.inr (.inr (.inr (va_up (fun _ => none) 0 (some q19)))))))], wRe kA q5 ((u6 0)) x0Re a0Re, wGr kA (u6 0 4) ((u6 1)) x0Gr a0Gr none, wEm kA q7 ((u8 0)) x0Em a0Em none, wNe kA (u8 0 1) ((u8 1)) x0Ne a0Ne, [(q9, .inl (kA 0, 24, .inl (fun _ => 0)))], [(q10, .inl (kA 1, 4000, .inl (fun _ => 0)))], [(q11, .inl (kA 1, 4000, .inl (fun _ => 0)))], [(q12, .inl (kA 0, 4096, .inl (fun _ => 0)))], wGr kA q13 u14 x0Gr a0Gr none, wFa kA q15 u16 x0Fa a0Fa, wNe kA q17 u18 x0Ne a0Ne, wDr kA q19 u20 x0Dr a0Dr, wGr kA q21 u22 x0Gr a0Gr none]) := hD
  refine lv_aload_n (pc := 168) hx hb d_Ho_init_168 rfl (lv_at hl 1 rfl) ?_
  refine k_get (pc := 169) X hK hP 0 rfl rfl i_Ho 1 (by decide) wm_556 rfl rfl d_Ho_init_169 ?_
  refine lv_iload_n (pc := 172) hx hb d_Ho_init_172 rfl (lv_at hl 0 rfl) ?_
  refine k_new (pc := 173) (fs := f0Fa) X i_Fa t_Fa t_Fa_ok wm_35 wm_389 wm_7 hK hP hD hS hA (ci := 2) rfl f0Fa_ok (Nat.le_of_ble_eq_true rfl) (Nat.le_of_ble_eq_true rfl) d_Ho_init_173 (fun q23 H hP hD hS => ?_)
  have hP : va_P D classes (cat [[(h, .inr (12, [.ref q1, .ref q2, .ref q3, .ref q4, .ref q5, .ref q7, .ref q9, .int 0, .int ((-1)), .ref q10, .ref q11, .int 0, .int 0, .ref q12, .int 0, .int 0, .null, .null, .null, .null, .null]))], [(q1, .inl (kA 4, 4, .inr (.inr (.inr (.inr (va_up (va_up (fun _ => none) 0 (some q13)) 1 (some q21)))))))], [(q2, .inl (kA 5, 4, .inr (.inr (.inr (.inr (va_up (fun _ => none) 0 (some q15)))))))], [(q3, .inl (kA 6, 4, .inr (.inr (.inr (.inr (va_up (fun _ => none) 0 (some q17)))))))], [(q4, .inl (kA 7, 4, .inr (.inr (.inr (.inr (va_up (fun _ => none) 0 (some q19)))))))], wRe kA q5 ((u6 0)) x0Re a0Re, wGr kA (u6 0 4) ((u6 1)) x0Gr a0Gr none, wEm kA q7 ((u8 0)) x0Em a0Em none, wNe kA (u8 0 1) ((u8 1)) x0Ne a0Ne, [(q9, .inl (kA 0, 24, .inl (fun _ => 0)))], [(q10, .inl (kA 1, 4000, .inl (fun _ => 0)))], [(q11, .inl (kA 1, 4000, .inl (fun _ => 0)))], [(q12, .inl (kA 0, 4096, .inl (fun _ => 0)))], wGr kA q13 u14 x0Gr a0Gr none, wFa kA q15 u16 x0Fa a0Fa, wNe kA q17 u18 x0Ne a0Ne, wDr kA q19 u20 x0Dr a0Dr, wGr kA q21 u22 x0Gr a0Gr none, [(q23, .inr (2, [.int 0, .int 0, .int 0, .int 0, .null, .null, .null, .null, .null, .null, .null, .null, .null, .null, .null]))]]) H := hP
  have hD : va_D A (cat [[(h, .inr (12, [.ref q1, .ref q2, .ref q3, .ref q4, .ref q5, .ref q7, .ref q9, .int 0, .int ((-1)), .ref q10, .ref q11, .int 0, .int 0, .ref q12, .int 0, .int 0, .null, .null, .null, .null, .null]))], [(q1, .inl (kA 4, 4, .inr (.inr (.inr (.inr (va_up (va_up (fun _ => none) 0 (some q13)) 1 (some q21)))))))], [(q2, .inl (kA 5, 4, .inr (.inr (.inr (.inr (va_up (fun _ => none) 0 (some q15)))))))], [(q3, .inl (kA 6, 4, .inr (.inr (.inr (.inr (va_up (fun _ => none) 0 (some q17)))))))], [(q4, .inl (kA 7, 4, .inr (.inr (.inr (.inr (va_up (fun _ => none) 0 (some q19)))))))], wRe kA q5 ((u6 0)) x0Re a0Re, wGr kA (u6 0 4) ((u6 1)) x0Gr a0Gr none, wEm kA q7 ((u8 0)) x0Em a0Em none, wNe kA (u8 0 1) ((u8 1)) x0Ne a0Ne, [(q9, .inl (kA 0, 24, .inl (fun _ => 0)))], [(q10, .inl (kA 1, 4000, .inl (fun _ => 0)))], [(q11, .inl (kA 1, 4000, .inl (fun _ => 0)))], [(q12, .inl (kA 0, 4096, .inl (fun _ => 0)))], wGr kA q13 u14 x0Gr a0Gr none, wFa kA q15 u16 x0Fa a0Fa, wNe kA q17 u18 x0Ne a0Ne, wDr kA q19 u20 x0Dr a0Dr, wGr kA q21 u22 x0Gr a0Gr none, [(q23, .inr (2, [.int 0, .int 0, .int 0, .int 0, .null, .null, .null, .null, .null, .null, .null, .null, .null, .null, .null]))]]) := hD
  refine W.widen (k := 113) (n := 25824) (by omega) (by omega) ?_
  refine lv_dup (pc := 176) hx hb d_Ho_init_176 rfl ?_
  refine k_goV (gr := [[(h, .inr (12, [.ref q1, .ref q2, .ref q3, .ref q4, .ref q5, .ref q7, .ref q9, .int 0, .int ((-1)), .ref q10, .ref q11, .int 0, .int 0, .ref q12, .int 0, .int 0, .null, .null, .null, .null, .null]))], [(q1, .inl (kA 4, 4, .inr (.inr (.inr (.inr (va_up (va_up (fun _ => none) 0 (some q13)) 1 (some q21)))))))], [(q2, .inl (kA 5, 4, .inr (.inr (.inr (.inr (va_up (fun _ => none) 0 (some q15)))))))], [(q3, .inl (kA 6, 4, .inr (.inr (.inr (.inr (va_up (fun _ => none) 0 (some q17)))))))], [(q4, .inl (kA 7, 4, .inr (.inr (.inr (.inr (va_up (fun _ => none) 0 (some q19)))))))], wRe kA q5 ((u6 0)) x0Re a0Re, wGr kA (u6 0 4) ((u6 1)) x0Gr a0Gr none, wEm kA q7 ((u8 0)) x0Em a0Em none, wNe kA (u8 0 1) ((u8 1)) x0Ne a0Ne, [(q9, .inl (kA 0, 24, .inl (fun _ => 0)))], [(q10, .inl (kA 1, 4000, .inl (fun _ => 0)))], [(q11, .inl (kA 1, 4000, .inl (fun _ => 0)))], [(q12, .inl (kA 0, 4096, .inl (fun _ => 0)))], wGr kA q13 u14 x0Gr a0Gr none, wFa kA q15 u16 x0Fa a0Fa, wNe kA q17 u18 x0Ne a0Ne, wDr kA q19 u20 x0Dr a0Dr, wGr kA q21 u22 x0Gr a0Gr none]) (k_rIN (pc := 177) (As := []) (rest := [.ref q23, .int 1, .ref q2]) hN X (c_Fa_init l D kA q23 H.size) rfl wm_392 wm_7 wn_390 wm_391 rfl 0 (by decide +kernel) ⟨Nat.le_of_ble_eq_true rfl, Nat.le_of_ble_eq_true rfl⟩ rfl rfl (k_pre hN hK hP hD [18] [0, 1, 2, 3, 4, 5, 6, 7, 8, 9, 10, 11, 12, 13, 14, 15, 16, 17] 19 rfl (by decide) rfl) rfl hl.1 rfl (Nat.le_of_ble_eq_true rfl) d_Ho_init_177 ⟨Nat.le_of_ble_eq_true rfl, Nat.le_of_ble_eq_true rfl⟩) hP hD hS hA [18] [0, 1, 2, 3, 4, 5, 6, 7, 8, 9, 10, 11, 12, 13, 14, 15, 16, 17] 19 rfl (by decide) rfl rfl (fun u24 H locs hu24 hP hD hS => ?_)
  have hP : va_P D classes (cat [[(h, .inr (12, [.ref q1, .ref q2, .ref q3, .ref q4, .ref q5, .ref q7, .ref q9, .int 0, .int ((-1)), .ref q10, .ref q11, .int 0, .int 0, .ref q12, .int 0, .int 0, .null, .null, .null, .null, .null]))], [(q1, .inl (kA 4, 4, .inr (.inr (.inr (.inr (va_up (va_up (fun _ => none) 0 (some q13)) 1 (some q21)))))))], [(q2, .inl (kA 5, 4, .inr (.inr (.inr (.inr (va_up (fun _ => none) 0 (some q15)))))))], [(q3, .inl (kA 6, 4, .inr (.inr (.inr (.inr (va_up (fun _ => none) 0 (some q17)))))))], [(q4, .inl (kA 7, 4, .inr (.inr (.inr (.inr (va_up (fun _ => none) 0 (some q19)))))))], wRe kA q5 ((u6 0)) x0Re a0Re, wGr kA (u6 0 4) ((u6 1)) x0Gr a0Gr none, wEm kA q7 ((u8 0)) x0Em a0Em none, wNe kA (u8 0 1) ((u8 1)) x0Ne a0Ne, [(q9, .inl (kA 0, 24, .inl (fun _ => 0)))], [(q10, .inl (kA 1, 4000, .inl (fun _ => 0)))], [(q11, .inl (kA 1, 4000, .inl (fun _ => 0)))], [(q12, .inl (kA 0, 4096, .inl (fun _ => 0)))], wGr kA q13 u14 x0Gr a0Gr none, wFa kA q15 u16 x0Fa a0Fa, wNe kA q17 u18 x0Ne a0Ne, wDr kA q19 u20 x0Dr a0Dr, wGr kA q21 u22 x0Gr a0Gr none, wFa kA q23 u24 x0Fa a0Fa]) H := hP
  have hD : va_D A (cat [[(h, .inr (12, [.ref q1, .ref q2, .ref q3, .ref q4, .ref q5, .ref q7, .ref q9, .int 0, .int ((-1)), .ref q10, .ref q11, .int 0, .int 0, .ref q12, .int 0, .int 0, .null, .null, .null, .null, .null]))], [(q1, .inl (kA 4, 4, .inr (.inr (.inr (.inr (va_up (va_up (fun _ => none) 0 (some q13)) 1 (some q21)))))))], [(q2, .inl (kA 5, 4, .inr (.inr (.inr (.inr (va_up (fun _ => none) 0 (some q15)))))))], [(q3, .inl (kA 6, 4, .inr (.inr (.inr (.inr (va_up (fun _ => none) 0 (some q17)))))))], [(q4, .inl (kA 7, 4, .inr (.inr (.inr (.inr (va_up (fun _ => none) 0 (some q19)))))))], wRe kA q5 ((u6 0)) x0Re a0Re, wGr kA (u6 0 4) ((u6 1)) x0Gr a0Gr none, wEm kA q7 ((u8 0)) x0Em a0Em none, wNe kA (u8 0 1) ((u8 1)) x0Ne a0Ne, [(q9, .inl (kA 0, 24, .inl (fun _ => 0)))], [(q10, .inl (kA 1, 4000, .inl (fun _ => 0)))], [(q11, .inl (kA 1, 4000, .inl (fun _ => 0)))], [(q12, .inl (kA 0, 4096, .inl (fun _ => 0)))], wGr kA q13 u14 x0Gr a0Gr none, wFa kA q15 u16 x0Fa a0Fa, wNe kA q17 u18 x0Ne a0Ne, wDr kA q19 u20 x0Dr a0Dr, wGr kA q21 u22 x0Gr a0Gr none, wFa kA q23 u24 x0Fa a0Fa]) := hD
  refine W.widen (k := 124) (n := 26240) (by omega) (by omega) ?_
  refine va_astq (pc := 180) hx hb hK hP hD hS 2 5 113 2 rfl rfl rfl rfl (by unfold vp_in; decide) d_Ho_init_180 (fun H locs hP hD hS => ?_)
  have hP : va_P D classes (cat [[(h, .inr (12, [.ref q1, .ref q2, .ref q3, .ref q4, .ref q5, .ref q7, .ref q9, .int 0, .int ((-1)), .ref q10, .ref q11, .int 0, .int 0, .ref q12, .int 0, .int 0, .null, .null, .null, .null, .null]))], [(q1, .inl (kA 4, 4, .inr (.inr (.inr (.inr (va_up (va_up (fun _ => none) 0 (some q13)) 1 (some q21)))))))], [(q2, .inl (kA 5, 4, .inr (.inr (.inr (.inr (va_up (va_up (fun _ => none) 0 (some q15)) 1 (some q23)))))))], [(q3, .inl (kA 6, 4, .inr (.inr (.inr (.inr (va_up (fun _ => none) 0 (some q17)))))))], [(q4, .inl (kA 7, 4, .inr (.inr (.inr (.inr (va_up (fun _ => none) 0 (some q19)))))))], wRe kA q5 ((u6 0)) x0Re a0Re, wGr kA (u6 0 4) ((u6 1)) x0Gr a0Gr none, wEm kA q7 ((u8 0)) x0Em a0Em none, wNe kA (u8 0 1) ((u8 1)) x0Ne a0Ne, [(q9, .inl (kA 0, 24, .inl (fun _ => 0)))], [(q10, .inl (kA 1, 4000, .inl (fun _ => 0)))], [(q11, .inl (kA 1, 4000, .inl (fun _ => 0)))], [(q12, .inl (kA 0, 4096, .inl (fun _ => 0)))], wGr kA q13 u14 x0Gr a0Gr none, wFa kA q15 u16 x0Fa a0Fa, wNe kA q17 u18 x0Ne a0Ne, wDr kA q19 u20 x0Dr a0Dr, wGr kA q21 u22 x0Gr a0Gr none, wFa kA q23 u24 x0Fa a0Fa]) H := hP
  have hD : va_D A (cat [[(h, .inr (12, [.ref q1, .ref q2, .ref q3, .ref q4, .ref q5, .ref q7, .ref q9, .int 0, .int ((-1)), .ref q10, .ref q11, .int 0, .int 0, .ref q12, .int 0, .int 0, .null, .null, .null, .null, .null]))], [(q1, .inl (kA 4, 4, .inr (.inr (.inr (.inr (va_up (va_up (fun _ => none) 0 (some q13)) 1 (some q21)))))))], [(q2, .inl (kA 5, 4, .inr (.inr (.inr (.inr (va_up (va_up (fun _ => none) 0 (some q15)) 1 (some q23)))))))], [(q3, .inl (kA 6, 4, .inr (.inr (.inr (.inr (va_up (fun _ => none) 0 (some q17)))))))], [(q4, .inl (kA 7, 4, .inr (.inr (.inr (.inr (va_up (fun _ => none) 0 (some q19)))))))], wRe kA q5 ((u6 0)) x0Re a0Re, wGr kA (u6 0 4) ((u6 1)) x0Gr a0Gr none, wEm kA q7 ((u8 0)) x0Em a0Em none, wNe kA (u8 0 1) ((u8 1)) x0Ne a0Ne, [(q9, .inl (kA 0, 24, .inl (fun _ => 0)))], [(q10, .inl (kA 1, 4000, .inl (fun _ => 0)))], [(q11, .inl (kA 1, 4000, .inl (fun _ => 0)))], [(q12, .inl (kA 0, 4096, .inl (fun _ => 0)))], wGr kA q13 u14 x0Gr a0Gr none, wFa kA q15 u16 x0Fa a0Fa, wNe kA q17 u18 x0Ne a0Ne, wDr kA q19 u20 x0Dr a0Dr, wGr kA q21 u22 x0Gr a0Gr none, wFa kA q23 u24 x0Fa a0Fa]) := hD
  refine lv_aload_n (pc := 181) hx hb d_Ho_init_181 rfl (lv_at hl 1 rfl) ?_
  refine k_get (pc := 182) X hK hP 0 rfl rfl i_Ho 2 (by decide) wm_557 rfl rfl d_Ho_init_182 ?_
  refine lv_iload_n (pc := 185) hx hb d_Ho_init_185 rfl (lv_at hl 0 rfl) ?_
  refine k_new (pc := 186) (fs := f0Ne) X i_Ne t_Ne t_Ne_ok wm_37 wm_243 wm_6 hK hP hD hS hA (ci := 5) rfl f0Ne_ok (Nat.le_of_ble_eq_true rfl) (Nat.le_of_ble_eq_true rfl) d_Ho_init_186 (fun q25 H hP hD hS => ?_)
  have hP : va_P D classes (cat [[(h, .inr (12, [.ref q1, .ref q2, .ref q3, .ref q4, .ref q5, .ref q7, .ref q9, .int 0, .int ((-1)), .ref q10, .ref q11, .int 0, .int 0, .ref q12, .int 0, .int 0, .null, .null, .null, .null, .null]))], [(q1, .inl (kA 4, 4, .inr (.inr (.inr (.inr (va_up (va_up (fun _ => none) 0 (some q13)) 1 (some q21)))))))], [(q2, .inl (kA 5, 4, .inr (.inr (.inr (.inr (va_up (va_up (fun _ => none) 0 (some q15)) 1 (some q23)))))))], [(q3, .inl (kA 6, 4, .inr (.inr (.inr (.inr (va_up (fun _ => none) 0 (some q17)))))))], [(q4, .inl (kA 7, 4, .inr (.inr (.inr (.inr (va_up (fun _ => none) 0 (some q19)))))))], wRe kA q5 ((u6 0)) x0Re a0Re, wGr kA (u6 0 4) ((u6 1)) x0Gr a0Gr none, wEm kA q7 ((u8 0)) x0Em a0Em none, wNe kA (u8 0 1) ((u8 1)) x0Ne a0Ne, [(q9, .inl (kA 0, 24, .inl (fun _ => 0)))], [(q10, .inl (kA 1, 4000, .inl (fun _ => 0)))], [(q11, .inl (kA 1, 4000, .inl (fun _ => 0)))], [(q12, .inl (kA 0, 4096, .inl (fun _ => 0)))], wGr kA q13 u14 x0Gr a0Gr none, wFa kA q15 u16 x0Fa a0Fa, wNe kA q17 u18 x0Ne a0Ne, wDr kA q19 u20 x0Dr a0Dr, wGr kA q21 u22 x0Gr a0Gr none, wFa kA q23 u24 x0Fa a0Fa, [(q25, .inr (5, [.int 0, .int 0, .int 0, .int 0, .null, .int 0, .int 0, .null, .null, .null, .null, .null, .null, .int 0, .null, .null, .null]))]]) H := hP
  have hD : va_D A (cat [[(h, .inr (12, [.ref q1, .ref q2, .ref q3, .ref q4, .ref q5, .ref q7, .ref q9, .int 0, .int ((-1)), .ref q10, .ref q11, .int 0, .int 0, .ref q12, .int 0, .int 0, .null, .null, .null, .null, .null]))], [(q1, .inl (kA 4, 4, .inr (.inr (.inr (.inr (va_up (va_up (fun _ => none) 0 (some q13)) 1 (some q21)))))))], [(q2, .inl (kA 5, 4, .inr (.inr (.inr (.inr (va_up (va_up (fun _ => none) 0 (some q15)) 1 (some q23)))))))], [(q3, .inl (kA 6, 4, .inr (.inr (.inr (.inr (va_up (fun _ => none) 0 (some q17)))))))], [(q4, .inl (kA 7, 4, .inr (.inr (.inr (.inr (va_up (fun _ => none) 0 (some q19)))))))], wRe kA q5 ((u6 0)) x0Re a0Re, wGr kA (u6 0 4) ((u6 1)) x0Gr a0Gr none, wEm kA q7 ((u8 0)) x0Em a0Em none, wNe kA (u8 0 1) ((u8 1)) x0Ne a0Ne, [(q9, .inl (kA 0, 24, .inl (fun _ => 0)))], [(q10, .inl (kA 1, 4000, .inl (fun _ => 0)))], [(q11, .inl (kA 1, 4000, .inl (fun _ => 0)))], [(q12, .inl (kA 0, 4096, .inl (fun _ => 0)))], wGr kA q13 u14 x0Gr a0Gr none, wFa kA q15 u16 x0Fa a0Fa, wNe kA q17 u18 x0Ne a0Ne, wDr kA q19 u20 x0Dr a0Dr, wGr kA q21 u22 x0Gr a0Gr none, wFa kA q23 u24 x0Fa a0Fa, [(q25, .inr (5, [.int 0, .int 0, .int 0, .int 0, .null, .int 0, .int 0, .null, .null, .null, .null, .null, .null, .int 0, .null, .null, .null]))]]) := hD
  refine W.widen (k := 125) (n := 26257) (by omega) (by omega) ?_
  refine lv_dup (pc := 189) hx hb d_Ho_init_189 rfl ?_
  refine k_goV (gr := [[(h, .inr (12, [.ref q1, .ref q2, .ref q3, .ref q4, .ref q5, .ref q7, .ref q9, .int 0, .int ((-1)), .ref q10, .ref q11, .int 0, .int 0, .ref q12, .int 0, .int 0, .null, .null, .null, .null, .null]))], [(q1, .inl (kA 4, 4, .inr (.inr (.inr (.inr (va_up (va_up (fun _ => none) 0 (some q13)) 1 (some q21)))))))], [(q2, .inl (kA 5, 4, .inr (.inr (.inr (.inr (va_up (va_up (fun _ => none) 0 (some q15)) 1 (some q23)))))))], [(q3, .inl (kA 6, 4, .inr (.inr (.inr (.inr (va_up (fun _ => none) 0 (some q17)))))))], [(q4, .inl (kA 7, 4, .inr (.inr (.inr (.inr (va_up (fun _ => none) 0 (some q19)))))))], wRe kA q5 ((u6 0)) x0Re a0Re, wGr kA (u6 0 4) ((u6 1)) x0Gr a0Gr none, wEm kA q7 ((u8 0)) x0Em a0Em none, wNe kA (u8 0 1) ((u8 1)) x0Ne a0Ne, [(q9, .inl (kA 0, 24, .inl (fun _ => 0)))], [(q10, .inl (kA 1, 4000, .inl (fun _ => 0)))], [(q11, .inl (kA 1, 4000, .inl (fun _ => 0)))], [(q12, .inl (kA 0, 4096, .inl (fun _ => 0)))], wGr kA q13 u14 x0Gr a0Gr none, wFa kA q15 u16 x0Fa a0Fa, wNe kA q17 u18 x0Ne a0Ne, wDr kA q19 u20 x0Dr a0Dr, wGr kA q21 u22 x0Gr a0Gr none, wFa kA q23 u24 x0Fa a0Fa]) (k_rIN (pc := 190) (As := []) (rest := [.ref q25, .int 1, .ref q3]) hN X (c_Ne_init l D kA q25 H.size) rfl wm_246 wm_6 wn_459 wm_245 rfl 0 (by decide +kernel) ⟨Nat.le_of_ble_eq_true rfl, Nat.le_of_ble_eq_true rfl⟩ rfl rfl (k_pre hN hK hP hD [19] [0, 1, 2, 3, 4, 5, 6, 7, 8, 9, 10, 11, 12, 13, 14, 15, 16, 17, 18] 20 rfl (by decide) rfl) rfl hl.1 rfl (Nat.le_of_ble_eq_true rfl) d_Ho_init_190 ⟨Nat.le_of_ble_eq_true rfl, Nat.le_of_ble_eq_true rfl⟩) hP hD hS hA [19] [0, 1, 2, 3, 4, 5, 6, 7, 8, 9, 10, 11, 12, 13, 14, 15, 16, 17, 18] 20 rfl (by decide) rfl rfl (fun u26 H locs hu26 hP hD hS => ?_)
  have hP : va_P D classes (cat [[(h, .inr (12, [.ref q1, .ref q2, .ref q3, .ref q4, .ref q5, .ref q7, .ref q9, .int 0, .int ((-1)), .ref q10, .ref q11, .int 0, .int 0, .ref q12, .int 0, .int 0, .null, .null, .null, .null, .null]))], [(q1, .inl (kA 4, 4, .inr (.inr (.inr (.inr (va_up (va_up (fun _ => none) 0 (some q13)) 1 (some q21)))))))], [(q2, .inl (kA 5, 4, .inr (.inr (.inr (.inr (va_up (va_up (fun _ => none) 0 (some q15)) 1 (some q23)))))))], [(q3, .inl (kA 6, 4, .inr (.inr (.inr (.inr (va_up (fun _ => none) 0 (some q17)))))))], [(q4, .inl (kA 7, 4, .inr (.inr (.inr (.inr (va_up (fun _ => none) 0 (some q19)))))))], wRe kA q5 ((u6 0)) x0Re a0Re, wGr kA (u6 0 4) ((u6 1)) x0Gr a0Gr none, wEm kA q7 ((u8 0)) x0Em a0Em none, wNe kA (u8 0 1) ((u8 1)) x0Ne a0Ne, [(q9, .inl (kA 0, 24, .inl (fun _ => 0)))], [(q10, .inl (kA 1, 4000, .inl (fun _ => 0)))], [(q11, .inl (kA 1, 4000, .inl (fun _ => 0)))], [(q12, .inl (kA 0, 4096, .inl (fun _ => 0)))], wGr kA q13 u14 x0Gr a0Gr none, wFa kA q15 u16 x0Fa a0Fa, wNe kA q17 u18 x0Ne a0Ne, wDr kA q19 u20 x0Dr a0Dr, wGr kA q21 u22 x0Gr a0Gr none, wFa kA q23 u24 x0Fa a0Fa, wNe kA q25 u26 x0Ne a0Ne]) H := hP
  have hD : va_D A (cat [[(h, .inr (12, [.ref q1, .ref q2, .ref q3, .ref q4, .ref q5, .ref q7, .ref q9, .int 0, .int ((-1)), .ref q10, .ref q11, .int 0, .int 0, .ref q12, .int 0, .int 0, .null, .null, .null, .null, .null]))], [(q1, .inl (kA 4, 4, .inr (.inr (.inr (.inr (va_up (va_up (fun _ => none) 0 (some q13)) 1 (some q21)))))))], [(q2, .inl (kA 5, 4, .inr (.inr (.inr (.inr (va_up (va_up (fun _ => none) 0 (some q15)) 1 (some q23)))))))], [(q3, .inl (kA 6, 4, .inr (.inr (.inr (.inr (va_up (fun _ => none) 0 (some q17)))))))], [(q4, .inl (kA 7, 4, .inr (.inr (.inr (.inr (va_up (fun _ => none) 0 (some q19)))))))], wRe kA q5 ((u6 0)) x0Re a0Re, wGr kA (u6 0 4) ((u6 1)) x0Gr a0Gr none, wEm kA q7 ((u8 0)) x0Em a0Em none, wNe kA (u8 0 1) ((u8 1)) x0Ne a0Ne, [(q9, .inl (kA 0, 24, .inl (fun _ => 0)))], [(q10, .inl (kA 1, 4000, .inl (fun _ => 0)))], [(q11, .inl (kA 1, 4000, .inl (fun _ => 0)))], [(q12, .inl (kA 0, 4096, .inl (fun _ => 0)))], wGr kA q13 u14 x0Gr a0Gr none, wFa kA q15 u16 x0Fa a0Fa, wNe kA q17 u18 x0Ne a0Ne, wDr kA q19 u20 x0Dr a0Dr, wGr kA q21 u22 x0Gr a0Gr none, wFa kA q23 u24 x0Fa a0Fa, wNe kA q25 u26 x0Ne a0Ne]) := hD
  refine W.widen (k := 135) (n := 27701) (by omega) (by omega) ?_
  refine va_astq (pc := 193) hx hb hK hP hD hS 3 6 125 5 rfl rfl rfl rfl (by unfold vp_in; decide) d_Ho_init_193 (fun H locs hP hD hS => ?_)
  have hP : va_P D classes (cat [[(h, .inr (12, [.ref q1, .ref q2, .ref q3, .ref q4, .ref q5, .ref q7, .ref q9, .int 0, .int ((-1)), .ref q10, .ref q11, .int 0, .int 0, .ref q12, .int 0, .int 0, .null, .null, .null, .null, .null]))], [(q1, .inl (kA 4, 4, .inr (.inr (.inr (.inr (va_up (va_up (fun _ => none) 0 (some q13)) 1 (some q21)))))))], [(q2, .inl (kA 5, 4, .inr (.inr (.inr (.inr (va_up (va_up (fun _ => none) 0 (some q15)) 1 (some q23)))))))], [(q3, .inl (kA 6, 4, .inr (.inr (.inr (.inr (va_up (va_up (fun _ => none) 0 (some q17)) 1 (some q25)))))))], [(q4, .inl (kA 7, 4, .inr (.inr (.inr (.inr (va_up (fun _ => none) 0 (some q19)))))))], wRe kA q5 ((u6 0)) x0Re a0Re, wGr kA (u6 0 4) ((u6 1)) x0Gr a0Gr none, wEm kA q7 ((u8 0)) x0Em a0Em none, wNe kA (u8 0 1) ((u8 1)) x0Ne a0Ne, [(q9, .inl (kA 0, 24, .inl (fun _ => 0)))], [(q10, .inl (kA 1, 4000, .inl (fun _ => 0)))], [(q11, .inl (kA 1, 4000, .inl (fun _ => 0)))], [(q12, .inl (kA 0, 4096, .inl (fun _ => 0)))], wGr kA q13 u14 x0Gr a0Gr none, wFa kA q15 u16 x0Fa a0Fa, wNe kA q17 u18 x0Ne a0Ne, wDr kA q19 u20 x0Dr a0Dr, wGr kA q21 u22 x0Gr a0Gr none, wFa kA q23 u24 x0Fa a0Fa, wNe kA q25 u26 x0Ne a0Ne]) H := hP
  have hD : va_D A (cat [[(h, .inr (12, [.ref q1, .ref q2, .ref q3, .ref q4, .ref q5, .ref q7, .ref q9, .int 0, .int ((-1)), .ref q10, .ref q11, .int 0, .int 0, .ref q12, .int 0, .int 0, .null, .null, .null, .null, .null]))], [(q1, .inl (kA 4, 4, .inr (.inr (.inr (.inr (va_up (va_up (fun _ => none) 0 (some q13)) 1 (some q21)))))))], [(q2, .inl (kA 5, 4, .inr (.inr (.inr (.inr (va_up (va_up (fun _ => none) 0 (some q15)) 1 (some q23)))))))], [(q3, .inl (kA 6, 4, .inr (.inr (.inr (.inr (va_up (va_up (fun _ => none) 0 (some q17)) 1 (some q25)))))))], [(q4, .inl (kA 7, 4, .inr (.inr (.inr (.inr (va_up (fun _ => none) 0 (some q19)))))))], wRe kA q5 ((u6 0)) x0Re a0Re, wGr kA (u6 0 4) ((u6 1)) x0Gr a0Gr none, wEm kA q7 ((u8 0)) x0Em a0Em none, wNe kA (u8 0 1) ((u8 1)) x0Ne a0Ne, [(q9, .inl (kA 0, 24, .inl (fun _ => 0)))], [(q10, .inl (kA 1, 4000, .inl (fun _ => 0)))], [(q11, .inl (kA 1, 4000, .inl (fun _ => 0)))], [(q12, .inl (kA 0, 4096, .inl (fun _ => 0)))], wGr kA q13 u14 x0Gr a0Gr none, wFa kA q15 u16 x0Fa a0Fa, wNe kA q17 u18 x0Ne a0Ne, wDr kA q19 u20 x0Dr a0Dr, wGr kA q21 u22 x0Gr a0Gr none, wFa kA q23 u24 x0Fa a0Fa, wNe kA q25 u26 x0Ne a0Ne]) := hD
  refine lv_aload_n (pc := 194) hx hb d_Ho_init_194 rfl (lv_at hl 1 rfl) ?_
  refine k_get (pc := 195) X hK hP 0 rfl rfl i_Ho 3 (by decide) wm_558 rfl rfl d_Ho_init_195 ?_
  refine lv_iload_n (pc := 198) hx hb d_Ho_init_198 rfl (lv_at hl 0 rfl) ?_
  refine k_new (pc := 199) (fs := f0Dr) X i_Dr t_Dr t_Dr_ok wm_39 wm_460 wm_8 hK hP hD hS hA (ci := 0) rfl f0Dr_ok (Nat.le_of_ble_eq_true rfl) (Nat.le_of_ble_eq_true rfl) d_Ho_init_199 (fun q27 H hP hD hS => ?_)
  have hP : va_P D classes (cat [[(h, .inr (12, [.ref q1, .ref q2, .ref q3, .ref q4, .ref q5, .ref q7, .ref q9, .int 0, .int ((-1)), .ref q10, .ref q11, .int 0, .int 0, .ref q12, .int 0, .int 0, .null, .null, .null, .null, .null]))], [(q1, .inl (kA 4, 4, .inr (.inr (.inr (.inr (va_up (va_up (fun _ => none) 0 (some q13)) 1 (some q21)))))))], [(q2, .inl (kA 5, 4, .inr (.inr (.inr (.inr (va_up (va_up (fun _ => none) 0 (some q15)) 1 (some q23)))))))], [(q3, .inl (kA 6, 4, .inr (.inr (.inr (.inr (va_up (va_up (fun _ => none) 0 (some q17)) 1 (some q25)))))))], [(q4, .inl (kA 7, 4, .inr (.inr (.inr (.inr (va_up (fun _ => none) 0 (some q19)))))))], wRe kA q5 ((u6 0)) x0Re a0Re, wGr kA (u6 0 4) ((u6 1)) x0Gr a0Gr none, wEm kA q7 ((u8 0)) x0Em a0Em none, wNe kA (u8 0 1) ((u8 1)) x0Ne a0Ne, [(q9, .inl (kA 0, 24, .inl (fun _ => 0)))], [(q10, .inl (kA 1, 4000, .inl (fun _ => 0)))], [(q11, .inl (kA 1, 4000, .inl (fun _ => 0)))], [(q12, .inl (kA 0, 4096, .inl (fun _ => 0)))], wGr kA q13 u14 x0Gr a0Gr none, wFa kA q15 u16 x0Fa a0Fa, wNe kA q17 u18 x0Ne a0Ne, wDr kA q19 u20 x0Dr a0Dr, wGr kA q21 u22 x0Gr a0Gr none, wFa kA q23 u24 x0Fa a0Fa, wNe kA q25 u26 x0Ne a0Ne, [(q27, .inr (0, [.null, .int 0, .null, .null, .null, .null, .null, .int 0, .int 0, .int 0, .null, .null, .null, .null, .null, .null, .null, .int 0, .int 0, .int 0, .int 0]))]]) H := hP
  have hD : va_D A (cat [[(h, .inr (12, [.ref q1, .ref q2, .ref q3, .ref q4, .ref q5, .ref q7, .ref q9, .int 0, .int ((-1)), .ref q10, .ref q11, .int 0, .int 0, .ref q12, .int 0, .int 0, .null, .null, .null, .null, .null]))], [(q1, .inl (kA 4, 4, .inr (.inr (.inr (.inr (va_up (va_up (fun _ => none) 0 (some q13)) 1 (some q21)))))))], [(q2, .inl (kA 5, 4, .inr (.inr (.inr (.inr (va_up (va_up (fun _ => none) 0 (some q15)) 1 (some q23)))))))], [(q3, .inl (kA 6, 4, .inr (.inr (.inr (.inr (va_up (va_up (fun _ => none) 0 (some q17)) 1 (some q25)))))))], [(q4, .inl (kA 7, 4, .inr (.inr (.inr (.inr (va_up (fun _ => none) 0 (some q19)))))))], wRe kA q5 ((u6 0)) x0Re a0Re, wGr kA (u6 0 4) ((u6 1)) x0Gr a0Gr none, wEm kA q7 ((u8 0)) x0Em a0Em none, wNe kA (u8 0 1) ((u8 1)) x0Ne a0Ne, [(q9, .inl (kA 0, 24, .inl (fun _ => 0)))], [(q10, .inl (kA 1, 4000, .inl (fun _ => 0)))], [(q11, .inl (kA 1, 4000, .inl (fun _ => 0)))], [(q12, .inl (kA 0, 4096, .inl (fun _ => 0)))], wGr kA q13 u14 x0Gr a0Gr none, wFa kA q15 u16 x0Fa a0Fa, wNe kA q17 u18 x0Ne a0Ne, wDr kA q19 u20 x0Dr a0Dr, wGr kA q21 u22 x0Gr a0Gr none, wFa kA q23 u24 x0Fa a0Fa, wNe kA q25 u26 x0Ne a0Ne, [(q27, .inr (0, [.null, .int 0, .null, .null, .null, .null, .null, .int 0, .int 0, .int 0, .null, .null, .null, .null, .null, .null, .null, .int 0, .int 0, .int 0, .int 0]))]]) := hD
  refine W.widen (k := 136) (n := 27722) (by omega) (by omega) ?_
  refine lv_dup (pc := 202) hx hb d_Ho_init_202 rfl ?_
  refine lv_aload_n (pc := 203) hx hb d_Ho_init_203 rfl (lv_at hl 1 rfl) ?_
  refine k_get (pc := 204) X hK hP 0 rfl rfl i_Ho 0 (by decide) wm_555 rfl rfl d_Ho_init_204 ?_
  refine lv_iload_n (pc := 207) hx hb d_Ho_init_207 rfl (lv_at hl 0 rfl) ?_
  refine va_aldq (pc := 208) hx hb hK hP 1 4 rfl rfl (by unfold vp_in; decide) d_Ho_init_208 ?_
  refine W.eq (g2 := F0 m 209 ls [.ref q21, .ref q27, .ref q27, .int 1, .ref q4]) rfl ?_
  refine k_goV (gr := [[(h, .inr (12, [.ref q1, .ref q2, .ref q3, .ref q4, .ref q5, .ref q7, .ref q9, .int 0, .int ((-1)), .ref q10, .ref q11, .int 0, .int 0, .ref q12, .int 0, .int 0, .null, .null, .null, .null, .null]))], [(q1, .inl (kA 4, 4, .inr (.inr (.inr (.inr (va_up (va_up (fun _ => none) 0 (some q13)) 1 (some q21)))))))], [(q2, .inl (kA 5, 4, .inr (.inr (.inr (.inr (va_up (va_up (fun _ => none) 0 (some q15)) 1 (some q23)))))))], [(q3, .inl (kA 6, 4, .inr (.inr (.inr (.inr (va_up (va_up (fun _ => none) 0 (some q17)) 1 (some q25)))))))], [(q4, .inl (kA 7, 4, .inr (.inr (.inr (.inr (va_up (fun _ => none) 0 (some q19)))))))], wRe kA q5 ((u6 0)) x0Re a0Re, wGr kA (u6 0 4) ((u6 1)) x0Gr a0Gr none, wEm kA q7 ((u8 0)) x0Em a0Em none, wNe kA (u8 0 1) ((u8 1)) x0Ne a0Ne, [(q9, .inl (kA 0, 24, .inl (fun _ => 0)))], [(q10, .inl (kA 1, 4000, .inl (fun _ => 0)))], [(q11, .inl (kA 1, 4000, .inl (fun _ => 0)))], [(q12, .inl (kA 0, 4096, .inl (fun _ => 0)))], wGr kA q13 u14 x0Gr a0Gr none, wFa kA q15 u16 x0Fa a0Fa, wNe kA q17 u18 x0Ne a0Ne, wDr kA q19 u20 x0Dr a0Dr, wGr kA q21 u22 x0Gr a0Gr none, wFa kA q23 u24 x0Fa a0Fa, wNe kA q25 u26 x0Ne a0Ne]) (k_rI (pc := 209) (As := [.ref q21]) (rest := [.ref q27, .int 1, .ref q4]) X (c_Dr_init l D kA q27 q21 H.size) rfl wm_463 wm_8 wm_461 wm_462 rfl 1 (by decide +kernel) ⟨Nat.le_of_ble_eq_true rfl, Nat.le_of_ble_eq_true rfl⟩ rfl rfl (k_pre hN hK hP hD [20] [0, 1, 2, 3, 4, 5, 6, 7, 8, 9, 10, 11, 12, 13, 14, 15, 16, 17, 18, 19] 21 rfl (by decide) rfl) rfl hl.1 rfl (Nat.le_of_ble_eq_true rfl) d_Ho_init_209 ⟨Nat.le_of_ble_eq_true rfl, Nat.le_of_ble_eq_true rfl⟩) hP hD hS hA [20] [0, 1, 2, 3, 4, 5, 6, 7, 8, 9, 10, 11, 12, 13, 14, 15, 16, 17, 18, 19] 21 rfl (by decide) rfl rfl (fun u28 H locs hu28 hP hD hS => ?_)
  have hP : va_P D classes (cat [[(h, .inr (12, [.ref q1, .ref q2, .ref q3, .ref q4, .ref q5, .ref q7, .ref q9, .int 0, .int ((-1)), .ref q10, .ref q11, .int 0, .int 0, .ref q12, .int 0, .int 0, .null, .null, .null, .null, .null]))], [(q1, .inl (kA 4, 4, .inr (.inr (.inr (.inr (va_up (va_up (fun _ => none) 0 (some q13)) 1 (some q21)))))))], [(q2, .inl (kA 5, 4, .inr (.inr (.inr (.inr (va_up (va_up (fun _ => none) 0 (some q15)) 1 (some q23)))))))], [(q3, .inl (kA 6, 4, .inr (.inr (.inr (.inr (va_up (va_up (fun _ => none) 0 (some q17)) 1 (some q25)))))))], [(q4, .inl (kA 7, 4, .inr (.inr (.inr (.inr (va_up (fun _ => none) 0 (some q19)))))))], wRe kA q5 ((u6 0)) x0Re a0Re, wGr kA (u6 0 4) ((u6 1)) x0Gr a0Gr none, wEm kA q7 ((u8 0)) x0Em a0Em none, wNe kA (u8 0 1) ((u8 1)) x0Ne a0Ne, [(q9, .inl (kA 0, 24, .inl (fun _ => 0)))], [(q10, .inl (kA 1, 4000, .inl (fun _ => 0)))], [(q11, .inl (kA 1, 4000, .inl (fun _ => 0)))], [(q12, .inl (kA 0, 4096, .inl (fun _ => 0)))], wGr kA q13 u14 x0Gr a0Gr none, wFa kA q15 u16 x0Fa a0Fa, wNe kA q17 u18 x0Ne a0Ne, wDr kA q19 u20 x0Dr a0Dr, wGr kA q21 u22 x0Gr a0Gr none, wFa kA q23 u24 x0Fa a0Fa, wNe kA q25 u26 x0Ne a0Ne, wDr kA q27 u28 x0Dr a0Dr]) H := hP
  have hD : va_D A (cat [[(h, .inr (12, [.ref q1, .ref q2, .ref q3, .ref q4, .ref q5, .ref q7, .ref q9, .int 0, .int ((-1)), .ref q10, .ref q11, .int 0, .int 0, .ref q12, .int 0, .int 0, .null, .null, .null, .null, .null]))], [(q1, .inl (kA 4, 4, .inr (.inr (.inr (.inr (va_up (va_up (fun _ => none) 0 (some q13)) 1 (some q21)))))))], [(q2, .inl (kA 5, 4, .inr (.inr (.inr (.inr (va_up (va_up (fun _ => none) 0 (some q15)) 1 (some q23)))))))], [(q3, .inl (kA 6, 4, .inr (.inr (.inr (.inr (va_up (va_up (fun _ => none) 0 (some q17)) 1 (some q25)))))))], [(q4, .inl (kA 7, 4, .inr (.inr (.inr (.inr (va_up (fun _ => none) 0 (some q19)))))))], wRe kA q5 ((u6 0)) x0Re a0Re, wGr kA (u6 0 4) ((u6 1)) x0Gr a0Gr none, wEm kA q7 ((u8 0)) x0Em a0Em none, wNe kA (u8 0 1) ((u8 1)) x0Ne a0Ne, [(q9, .inl (kA 0, 24, .inl (fun _ => 0)))], [(q10, .inl (kA 1, 4000, .inl (fun _ => 0)))], [(q11, .inl (kA 1, 4000, .inl (fun _ => 0)))], [(q12, .inl (kA 0, 4096, .inl (fun _ => 0)))], wGr kA q13 u14 x0Gr a0Gr none, wFa kA q15 u16 x0Fa a0Fa, wNe kA q17 u18 x0Ne a0Ne, wDr kA q19 u20 x0Dr a0Dr, wGr kA q21 u22 x0Gr a0Gr none, wFa kA q23 u24 x0Fa a0Fa, wNe kA q25 u26 x0Ne a0Ne, wDr kA q27 u28 x0Dr a0Dr]) := hD
  refine W.widen (k := 148) (n := 30658) (by omega) (by omega) ?_
  refine va_astq (pc := 212) hx hb hK hP hD hS 4 7 136 0 rfl rfl rfl rfl (by unfold vp_in; decide) d_Ho_init_212 (fun H locs hP hD hS => ?_)
  have hP : va_P D classes (cat [[(h, .inr (12, [.ref q1, .ref q2, .ref q3, .ref q4, .ref q5, .ref q7, .ref q9, .int 0, .int ((-1)), .ref q10, .ref q11, .int 0, .int 0, .ref q12, .int 0, .int 0, .null, .null, .null, .null, .null]))], [(q1, .inl (kA 4, 4, .inr (.inr (.inr (.inr (va_up (va_up (fun _ => none) 0 (some q13)) 1 (some q21)))))))], [(q2, .inl (kA 5, 4, .inr (.inr (.inr (.inr (va_up (va_up (fun _ => none) 0 (some q15)) 1 (some q23)))))))], [(q3, .inl (kA 6, 4, .inr (.inr (.inr (.inr (va_up (va_up (fun _ => none) 0 (some q17)) 1 (some q25)))))))], [(q4, .inl (kA 7, 4, .inr (.inr (.inr (.inr (va_up (va_up (fun _ => none) 0 (some q19)) 1 (some q27)))))))], wRe kA q5 ((u6 0)) x0Re a0Re, wGr kA (u6 0 4) ((u6 1)) x0Gr a0Gr none, wEm kA q7 ((u8 0)) x0Em a0Em none, wNe kA (u8 0 1) ((u8 1)) x0Ne a0Ne, [(q9, .inl (kA 0, 24, .inl (fun _ => 0)))], [(q10, .inl (kA 1, 4000, .inl (fun _ => 0)))], [(q11, .inl (kA 1, 4000, .inl (fun _ => 0)))], [(q12, .inl (kA 0, 4096, .inl (fun _ => 0)))], wGr kA q13 u14 x0Gr a0Gr none, wFa kA q15 u16 x0Fa a0Fa, wNe kA q17 u18 x0Ne a0Ne, wDr kA q19 u20 x0Dr a0Dr, wGr kA q21 u22 x0Gr a0Gr none, wFa kA q23 u24 x0Fa a0Fa, wNe kA q25 u26 x0Ne a0Ne, wDr kA q27 u28 x0Dr a0Dr]) H := hP
  have hD : va_D A (cat [[(h, .inr (12, [.ref q1, .ref q2, .ref q3, .ref q4, .ref q5, .ref q7, .ref q9, .int 0, .int ((-1)), .ref q10, .ref q11, .int 0, .int 0, .ref q12, .int 0, .int 0, .null, .null, .null, .null, .null]))], [(q1, .inl (kA 4, 4, .inr (.inr (.inr (.inr (va_up (va_up (fun _ => none) 0 (some q13)) 1 (some q21)))))))], [(q2, .inl (kA 5, 4, .inr (.inr (.inr (.inr (va_up (va_up (fun _ => none) 0 (some q15)) 1 (some q23)))))))], [(q3, .inl (kA 6, 4, .inr (.inr (.inr (.inr (va_up (va_up (fun _ => none) 0 (some q17)) 1 (some q25)))))))], [(q4, .inl (kA 7, 4, .inr (.inr (.inr (.inr (va_up (va_up (fun _ => none) 0 (some q19)) 1 (some q27)))))))], wRe kA q5 ((u6 0)) x0Re a0Re, wGr kA (u6 0 4) ((u6 1)) x0Gr a0Gr none, wEm kA q7 ((u8 0)) x0Em a0Em none, wNe kA (u8 0 1) ((u8 1)) x0Ne a0Ne, [(q9, .inl (kA 0, 24, .inl (fun _ => 0)))], [(q10, .inl (kA 1, 4000, .inl (fun _ => 0)))], [(q11, .inl (kA 1, 4000, .inl (fun _ => 0)))], [(q12, .inl (kA 0, 4096, .inl (fun _ => 0)))], wGr kA q13 u14 x0Gr a0Gr none, wFa kA q15 u16 x0Fa a0Fa, wNe kA q17 u18 x0Ne a0Ne, wDr kA q19 u20 x0Dr a0Dr, wGr kA q21 u22 x0Gr a0Gr none, wFa kA q23 u24 x0Fa a0Fa, wNe kA q25 u26 x0Ne a0Ne, wDr kA q27 u28 x0Dr a0Dr]) := hD
  refine lv_iinc (pc := 213) (v := 2) (lv' := [(1, .int 2), (0, .ref h)]) hx hb d_Ho_init_213 hl (k := 0) rfl (by decide) (by decide) rfl (fun ls hl => ?_)
  refine lv_goto (pc := 216) (tgt := 150) hx hb d_Ho_init_216 (by decide) ?_
  refine lv_iload_n (pc := 150) hx hb d_Ho_init_150 rfl (lv_at hl 0 rfl) ?_
  refine lv_iconst (pc := 151) (v := 4) hx hb d_Ho_init_151 (by decide) ?_
  refine lv_icmp_ge (pc := 152) (tgt := 219) hx hb d_Ho_init_152 (by decide) (fun c1 => absurd c1 (by decide)) (fun _ => ?_)
  refine lv_aload_n (pc := 155) hx hb d_Ho_init_155 rfl (lv_at hl 1 rfl) ?_
  refine k_get (pc := 156) X hK hP 0 rfl rfl i_Ho 0 (by decide) wm_555 rfl rfl d_Ho_init_156 ?_
  refine lv_iload_n (pc := 159) hx hb d_Ho_init_159 rfl (lv_at hl 0 rfl) ?_
  refine k_new (pc := 160) (fs := f0Gr) X i_Gr t_Gr t_Gr_ok wm_33 wm_48 wm_3 hK hP hD hS hA (ci := 3) rfl f0Gr_ok (Nat.le_of_ble_eq_true rfl) (Nat.le_of_ble_eq_true rfl) d_Ho_init_160 (fun q29 H hP hD hS => ?_)
  have hP : va_P D classes (cat [[(h, .inr (12, [.ref q1, .ref q2, .ref q3, .ref q4, .ref q5, .ref q7, .ref q9, .int 0, .int ((-1)), .ref q10, .ref q11, .int 0, .int 0, .ref q12, .int 0, .int 0, .null, .null, .null, .null, .null]))], [(q1, .inl (kA 4, 4, .inr (.inr (.inr (.inr (va_up (va_up (fun _ => none) 0 (some q13)) 1 (some q21)))))))], [(q2, .inl (kA 5, 4, .inr (.inr (.inr (.inr (va_up (va_up (fun _ => none) 0 (some q15)) 1 (some q23)))))))], [(q3, .inl (kA 6, 4, .inr (.inr (.inr (.inr (va_up (va_up (fun _ => none) 0 (some q17)) 1 (some q25)))))))], [(q4, .inl (kA 7, 4, .inr (.inr (.inr (.inr (va_up (va_up (fun _ => none) 0 (some q19)) 1 (some q27)))))))], wRe kA q5 ((u6 0)) x0Re a0Re, wGr kA (u6 0 4) ((u6 1)) x0Gr a0Gr none, wEm kA q7 ((u8 0)) x0Em a0Em none, wNe kA (u8 0 1) ((u8 1)) x0Ne a0Ne, [(q9, .inl (kA 0, 24, .inl (fun _ => 0)))], [(q10, .inl (kA 1, 4000, .inl (fun _ => 0)))], [(q11, .inl (kA 1, 4000, .inl (fun _ => 0)))], [(q12, .inl (kA 0, 4096, .inl (fun _ => 0)))], wGr kA q13 u14 x0Gr a0Gr none, wFa kA q15 u16 x0Fa a0Fa, wNe kA q17 u18 x0Ne a0Ne, wDr kA q19 u20 x0Dr a0Dr, wGr kA q21 u22 x0Gr a0Gr none, wFa kA q23 u24 x0Fa a0Fa, wNe kA q25 u26 x0Ne a0Ne, wDr kA q27 u28 x0Dr a0Dr, [(q29, .inr (3, [.int 0, .int 0, .int 0, .null, .null, .null, .null, .null, .null, .null, .null, .null, .null, .null, .null, .null, .null, .int 0, .int 0]))]]) H := hP
  have hD : va_D A (cat [[(h, .inr (12, [.ref q1, .ref q2, .ref q3, .ref q4, .ref q5, .ref q7, .ref q9, .int 0, .int ((-1)), .ref q10, .ref q11, .int 0, .int 0, .ref q12, .int 0, .int 0, .null, .null, .null, .null, .null]))], [(q1, .inl (kA 4, 4, .inr (.inr (.inr (.inr (va_up (va_up (fun _ => none) 0 (some q13)) 1 (some q21)))))))], [(q2, .inl (kA 5, 4, .inr (.inr (.inr (.inr (va_up (va_up (fun _ => none) 0 (some q15)) 1 (some q23)))))))], [(q3, .inl (kA 6, 4, .inr (.inr (.inr (.inr (va_up (va_up (fun _ => none) 0 (some q17)) 1 (some q25)))))))], [(q4, .inl (kA 7, 4, .inr (.inr (.inr (.inr (va_up (va_up (fun _ => none) 0 (some q19)) 1 (some q27)))))))], wRe kA q5 ((u6 0)) x0Re a0Re, wGr kA (u6 0 4) ((u6 1)) x0Gr a0Gr none, wEm kA q7 ((u8 0)) x0Em a0Em none, wNe kA (u8 0 1) ((u8 1)) x0Ne a0Ne, [(q9, .inl (kA 0, 24, .inl (fun _ => 0)))], [(q10, .inl (kA 1, 4000, .inl (fun _ => 0)))], [(q11, .inl (kA 1, 4000, .inl (fun _ => 0)))], [(q12, .inl (kA 0, 4096, .inl (fun _ => 0)))], wGr kA q13 u14 x0Gr a0Gr none, wFa kA q15 u16 x0Fa a0Fa, wNe kA q17 u18 x0Ne a0Ne, wDr kA q19 u20 x0Dr a0Dr, wGr kA q21 u22 x0Gr a0Gr none, wFa kA q23 u24 x0Fa a0Fa, wNe kA q25 u26 x0Ne a0Ne, wDr kA q27 u28 x0Dr a0Dr, [(q29, .inr (3, [.int 0, .int 0, .int 0, .null, .null, .null, .null, .null, .null, .null, .null, .null, .null, .null, .null, .null, .null, .int 0, .int 0]))]]) := hD
  refine W.widen (k := 149) (n := 30677) (by omega) (by omega) ?_
  refine lv_dup (pc := 163) hx hb d_Ho_init_163 rfl ?_
  refine k_goV (gr := [[(h, .inr (12, [.ref q1, .ref q2, .ref q3, .ref q4, .ref q5, .ref q7, .ref q9, .int 0, .int ((-1)), .ref q10, .ref q11, .int 0, .int 0, .ref q12, .int 0, .int 0, .null, .null, .null, .null, .null]))], [(q1, .inl (kA 4, 4, .inr (.inr (.inr (.inr (va_up (va_up (fun _ => none) 0 (some q13)) 1 (some q21)))))))], [(q2, .inl (kA 5, 4, .inr (.inr (.inr (.inr (va_up (va_up (fun _ => none) 0 (some q15)) 1 (some q23)))))))], [(q3, .inl (kA 6, 4, .inr (.inr (.inr (.inr (va_up (va_up (fun _ => none) 0 (some q17)) 1 (some q25)))))))], [(q4, .inl (kA 7, 4, .inr (.inr (.inr (.inr (va_up (va_up (fun _ => none) 0 (some q19)) 1 (some q27)))))))], wRe kA q5 ((u6 0)) x0Re a0Re, wGr kA (u6 0 4) ((u6 1)) x0Gr a0Gr none, wEm kA q7 ((u8 0)) x0Em a0Em none, wNe kA (u8 0 1) ((u8 1)) x0Ne a0Ne, [(q9, .inl (kA 0, 24, .inl (fun _ => 0)))], [(q10, .inl (kA 1, 4000, .inl (fun _ => 0)))], [(q11, .inl (kA 1, 4000, .inl (fun _ => 0)))], [(q12, .inl (kA 0, 4096, .inl (fun _ => 0)))], wGr kA q13 u14 x0Gr a0Gr none, wFa kA q15 u16 x0Fa a0Fa, wNe kA q17 u18 x0Ne a0Ne, wDr kA q19 u20 x0Dr a0Dr, wGr kA q21 u22 x0Gr a0Gr none, wFa kA q23 u24 x0Fa a0Fa, wNe kA q25 u26 x0Ne a0Ne, wDr kA q27 u28 x0Dr a0Dr]) (k_rI (pc := 164) (As := []) (rest := [.ref q29, .int 2, .ref q1]) X (c_Gr_init l D kA q29 H.size) rfl wm_51 wm_3 wm_388 wm_50 rfl 0 (by decide +kernel) ⟨Nat.le_of_ble_eq_true rfl, Nat.le_of_ble_eq_true rfl⟩ rfl rfl (k_pre hN hK hP hD [21] [0, 1, 2, 3, 4, 5, 6, 7, 8, 9, 10, 11, 12, 13, 14, 15, 16, 17, 18, 19, 20] 22 rfl (by decide) rfl) rfl hl.1 rfl (Nat.le_of_ble_eq_true rfl) d_Ho_init_164 ⟨Nat.le_of_ble_eq_true rfl, Nat.le_of_ble_eq_true rfl⟩) hP hD hS hA [21] [0, 1, 2, 3, 4, 5, 6, 7, 8, 9, 10, 11, 12, 13, 14, 15, 16, 17, 18, 19, 20] 22 rfl (by decide) rfl rfl (fun u30 H locs hu30 hP hD hS => ?_)
  have hP : va_P D classes (cat [[(h, .inr (12, [.ref q1, .ref q2, .ref q3, .ref q4, .ref q5, .ref q7, .ref q9, .int 0, .int ((-1)), .ref q10, .ref q11, .int 0, .int 0, .ref q12, .int 0, .int 0, .null, .null, .null, .null, .null]))], [(q1, .inl (kA 4, 4, .inr (.inr (.inr (.inr (va_up (va_up (fun _ => none) 0 (some q13)) 1 (some q21)))))))], [(q2, .inl (kA 5, 4, .inr (.inr (.inr (.inr (va_up (va_up (fun _ => none) 0 (some q15)) 1 (some q23)))))))], [(q3, .inl (kA 6, 4, .inr (.inr (.inr (.inr (va_up (va_up (fun _ => none) 0 (some q17)) 1 (some q25)))))))], [(q4, .inl (kA 7, 4, .inr (.inr (.inr (.inr (va_up (va_up (fun _ => none) 0 (some q19)) 1 (some q27)))))))], wRe kA q5 ((u6 0)) x0Re a0Re, wGr kA (u6 0 4) ((u6 1)) x0Gr a0Gr none, wEm kA q7 ((u8 0)) x0Em a0Em none, wNe kA (u8 0 1) ((u8 1)) x0Ne a0Ne, [(q9, .inl (kA 0, 24, .inl (fun _ => 0)))], [(q10, .inl (kA 1, 4000, .inl (fun _ => 0)))], [(q11, .inl (kA 1, 4000, .inl (fun _ => 0)))], [(q12, .inl (kA 0, 4096, .inl (fun _ => 0)))], wGr kA q13 u14 x0Gr a0Gr none, wFa kA q15 u16 x0Fa a0Fa, wNe kA q17 u18 x0Ne a0Ne, wDr kA q19 u20 x0Dr a0Dr, wGr kA q21 u22 x0Gr a0Gr none, wFa kA q23 u24 x0Fa a0Fa, wNe kA q25 u26 x0Ne a0Ne, wDr kA q27 u28 x0Dr a0Dr, wGr kA q29 u30 x0Gr a0Gr none]) H := hP
  have hD : va_D A (cat [[(h, .inr (12, [.ref q1, .ref q2, .ref q3, .ref q4, .ref q5, .ref q7, .ref q9, .int 0, .int ((-1)), .ref q10, .ref q11, .int 0, .int 0, .ref q12, .int 0, .int 0, .null, .null, .null, .null, .null]))], [(q1, .inl (kA 4, 4, .inr (.inr (.inr (.inr (va_up (va_up (fun _ => none) 0 (some q13)) 1 (some q21)))))))], [(q2, .inl (kA 5, 4, .inr (.inr (.inr (.inr (va_up (va_up (fun _ => none) 0 (some q15)) 1 (some q23)))))))], [(q3, .inl (kA 6, 4, .inr (.inr (.inr (.inr (va_up (va_up (fun _ => none) 0 (some q17)) 1 (some q25)))))))], [(q4, .inl (kA 7, 4, .inr (.inr (.inr (.inr (va_up (va_up (fun _ => none) 0 (some q19)) 1 (some q27)))))))], wRe kA q5 ((u6 0)) x0Re a0Re, wGr kA (u6 0 4) ((u6 1)) x0Gr a0Gr none, wEm kA q7 ((u8 0)) x0Em a0Em none, wNe kA (u8 0 1) ((u8 1)) x0Ne a0Ne, [(q9, .inl (kA 0, 24, .inl (fun _ => 0)))], [(q10, .inl (kA 1, 4000, .inl (fun _ => 0)))], [(q11, .inl (kA 1, 4000, .inl (fun _ => 0)))], [(q12, .inl (kA 0, 4096, .inl (fun _ => 0)))], wGr kA q13 u14 x0Gr a0Gr none, wFa kA q15 u16 x0Fa a0Fa, wNe kA q17 u18 x0Ne a0Ne, wDr kA q19 u20 x0Dr a0Dr, wGr kA q21 u22 x0Gr a0Gr none, wFa kA q23 u24 x0Fa a0Fa, wNe kA q25 u26 x0Ne a0Ne, wDr kA q27 u28 x0Dr a0Dr, wGr kA q29 u30 x0Gr a0Gr none]) := hD
  refine W.widen (k := 162) (n := 31813) (by omega) (by omega) ?_
  refine va_astq (pc := 167) hx hb hK hP hD hS 1 4 149 3 rfl rfl rfl rfl (by unfold vp_in; decide) d_Ho_init_167 (fun H locs hP hD hS => ?_)
  have hP : va_P D classes (cat [[(h, .inr (12, [.ref q1, .ref q2, .ref q3, .ref q4, .ref q5, .ref q7, .ref q9, .int 0, .int ((-1)), .ref q10, .ref q11, .int 0, .int 0, .ref q12, .int 0, .int 0, .null, .null, .null, .null, .null]))], [(q1, .inl (kA 4, 4, .inr (.inr (.inr (.inr (va_up (va_up (va_up (fun _ => none) 0 (some q13)) 1 (some q21)) 2 (some q29)))))))], [(q2, .inl (kA 5, 4, .inr (.inr (.inr (.inr (va_up (va_up (fun _ => none) 0 (some q15)) 1 (some q23)))))))], [(q3, .inl (kA 6, 4, .inr (.inr (.inr (.inr (va_up (va_up (fun _ => none) 0 (some q17)) 1 (some q25)))))))], [(q4, .inl (kA 7, 4, .inr (.inr (.inr (.inr (va_up (va_up (fun _ => none) 0 (some q19)) 1 (some q27)))))))], wRe kA q5 ((u6 0)) x0Re a0Re, wGr kA (u6 0 4) ((u6 1)) x0Gr a0Gr none, wEm kA q7 ((u8 0)) x0Em a0Em none, wNe kA (u8 0 1) ((u8 1)) x0Ne a0Ne, [(q9, .inl (kA 0, 24, .inl (fun _ => 0)))], [(q10, .inl (kA 1, 4000, .inl (fun _ => 0)))], [(q11, .inl (kA 1, 4000, .inl (fun _ => 0)))], [(q12, .inl (kA 0, 4096, .inl (fun _ => 0)))], wGr kA q13 u14 x0Gr a0Gr none, wFa kA q15 u16 x0Fa a0Fa, wNe kA q17 u18 x0Ne a0Ne, wDr kA q19 u20 x0Dr a0Dr, wGr kA q21 u22 x0Gr a0Gr none, wFa kA q23 u24 x0Fa a0Fa, wNe kA q25 u26 x0Ne a0Ne, wDr kA q27 u28 x0Dr a0Dr, wGr kA q29 u30 x0Gr a0Gr none]) H := hP
  have hD : va_D A (cat [[(h, .inr (12, [.ref q1, .ref q2, .ref q3, .ref q4, .ref q5, .ref q7, .ref q9, .int 0, .int ((-1)), .ref q10, .ref q11, .int 0, .int 0, .ref q12, .int 0, .int 0, .null, .null, .null, .null, .null]))], [(q1, .inl (kA 4, 4, .inr (.inr (.inr (.inr (va_up (va_up (va_up (fun _ => none) 0 (some q13)) 1 (some q21)) 2 (some q29)))))))], [(q2, .inl (kA 5, 4, .inr (.inr (.inr (.inr (va_up (va_up (fun _ => none) 0 (some q15)) 1 (some q23)))))))], [(q3, .inl (kA 6, 4, .inr (.inr (.inr (.inr (va_up (va_up (fun _ => none) 0 (some q17)) 1 (some q25)))))))], [(q4, .inl (kA 7, 4, .inr (.inr (.inr (.inr (va_up (va_up (fun _ => none) 0 (some q19)) 1 (some q27)))))))], wRe kA q5 ((u6 0)) x0Re a0Re, wGr kA (u6 0 4) ((u6 1)) x0Gr a0Gr none, wEm kA q7 ((u8 0)) x0Em a0Em none, wNe kA (u8 0 1) ((u8 1)) x0Ne a0Ne, [(q9, .inl (kA 0, 24, .inl (fun _ => 0)))], [(q10, .inl (kA 1, 4000, .inl (fun _ => 0)))], [(q11, .inl (kA 1, 4000, .inl (fun _ => 0)))], [(q12, .inl (kA 0, 4096, .inl (fun _ => 0)))], wGr kA q13 u14 x0Gr a0Gr none, wFa kA q15 u16 x0Fa a0Fa, wNe kA q17 u18 x0Ne a0Ne, wDr kA q19 u20 x0Dr a0Dr, wGr kA q21 u22 x0Gr a0Gr none, wFa kA q23 u24 x0Fa a0Fa, wNe kA q25 u26 x0Ne a0Ne, wDr kA q27 u28 x0Dr a0Dr, wGr kA q29 u30 x0Gr a0Gr none]) := hD
  refine lv_aload_n (pc := 168) hx hb d_Ho_init_168 rfl (lv_at hl 1 rfl) ?_
  refine k_get (pc := 169) X hK hP 0 rfl rfl i_Ho 1 (by decide) wm_556 rfl rfl d_Ho_init_169 ?_
  refine lv_iload_n (pc := 172) hx hb d_Ho_init_172 rfl (lv_at hl 0 rfl) ?_
  refine k_new (pc := 173) (fs := f0Fa) X i_Fa t_Fa t_Fa_ok wm_35 wm_389 wm_7 hK hP hD hS hA (ci := 2) rfl f0Fa_ok (Nat.le_of_ble_eq_true rfl) (Nat.le_of_ble_eq_true rfl) d_Ho_init_173 (fun q31 H hP hD hS => ?_)
  have hP : va_P D classes (cat [[(h, .inr (12, [.ref q1, .ref q2, .ref q3, .ref q4, .ref q5, .ref q7, .ref q9, .int 0, .int ((-1)), .ref q10, .ref q11, .int 0, .int 0, .ref q12, .int 0, .int 0, .null, .null, .null, .null, .null]))], [(q1, .inl (kA 4, 4, .inr (.inr (.inr (.inr (va_up (va_up (va_up (fun _ => none) 0 (some q13)) 1 (some q21)) 2 (some q29)))))))], [(q2, .inl (kA 5, 4, .inr (.inr (.inr (.inr (va_up (va_up (fun _ => none) 0 (some q15)) 1 (some q23)))))))], [(q3, .inl (kA 6, 4, .inr (.inr (.inr (.inr (va_up (va_up (fun _ => none) 0 (some q17)) 1 (some q25)))))))], [(q4, .inl (kA 7, 4, .inr (.inr (.inr (.inr (va_up (va_up (fun _ => none) 0 (some q19)) 1 (some q27)))))))], wRe kA q5 ((u6 0)) x0Re a0Re, wGr kA (u6 0 4) ((u6 1)) x0Gr a0Gr none, wEm kA q7 ((u8 0)) x0Em a0Em none, wNe kA (u8 0 1) ((u8 1)) x0Ne a0Ne, [(q9, .inl (kA 0, 24, .inl (fun _ => 0)))], [(q10, .inl (kA 1, 4000, .inl (fun _ => 0)))], [(q11, .inl (kA 1, 4000, .inl (fun _ => 0)))], [(q12, .inl (kA 0, 4096, .inl (fun _ => 0)))], wGr kA q13 u14 x0Gr a0Gr none, wFa kA q15 u16 x0Fa a0Fa, wNe kA q17 u18 x0Ne a0Ne, wDr kA q19 u20 x0Dr a0Dr, wGr kA q21 u22 x0Gr a0Gr none, wFa kA q23 u24 x0Fa a0Fa, wNe kA q25 u26 x0Ne a0Ne, wDr kA q27 u28 x0Dr a0Dr, wGr kA q29 u30 x0Gr a0Gr none, [(q31, .inr (2, [.int 0, .int 0, .int 0, .int 0, .null, .null, .null, .null, .null, .null, .null, .null, .null, .null, .null]))]]) H := hP
  have hD : va_D A (cat [[(h, .inr (12, [.ref q1, .ref q2, .ref q3, .ref q4, .ref q5, .ref q7, .ref q9, .int 0, .int ((-1)), .ref q10, .ref q11, .int 0, .int 0, .ref q12, .int 0, .int 0, .null, .null, .null, .null, .null]))], [(q1, .inl (kA 4, 4, .inr (.inr (.inr (.inr (va_up (va_up (va_up (fun _ => none) 0 (some q13)) 1 (some q21)) 2 (some q29)))))))], [(q2, .inl (kA 5, 4, .inr (.inr (.inr (.inr (va_up (va_up (fun _ => none) 0 (some q15)) 1 (some q23)))))))], [(q3, .inl (kA 6, 4, .inr (.inr (.inr (.inr (va_up (va_up (fun _ => none) 0 (some q17)) 1 (some q25)))))))], [(q4, .inl (kA 7, 4, .inr (.inr (.inr (.inr (va_up (va_up (fun _ => none) 0 (some q19)) 1 (some q27)))))))], wRe kA q5 ((u6 0)) x0Re a0Re, wGr kA (u6 0 4) ((u6 1)) x0Gr a0Gr none, wEm kA q7 ((u8 0)) x0Em a0Em none, wNe kA (u8 0 1) ((u8 1)) x0Ne a0Ne, [(q9, .inl (kA 0, 24, .inl (fun _ => 0)))], [(q10, .inl (kA 1, 4000, .inl (fun _ => 0)))], [(q11, .inl (kA 1, 4000, .inl (fun _ => 0)))], [(q12, .inl (kA 0, 4096, .inl (fun _ => 0)))], wGr kA q13 u14 x0Gr a0Gr none, wFa kA q15 u16 x0Fa a0Fa, wNe kA q17 u18 x0Ne a0Ne, wDr kA q19 u20 x0Dr a0Dr, wGr kA q21 u22 x0Gr a0Gr none, wFa kA q23 u24 x0Fa a0Fa, wNe kA q25 u26 x0Ne a0Ne, wDr kA q27 u28 x0Dr a0Dr, wGr kA q29 u30 x0Gr a0Gr none, [(q31, .inr (2, [.int 0, .int 0, .int 0, .int 0, .null, .null, .null, .null, .null, .null, .null, .null, .null, .null, .null]))]]) := hD
  refine W.widen (k := 163) (n := 31828) (by omega) (by omega) ?_
  refine lv_dup (pc := 176) hx hb d_Ho_init_176 rfl ?_
  refine k_goV (gr := [[(h, .inr (12, [.ref q1, .ref q2, .ref q3, .ref q4, .ref q5, .ref q7, .ref q9, .int 0, .int ((-1)), .ref q10, .ref q11, .int 0, .int 0, .ref q12, .int 0, .int 0, .null, .null, .null, .null, .null]))], [(q1, .inl (kA 4, 4, .inr (.inr (.inr (.inr (va_up (va_up (va_up (fun _ => none) 0 (some q13)) 1 (some q21)) 2 (some q29)))))))], [(q2, .inl (kA 5, 4, .inr (.inr (.inr (.inr (va_up (va_up (fun _ => none) 0 (some q15)) 1 (some q23)))))))], [(q3, .inl (kA 6, 4, .inr (.inr (.inr (.inr (va_up (va_up (fun _ => none) 0 (some q17)) 1 (some q25)))))))], [(q4, .inl (kA 7, 4, .inr (.inr (.inr (.inr (va_up (va_up (fun _ => none) 0 (some q19)) 1 (some q27)))))))], wRe kA q5 ((u6 0)) x0Re a0Re, wGr kA (u6 0 4) ((u6 1)) x0Gr a0Gr none, wEm kA q7 ((u8 0)) x0Em a0Em none, wNe kA (u8 0 1) ((u8 1)) x0Ne a0Ne, [(q9, .inl (kA 0, 24, .inl (fun _ => 0)))], [(q10, .inl (kA 1, 4000, .inl (fun _ => 0)))], [(q11, .inl (kA 1, 4000, .inl (fun _ => 0)))], [(q12, .inl (kA 0, 4096, .inl (fun _ => 0)))], wGr kA q13 u14 x0Gr a0Gr none, wFa kA q15 u16 x0Fa a0Fa, wNe kA q17 u18 x0Ne a0Ne, wDr kA q19 u20 x0Dr a0Dr, wGr kA q21 u22 x0Gr a0Gr none, wFa kA q23 u24 x0Fa a0Fa, wNe kA q25 u26 x0Ne a0Ne, wDr kA q27 u28 x0Dr a0Dr, wGr kA q29 u30 x0Gr a0Gr none]) (k_rIN (pc := 177) (As := []) (rest := [.ref q31, .int 2, .ref q2]) hN X (c_Fa_init l D kA q31 H.size) rfl wm_392 wm_7 wn_390 wm_391 rfl 0 (by decide +kernel) ⟨Nat.le_of_ble_eq_true rfl, Nat.le_of_ble_eq_true rfl⟩ rfl rfl (k_pre hN hK hP hD [22] [0, 1, 2, 3, 4, 5, 6, 7, 8, 9, 10, 11, 12, 13, 14, 15, 16, 17, 18, 19, 20, 21] 23 rfl (by decide) rfl) rfl hl.1 rfl (Nat.le_of_ble_eq_true rfl) d_Ho_init_177 ⟨Nat.le_of_ble_eq_true rfl, Nat.le_of_ble_eq_true rfl⟩) hP hD hS hA [22] [0, 1, 2, 3, 4, 5, 6, 7, 8, 9, 10, 11, 12, 13, 14, 15, 16, 17, 18, 19, 20, 21] 23 rfl (by decide) rfl rfl (fun u32 H locs hu32 hP hD hS => ?_)
  have hP : va_P D classes (cat [[(h, .inr (12, [.ref q1, .ref q2, .ref q3, .ref q4, .ref q5, .ref q7, .ref q9, .int 0, .int ((-1)), .ref q10, .ref q11, .int 0, .int 0, .ref q12, .int 0, .int 0, .null, .null, .null, .null, .null]))], [(q1, .inl (kA 4, 4, .inr (.inr (.inr (.inr (va_up (va_up (va_up (fun _ => none) 0 (some q13)) 1 (some q21)) 2 (some q29)))))))], [(q2, .inl (kA 5, 4, .inr (.inr (.inr (.inr (va_up (va_up (fun _ => none) 0 (some q15)) 1 (some q23)))))))], [(q3, .inl (kA 6, 4, .inr (.inr (.inr (.inr (va_up (va_up (fun _ => none) 0 (some q17)) 1 (some q25)))))))], [(q4, .inl (kA 7, 4, .inr (.inr (.inr (.inr (va_up (va_up (fun _ => none) 0 (some q19)) 1 (some q27)))))))], wRe kA q5 ((u6 0)) x0Re a0Re, wGr kA (u6 0 4) ((u6 1)) x0Gr a0Gr none, wEm kA q7 ((u8 0)) x0Em a0Em none, wNe kA (u8 0 1) ((u8 1)) x0Ne a0Ne, [(q9, .inl (kA 0, 24, .inl (fun _ => 0)))], [(q10, .inl (kA 1, 4000, .inl (fun _ => 0)))], [(q11, .inl (kA 1, 4000, .inl (fun _ => 0)))], [(q12, .inl (kA 0, 4096, .inl (fun _ => 0)))], wGr kA q13 u14 x0Gr a0Gr none, wFa kA q15 u16 x0Fa a0Fa, wNe kA q17 u18 x0Ne a0Ne, wDr kA q19 u20 x0Dr a0Dr, wGr kA q21 u22 x0Gr a0Gr none, wFa kA q23 u24 x0Fa a0Fa, wNe kA q25 u26 x0Ne a0Ne, wDr kA q27 u28 x0Dr a0Dr, wGr kA q29 u30 x0Gr a0Gr none, wFa kA q31 u32 x0Fa a0Fa]) H := hP
  have hD : va_D A (cat [[(h, .inr (12, [.ref q1, .ref q2, .ref q3, .ref q4, .ref q5, .ref q7, .ref q9, .int 0, .int ((-1)), .ref q10, .ref q11, .int 0, .int 0, .ref q12, .int 0, .int 0, .null, .null, .null, .null, .null]))], [(q1, .inl (kA 4, 4, .inr (.inr (.inr (.inr (va_up (va_up (va_up (fun _ => none) 0 (some q13)) 1 (some q21)) 2 (some q29)))))))], [(q2, .inl (kA 5, 4, .inr (.inr (.inr (.inr (va_up (va_up (fun _ => none) 0 (some q15)) 1 (some q23)))))))], [(q3, .inl (kA 6, 4, .inr (.inr (.inr (.inr (va_up (va_up (fun _ => none) 0 (some q17)) 1 (some q25)))))))], [(q4, .inl (kA 7, 4, .inr (.inr (.inr (.inr (va_up (va_up (fun _ => none) 0 (some q19)) 1 (some q27)))))))], wRe kA q5 ((u6 0)) x0Re a0Re, wGr kA (u6 0 4) ((u6 1)) x0Gr a0Gr none, wEm kA q7 ((u8 0)) x0Em a0Em none, wNe kA (u8 0 1) ((u8 1)) x0Ne a0Ne, [(q9, .inl (kA 0, 24, .inl (fun _ => 0)))], [(q10, .inl (kA 1, 4000, .inl (fun _ => 0)))], [(q11, .inl (kA 1, 4000, .inl (fun _ => 0)))], [(q12, .inl (kA 0, 4096, .inl (fun _ => 0)))], wGr kA q13 u14 x0Gr a0Gr none, wFa kA q15 u16 x0Fa a0Fa, wNe kA q17 u18 x0Ne a0Ne, wDr kA q19 u20 x0Dr a0Dr, wGr kA q21 u22 x0Gr a0Gr none, wFa kA q23 u24 x0Fa a0Fa, wNe kA q25 u26 x0Ne a0Ne, wDr kA q27 u28 x0Dr a0Dr, wGr kA q29 u30 x0Gr a0Gr none, wFa kA q31 u32 x0Fa a0Fa]) := hD
  refine W.widen (k := 174) (n := 32244) (by omega) (by omega) ?_
  refine va_astq (pc := 180) hx hb hK hP hD hS 2 5 163 2 rfl rfl rfl rfl (by unfold vp_in; decide) d_Ho_init_180 (fun H locs hP hD hS => ?_)
  have hP : va_P D classes (cat [[(h, .inr (12, [.ref q1, .ref q2, .ref q3, .ref q4, .ref q5, .ref q7, .ref q9, .int 0, .int ((-1)), .ref q10, .ref q11, .int 0, .int 0, .ref q12, .int 0, .int 0, .null, .null, .null, .null, .null]))], [(q1, .inl (kA 4, 4, .inr (.inr (.inr (.inr (va_up (va_up (va_up (fun _ => none) 0 (some q13)) 1 (some q21)) 2 (some q29)))))))], [(q2, .inl (kA 5, 4, .inr (.inr (.inr (.inr (va_up (va_up (va_up (fun _ => none) 0 (some q15)) 1 (some q23)) 2 (some q31)))))))], [(q3, .inl (kA 6, 4, .inr (.inr (.inr (.inr (va_up (va_up (fun _ => none) 0 (some q17)) 1 (some q25)))))))], [(q4, .inl (kA 7, 4, .inr (.inr (.inr (.inr (va_up (va_up (fun _ => none) 0 (some q19)) 1 (some q27)))))))], wRe kA q5 ((u6 0)) x0Re a0Re, wGr kA (u6 0 4) ((u6 1)) x0Gr a0Gr none, wEm kA q7 ((u8 0)) x0Em a0Em none, wNe kA (u8 0 1) ((u8 1)) x0Ne a0Ne, [(q9, .inl (kA 0, 24, .inl (fun _ => 0)))], [(q10, .inl (kA 1, 4000, .inl (fun _ => 0)))], [(q11, .inl (kA 1, 4000, .inl (fun _ => 0)))], [(q12, .inl (kA 0, 4096, .inl (fun _ => 0)))], wGr kA q13 u14 x0Gr a0Gr none, wFa kA q15 u16 x0Fa a0Fa, wNe kA q17 u18 x0Ne a0Ne, wDr kA q19 u20 x0Dr a0Dr, wGr kA q21 u22 x0Gr a0Gr none, wFa kA q23 u24 x0Fa a0Fa, wNe kA q25 u26 x0Ne a0Ne, wDr kA q27 u28 x0Dr a0Dr, wGr kA q29 u30 x0Gr a0Gr none, wFa kA q31 u32 x0Fa a0Fa]) H := hP
  have hD : va_D A (cat [[(h, .inr (12, [.ref q1, .ref q2, .ref q3, .ref q4, .ref q5, .ref q7, .ref q9, .int 0, .int ((-1)), .ref q10, .ref q11, .int 0, .int 0, .ref q12, .int 0, .int 0, .null, .null, .null, .null, .null]))], [(q1, .inl (kA 4, 4, .inr (.inr (.inr (.inr (va_up (va_up (va_up (fun _ => none) 0 (some q13)) 1 (some q21)) 2 (some q29)))))))], [(q2, .inl (kA 5, 4, .inr (.inr (.inr (.inr (va_up (va_up (va_up (fun _ => none) 0 (some q15)) 1 (some q23)) 2 (some q31)))))))], [(q3, .inl (kA 6, 4, .inr (.inr (.inr (.inr (va_up (va_up (fun _ => none) 0 (some q17)) 1 (some q25)))))))], [(q4, .inl (kA 7, 4, .inr (.inr (.inr (.inr (va_up (va_up (fun _ => none) 0 (some q19)) 1 (some q27)))))))], wRe kA q5 ((u6 0)) x0Re a0Re, wGr kA (u6 0 4) ((u6 1)) x0Gr a0Gr none, wEm kA q7 ((u8 0)) x0Em a0Em none, wNe kA (u8 0 1) ((u8 1)) x0Ne a0Ne, [(q9, .inl (kA 0, 24, .inl (fun _ => 0)))], [(q10, .inl (kA 1, 4000, .inl (fun _ => 0)))], [(q11, .inl (kA 1, 4000, .inl (fun _ => 0)))], [(q12, .inl (kA 0, 4096, .inl (fun _ => 0)))], wGr kA q13 u14 x0Gr a0Gr none, wFa kA q15 u16 x0Fa a0Fa, wNe kA q17 u18 x0Ne a0Ne, wDr kA q19 u20 x0Dr a0Dr, wGr kA q21 u22 x0Gr a0Gr none, wFa kA q23 u24 x0Fa a0Fa, wNe kA q25 u26 x0Ne a0Ne, wDr kA q27 u28 x0Dr a0Dr, wGr kA q29 u30 x0Gr a0Gr none, wFa kA q31 u32 x0Fa a0Fa]) := hD
  refine lv_aload_n (pc := 181) hx hb d_Ho_init_181 rfl (lv_at hl 1 rfl) ?_
  refine k_get (pc := 182) X hK hP 0 rfl rfl i_Ho 2 (by decide) wm_557 rfl rfl d_Ho_init_182 ?_
  refine lv_iload_n (pc := 185) hx hb d_Ho_init_185 rfl (lv_at hl 0 rfl) ?_
  refine k_new (pc := 186) (fs := f0Ne) X i_Ne t_Ne t_Ne_ok wm_37 wm_243 wm_6 hK hP hD hS hA (ci := 5) rfl f0Ne_ok (Nat.le_of_ble_eq_true rfl) (Nat.le_of_ble_eq_true rfl) d_Ho_init_186 (fun q33 H hP hD hS => ?_)
  have hP : va_P D classes (cat [[(h, .inr (12, [.ref q1, .ref q2, .ref q3, .ref q4, .ref q5, .ref q7, .ref q9, .int 0, .int ((-1)), .ref q10, .ref q11, .int 0, .int 0, .ref q12, .int 0, .int 0, .null, .null, .null, .null, .null]))], [(q1, .inl (kA 4, 4, .inr (.inr (.inr (.inr (va_up (va_up (va_up (fun _ => none) 0 (some q13)) 1 (some q21)) 2 (some q29)))))))], [(q2, .inl (kA 5, 4, .inr (.inr (.inr (.inr (va_up (va_up (va_up (fun _ => none) 0 (some q15)) 1 (some q23)) 2 (some q31)))))))], [(q3, .inl (kA 6, 4, .inr (.inr (.inr (.inr (va_up (va_up (fun _ => none) 0 (some q17)) 1 (some q25)))))))], [(q4, .inl (kA 7, 4, .inr (.inr (.inr (.inr (va_up (va_up (fun _ => none) 0 (some q19)) 1 (some q27)))))))], wRe kA q5 ((u6 0)) x0Re a0Re, wGr kA (u6 0 4) ((u6 1)) x0Gr a0Gr none, wEm kA q7 ((u8 0)) x0Em a0Em none, wNe kA (u8 0 1) ((u8 1)) x0Ne a0Ne, [(q9, .inl (kA 0, 24, .inl (fun _ => 0)))], [(q10, .inl (kA 1, 4000, .inl (fun _ => 0)))], [(q11, .inl (kA 1, 4000, .inl (fun _ => 0)))], [(q12, .inl (kA 0, 4096, .inl (fun _ => 0)))], wGr kA q13 u14 x0Gr a0Gr none, wFa kA q15 u16 x0Fa a0Fa, wNe kA q17 u18 x0Ne a0Ne, wDr kA q19 u20 x0Dr a0Dr, wGr kA q21 u22 x0Gr a0Gr none, wFa kA q23 u24 x0Fa a0Fa, wNe kA q25 u26 x0Ne a0Ne, wDr kA q27 u28 x0Dr a0Dr, wGr kA q29 u30 x0Gr a0Gr none, wFa kA q31 u32 x0Fa a0Fa, [(q33, .inr (5, [.int 0, .int 0, .int 0, .int 0, .null, .int 0, .int 0, .null, .null, .null, .null, .null, .null, .int 0, .null, .null, .null]))]]) H := hP
  have hD : va_D A (cat [[(h, .inr (12, [.ref q1, .ref q2, .ref q3, .ref q4, .ref q5, .ref q7, .ref q9, .int 0, .int ((-1)), .ref q10, .ref q11, .int 0, .int 0, .ref q12, .int 0, .int 0, .null, .null, .null, .null, .null]))], [(q1, .inl (kA 4, 4, .inr (.inr (.inr (.inr (va_up (va_up (va_up (fun _ => none) 0 (some q13)) 1 (some q21)) 2 (some q29)))))))], [(q2, .inl (kA 5, 4, .inr (.inr (.inr (.inr (va_up (va_up (va_up (fun _ => none) 0 (some q15)) 1 (some q23)) 2 (some q31)))))))], [(q3, .inl (kA 6, 4, .inr (.inr (.inr (.inr (va_up (va_up (fun _ => none) 0 (some q17)) 1 (some q25)))))))], [(q4, .inl (kA 7, 4, .inr (.inr (.inr (.inr (va_up (va_up (fun _ => none) 0 (some q19)) 1 (some q27)))))))], wRe kA q5 ((u6 0)) x0Re a0Re, wGr kA (u6 0 4) ((u6 1)) x0Gr a0Gr none, wEm kA q7 ((u8 0)) x0Em a0Em none, wNe kA (u8 0 1) ((u8 1)) x0Ne a0Ne, [(q9, .inl (kA 0, 24, .inl (fun _ => 0)))], [(q10, .inl (kA 1, 4000, .inl (fun _ => 0)))], [(q11, .inl (kA 1, 4000, .inl (fun _ => 0)))], [(q12, .inl (kA 0, 4096, .inl (fun _ => 0)))], wGr kA q13 u14 x0Gr a0Gr none, wFa kA q15 u16 x0Fa a0Fa, wNe kA q17 u18 x0Ne a0Ne, wDr kA q19 u20 x0Dr a0Dr, wGr kA q21 u22 x0Gr a0Gr none, wFa kA q23 u24 x0Fa a0Fa, wNe kA q25 u26 x0Ne a0Ne, wDr kA q27 u28 x0Dr a0Dr, wGr kA q29 u30 x0Gr a0Gr none, wFa kA q31 u32 x0Fa a0Fa, [(q33, .inr (5, [.int 0, .int 0, .int 0, .int 0, .null, .int 0, .int 0, .null, .null, .null, .null, .null, .null, .int 0, .null, .null, .null]))]]) := hD
  refine W.widen (k := 175) (n := 32261) (by omega) (by omega) ?_
  refine lv_dup (pc := 189) hx hb d_Ho_init_189 rfl ?_
  refine k_goV (gr := [[(h, .inr (12, [.ref q1, .ref q2, .ref q3, .ref q4, .ref q5, .ref q7, .ref q9, .int 0, .int ((-1)), .ref q10, .ref q11, .int 0, .int 0, .ref q12, .int 0, .int 0, .null, .null, .null, .null, .null]))], [(q1, .inl (kA 4, 4, .inr (.inr (.inr (.inr (va_up (va_up (va_up (fun _ => none) 0 (some q13)) 1 (some q21)) 2 (some q29)))))))], [(q2, .inl (kA 5, 4, .inr (.inr (.inr (.inr (va_up (va_up (va_up (fun _ => none) 0 (some q15)) 1 (some q23)) 2 (some q31)))))))], [(q3, .inl (kA 6, 4, .inr (.inr (.inr (.inr (va_up (va_up (fun _ => none) 0 (some q17)) 1 (some q25)))))))], [(q4, .inl (kA 7, 4, .inr (.inr (.inr (.inr (va_up (va_up (fun _ => none) 0 (some q19)) 1 (some q27)))))))], wRe kA q5 ((u6 0)) x0Re a0Re, wGr kA (u6 0 4) ((u6 1)) x0Gr a0Gr none, wEm kA q7 ((u8 0)) x0Em a0Em none, wNe kA (u8 0 1) ((u8 1)) x0Ne a0Ne, [(q9, .inl (kA 0, 24, .inl (fun _ => 0)))], [(q10, .inl (kA 1, 4000, .inl (fun _ => 0)))], [(q11, .inl (kA 1, 4000, .inl (fun _ => 0)))], [(q12, .inl (kA 0, 4096, .inl (fun _ => 0)))], wGr kA q13 u14 x0Gr a0Gr none, wFa kA q15 u16 x0Fa a0Fa, wNe kA q17 u18 x0Ne a0Ne, wDr kA q19 u20 x0Dr a0Dr, wGr kA q21 u22 x0Gr a0Gr none, wFa kA q23 u24 x0Fa a0Fa, wNe kA q25 u26 x0Ne a0Ne, wDr kA q27 u28 x0Dr a0Dr, wGr kA q29 u30 x0Gr a0Gr none, wFa kA q31 u32 x0Fa a0Fa]) (k_rIN (pc := 190) (As := []) (rest := [.ref q33, .int 2, .ref q3]) hN X (c_Ne_init l D kA q33 H.size) rfl wm_246 wm_6 wn_459 wm_245 rfl 0 (by decide +kernel) ⟨Nat.le_of_ble_eq_true rfl, Nat.le_of_ble_eq_true rfl⟩ rfl rfl (k_pre hN hK hP hD [23] [0, 1, 2, 3, 4, 5, 6, 7, 8, 9, 10, 11, 12, 13, 14, 15, 16, 17, 18, 19, 20, 21, 22] 24 rfl (by decide) rfl) rfl hl.1 rfl (Nat.le_of_ble_eq_true rfl) d_Ho_init_190 ⟨Nat.le_of_ble_eq_true rfl, Nat.le_of_ble_eq_true rfl⟩) hP hD hS hA [23] [0, 1, 2, 3, 4, 5, 6, 7, 8, 9, 10, 11, 12, 13, 14, 15, 16, 17, 18, 19, 20, 21, 22] 24 rfl (by decide) rfl rfl (fun u34 H locs hu34 hP hD hS => ?_)
  have hP : va_P D classes (cat [[(h, .inr (12, [.ref q1, .ref q2, .ref q3, .ref q4, .ref q5, .ref q7, .ref q9, .int 0, .int ((-1)), .ref q10, .ref q11, .int 0, .int 0, .ref q12, .int 0, .int 0, .null, .null, .null, .null, .null]))], [(q1, .inl (kA 4, 4, .inr (.inr (.inr (.inr (va_up (va_up (va_up (fun _ => none) 0 (some q13)) 1 (some q21)) 2 (some q29)))))))], [(q2, .inl (kA 5, 4, .inr (.inr (.inr (.inr (va_up (va_up (va_up (fun _ => none) 0 (some q15)) 1 (some q23)) 2 (some q31)))))))], [(q3, .inl (kA 6, 4, .inr (.inr (.inr (.inr (va_up (va_up (fun _ => none) 0 (some q17)) 1 (some q25)))))))], [(q4, .inl (kA 7, 4, .inr (.inr (.inr (.inr (va_up (va_up (fun _ => none) 0 (some q19)) 1 (some q27)))))))], wRe kA q5 ((u6 0)) x0Re a0Re, wGr kA (u6 0 4) ((u6 1)) x0Gr a0Gr none, wEm kA q7 ((u8 0)) x0Em a0Em none, wNe kA (u8 0 1) ((u8 1)) x0Ne a0Ne, [(q9, .inl (kA 0, 24, .inl (fun _ => 0)))], [(q10, .inl (kA 1, 4000, .inl (fun _ => 0)))], [(q11, .inl (kA 1, 4000, .inl (fun _ => 0)))], [(q12, .inl (kA 0, 4096, .inl (fun _ => 0)))], wGr kA q13 u14 x0Gr a0Gr none, wFa kA q15 u16 x0Fa a0Fa, wNe kA q17 u18 x0Ne a0Ne, wDr kA q19 u20 x0Dr a0Dr, wGr kA q21 u22 x0Gr a0Gr none, wFa kA q23 u24 x0Fa a0Fa, wNe kA q25 u26 x0Ne a0Ne, wDr kA q27 u28 x0Dr a0Dr, wGr kA q29 u30 x0Gr a0Gr none, wFa kA q31 u32 x0Fa a0Fa, wNe kA q33 u34 x0Ne a0Ne]) H := hP
  have hD : va_D A (cat [[(h, .inr (12, [.ref q1, .ref q2, .ref q3, .ref q4, .ref q5, .ref q7, .ref q9, .int 0, .int ((-1)), .ref q10, .ref q11, .int 0, .int 0, .ref q12, .int 0, .int 0, .null, .null, .null, .null, .null]))], [(q1, .inl (kA 4, 4, .inr (.inr (.inr (.inr (va_up (va_up (va_up (fun _ => none) 0 (some q13)) 1 (some q21)) 2 (some q29)))))))], [(q2, .inl (kA 5, 4, .inr (.inr (.inr (.inr (va_up (va_up (va_up (fun _ => none) 0 (some q15)) 1 (some q23)) 2 (some q31)))))))], [(q3, .inl (kA 6, 4, .inr (.inr (.inr (.inr (va_up (va_up (fun _ => none) 0 (some q17)) 1 (some q25)))))))], [(q4, .inl (kA 7, 4, .inr (.inr (.inr (.inr (va_up (va_up (fun _ => none) 0 (some q19)) 1 (some q27)))))))], wRe kA q5 ((u6 0)) x0Re a0Re, wGr kA (u6 0 4) ((u6 1)) x0Gr a0Gr none, wEm kA q7 ((u8 0)) x0Em a0Em none, wNe kA (u8 0 1) ((u8 1)) x0Ne a0Ne, [(q9, .inl (kA 0, 24, .inl (fun _ => 0)))], [(q10, .inl (kA 1, 4000, .inl (fun _ => 0)))], [(q11, .inl (kA 1, 4000, .inl (fun _ => 0)))], [(q12, .inl (kA 0, 4096, .inl (fun _ => 0)))], wGr kA q13 u14 x0Gr a0Gr none, wFa kA q15 u16 x0Fa a0Fa, wNe kA q17 u18 x0Ne a0Ne, wDr kA q19 u20 x0Dr a0Dr, wGr kA q21 u22 x0Gr a0Gr none, wFa kA q23 u24 x0Fa a0Fa, wNe kA q25 u26 x0Ne a0Ne, wDr kA q27 u28 x0Dr a0Dr, wGr kA q29 u30 x0Gr a0Gr none, wFa kA q31 u32 x0Fa a0Fa, wNe kA q33 u34 x0Ne a0Ne]) := hD
  refine W.widen (k := 185) (n := 33705) (by omega) (by omega) ?_
  refine va_astq (pc := 193) hx hb hK hP hD hS 3 6 175 5 rfl rfl rfl rfl (by unfold vp_in; decide) d_Ho_init_193 (fun H locs hP hD hS => ?_)
  have hP : va_P D classes (cat [[(h, .inr (12, [.ref q1, .ref q2, .ref q3, .ref q4, .ref q5, .ref q7, .ref q9, .int 0, .int ((-1)), .ref q10, .ref q11, .int 0, .int 0, .ref q12, .int 0, .int 0, .null, .null, .null, .null, .null]))], [(q1, .inl (kA 4, 4, .inr (.inr (.inr (.inr (va_up (va_up (va_up (fun _ => none) 0 (some q13)) 1 (some q21)) 2 (some q29)))))))], [(q2, .inl (kA 5, 4, .inr (.inr (.inr (.inr (va_up (va_up (va_up (fun _ => none) 0 (some q15)) 1 (some q23)) 2 (some q31)))))))], [(q3, .inl (kA 6, 4, .inr (.inr (.inr (.inr (va_up (va_up (va_up (fun _ => none) 0 (some q17)) 1 (some q25)) 2 (some q33)))))))], [(q4, .inl (kA 7, 4, .inr (.inr (.inr (.inr (va_up (va_up (fun _ => none) 0 (some q19)) 1 (some q27)))))))], wRe kA q5 ((u6 0)) x0Re a0Re, wGr kA (u6 0 4) ((u6 1)) x0Gr a0Gr none, wEm kA q7 ((u8 0)) x0Em a0Em none, wNe kA (u8 0 1) ((u8 1)) x0Ne a0Ne, [(q9, .inl (kA 0, 24, .inl (fun _ => 0)))], [(q10, .inl (kA 1, 4000, .inl (fun _ => 0)))], [(q11, .inl (kA 1, 4000, .inl (fun _ => 0)))], [(q12, .inl (kA 0, 4096, .inl (fun _ => 0)))], wGr kA q13 u14 x0Gr a0Gr none, wFa kA q15 u16 x0Fa a0Fa, wNe kA q17 u18 x0Ne a0Ne, wDr kA q19 u20 x0Dr a0Dr, wGr kA q21 u22 x0Gr a0Gr none, wFa kA q23 u24 x0Fa a0Fa, wNe kA q25 u26 x0Ne a0Ne, wDr kA q27 u28 x0Dr a0Dr, wGr kA q29 u30 x0Gr a0Gr none, wFa kA q31 u32 x0Fa a0Fa, wNe kA q33 u34 x0Ne a0Ne]) H := hP
  have hD : va_D A (cat [[(h, .inr (12, [.ref q1, .ref q2, .ref q3, .ref q4, .ref q5, .ref q7, .ref q9, .int 0, .int ((-1)), .ref q10, .ref q11, .int 0, .int 0, .ref q12, .int 0, .int 0, .null, .null, .null, .null, .null]))], [(q1, .inl (kA 4, 4, .inr (.inr (.inr (.inr (va_up (va_up (va_up (fun _ => none) 0 (some q13)) 1 (some q21)) 2 (some q29)))))))], [(q2, .inl (kA 5, 4, .inr (.inr (.inr (.inr (va_up (va_up (va_up (fun _ => none) 0 (some q15)) 1 (some q23)) 2 (some q31)))))))], [(q3, .inl (kA 6, 4, .inr (.inr (.inr (.inr (va_up (va_up (va_up (fun _ => none) 0 (some q17)) 1 (some q25)) 2 (some q33)))))))], [(q4, .inl (kA 7, 4, .inr (.inr (.inr (.inr (va_up (va_up (fun _ => none) 0 (some q19)) 1 (some q27)))))))], wRe kA q5 ((u6 0)) x0Re a0Re, wGr kA (u6 0 4) ((u6 1)) x0Gr a0Gr none, wEm kA q7 ((u8 0)) x0Em a0Em none, wNe kA (u8 0 1) ((u8 1)) x0Ne a0Ne, [(q9, .inl (kA 0, 24, .inl (fun _ => 0)))], [(q10, .inl (kA 1, 4000, .inl (fun _ => 0)))], [(q11, .inl (kA 1, 4000, .inl (fun _ => 0)))], [(q12, .inl (kA 0, 4096, .inl (fun _ => 0)))], wGr kA q13 u14 x0Gr a0Gr none, wFa kA q15 u16 x0Fa a0Fa, wNe kA q17 u18 x0Ne a0Ne, wDr kA q19 u20 x0Dr a0Dr, wGr kA q21 u22 x0Gr a0Gr none, wFa kA q23 u24 x0Fa a0Fa, wNe kA q25 u26 x0Ne a0Ne, wDr kA q27 u28 x0Dr a0Dr, wGr kA q29 u30 x0Gr a0Gr none, wFa kA q31 u32 x0Fa a0Fa, wNe kA q33 u34 x0Ne a0Ne]) := hD
  refine lv_aload_n (pc := 194) hx hb d_Ho_init_194 rfl (lv_at hl 1 rfl) ?_
  refine k_get (pc := 195) X hK hP 0 rfl rfl i_Ho 3 (by decide) wm_558 rfl rfl d_Ho_init_195 ?_
  refine lv_iload_n (pc := 198) hx hb d_Ho_init_198 rfl (lv_at hl 0 rfl) ?_
  refine k_new (pc := 199) (fs := f0Dr) X i_Dr t_Dr t_Dr_ok wm_39 wm_460 wm_8 hK hP hD hS hA (ci := 0) rfl f0Dr_ok (Nat.le_of_ble_eq_true rfl) (Nat.le_of_ble_eq_true rfl) d_Ho_init_199 (fun q35 H hP hD hS => ?_)
  have hP : va_P D classes (cat [[(h, .inr (12, [.ref q1, .ref q2, .ref q3, .ref q4, .ref q5, .ref q7, .ref q9, .int 0, .int ((-1)), .ref q10, .ref q11, .int 0, .int 0, .ref q12, .int 0, .int 0, .null, .null, .null, .null, .null]))], [(q1, .inl (kA 4, 4, .inr (.inr (.inr (.inr (va_up (va_up (va_up (fun _ => none) 0 (some q13)) 1 (some q21)) 2 (some q29)))))))], [(q2, .inl (kA 5, 4, .inr (.inr (.inr (.inr (va_up (va_up (va_up (fun _ => none) 0 (some q15)) 1 (some q23)) 2 (some q31)))))))], [(q3, .inl (kA 6, 4, .inr (.inr (.inr (.inr (va_up (va_up (va_up (fun _ => none) 0 (some q17)) 1 (some q25)) 2 (some q33)))))))], [(q4, .inl (kA 7, 4, .inr (.inr (.inr (.inr (va_up (va_up (fun _ => none) 0 (some q19)) 1 (some q27)))))))], wRe kA q5 ((u6 0)) x0Re a0Re, wGr kA (u6 0 4) ((u6 1)) x0Gr a0Gr none, wEm kA q7 ((u8 0)) x0Em a0Em none, wNe kA (u8 0 1) ((u8 1)) x0Ne a0Ne, [(q9, .inl (kA 0, 24, .inl (fun _ => 0)))], [(q10, .inl (kA 1, 4000, .inl (fun _ => 0)))], [(q11, .inl (kA 1, 4000, .inl (fun _ => 0)))], [(q12, .inl (kA 0, 4096, .inl (fun _ => 0)))], wGr kA q13 u14 x0Gr a0Gr none, wFa kA q15 u16 x0Fa a0Fa, wNe kA q17 u18 x0Ne a0Ne, wDr kA q19 u20 x0Dr a0Dr, wGr kA q21 u22 x0Gr a0Gr none, wFa kA q23 u24 x0Fa a0Fa, wNe kA q25 u26 x0Ne a0Ne, wDr kA q27 u28 x0Dr a0Dr, wGr kA q29 u30 x0Gr a0Gr none, wFa kA q31 u32 x0Fa a0Fa, wNe kA q33 u34 x0Ne a0Ne, [(q35, .inr (0, [.null, .int 0, .null, .null, .null, .null, .null, .int 0, .int 0, .int 0, .null, .null, .null, .null, .null, .null, .null, .int 0, .int 0, .int 0, .int 0]))]]) H := hP
  have hD : va_D A (cat [[(h, .inr (12, [.ref q1, .ref q2, .ref q3, .ref q4, .ref q5, .ref q7, .ref q9, .int 0, .int ((-1)), .ref q10, .ref q11, .int 0, .int 0, .ref q12, .int 0, .int 0, .null, .null, .null, .null, .null]))], [(q1, .inl (kA 4, 4, .inr (.inr (.inr (.inr (va_up (va_up (va_up (fun _ => none) 0 (some q13)) 1 (some q21)) 2 (some q29)))))))], [(q2, .inl (kA 5, 4, .inr (.inr (.inr (.inr (va_up (va_up (va_up (fun _ => none) 0 (some q15)) 1 (some q23)) 2 (some q31)))))))], [(q3, .inl (kA 6, 4, .inr (.inr (.inr (.inr (va_up (va_up (va_up (fun _ => none) 0 (some q17)) 1 (some q25)) 2 (some q33)))))))], [(q4, .inl (kA 7, 4, .inr (.inr (.inr (.inr (va_up (va_up (fun _ => none) 0 (some q19)) 1 (some q27)))))))], wRe kA q5 ((u6 0)) x0Re a0Re, wGr kA (u6 0 4) ((u6 1)) x0Gr a0Gr none, wEm kA q7 ((u8 0)) x0Em a0Em none, wNe kA (u8 0 1) ((u8 1)) x0Ne a0Ne, [(q9, .inl (kA 0, 24, .inl (fun _ => 0)))], [(q10, .inl (kA 1, 4000, .inl (fun _ => 0)))], [(q11, .inl (kA 1, 4000, .inl (fun _ => 0)))], [(q12, .inl (kA 0, 4096, .inl (fun _ => 0)))], wGr kA q13 u14 x0Gr a0Gr none, wFa kA q15 u16 x0Fa a0Fa, wNe kA q17 u18 x0Ne a0Ne, wDr kA q19 u20 x0Dr a0Dr, wGr kA q21 u22 x0Gr a0Gr none, wFa kA q23 u24 x0Fa a0Fa, wNe kA q25 u26 x0Ne a0Ne, wDr kA q27 u28 x0Dr a0Dr, wGr kA q29 u30 x0Gr a0Gr none, wFa kA q31 u32 x0Fa a0Fa, wNe kA q33 u34 x0Ne a0Ne, [(q35, .inr (0, [.null, .int 0, .null, .null, .null, .null, .null, .int 0, .int 0, .int 0, .null, .null, .null, .null, .null, .null, .null, .int 0, .int 0, .int 0, .int 0]))]]) := hD
  refine W.widen (k := 186) (n := 33726) (by omega) (by omega) ?_
  refine lv_dup (pc := 202) hx hb d_Ho_init_202 rfl ?_
  refine lv_aload_n (pc := 203) hx hb d_Ho_init_203 rfl (lv_at hl 1 rfl) ?_
  refine k_get (pc := 204) X hK hP 0 rfl rfl i_Ho 0 (by decide) wm_555 rfl rfl d_Ho_init_204 ?_
  refine lv_iload_n (pc := 207) hx hb d_Ho_init_207 rfl (lv_at hl 0 rfl) ?_
  refine va_aldq (pc := 208) hx hb hK hP 1 4 rfl rfl (by unfold vp_in; decide) d_Ho_init_208 ?_
  refine W.eq (g2 := F0 m 209 ls [.ref q29, .ref q35, .ref q35, .int 2, .ref q4]) rfl ?_
  refine k_goV (gr := [[(h, .inr (12, [.ref q1, .ref q2, .ref q3, .ref q4, .ref q5, .ref q7, .ref q9, .int 0, .int ((-1)), .ref q10, .ref q11, .int 0, .int 0, .ref q12, .int 0, .int 0, .null, .null, .null, .null, .null]))], [(q1, .inl (kA 4, 4, .inr (.inr (.inr (.inr (va_up (va_up (va_up (fun _ => none) 0 (some q13)) 1 (some q21)) 2 (some q29)))))))], [(q2, .inl (kA 5, 4, .inr (.inr (.inr (.inr (va_up (va_up (va_up (fun _ => none) 0 (some q15)) 1 (some q23)) 2 (some q31)))))))], [(q3, .inl (kA 6, 4, .inr (.inr (.inr (.inr (va_up (va_up (va_up (fun _ => none) 0 (some q17)) 1 (some q25)) 2 (some q33)))))))], [(q4, .inl (kA 7, 4, .inr (.inr (.inr (.inr (va_up (va_up (fun _ => none) 0 (some q19)) 1 (some q27)))))))], wRe kA q5 ((u6 0)) x0Re a0Re, wGr kA (u6 0 4) ((u6 1)) x0Gr a0Gr none, wEm kA q7 ((u8 0)) x0Em a0Em none, wNe kA (u8 0 1) ((u8 1)) x0Ne a0Ne, [(q9, .inl (kA 0, 24, .inl (fun _ => 0)))], [(q10, .inl (kA 1, 4000, .inl (fun _ => 0)))], [(q11, .inl (kA 1, 4000, .inl (fun _ => 0)))], [(q12, .inl (kA 0, 4096, .inl (fun _ => 0)))], wGr kA q13 u14 x0Gr a0Gr none, wFa kA q15 u16 x0Fa a0Fa, wNe kA q17 u18 x0Ne a0Ne, wDr kA q19 u20 x0Dr a0Dr, wGr kA q21 u22 x0Gr a0Gr none, wFa kA q23 u24 x0Fa a0Fa, wNe kA q25 u26 x0Ne a0Ne, wDr kA q27 u28 x0Dr a0Dr, wGr kA q29 u30 x0Gr a0Gr none, wFa kA q31 u32 x0Fa a0Fa, wNe kA q33 u34 x0Ne a0Ne]) (k_rI (pc := 209) (As := [.ref q29]) (rest := [.ref q35, .int 2, .ref q4]) X (c_Dr_init l D kA q35 q29 H.size) rfl wm_463 wm_8 wm_461 wm_462 rfl 1 (by decide +kernel) ⟨Nat.le_of_ble_eq_true rfl, Nat.le_of_ble_eq_true rfl⟩ rfl rfl (k_pre hN hK hP hD [24] [0, 1, 2, 3, 4, 5, 6, 7, 8, 9, 10, 11, 12, 13, 14, 15, 16, 17, 18, 19, 20, 21, 22, 23] 25 rfl (by decide) rfl) rfl hl.1 rfl (Nat.le_of_ble_eq_true rfl) d_Ho_init_209 ⟨Nat.le_of_ble_eq_true rfl, Nat.le_of_ble_eq_true rfl⟩) hP hD hS hA [24] [0, 1, 2, 3, 4, 5, 6, 7, 8, 9, 10, 11, 12, 13, 14, 15, 16, 17, 18, 19, 20, 21, 22, 23] 25 rfl (by decide) rfl rfl (fun u36 H locs hu36 hP hD hS => ?_)
  have hP : va_P D classes (cat [[(h, .inr (12, [.ref q1, .ref q2, .ref q3, .ref q4, .ref q5, .ref q7, .ref q9, .int 0, .int ((-1)), .ref q10, .ref q11, .int 0, .int 0, .ref q12, .int 0, .int 0, .null, .null, .null, .null, .null]))], [(q1, .inl (kA 4, 4, .inr (.inr (.inr (.inr (va_up (va_up (va_up (fun _ => none) 0 (some q13)) 1 (some q21)) 2 (some q29)))))))], [(q2, .inl (kA 5, 4, .inr (.inr (.inr (.inr (va_up (va_up (va_up (fun _ => none) 0 (some q15)) 1 (some q23)) 2 (some q31)))))))], [(q3, .inl (kA 6, 4, .inr (.inr (.inr (.inr (va_up (va_up (va_up (fun _ => none) 0 (some q17)) 1 (some q25)) 2 (some q33)))))))], [(q4, .inl (kA 7, 4, .inr (.inr (.inr (.inr (va_up (va_up (fun _ => none) 0 (some q19)) 1 (some q27)))))))], wRe kA q5 ((u6 0)) x0Re a0Re, wGr kA (u6 0 4) ((u6 1)) x0Gr a0Gr none, wEm kA q7 ((u8 0)) x0Em a0Em none, wNe kA (u8 0 1) ((u8 1)) x0Ne a0Ne, [(q9, .inl (kA 0, 24, .inl (fun _ => 0)))], [(q10, .inl (kA 1, 4000, .inl (fun _ => 0)))], [(q11, .inl (kA 1, 4000, .inl (fun _ => 0)))], [(q12, .inl (kA 0, 4096, .inl (fun _ => 0)))], wGr kA q13 u14 x0Gr a0Gr none, wFa kA q15 u16 x0Fa a0Fa, wNe kA q17 u18 x0Ne a0Ne, wDr kA q19 u20 x0Dr a0Dr, wGr kA q21 u22 x0Gr a0Gr none, wFa kA q23 u24 x0Fa a0Fa, wNe kA q25 u26 x0Ne a0Ne, wDr kA q27 u28 x0Dr a0Dr, wGr kA q29 u30 x0Gr a0Gr none, wFa kA q31 u32 x0Fa a0Fa, wNe kA q33 u34 x0Ne a0Ne, wDr kA q35 u36 x0Dr a0Dr]) H := hP
  have hD : va_D A (cat [[(h, .inr (12, [.ref q1, .ref q2, .ref q3, .ref q4, .ref q5, .ref q7, .ref q9, .int 0, .int ((-1)), .ref q10, .ref q11, .int 0, .int 0, .ref q12, .int 0, .int 0, .null, .null, .null, .null, .null]))], [(q1, .inl (kA 4, 4, .inr (.inr (.inr (.inr (va_up (va_up (va_up (fun _ => none) 0 (some q13)) 1 (some q21)) 2 (some q29)))))))], [(q2, .inl (kA 5, 4, .inr (.inr (.inr (.inr (va_up (va_up (va_up (fun _ => none) 0 (some q15)) 1 (some q23)) 2 (some q31)))))))], [(q3, .inl (kA 6, 4, .inr (.inr (.inr (.inr (va_up (va_up (va_up (fun _ => none) 0 (some q17)) 1 (some q25)) 2 (some q33)))))))], [(q4, .inl (kA 7, 4, .inr (.inr (.inr (.inr (va_up (va_up (fun _ => none) 0 (some q19)) 1 (some q27)))))))], wRe kA q5 ((u6 0)) x0Re a0Re, wGr kA (u6 0 4) ((u6 1)) x0Gr a0Gr none, wEm kA q7 ((u8 0)) x0Em a0Em none, wNe kA (u8 0 1) ((u8 1)) x0Ne a0Ne, [(q9, .inl (kA 0, 24, .inl (fun _ => 0)))], [(q10, .inl (kA 1, 4000, .inl (fun _ => 0)))], [(q11, .inl (kA 1, 4000, .inl (fun _ => 0)))], [(q12, .inl (kA 0, 4096, .inl (fun _ => 0)))], wGr kA q13 u14 x0Gr a0Gr none, wFa kA q15 u16 x0Fa a0Fa, wNe kA q17 u18 x0Ne a0Ne, wDr kA q19 u20 x0Dr a0Dr, wGr kA q21 u22 x0Gr a0Gr none, wFa kA q23 u24 x0Fa a0Fa, wNe kA q25 u26 x0Ne a0Ne, wDr kA q27 u28 x0Dr a0Dr, wGr kA q29 u30 x0Gr a0Gr none, wFa kA q31 u32 x0Fa a0Fa, wNe kA q33 u34 x0Ne a0Ne, wDr kA q35 u36 x0Dr a0Dr]) := hD
  refine W.widen (k := 198) (n := 36662) (by omega) (by omega) ?_
  refine va_astq (pc := 212) hx hb hK hP hD hS 4 7 186 0 rfl rfl rfl rfl (by unfold vp_in; decide) d_Ho_init_212 (fun H locs hP hD hS => ?_)
  have hP : va_P D classes (cat [[(h, .inr (12, [.ref q1, .ref q2, .ref q3, .ref q4, .ref q5, .ref q7, .ref q9, .int 0, .int ((-1)), .ref q10, .ref q11, .int 0, .int 0, .ref q12, .int 0, .int 0, .null, .null, .null, .null, .null]))], [(q1, .inl (kA 4, 4, .inr (.inr (.inr (.inr (va_up (va_up (va_up (fun _ => none) 0 (some q13)) 1 (some q21)) 2 (some q29)))))))], [(q2, .inl (kA 5, 4, .inr (.inr (.inr (.inr (va_up (va_up (va_up (fun _ => none) 0 (some q15)) 1 (some q23)) 2 (some q31)))))))], [(q3, .inl (kA 6, 4, .inr (.inr (.inr (.inr (va_up (va_up (va_up (fun _ => none) 0 (some q17)) 1 (some q25)) 2 (some q33)))))))], [(q4, .inl (kA 7, 4, .inr (.inr (.inr (.inr (va_up (va_up (va_up (fun _ => none) 0 (some q19)) 1 (some q27)) 2 (some q35)))))))], wRe kA q5 ((u6 0)) x0Re a0Re, wGr kA (u6 0 4) ((u6 1)) x0Gr a0Gr none, wEm kA q7 ((u8 0)) x0Em a0Em none, wNe kA (u8 0 1) ((u8 1)) x0Ne a0Ne, [(q9, .inl (kA 0, 24, .inl (fun _ => 0)))], [(q10, .inl (kA 1, 4000, .inl (fun _ => 0)))], [(q11, .inl (kA 1, 4000, .inl (fun _ => 0)))], [(q12, .inl (kA 0, 4096, .inl (fun _ => 0)))], wGr kA q13 u14 x0Gr a0Gr none, wFa kA q15 u16 x0Fa a0Fa, wNe kA q17 u18 x0Ne a0Ne, wDr kA q19 u20 x0Dr a0Dr, wGr kA q21 u22 x0Gr a0Gr none, wFa kA q23 u24 x0Fa a0Fa, wNe kA q25 u26 x0Ne a0Ne, wDr kA q27 u28 x0Dr a0Dr, wGr kA q29 u30 x0Gr a0Gr none, wFa kA q31 u32 x0Fa a0Fa, wNe kA q33 u34 x0Ne a0Ne, wDr kA q35 u36 x0Dr a0Dr]) H := hP
  have hD : va_D A (cat [[(h, .inr (12, [.ref q1, .ref q2, .ref q3, .ref q4, .ref q5, .ref q7, .ref q9, .int 0, .int ((-1)), .ref q10, .ref q11, .int 0, .int 0, .ref q12, .int 0, .int 0, .null, .null, .null, .null, .null]))], [(q1, .inl (kA 4, 4, .inr (.inr (.inr (.inr (va_up (va_up (va_up (fun _ => none) 0 (some q13)) 1 (some q21)) 2 (some q29)))))))], [(q2, .inl (kA 5, 4, .inr (.inr (.inr (.inr (va_up (va_up (va_up (fun _ => none) 0 (some q15)) 1 (some q23)) 2 (some q31)))))))], [(q3, .inl (kA 6, 4, .inr (.inr (.inr (.inr (va_up (va_up (va_up (fun _ => none) 0 (some q17)) 1 (some q25)) 2 (some q33)))))))], [(q4, .inl (kA 7, 4, .inr (.inr (.inr (.inr (va_up (va_up (va_up (fun _ => none) 0 (some q19)) 1 (some q27)) 2 (some q35)))))))], wRe kA q5 ((u6 0)) x0Re a0Re, wGr kA (u6 0 4) ((u6 1)) x0Gr a0Gr none, wEm kA q7 ((u8 0)) x0Em a0Em none, wNe kA (u8 0 1) ((u8 1)) x0Ne a0Ne, [(q9, .inl (kA 0, 24, .inl (fun _ => 0)))], [(q10, .inl (kA 1, 4000, .inl (fun _ => 0)))], [(q11, .inl (kA 1, 4000, .inl (fun _ => 0)))], [(q12, .inl (kA 0, 4096, .inl (fun _ => 0)))], wGr kA q13 u14 x0Gr a0Gr none, wFa kA q15 u16 x0Fa a0Fa, wNe kA q17 u18 x0Ne a0Ne, wDr kA q19 u20 x0Dr a0Dr, wGr kA q21 u22 x0Gr a0Gr none, wFa kA q23 u24 x0Fa a0Fa, wNe kA q25 u26 x0Ne a0Ne, wDr kA q27 u28 x0Dr a0Dr, wGr kA q29 u30 x0Gr a0Gr none, wFa kA q31 u32 x0Fa a0Fa, wNe kA q33 u34 x0Ne a0Ne, wDr kA q35 u36 x0Dr a0Dr]) := hD
  refine lv_iinc (pc := 213) (v := 3) (lv' := [(1, .int 3), (0, .ref h)]) hx hb d_Ho_init_213 hl (k := 0) rfl (by decide) (by decide) rfl (fun ls hl => ?_)
  refine lv_goto (pc := 216) (tgt := 150) hx hb d_Ho_init_216 (by decide) ?_
  refine lv_iload_n (pc := 150) hx hb d_Ho_init_150 rfl (lv_at hl 0 rfl) ?_
  refine lv_iconst (pc := 151) (v := 4) hx hb d_Ho_init_151 (by decide) ?_
  refine lv_icmp_ge (pc := 152) (tgt := 219) hx hb d_Ho_init_152 (by decide) (fun c1 => absurd c1 (by decide)) (fun _ => ?_)
  refine lv_aload_n (pc := 155) hx hb d_Ho_init_155 rfl (lv_at hl 1 rfl) ?_
  refine k_get (pc := 156) X hK hP 0 rfl rfl i_Ho 0 (by decide) wm_555 rfl rfl d_Ho_init_156 ?_
  refine lv_iload_n (pc := 159) hx hb d_Ho_init_159 rfl (lv_at hl 0 rfl) ?_
  refine k_new (pc := 160) (fs := f0Gr) X i_Gr t_Gr t_Gr_ok wm_33 wm_48 wm_3 hK hP hD hS hA (ci := 3) rfl f0Gr_ok (Nat.le_of_ble_eq_true rfl) (Nat.le_of_ble_eq_true rfl) d_Ho_init_160 (fun q37 H hP hD hS => ?_)
  have hP : va_P D classes (cat [[(h, .inr (12, [.ref q1, .ref q2, .ref q3, .ref q4, .ref q5, .ref q7, .ref q9, .int 0, .int ((-1)), .ref q10, .ref q11, .int 0, .int 0, .ref q12, .int 0, .int 0, .null, .null, .null, .null, .null]))], [(q1, .inl (kA 4, 4, .inr (.inr (.inr (.inr (va_up (va_up (va_up (fun _ => none) 0 (some q13)) 1 (some q21)) 2 (some q29)))))))], [(q2, .inl (kA 5, 4, .inr (.inr (.inr (.inr (va_up (va_up (va_up (fun _ => none) 0 (some q15)) 1 (some q23)) 2 (some q31)))))))], [(q3, .inl (kA 6, 4, .inr (.inr (.inr (.inr (va_up (va_up (va_up (fun _ => none) 0 (some q17)) 1 (some q25)) 2 (some q33)))))))], [(q4, .inl (kA 7, 4, .inr (.inr (.inr (.inr (va_up (va_up (va_up (fun _ => none) 0 (some q19)) 1 (some q27)) 2 (some q35)))))))], wRe kA q5 ((u6 0)) x0Re a0Re, wGr kA (u6 0 4) ((u6 1)) x0Gr a0Gr none, wEm kA q7 ((u8 0)) x0Em a0Em none, wNe kA (u8 0 1) ((u8 1)) x0Ne a0Ne, [(q9, .inl (kA 0, 24, .inl (fun _ => 0)))], [(q10, .inl (kA 1, 4000, .inl (fun _ => 0)))], [(q11, .inl (kA 1, 4000, .inl (fun _ => 0)))], [(q12, .inl (kA 0, 4096, .inl (fun _ => 0)))], wGr kA q13 u14 x0Gr a0Gr none, wFa kA q15 u16 x0Fa a0Fa, wNe kA q17 u18 x0Ne a0Ne, wDr kA q19 u20 x0Dr a0Dr, wGr kA q21 u22 x0Gr a0Gr none, wFa kA q23 u24 x0Fa a0Fa, wNe kA q25 u26 x0Ne a0Ne, wDr kA q27 u28 x0Dr a0Dr, wGr kA q29 u30 x0Gr a0Gr none, wFa kA q31 u32 x0Fa a0Fa, wNe kA q33 u34 x0Ne a0Ne, wDr kA q35 u36 x0Dr a0Dr, [(q37, .inr (3, [.int 0, .int 0, .int 0, .null, .null, .null, .null, .null, .null, .null, .null, .null, .null, .null, .null, .null, .null, .int 0, .int 0]))]]) H := hP
  have hD : va_D A (cat [[(h, .inr (12, [.ref q1, .ref q2, .ref q3, .ref q4, .ref q5, .ref q7, .ref q9, .int 0, .int ((-1)), .ref q10, .ref q11, .int 0, .int 0, .ref q12, .int 0, .int 0, .null, .null, .null, .null, .null]))], [(q1, .inl (kA 4, 4, .inr (.inr (.inr (.inr (va_up (va_up (va_up (fun _ => none) 0 (some q13)) 1 (some q21)) 2 (some q29)))))))], [(q2, .inl (kA 5, 4, .inr (.inr (.inr (.inr (va_up (va_up (va_up (fun _ => none) 0 (some q15)) 1 (some q23)) 2 (some q31)))))))], [(q3, .inl (kA 6, 4, .inr (.inr (.inr (.inr (va_up (va_up (va_up (fun _ => none) 0 (some q17)) 1 (some q25)) 2 (some q33)))))))], [(q4, .inl (kA 7, 4, .inr (.inr (.inr (.inr (va_up (va_up (va_up (fun _ => none) 0 (some q19)) 1 (some q27)) 2 (some q35)))))))], wRe kA q5 ((u6 0)) x0Re a0Re, wGr kA (u6 0 4) ((u6 1)) x0Gr a0Gr none, wEm kA q7 ((u8 0)) x0Em a0Em none, wNe kA (u8 0 1) ((u8 1)) x0Ne a0Ne, [(q9, .inl (kA 0, 24, .inl (fun _ => 0)))], [(q10, .inl (kA 1, 4000, .inl (fun _ => 0)))], [(q11, .inl (kA 1, 4000, .inl (fun _ => 0)))], [(q12, .inl (kA 0, 4096, .inl (fun _ => 0)))], wGr kA q13 u14 x0Gr a0Gr none, wFa kA q15 u16 x0Fa a0Fa, wNe kA q17 u18 x0Ne a0Ne, wDr kA q19 u20 x0Dr a0Dr, wGr kA q21 u22 x0Gr a0Gr none, wFa kA q23 u24 x0Fa a0Fa, wNe kA q25 u26 x0Ne a0Ne, wDr kA q27 u28 x0Dr a0Dr, wGr kA q29 u30 x0Gr a0Gr none, wFa kA q31 u32 x0Fa a0Fa, wNe kA q33 u34 x0Ne a0Ne, wDr kA q35 u36 x0Dr a0Dr, [(q37, .inr (3, [.int 0, .int 0, .int 0, .null, .null, .null, .null, .null, .null, .null, .null, .null, .null, .null, .null, .null, .null, .int 0, .int 0]))]]) := hD
  refine W.widen (k := 199) (n := 36681) (by omega) (by omega) ?_
  refine lv_dup (pc := 163) hx hb d_Ho_init_163 rfl ?_
  refine k_goV (gr := [[(h, .inr (12, [.ref q1, .ref q2, .ref q3, .ref q4, .ref q5, .ref q7, .ref q9, .int 0, .int ((-1)), .ref q10, .ref q11, .int 0, .int 0, .ref q12, .int 0, .int 0, .null, .null, .null, .null, .null]))], [(q1, .inl (kA 4, 4, .inr (.inr (.inr (.inr (va_up (va_up (va_up (fun _ => none) 0 (some q13)) 1 (some q21)) 2 (some q29)))))))], [(q2, .inl (kA 5, 4, .inr (.inr (.inr (.inr (va_up (va_up (va_up (fun _ => none) 0 (some q15)) 1 (some q23)) 2 (some q31)))))))], [(q3, .inl (kA 6, 4, .inr (.inr (.inr (.inr (va_up (va_up (va_up (fun _ => none) 0 (some q17)) 1 (some q25)) 2 (some q33)))))))], [(q4, .inl (kA 7, 4, .inr (.inr (.inr (.inr (va_up (va_up (va_up (fun _ => none) 0 (some q19)) 1 (some q27)) 2 (some q35)))))))], wRe kA q5 ((u6 0)) x0Re a0Re, wGr kA (u6 0 4) ((u6 1)) x0Gr a0Gr none, wEm kA q7 ((u8 0)) x0Em a0Em none, wNe kA (u8 0 1) ((u8 1)) x0Ne a0Ne, [(q9, .inl (kA 0, 24, .inl (fun _ => 0)))], [(q10, .inl (kA 1, 4000, .inl (fun _ => 0)))], [(q11, .inl (kA 1, 4000, .inl (fun _ => 0)))], [(q12, .inl (kA 0, 4096, .inl (fun _ => 0)))], wGr kA q13 u14 x0Gr a0Gr none, wFa kA q15 u16 x0Fa a0Fa, wNe kA q17 u18 x0Ne a0Ne, wDr kA q19 u20 x0Dr a0Dr, wGr kA q21 u22 x0Gr a0Gr none, wFa kA q23 u24 x0Fa a0Fa, wNe kA q25 u26 x0Ne a0Ne, wDr kA q27 u28 x0Dr a0Dr, wGr kA q29 u30 x0Gr a0Gr none, wFa kA q31 u32 x0Fa a0Fa, wNe kA q33 u34 x0Ne a0Ne, wDr kA q35 u36 x0Dr a0Dr]) (k_rI (pc := 164) (As := []) (rest := [.ref q37, .int 3, .ref q1]) X (c_Gr_init l D kA q37 H.size) rfl wm_51 wm_3 wm_388 wm_50 rfl 0 (by decide +kernel) ⟨Nat.le_of_ble_eq_true rfl, Nat.le_of_ble_eq_true rfl⟩ rfl rfl (k_pre hN hK hP hD [25] [0, 1, 2, 3, 4, 5, 6, 7, 8, 9, 10, 11, 12, 13, 14, 15, 16, 17, 18, 19, 20, 21, 22, 23, 24] 26 rfl (by decide) rfl) rfl hl.1 rfl (Nat.le_of_ble_eq_true rfl) d_Ho_init_164 ⟨Nat.le_of_ble_eq_true rfl, Nat.le_of_ble_eq_true rfl⟩) hP hD hS hA [25] [0, 1, 2, 3, 4, 5, 6, 7, 8, 9, 10, 11, 12, 13, 14, 15, 16, 17, 18, 19, 20, 21, 22, 23, 24] 26 rfl (by decide) rfl rfl (fun u38 H locs hu38 hP hD hS => ?_)
  have hP : va_P D classes (cat [[(h, .inr (12, [.ref q1, .ref q2, .ref q3, .ref q4, .ref q5, .ref q7, .ref q9, .int 0, .int ((-1)), .ref q10, .ref q11, .int 0, .int 0, .ref q12, .int 0, .int 0, .null, .null, .null, .null, .null]))], [(q1, .inl (kA 4, 4, .inr (.inr (.inr (.inr (va_up (va_up (va_up (fun _ => none) 0 (some q13)) 1 (some q21)) 2 (some q29)))))))], [(q2, .inl (kA 5, 4, .inr (.inr (.inr (.inr (va_up (va_up (va_up (fun _ => none) 0 (some q15)) 1 (some q23)) 2 (some q31)))))))], [(q3, .inl (kA 6, 4, .inr (.inr (.inr (.inr (va_up (va_up (va_up (fun _ => none) 0 (some q17)) 1 (some q25)) 2 (some q33)))))))], [(q4, .inl (kA 7, 4, .inr (.inr (.inr (.inr (va_up (va_up (va_up (fun _ => none) 0 (some q19)) 1 (some q27)) 2 (some q35)))))))], wRe kA q5 ((u6 0)) x0Re a0Re, wGr kA (u6 0 4) ((u6 1)) x0Gr a0Gr none, wEm kA q7 ((u8 0)) x0Em a0Em none, wNe kA (u8 0 1) ((u8 1)) x0Ne a0Ne, [(q9, .inl (kA 0, 24, .inl (fun _ => 0)))], [(q10, .inl (kA 1, 4000, .inl (fun _ => 0)))], [(q11, .inl (kA 1, 4000, .inl (fun _ => 0)))], [(q12, .inl (kA 0, 4096, .inl (fun _ => 0)))], wGr kA q13 u14 x0Gr a0Gr none, wFa kA q15 u16 x0Fa a0Fa, wNe kA q17 u18 x0Ne a0Ne, wDr kA q19 u20 x0Dr a0Dr, wGr kA q21 u22 x0Gr a0Gr none, wFa kA q23 u24 x0Fa a0Fa, wNe kA q25 u26 x0Ne a0Ne, wDr kA q27 u28 x0Dr a0Dr, wGr kA q29 u30 x0Gr a0Gr none, wFa kA q31 u32 x0Fa a0Fa, wNe kA q33 u34 x0Ne a0Ne, wDr kA q35 u36 x0Dr a0Dr, wGr kA q37 u38 x0Gr a0Gr none]) H := hP
  have hD : va_D A (cat [[(h, .inr (12, [.ref q1, .ref q2, .ref q3, .ref q4, .ref q5, .ref q7, .ref q9, .int 0, .int ((-1)), .ref q10, .ref q11, .int 0, .int 0, .ref q12, .int 0, .int 0, .null, .null, .null, .null, .null]))], [(q1, .inl (kA 4, 4, .inr (.inr (.inr (.inr (va_up (va_up (va_up (fun _ => none) 0 (some q13)) 1 (some q21)) 2 (some q29)))))))], [(q2, .inl (kA 5, 4, .inr (.inr (.inr (.inr (va_up (va_up (va_up (fun _ => none) 0 (some q15)) 1 (some q23)) 2 (some q31)))))))], [(q3, .inl (kA 6, 4, .inr (.inr (.inr (.inr (va_up (va_up (va_up (fun _ => none) 0 (some q17)) 1 (some q25)) 2 (some q33)))))))], [(q4, .inl (kA 7, 4, .inr (.inr (.inr (.inr (va_up (va_up (va_up (fun _ => none) 0 (some q19)) 1 (some q27)) 2 (some q35)))))))], wRe kA q5 ((u6 0)) x0Re a0Re, wGr kA (u6 0 4) ((u6 1)) x0Gr a0Gr none, wEm kA q7 ((u8 0)) x0Em a0Em none, wNe kA (u8 0 1) ((u8 1)) x0Ne a0Ne, [(q9, .inl (kA 0, 24, .inl (fun _ => 0)))], [(q10, .inl (kA 1, 4000, .inl (fun _ => 0)))], [(q11, .inl (kA 1, 4000, .inl (fun _ => 0)))], [(q12, .inl (kA 0, 4096, .inl (fun _ => 0)))], wGr kA q13 u14 x0Gr a0Gr none, wFa kA q15 u16 x0Fa a0Fa, wNe kA q17 u18 x0Ne a0Ne, wDr kA q19 u20 x0Dr a0Dr, wGr kA q21 u22 x0Gr a0Gr none, wFa kA q23 u24 x0Fa a0Fa, wNe kA q25 u26 x0Ne a0Ne, wDr kA q27 u28 x0Dr a0Dr, wGr kA q29 u30 x0Gr a0Gr none, wFa kA q31 u32 x0Fa a0Fa, wNe kA q33 u34 x0Ne a0Ne, wDr kA q35 u36 x0Dr a0Dr, wGr kA q37 u38 x0Gr a0Gr none]) := hD
  refine W.widen (k := 212) (n := 37817) (by omega) (by omega) ?_
  refine va_astq (pc := 167) hx hb hK hP hD hS 1 4 199 3 rfl rfl rfl rfl (by unfold vp_in; decide) d_Ho_init_167 (fun H locs hP hD hS => ?_)
  have hP : va_P D classes (cat [[(h, .inr (12, [.ref q1, .ref q2, .ref q3, .ref q4, .ref q5, .ref q7, .ref q9, .int 0, .int ((-1)), .ref q10, .ref q11, .int 0, .int 0, .ref q12, .int 0, .int 0, .null, .null, .null, .null, .null]))], [(q1, .inl (kA 4, 4, .inr (.inr (.inr (.inr (va_up (va_up (va_up (va_up (fun _ => none) 0 (some q13)) 1 (some q21)) 2 (some q29)) 3 (some q37)))))))], [(q2, .inl (kA 5, 4, .inr (.inr (.inr (.inr (va_up (va_up (va_up (fun _ => none) 0 (some q15)) 1 (some q23)) 2 (some q31)))))))], [(q3, .inl (kA 6, 4, .inr (.inr (.inr (.inr (va_up (va_up (va_up (fun _ => none) 0 (some q17)) 1 (some q25)) 2 (some q33)))))))], [(q4, .inl (kA 7, 4, .inr (.inr (.inr (.inr (va_up (va_up (va_up (fun _ => none) 0 (some q19)) 1 (some q27)) 2 (some q35)))))))], wRe kA q5 ((u6 0)) x0Re a0Re, wGr kA (u6 0 4) ((u6 1)) x0Gr a0Gr none, wEm kA q7 ((u8 0)) x0Em a0Em none, wNe kA (u8 0 1) ((u8 1)) x0Ne a0Ne, [(q9, .inl (kA 0, 24, .inl (fun _ => 0)))], [(q10, .inl (kA 1, 4000, .inl (fun _ => 0)))], [(q11, .inl (kA 1, 4000, .inl (fun _ => 0)))], [(q12, .inl (kA 0, 4096, .inl (fun _ => 0)))], wGr kA q13 u14 x0Gr a0Gr none, wFa kA q15 u16 x0Fa a0Fa, wNe kA q17 u18 x0Ne a0Ne, wDr kA q19 u20 x0Dr a0Dr, wGr kA q21 u22 x0Gr a0Gr none, wFa kA q23 u24 x0Fa a0Fa, wNe kA q25 u26 x0Ne a0Ne, wDr kA q27 u28 x0Dr a0Dr, wGr kA q29 u30 x0Gr a0Gr none, wFa kA q31 u32 x0Fa a0Fa, wNe kA q33 u34 x0Ne a0Ne, wDr kA q35 u36 x0Dr a0Dr, wGr kA q37 u38 x0Gr a0Gr none]) H := hP
  have hD : va_D A (cat [[(h, .inr (12, [.ref q1, .ref q2, .ref q3, .ref q4, .ref q5, .ref q7, .ref q9, .int 0, .int ((-1)), .ref q10, .ref q11, .int 0, .int 0, .ref q12, .int 0, .int 0, .null, .null, .null, .null, .null]))], [(q1, .inl (kA 4, 4, .inr (.inr (.inr (.inr (va_up (va_up (va_up (va_up (fun _ => none) 0 (some q13)) 1 (some q21)) 2 (some q29)) 3 (some q37)))))))], [(q2, .inl (kA 5, 4, .inr (.inr (.inr (.inr (va_up (va_up (va_up (fun _ => none) 0 (some q15)) 1 (some q23)) 2 (some q31)))))))], [(q3, .inl (kA 6, 4, .inr (.inr (.inr (.inr (va_up (va_up (va_up (fun _ => none) 0 (some q17)) 1 (some q25)) 2 (some q33)))))))], [(q4, .inl (kA 7, 4, .inr (.inr (.inr (.inr (va_up (va_up (va_up (fun _ => none) 0 (some q19)) 1 (some q27)) 2 (some q35)))))))], wRe kA q5 ((u6 0)) x0Re a0Re, wGr kA (u6 0 4) ((u6 1)) x0Gr a0Gr none, wEm kA q7 ((u8 0)) x0Em a0Em none, wNe kA (u8 0 1) ((u8 1)) x0Ne a0Ne, [(q9, .inl (kA 0, 24, .inl (fun _ => 0)))], [(q10, .inl (kA 1, 4000, .inl (fun _ => 0)))], [(q11, .inl (kA 1, 4000, .inl (fun _ => 0)))], [(q12, .inl (kA 0, 4096, .inl (fun _ => 0)))], wGr kA q13 u14 x0Gr a0Gr none, wFa kA q15 u16 x0Fa a0Fa, wNe kA q17 u18 x0Ne a0Ne, wDr kA q19 u20 x0Dr a0Dr, wGr kA q21 u22 x0Gr a0Gr none, wFa kA q23 u24 x0Fa a0Fa, wNe kA q25 u26 x0Ne a0Ne, wDr kA q27 u28 x0Dr a0Dr, wGr kA q29 u30 x0Gr a0Gr none, wFa kA q31 u32 x0Fa a0Fa, wNe kA q33 u34 x0Ne a0Ne, wDr kA q35 u36 x0Dr a0Dr, wGr kA q37 u38 x0Gr a0Gr none]) := hD
  refine lv_aload_n (pc := 168) hx hb d_Ho_init_168 rfl (lv_at hl 1 rfl) ?_
  refine k_get (pc := 169) X hK hP 0 rfl rfl i_Ho 1 (by decide) wm_556 rfl rfl d_Ho_init_169 ?_
  refine lv_iload_n (pc := 172) hx hb d_Ho_init_172 rfl (lv_at hl 0 rfl) ?_
  refine k_new (pc := 173) (fs := f0Fa) X i_Fa t_Fa t_Fa_ok wm_35 wm_389 wm_7 hK hP hD hS hA (ci := 2) rfl f0Fa_ok (Nat.le_of_ble_eq_true rfl) (Nat.le_of_ble_eq_true rfl) d_Ho_init_173 (fun q39 H hP hD hS => ?_)
  have hP : va_P D classes (cat [[(h, .inr (12, [.ref q1, .ref q2, .ref q3, .ref q4, .ref q5, .ref q7, .ref q9, .int 0, .int ((-1)), .ref q10, .ref q11, .int 0, .int 0, .ref q12, .int 0, .int 0, .null, .null, .null, .null, .null]))], [(q1, .inl (kA 4, 4, .inr (.inr (.inr (.inr (va_up (va_up (va_up (va_up (fun _ => none) 0 (some q13)) 1 (some q21)) 2 (some q29)) 3 (some q37)))))))], [(q2, .inl (kA 5, 4, .inr (.inr (.inr (.inr (va_up (va_up (va_up (fun _ => none) 0 (some q15)) 1 (some q23)) 2 (some q31)))))))], [(q3, .inl (kA 6, 4, .inr (.inr (.inr (.inr (va_up (va_up (va_up (fun _ => none) 0 (some q17)) 1 (some q25)) 2 (some q33)))))))], [(q4, .inl (kA 7, 4, .inr (.inr (.inr (.inr (va_up (va_up (va_up (fun _ => none) 0 (some q19)) 1 (some q27)) 2 (some q35)))))))], wRe kA q5 ((u6 0)) x0Re a0Re, wGr kA (u6 0 4) ((u6 1)) x0Gr a0Gr none, wEm kA q7 ((u8 0)) x0Em a0Em none, wNe kA (u8 0 1) ((u8 1)) x0Ne a0Ne, [(q9, .inl (kA 0, 24, .inl (fun _ => 0)))], [(q10, .inl (kA 1, 4000, .inl (fun _ => 0)))], [(q11, .inl (kA 1, 4000, .inl (fun _ => 0)))], [(q12, .inl (kA 0, 4096, .inl (fun _ => 0)))], wGr kA q13 u14 x0Gr a0Gr none, wFa kA q15 u16 x0Fa a0Fa, wNe kA q17 u18 x0Ne a0Ne, wDr kA q19 u20 x0Dr a0Dr, wGr kA q21 u22 x0Gr a0Gr none, wFa kA q23 u24 x0Fa a0Fa, wNe kA q25 u26 x0Ne a0Ne, wDr kA q27 u28 x0Dr a0Dr, wGr kA q29 u30 x0Gr a0Gr none, wFa kA q31 u32 x0Fa a0Fa, wNe kA q33 u34 x0Ne a0Ne, wDr kA q35 u36 x0Dr a0Dr, wGr kA q37 u38 x0Gr a0Gr none, [(q39, .inr (2, [.int 0, .int 0, .int 0, .int 0, .null, .null, .null, .null, .null, .null, .null, .null, .null, .null, .null]))]]) H := hP
  have hD : va_D A (cat [[(h, .inr (12, [.ref q1, .ref q2, .ref q3, .ref q4, .ref q5, .ref q7, .ref q9, .int 0, .int ((-1)), .ref q10, .ref q11, .int 0, .int 0, .ref q12, .int 0, .int 0, .null, .null, .null, .null, .null]))], [(q1, .inl (kA 4, 4, .inr (.inr (.inr (.inr (va_up (va_up (va_up (va_up (fun _ => none) 0 (some q13)) 1 (some q21)) 2 (some q29)) 3 (some q37)))))))], [(q2, .inl (kA 5, 4, .inr (.inr (.inr (.inr (va_up (va_up (va_up (fun _ => none) 0 (some q15)) 1 (some q23)) 2 (some q31)))))))], [(q3, .inl (kA 6, 4, .inr (.inr (.inr (.inr (va_up (va_up (va_up (fun _ => none) 0 (some q17)) 1 (some q25)) 2 (some q33)))))))], [(q4, .inl (kA 7, 4, .inr (.inr (.inr (.inr (va_up (va_up (va_up (fun _ => none) 0 (some q19)) 1 (some q27)) 2 (some q35)))))))], wRe kA q5 ((u6 0)) x0Re a0Re, wGr kA (u6 0 4) ((u6 1)) x0Gr a0Gr none, wEm kA q7 ((u8 0)) x0Em a0Em none, wNe kA (u8 0 1) ((u8 1)) x0Ne a0Ne, [(q9, .inl (kA 0, 24, .inl (fun _ => 0)))], [(q10, .inl (kA 1, 4000, .inl (fun _ => 0)))], [(q11, .inl (kA 1, 4000, .inl (fun _ => 0)))], [(q12, .inl (kA 0, 4096, .inl (fun _ => 0)))], wGr kA q13 u14 x0Gr a0Gr none, wFa kA q15 u16 x0Fa a0Fa, wNe kA q17 u18 x0Ne a0Ne, wDr kA q19 u20 x0Dr a0Dr, wGr kA q21 u22 x0Gr a0Gr none, wFa kA q23 u24 x0Fa a0Fa, wNe kA q25 u26 x0Ne a0Ne, wDr kA q27 u28 x0Dr a0Dr, wGr kA q29 u30 x0Gr a0Gr none, wFa kA q31 u32 x0Fa a0Fa, wNe kA q33 u34 x0Ne a0Ne, wDr kA q35 u36 x0Dr a0Dr, wGr kA q37 u38 x0Gr a0Gr none, [(q39, .inr (2, [.int 0, .int 0, .int 0, .int 0, .null, .null, .null, .null, .null, .null, .null, .null, .null, .null, .null]))]]) := hD
  refine W.widen (k := 213) (n := 37832) (by omega) (by omega) ?_
  refine lv_dup (pc := 176) hx hb d_Ho_init_176 rfl ?_
  refine k_goV (gr := [[(h, .inr (12, [.ref q1, .ref q2, .ref q3, .ref q4, .ref q5, .ref q7, .ref q9, .int 0, .int ((-1)), .ref q10, .ref q11, .int 0, .int 0, .ref q12, .int 0, .int 0, .null, .null, .null, .null, .null]))], [(q1, .inl (kA 4, 4, .inr (.inr (.inr (.inr (va_up (va_up (va_up (va_up (fun _ => none) 0 (some q13)) 1 (some q21)) 2 (some q29)) 3 (some q37)))))))], [(q2, .inl (kA 5, 4, .inr (.inr (.inr (.inr (va_up (va_up (va_up (fun _ => none) 0 (some q15)) 1 (some q23)) 2 (some q31)))))))], [(q3, .inl (kA 6, 4, .inr (.inr (.inr (.inr (va_up (va_up (va_up (fun _ => none) 0 (some q17)) 1 (some q25)) 2 (some q33)))))))], [(q4, .inl (kA 7, 4, .inr (.inr (.inr (.inr (va_up (va_up (va_up (fun _ => none) 0 (some q19)) 1 (some q27)) 2 (some q35)))))))], wRe kA q5 ((u6 0)) x0Re a0Re, wGr kA (u6 0 4) ((u6 1)) x0Gr a0Gr none, wEm kA q7 ((u8 0)) x0Em a0Em none, wNe kA (u8 0 1) ((u8 1)) x0Ne a0Ne, [(q9, .inl (kA 0, 24, .inl (fun _ => 0)))], [(q10, .inl (kA 1, 4000, .inl (fun _ => 0)))], [(q11, .inl (kA 1, 4000, .inl (fun _ => 0)))], [(q12, .inl (kA 0, 4096, .inl (fun _ => 0)))], wGr kA q13 u14 x0Gr a0Gr none, wFa kA q15 u16 x0Fa a0Fa, wNe kA q17 u18 x0Ne a0Ne, wDr kA q19 u20 x0Dr a0Dr, wGr kA q21 u22 x0Gr a0Gr none, wFa kA q23 u24 x0Fa a0Fa, wNe kA q25 u26 x0Ne a0Ne, wDr kA q27 u28 x0Dr a0Dr, wGr kA q29 u30 x0Gr a0Gr none, wFa kA q31 u32 x0Fa a0Fa, wNe kA q33 u34 x0Ne a0Ne, wDr kA q35 u36 x0Dr a0Dr, wGr kA q37 u38 x0Gr a0Gr none]) (k_rIN (pc := 177) (As := []) (rest := [.ref q39, .int 3, .ref q2]) hN X (c_Fa_init l D kA q39 H.size) rfl wm_392 wm_7 wn_390 wm_391 rfl 0 (by decide +kernel) ⟨Nat.le_of_ble_eq_true rfl, Nat.le_of_ble_eq_true rfl⟩ rfl rfl (k_pre hN hK hP hD [26] [0, 1, 2, 3, 4, 5, 6, 7, 8, 9, 10, 11, 12, 13, 14, 15, 16, 17, 18, 19, 20, 21, 22, 23, 24, 25] 27 rfl (by decide) rfl) rfl hl.1 rfl (Nat.le_of_ble_eq_true rfl) d_Ho_init_177 ⟨Nat.le_of_ble_eq_true rfl, Nat.le_of_ble_eq_true rfl⟩) hP hD hS hA [26] [0, 1, 2, 3, 4, 5, 6, 7, 8, 9, 10, 11, 12, 13, 14, 15, 16, 17, 18, 19, 20, 21, 22, 23, 24, 25] 27 rfl (by decide) rfl rfl (fun u40 H locs hu40 hP hD hS => ?_)
  have hP : va_P D classes (cat [[(h, .inr (12, [.ref q1, .ref q2, .ref q3, .ref q4, .ref q5, .ref q7, .ref q9, .int 0, .int ((-1)), .ref q10, .ref q11, .int 0, .int 0, .ref q12, .int 0, .int 0, .null, .null, .null, .null, .null]))], [(q1, .inl (kA 4, 4, .inr (.inr (.inr (.inr (va_up (va_up (va_up (va_up (fun _ => none) 0 (some q13)) 1 (some q21)) 2 (some q29)) 3 (some q37)))))))], [(q2, .inl (kA 5, 4, .inr (.inr (.inr (.inr (va_up (va_up (va_up (fun _ => none) 0 (some q15)) 1 (some q23)) 2 (some q31)))))))], [(q3, .inl (kA 6, 4, .inr (.inr (.inr (.inr (va_up (va_up (va_up (fun _ => none) 0 (some q17)) 1 (some q25)) 2 (some q33)))))))], [(q4, .inl (kA 7, 4, .inr (.inr (.inr (.inr (va_up (va_up (va_up (fun _ => none) 0 (some q19)) 1 (some q27)) 2 (some q35)))))))], wRe kA q5 ((u6 0)) x0Re a0Re, wGr kA (u6 0 4) ((u6 1)) x0Gr a0Gr none, wEm kA q7 ((u8 0)) x0Em a0Em none, wNe kA (u8 0 1) ((u8 1)) x0Ne a0Ne, [(q9, .inl (kA 0, 24, .inl (fun _ => 0)))], [(q10, .inl (kA 1, 4000, .inl (fun _ => 0)))], [(q11, .inl (kA 1, 4000, .inl (fun _ => 0)))], [(q12, .inl (kA 0, 4096, .inl (fun _ => 0)))], wGr kA q13 u14 x0Gr a0Gr none, wFa kA q15 u16 x0Fa a0Fa, wNe kA q17 u18 x0Ne a0Ne, wDr kA q19 u20 x0Dr a0Dr, wGr kA q21 u22 x0Gr a0Gr none, wFa kA q23 u24 x0Fa a0Fa, wNe kA q25 u26 x0Ne a0Ne, wDr kA q27 u28 x0Dr a0Dr, wGr kA q29 u30 x0Gr a0Gr none, wFa kA q31 u32 x0Fa a0Fa, wNe kA q33 u34 x0Ne a0Ne, wDr kA q35 u36 x0Dr a0Dr, wGr kA q37 u38 x0Gr a0Gr none, wFa kA q39 u40 x0Fa a0Fa]) H := hP
  have hD : va_D A (cat [[(h, .inr (12, [.ref q1, .ref q2, .ref q3, .ref q4, .ref q5, .ref q7, .ref q9, .int 0, .int ((-1)), .ref q10, .ref q11, .int 0, .int 0, .ref q12, .int 0, .int 0, .null, .null, .null, .null, .null]))], [(q1, .inl (kA 4, 4, .inr (.inr (.inr (.inr (va_up (va_up (va_up (va_up (fun _ => none) 0 (some q13)) 1 (some q21)) 2 (some q29)) 3 (some q37)))))))], [(q2, .inl (kA 5, 4, .inr (.inr (.inr (.inr (va_up (va_up (va_up (fun _ => none) 0 (some q15)) 1 (some q23)) 2 (some q31)))))))], [(q3, .inl (kA 6, 4, .inr (.inr (.inr (.inr (va_up (va_up (va_up (fun _ => none) 0 (some q17)) 1 (some q25)) 2 (some q33)))))))], [(q4, .inl (kA 7, 4, .inr (.inr (.inr (.inr (va_up (va_up (va_up (fun _ => none) 0 (some q19)) 1 (some q27)) 2 (some q35)))))))], wRe kA q5 ((u6 0)) x0Re a0Re, wGr kA (u6 0 4) ((u6 1)) x0Gr a0Gr none, wEm kA q7 ((u8 0)) x0Em a0Em none, wNe kA (u8 0 1) ((u8 1)) x0Ne a0Ne, [(q9, .inl (kA 0, 24, .inl (fun _ => 0)))], [(q10, .inl (kA 1, 4000, .inl (fun _ => 0)))], [(q11, .inl (kA 1, 4000, .inl (fun _ => 0)))], [(q12, .inl (kA 0, 4096, .inl (fun _ => 0)))], wGr kA q13 u14 x0Gr a0Gr none, wFa kA q15 u16 x0Fa a0Fa, wNe kA q17 u18 x0Ne a0Ne, wDr kA q19 u20 x0Dr a0Dr, wGr kA q21 u22 x0Gr a0Gr none, wFa kA q23 u24 x0Fa a0Fa, wNe kA q25 u26 x0Ne a0Ne, wDr kA q27 u28 x0Dr a0Dr, wGr kA q29 u30 x0Gr a0Gr none, wFa kA q31 u32 x0Fa a0Fa, wNe kA q33 u34 x0Ne a0Ne, wDr kA q35 u36 x0Dr a0Dr, wGr kA q37 u38 x0Gr a0Gr none, wFa kA q39 u40 x0Fa a0Fa]) := hD
  refine W.widen (k := 224) (n := 38248) (by omega) (by omega) ?_
  refine va_astq (pc := 180) hx hb hK hP hD hS 2 5 213 2 rfl rfl rfl rfl (by unfold vp_in; decide) d_Ho_init_180 (fun H locs hP hD hS => ?_)
  have hP : va_P D classes (cat [[(h, .inr (12, [.ref q1, .ref q2, .ref q3, .ref q4, .ref q5, .ref q7, .ref q9, .int 0, .int ((-1)), .ref q10, .ref q11, .int 0, .int 0, .ref q12, .int 0, .int 0, .null, .null, .null, .null, .null]))], [(q1, .inl (kA 4, 4, .inr (.inr (.inr (.inr (va_up (va_up (va_up (va_up (fun _ => none) 0 (some q13)) 1 (some q21)) 2 (some q29)) 3 (some q37)))))))], [(q2, .inl (kA 5, 4, .inr (.inr (.inr (.inr (va_up (va_up (va_up (va_up (fun _ => none) 0 (some q15)) 1 (some q23)) 2 (some q31)) 3 (some q39)))))))], [(q3, .inl (kA 6, 4, .inr (.inr (.inr (.inr (va_up (va_up (va_up (fun _ => none) 0 (some q17)) 1 (some q25)) 2 (some q33)))))))], [(q4, .inl (kA 7, 4, .inr (.inr (.inr (.inr (va_up (va_up (va_up (fun _ => none) 0 (some q19)) 1 (some q27)) 2 (some q35)))))))], wRe kA q5 ((u6 0)) x0Re a0Re, wGr kA (u6 0 4) ((u6 1)) x0Gr a0Gr none, wEm kA q7 ((u8 0)) x0Em a0Em none, wNe kA (u8 0 1) ((u8 1)) x0Ne a0Ne, [(q9, .inl (kA 0, 24, .inl (fun _ => 0)))], [(q10, .inl (kA 1, 4000, .inl (fun _ => 0)))], [(q11, .inl (kA 1, 4000, .inl (fun _ => 0)))], [(q12, .inl (kA 0, 4096, .inl (fun _ => 0)))], wGr kA q13 u14 x0Gr a0Gr none, wFa kA q15 u16 x0Fa a0Fa, wNe kA q17 u18 x0Ne a0Ne, wDr kA q19 u20 x0Dr a0Dr, wGr kA q21 u22 x0Gr a0Gr none, wFa kA q23 u24 x0Fa a0Fa, wNe kA q25 u26 x0Ne a0Ne, wDr kA q27 u28 x0Dr a0Dr, wGr kA q29 u30 x0Gr a0Gr none, wFa kA q31 u32 x0Fa a0Fa, wNe kA q33 u34 x0Ne a0Ne, wDr kA q35 u36 x0Dr a0Dr, wGr kA q37 u38 x0Gr a0Gr none, wFa kA q39 u40 x0Fa a0Fa]) H := hP
  have hD : va_D A (cat [[(h, .inr (12, [.ref q1, .ref q2, .ref q3, .ref q4, .ref q5, .ref q7, .ref q9, .int 0, .int ((-1)), .ref q10, .ref q11, .int 0, .int 0, .ref q12, .int 0, .int 0, .null, .null, .null, .null, .null]))], [(q1, .inl (kA 4, 4, .inr (.inr (.inr (.inr (va_up (va_up (va_up (va_up (fun _ => none) 0 (some q13)) 1 (some q21)) 2 (some q29)) 3 (some q37)))))))], [(q2, .inl (kA 5, 4, .inr (.inr (.inr (.inr (va_up (va_up (va_up (va_up (fun _ => none) 0 (some q15)) 1 (some q23)) 2 (some q31)) 3 (some q39)))))))], [(q3, .inl (kA 6, 4, .inr (.inr (.inr (.inr (va_up (va_up (va_up (fun _ => none) 0 (some q17)) 1 (some q25)) 2 (some q33)))))))], [(q4, .inl (kA 7, 4, .inr (.inr (.inr (.inr (va_up (va_up (va_up (fun _ => none) 0 (some q19)) 1 (some q27)) 2 (some q35)))))))], wRe kA q5 ((u6 0)) x0Re a0Re, wGr kA (u6 0 4) ((u6 1)) x0Gr a0Gr none, wEm kA q7 ((u8 0)) x0Em a0Em none, wNe kA (u8 0 1) ((u8 1)) x0Ne a0Ne, [(q9, .inl (kA 0, 24, .inl (fun _ => 0)))], [(q10, .inl (kA 1, 4000, .inl (fun _ => 0)))], [(q11, .inl (kA 1, 4000, .inl (fun _ => 0)))], [(q12, .inl (kA 0, 4096, .inl (fun _ => 0)))], wGr kA q13 u14 x0Gr a0Gr none, wFa kA q15 u16 x0Fa a0Fa, wNe kA q17 u18 x0Ne a0Ne, wDr kA q19 u20 x0Dr a0Dr, wGr kA q21 u22 x0Gr a0Gr none, wFa kA q23 u24 x0Fa a0Fa, wNe kA q25 u26 x0Ne a0Ne, wDr kA q27 u28 x0Dr a0Dr, wGr kA q29 u30 x0Gr a0Gr none, wFa kA q31 u32 x0Fa a0Fa, wNe kA q33 u34 x0Ne a0Ne, wDr kA q35 u36 x0Dr a0Dr, wGr kA q37 u38 x0Gr a0Gr none, wFa kA q39 u40 x0Fa a0Fa]) := hD
  refine lv_aload_n (pc := 181) hx hb d_Ho_init_181 rfl (lv_at hl 1 rfl) ?_
  refine k_get (pc := 182) X hK hP 0 rfl rfl i_Ho 2 (by decide) wm_557 rfl rfl d_Ho_init_182 ?_
  refine lv_iload_n (pc := 185) hx hb d_Ho_init_185 rfl (lv_at hl 0 rfl) ?_
  refine k_new (pc := 186) (fs := f0Ne) X i_Ne t_Ne t_Ne_ok wm_37 wm_243 wm_6 hK hP hD hS hA (ci := 5) rfl f0Ne_ok (Nat.le_of_ble_eq_true rfl) (Nat.le_of_ble_eq_true rfl) d_Ho_init_186 (fun q41 H hP hD hS => ?_)
  have hP : va_P D classes (cat [[(h, .inr (12, [.ref q1, .ref q2, .ref q3, .ref q4, .ref q5, .ref q7, .ref q9, .int 0, .int ((-1)), .ref q10, .ref q11, .int 0, .int 0, .ref q12, .int 0, .int 0, .null, .null, .null, .null, .null]))], [(q1, .inl (kA 4, 4, .inr (.inr (.inr (.inr (va_up (va_up (va_up (va_up (fun _ => none) 0 (some q13)) 1 (some q21)) 2 (some q29)) 3 (some q37)))))))], [(q2, .inl (kA 5, 4, .inr (.inr (.inr (.inr (va_up (va_up (va_up (va_up (fun _ => none) 0 (some q15)) 1 (some q23)) 2 (some q31)) 3 (some q39)))))))], [(q3, .inl (kA 6, 4, .inr (.inr (.inr (.inr (va_up (va_up (va_up (fun _ => none) 0 (some q17)) 1 (some q25)) 2 (some q33)))))))], [(q4, .inl (kA 7, 4, .inr (.inr (.inr (.inr (va_up (va_up (va_up (fun _ => none) 0 (some q19)) 1 (some q27)) 2 (some q35)))))))], wRe kA q5 ((u6 0)) x0Re a0Re, wGr kA (u6 0 4) ((u6 1)) x0Gr a0Gr none, wEm kA q7 ((u8 0)) x0Em a0Em none, wNe kA (u8 0 1) ((u8 1)) x0Ne a0Ne, [(q9, .inl (kA 0, 24, .inl (fun _ => 0)))], [(q10, .inl (kA 1, 4000, .inl (fun _ => 0)))], [(q11, .inl (kA 1, 4000, .inl (fun _ => 0)))], [(q12, .inl (kA 0, 4096, .inl (fun _ => 0)))], wGr kA q13 u14 x0Gr a0Gr none, wFa kA q15 u16 x0Fa a0Fa, wNe kA q17 u18 x0Ne a0Ne, wDr kA q19 u20 x0Dr a0Dr, wGr kA q21 u22 x0Gr a0Gr none, wFa kA q23 u24 x0Fa a0Fa, wNe kA q25 u26 x0Ne a0Ne, wDr kA q27 u28 x0Dr a0Dr, wGr kA q29 u30 x0Gr a0Gr none, wFa kA q31 u32 x0Fa a0Fa, wNe kA q33 u34 x0Ne a0Ne, wDr kA q35 u36 x0Dr a0Dr, wGr kA q37 u38 x0Gr a0Gr none, wFa kA q39 u40 x0Fa a0Fa, [(q41, .inr (5, [.int 0, .int 0, .int 0, .int 0, .null, .int 0, .int 0, .null, .null, .null, .null, .null, .null, .int 0, .null, .null, .null]))]]) H := hP
  have hD : va_D A (cat [[(h, .inr (12, [.ref q1, .ref q2, .ref q3, .ref q4, .ref q5, .ref q7, .ref q9, .int 0, .int ((-1)), .ref q10, .ref q11, .int 0, .int 0, .ref q12, .int 0, .int 0, .null, .null, .null, .null, .null]))], [(q1, .inl (kA 4, 4, .inr (.inr (.inr (.inr (va_up (va_up (va_up (va_up (fun _ => none) 0 (some q13)) 1 (some q21)) 2 (some q29)) 3 (some q37)))))))], [(q2, .inl (kA 5, 4, .inr (.inr (.inr (.inr (va_up (va_up (va_up (va_up (fun _ => none) 0 (some q15)) 1 (some q23)) 2 (some q31)) 3 (some q39)))))))], [(q3, .inl (kA 6, 4, .inr (.inr (.inr (.inr (va_up (va_up (va_up (fun _ => none) 0 (some q17)) 1 (some q25)) 2 (some q33)))))))], [(q4, .inl (kA 7, 4, .inr (.inr (.inr (.inr (va_up (va_up (va_up (fun _ => none) 0 (some q19)) 1 (some q27)) 2 (some q35)))))))], wRe kA q5 ((u6 0)) x0Re a0Re, wGr kA (u6 0 4) ((u6 1)) x0Gr a0Gr none, wEm kA q7 ((u8 0)) x0Em a0Em none, wNe kA (u8 0 1) ((u8 1)) x0Ne a0Ne, [(q9, .inl (kA 0, 24, .inl (fun _ => 0)))], [(q10, .inl (kA 1, 4000, .inl (fun _ => 0)))], [(q11, .inl (kA 1, 4000, .inl (fun _ => 0)))], [(q12, .inl (kA 0, 4096, .inl (fun _ => 0)))], wGr kA q13 u14 x0Gr a0Gr none, wFa kA q15 u16 x0Fa a0Fa, wNe kA q17 u18 x0Ne a0Ne, wDr kA q19 u20 x0Dr a0Dr, wGr kA q21 u22 x0Gr a0Gr none, wFa kA q23 u24 x0Fa a0Fa, wNe kA q25 u26 x0Ne a0Ne, wDr kA q27 u28 x0Dr a0Dr, wGr kA q29 u30 x0Gr a0Gr none, wFa kA q31 u32 x0Fa a0Fa, wNe kA q33 u34 x0Ne a0Ne, wDr kA q35 u36 x0Dr a0Dr, wGr kA q37 u38 x0Gr a0Gr none, wFa kA q39 u40 x0Fa a0Fa, [(q41, .inr (5, [.int 0, .int 0, .int 0, .int 0, .null, .int 0, .int 0, .null, .null, .null, .null, .null, .null, .int 0, .null, .null, .null]))]]) := hD
  refine W.widen (k := 225) (n := 38265) (by omega) (by omega) ?_
  refine lv_dup (pc := 189) hx hb d_Ho_init_189 rfl ?_
  refine k_goV (gr := [[(h, .inr (12, [.ref q1, .ref q2, .ref q3, .ref q4, .ref q5, .ref q7, .ref q9, .int 0, .int ((-1)), .ref q10, .ref q11, .int 0, .int 0, .ref q12, .int 0, .int 0, .null, .null, .null, .null, .null]))], [(q1, .inl (kA 4, 4, .inr (.inr (.inr (.inr (va_up (va_up (va_up (va_up (fun _ => none) 0 (some q13)) 1 (some q21)) 2 (some q29)) 3 (some q37)))))))], [(q2, .inl (kA 5, 4, .inr (.inr (.inr (.inr (va_up (va_up (va_up (va_up (fun _ => none) 0 (some q15)) 1 (some q23)) 2 (some q31)) 3 (some q39)))))))], [(q3, .inl (kA 6, 4, .inr (.inr (.inr (.inr (va_up (va_up (va_up (fun _ => none) 0 (some q17)) 1 (some q25)) 2 (some q33)))))))], [(q4, .inl (kA 7, 4, .inr (.inr (.inr (.inr (va_up (va_up (va_up (fun _ => none) 0 (some q19)) 1 (some q27)) 2 (some q35)))))))], wRe kA q5 ((u6 0)) x0Re a0Re, wGr kA (u6 0 4) ((u6 1)) x0Gr a0Gr none, wEm kA q7 ((u8 0)) x0Em a0Em none, wNe kA (u8 0 1) ((u8 1)) x0Ne a0Ne, [(q9, .inl (kA 0, 24, .inl (fun _ => 0)))], [(q10, .inl (kA 1, 4000, .inl (fun _ => 0)))], [(q11, .inl (kA 1, 4000, .inl (fun _ => 0)))], [(q12, .inl (kA 0, 4096, .inl (fun _ => 0)))], wGr kA q13 u14 x0Gr a0Gr none, wFa kA q15 u16 x0Fa a0Fa, wNe kA q17 u18 x0Ne a0Ne, wDr kA q19 u20 x0Dr a0Dr, wGr kA q21 u22 x0Gr a0Gr none, wFa kA q23 u24 x0Fa a0Fa, wNe kA q25 u26 x0Ne a0Ne, wDr kA q27 u28 x0Dr a0Dr, wGr kA q29 u30 x0Gr a0Gr none, wFa kA q31 u32 x0Fa a0Fa, wNe kA q33 u34 x0Ne a0Ne, wDr kA q35 u36 x0Dr a0Dr, wGr kA q37 u38 x0Gr a0Gr none, wFa kA q39 u40 x0Fa a0Fa]) (k_rIN (pc := 190) (As := []) (rest := [.ref q41, .int 3, .ref q3]) hN X (c_Ne_init l D kA q41 H.size) rfl wm_246 wm_6 wn_459 wm_245 rfl 0 (by decide +kernel) ⟨Nat.le_of_ble_eq_true rfl, Nat.le_of_ble_eq_true rfl⟩ rfl rfl (k_pre hN hK hP hD [27] [0, 1, 2, 3, 4, 5, 6, 7, 8, 9, 10, 11, 12, 13, 14, 15, 16, 17, 18, 19, 20, 21, 22, 23, 24, 25, 26] 28 rfl (by decide) rfl) rfl hl.1 rfl (Nat.le_of_ble_eq_true rfl) d_Ho_init_190 ⟨Nat.le_of_ble_eq_true rfl, Nat.le_of_ble_eq_true rfl⟩) hP hD hS hA [27] [0, 1, 2, 3, 4, 5, 6, 7, 8, 9, 10, 11, 12, 13, 14, 15, 16, 17, 18, 19, 20, 21, 22, 23, 24, 25, 26] 28 rfl (by decide) rfl rfl (fun u42 H locs hu42 hP hD hS => ?_)
  have hP : va_P D classes (cat [[(h, .inr (12, [.ref q1, .ref q2, .ref q3, .ref q4, .ref q5, .ref q7, .ref q9, .int 0, .int ((-1)), .ref q10, .ref q11, .int 0, .int 0, .ref q12, .int 0, .int 0, .null, .null, .null, .null, .null]))], [(q1, .inl (kA 4, 4, .inr (.inr (.inr (.inr (va_up (va_up (va_up (va_up (fun _ => none) 0 (some q13)) 1 (some q21)) 2 (some q29)) 3 (some q37)))))))], [(q2, .inl (kA 5, 4, .inr (.inr (.inr (.inr (va_up (va_up (va_up (va_up (fun _ => none) 0 (some q15)) 1 (some q23)) 2 (some q31)) 3 (some q39)))))))], [(q3, .inl (kA 6, 4, .inr (.inr (.inr (.inr (va_up (va_up (va_up (fun _ => none) 0 (some q17)) 1 (some q25)) 2 (some q33)))))))], [(q4, .inl (kA 7, 4, .inr (.inr (.inr (.inr (va_up (va_up (va_up (fun _ => none) 0 (some q19)) 1 (some q27)) 2 (some q35)))))))], wRe kA q5 ((u6 0)) x0Re a0Re, wGr kA (u6 0 4) ((u6 1)) x0Gr a0Gr none, wEm kA q7 ((u8 0)) x0Em a0Em none, wNe kA (u8 0 1) ((u8 1)) x0Ne a0Ne, [(q9, .inl (kA 0, 24, .inl (fun _ => 0)))], [(q10, .inl (kA 1, 4000, .inl (fun _ => 0)))], [(q11, .inl (kA 1, 4000, .inl (fun _ => 0)))], [(q12, .inl (kA 0, 4096, .inl (fun _ => 0)))], wGr kA q13 u14 x0Gr a0Gr none, wFa kA q15 u16 x0Fa a0Fa, wNe kA q17 u18 x0Ne a0Ne, wDr kA q19 u20 x0Dr a0Dr, wGr kA q21 u22 x0Gr a0Gr none, wFa kA q23 u24 x0Fa a0Fa, wNe kA q25 u26 x0Ne a0Ne, wDr kA q27 u28 x0Dr a0Dr, wGr kA q29 u30 x0Gr a0Gr none, wFa kA q31 u32 x0Fa a0Fa, wNe kA q33 u34 x0Ne a0Ne, wDr kA q35 u36 x0Dr a0Dr, wGr kA q37 u38 x0Gr a0Gr none, wFa kA q39 u40 x0Fa a0Fa, wNe kA q41 u42 x0Ne a0Ne]) H := hP
  have hD : va_D A (cat [[(h, .inr (12, [.ref q1, .ref q2, .ref q3, .ref q4, .ref q5, .ref q7, .ref q9, .int 0, .int ((-1)), .ref q10, .ref q11, .int 0, .int 0, .ref q12, .int 0, .int 0, .null, .null, .null, .null, .null]))], [(q1, .inl (kA 4, 4, .inr (.inr (.inr (.inr (va_up (va_up (va_up (va_up (fun _ => none) 0 (some q13)) 1 (some q21)) 2 (some q29)) 3 (some q37)))))))], [(q2, .inl (kA 5, 4, .inr (.inr (.inr (.inr (va_up (va_up (va_up (va_up (fun _ => none) 0 (some q15)) 1 (some q23)) 2 (some q31)) 3 (some q39)))))))], [(q3, .inl (kA 6, 4, .inr (.inr (.inr (.inr (va_up (va_up (va_up (fun _ => none) 0 (some q17)) 1 (some q25)) 2 (some q33)))))))], [(q4, .inl (kA 7, 4, .inr (.inr (.inr (.inr (va_up (va_up (va_up (fun _ => none) 0 (some q19)) 1 (some q27)) 2 (some q35)))))))], wRe kA q5 ((u6 0)) x0Re a0Re, wGr kA (u6 0 4) ((u6 1)) x0Gr a0Gr none, wEm kA q7 ((u8 0)) x0Em a0Em none, wNe kA (u8 0 1) ((u8 1)) x0Ne a0Ne, [(q9, .inl (kA 0, 24, .inl (fun _ => 0)))], [(q10, .inl (kA 1, 4000, .inl (fun _ => 0)))], [(q11, .inl (kA 1, 4000, .inl (fun _ => 0)))], [(q12, .inl (kA 0, 4096, .inl (fun _ => 0)))], wGr kA q13 u14 x0Gr a0Gr none, wFa kA q15 u16 x0Fa a0Fa, wNe kA q17 u18 x0Ne a0Ne, wDr kA q19 u20 x0Dr a0Dr, wGr kA q21 u22 x0Gr a0Gr none, wFa kA q23 u24 x0Fa a0Fa, wNe kA q25 u26 x0Ne a0Ne, wDr kA q27 u28 x0Dr a0Dr, wGr kA q29 u30 x0Gr a0Gr none, wFa kA q31 u32 x0Fa a0Fa, wNe kA q33 u34 x0Ne a0Ne, wDr kA q35 u36 x0Dr a0Dr, wGr kA q37 u38 x0Gr a0Gr none, wFa kA q39 u40 x0Fa a0Fa, wNe kA q41 u42 x0Ne a0Ne]) := hD
  refine W.widen (k := 235) (n := 39709) (by omega) (by omega) ?_
  refine va_astq (pc := 193) hx hb hK hP hD hS 3 6 225 5 rfl rfl rfl rfl (by unfold vp_in; decide) d_Ho_init_193 (fun H locs hP hD hS => ?_)
  have hP : va_P D classes (cat [[(h, .inr (12, [.ref q1, .ref q2, .ref q3, .ref q4, .ref q5, .ref q7, .ref q9, .int 0, .int ((-1)), .ref q10, .ref q11, .int 0, .int 0, .ref q12, .int 0, .int 0, .null, .null, .null, .null, .null]))], [(q1, .inl (kA 4, 4, .inr (.inr (.inr (.inr (va_up (va_up (va_up (va_up (fun _ => none) 0 (some q13)) 1 (some q21)) 2 (some q29)) 3 (some q37)))))))], [(q2, .inl (kA 5, 4, .inr (.inr (.inr (.inr (va_up (va_up (va_up (va_up (fun _ => none) 0 (some q15)) 1 (some q23)) 2 (some q31)) 3 (some q39)))))))], [(q3, .inl (kA 6, 4, .inr (.inr (.inr (.inr (va_up (va_up (va_up (va_up (fun _ => none) 0 (some q17)) 1 (some q25)) 2 (some q33)) 3 (some q41)))))))], [(q4, .inl (kA 7, 4, .inr (.inr (.inr (.inr (va_up (va_up (va_up (fun _ => none) 0 (some q19)) 1 (some q27)) 2 (some q35)))))))], wRe kA q5 ((u6 0)) x0Re a0Re, wGr kA (u6 0 4) ((u6 1)) x0Gr a0Gr none, wEm kA q7 ((u8 0)) x0Em a0Em none, wNe kA (u8 0 1) ((u8 1)) x0Ne a0Ne, [(q9, .inl (kA 0, 24, .inl (fun _ => 0)))], [(q10, .inl (kA 1, 4000, .inl (fun _ => 0)))], [(q11, .inl (kA 1, 4000, .inl (fun _ => 0)))], [(q12, .inl (kA 0, 4096, .inl (fun _ => 0)))], wGr kA q13 u14 x0Gr a0Gr none, wFa kA q15 u16 x0Fa a0Fa, wNe kA q17 u18 x0Ne a0Ne, wDr kA q19 u20 x0Dr a0Dr, wGr kA q21 u22 x0Gr a0Gr none, wFa kA q23 u24 x0Fa a0Fa, wNe kA q25 u26 x0Ne a0Ne, wDr kA q27 u28 x0Dr a0Dr, wGr kA q29 u30 x0Gr a0Gr none, wFa kA q31 u32 x0Fa a0Fa, wNe kA q33 u34 x0Ne a0Ne, wDr kA q35 u36 x0Dr a0Dr, wGr kA q37 u38 x0Gr a0Gr none, wFa kA q39 u40 x0Fa a0Fa, wNe kA q41 u42 x0Ne a0Ne]) H := hP
  have hD : va_D A (cat [[(h, .inr (12, [.ref q1, .ref q2, .ref q3, .ref q4, .ref q5, .ref q7, .ref q9, .int 0, .int ((-1)), .ref q10, .ref q11, .int 0, .int 0, .ref q12, .int 0, .int 0, .null, .null, .null, .null, .null]))], [(q1, .inl (kA 4, 4, .inr (.inr (.inr (.inr (va_up (va_up (va_up (va_up (fun _ => none) 0 (some q13)) 1 (some q21)) 2 (some q29)) 3 (some q37)))))))], [(q2, .inl (kA 5, 4, .inr (.inr (.inr (.inr (va_up (va_up (va_up (va_up (fun _ => none) 0 (some q15)) 1 (some q23)) 2 (some q31)) 3 (some q39)))))))], [(q3, .inl (kA 6, 4, .inr (.inr (.inr (.inr (va_up (va_up (va_up (va_up (fun _ => none) 0 (some q17)) 1 (some q25)) 2 (some q33)) 3 (some q41)))))))], [(q4, .inl (kA 7, 4, .inr (.inr (.inr (.inr (va_up (va_up (va_up (fun _ => none) 0 (some q19)) 1 (some q27)) 2 (some q35)))))))], wRe kA q5 ((u6 0)) x0Re a0Re, wGr kA (u6 0 4) ((u6 1)) x0Gr a0Gr none, wEm kA q7 ((u8 0)) x0Em a0Em none, wNe kA (u8 0 1) ((u8 1)) x0Ne a0Ne, [(q9, .inl (kA 0, 24, .inl (fun _ => 0)))], [(q10, .inl (kA 1, 4000, .inl (fun _ => 0)))], [(q11, .inl (kA 1, 4000, .inl (fun _ => 0)))], [(q12, .inl (kA 0, 4096, .inl (fun _ => 0)))], wGr kA q13 u14 x0Gr a0Gr none, wFa kA q15 u16 x0Fa a0Fa, wNe kA q17 u18 x0Ne a0Ne, wDr kA q19 u20 x0Dr a0Dr, wGr kA q21 u22 x0Gr a0Gr none, wFa kA q23 u24 x0Fa a0Fa, wNe kA q25 u26 x0Ne a0Ne, wDr kA q27 u28 x0Dr a0Dr, wGr kA q29 u30 x0Gr a0Gr none, wFa kA q31 u32 x0Fa a0Fa, wNe kA q33 u34 x0Ne a0Ne, wDr kA q35 u36 x0Dr a0Dr, wGr kA q37 u38 x0Gr a0Gr none, wFa kA q39 u40 x0Fa a0Fa, wNe kA q41 u42 x0Ne a0Ne]) := hD
  refine lv_aload_n (pc := 194) hx hb d_Ho_init_194 rfl (lv_at hl 1 rfl) ?_
  refine k_get (pc := 195) X hK hP 0 rfl rfl i_Ho 3 (by decide) wm_558 rfl rfl d_Ho_init_195 ?_
  refine lv_iload_n (pc := 198) hx hb d_Ho_init_198 rfl (lv_at hl 0 rfl) ?_
  refine k_new (pc := 199) (fs := f0Dr) X i_Dr t_Dr t_Dr_ok wm_39 wm_460 wm_8 hK hP hD hS hA (ci := 0) rfl f0Dr_ok (Nat.le_of_ble_eq_true rfl) (Nat.le_of_ble_eq_true rfl) d_Ho_init_199 (fun q43 H hP hD hS => ?_)
  have hP : va_P D classes (cat [[(h, .inr (12, [.ref q1, .ref q2, .ref q3, .ref q4, .ref q5, .ref q7, .ref q9, .int 0, .int ((-1)), .ref q10, .ref q11, .int 0, .int 0, .ref q12, .int 0, .int 0, .null, .null, .null, .null, .null]))], [(q1, .inl (kA 4, 4, .inr (.inr (.inr (.inr (va_up (va_up (va_up (va_up (fun _ => none) 0 (some q13)) 1 (some q21)) 2 (some q29)) 3 (some q37)))))))], [(q2, .inl (kA 5, 4, .inr (.inr (.inr (.inr (va_up (va_up (va_up (va_up (fun _ => none) 0 (some q15)) 1 (some q23)) 2 (some q31)) 3 (some q39)))))))], [(q3, .inl (kA 6, 4, .inr (.inr (.inr (.inr (va_up (va_up (va_up (va_up (fun _ => none) 0 (some q17)) 1 (some q25)) 2 (some q33)) 3 (some q41)))))))], [(q4, .inl (kA 7, 4, .inr (.inr (.inr (.inr (va_up (va_up (va_up (fun _ => none) 0 (some q19)) 1 (some q27)) 2 (some q35)))))))], wRe kA q5 ((u6 0)) x0Re a0Re, wGr kA (u6 0 4) ((u6 1)) x0Gr a0Gr none, wEm kA q7 ((u8 0)) x0Em a0Em none, wNe kA (u8 0 1) ((u8 1)) x0Ne a0Ne, [(q9, .inl (kA 0, 24, .inl (fun _ => 0)))], [(q10, .inl (kA 1, 4000, .inl (fun _ => 0)))], [(q11, .inl (kA 1, 4000, .inl (fun _ => 0)))], [(q12, .inl (kA 0, 4096, .inl (fun _ => 0)))], wGr kA q13 u14 x0Gr a0Gr none, wFa kA q15 u16 x0Fa a0Fa, wNe kA q17 u18 x0Ne a0Ne, wDr kA q19 u20 x0Dr a0Dr, wGr kA q21 u22 x0Gr a0Gr none, wFa kA q23 u24 x0Fa a0Fa, wNe kA q25 u26 x0Ne a0Ne, wDr kA q27 u28 x0Dr a0Dr, wGr kA q29 u30 x0Gr a0Gr none, wFa kA q31 u32 x0Fa a0Fa, wNe kA q33 u34 x0Ne a0Ne, wDr kA q35 u36 x0Dr a0Dr, wGr kA q37 u38 x0Gr a0Gr none, wFa kA q39 u40 x0Fa a0Fa, wNe kA q41 u42 x0Ne a0Ne, [(q43, .inr (0, [.null, .int 0, .null, .null, .null, .null, .null, .int 0, .int 0, .int 0, .null, .null, .null, .null, .null, .null, .null, .int 0, .int 0, .int 0, .int 0]))]]) H := hP
  have hD : va_D A (cat [[(h, .inr (12, [.ref q1, .ref q2, .ref q3, .ref q4, .ref q5, .ref q7, .ref q9, .int 0, .int ((-1)), .ref q10, .ref q11, .int 0, .int 0, .ref q12, .int 0, .int 0, .null, .null, .null, .null, .null]))], [(q1, .inl (kA 4, 4, .inr (.inr (.inr (.inr (va_up (va_up (va_up (va_up (fun _ => none) 0 (some q13)) 1 (some q21)) 2 (some q29)) 3 (some q37)))))))], [(q2, .inl (kA 5, 4, .inr (.inr (.inr (.inr (va_up (va_up (va_up (va_up (fun _ => none) 0 (some q15)) 1 (some q23)) 2 (some q31)) 3 (some q39)))))))], [(q3, .inl (kA 6, 4, .inr (.inr (.inr (.inr (va_up (va_up (va_up (va_up (fun _ => none) 0 (some q17)) 1 (some q25)) 2 (some q33)) 3 (some q41)))))))], [(q4, .inl (kA 7, 4, .inr (.inr (.inr (.inr (va_up (va_up (va_up (fun _ => none) 0 (some q19)) 1 (some q27)) 2 (some q35)))))))], wRe kA q5 ((u6 0)) x0Re a0Re, wGr kA (u6 0 4) ((u6 1)) x0Gr a0Gr none, wEm kA q7 ((u8 0)) x0Em a0Em none, wNe kA (u8 0 1) ((u8 1)) x0Ne a0Ne, [(q9, .inl (kA 0, 24, .inl (fun _ => 0)))], [(q10, .inl (kA 1, 4000, .inl (fun _ => 0)))], [(q11, .inl (kA 1, 4000, .inl (fun _ => 0)))], [(q12, .inl (kA 0, 4096, .inl (fun _ => 0)))], wGr kA q13 u14 x0Gr a0Gr none, wFa kA q15 u16 x0Fa a0Fa, wNe kA q17 u18 x0Ne a0Ne, wDr kA q19 u20 x0Dr a0Dr, wGr kA q21 u22 x0Gr a0Gr none, wFa kA q23 u24 x0Fa a0Fa, wNe kA q25 u26 x0Ne a0Ne, wDr kA q27 u28 x0Dr a0Dr, wGr kA q29 u30 x0Gr a0Gr none, wFa kA q31 u32 x0Fa a0Fa, wNe kA q33 u34 x0Ne a0Ne, wDr kA q35 u36 x0Dr a0Dr, wGr kA q37 u38 x0Gr a0Gr none, wFa kA q39 u40 x0Fa a0Fa, wNe kA q41 u42 x0Ne a0Ne, [(q43, .inr (0, [.null, .int 0, .null, .null, .null, .null, .null, .int 0, .int 0, .int 0, .null, .null, .null, .null, .null, .null, .null, .int 0, .int 0, .int 0, .int 0]))]]) := hD
  refine W.widen (k := 236) (n := 39730) (by omega) (by omega) ?_
  refine lv_dup (pc := 202) hx hb d_Ho_init_202 rfl ?_
  refine lv_aload_n (pc := 203) hx hb d_Ho_init_203 rfl (lv_at hl 1 rfl) ?_
  refine k_get (pc := 204) X hK hP 0 rfl rfl i_Ho 0 (by decide) wm_555 rfl rfl d_Ho_init_204 ?_
  refine lv_iload_n (pc := 207) hx hb d_Ho_init_207 rfl (lv_at hl 0 rfl) ?_
  refine va_aldq (pc := 208) hx hb hK hP 1 4 rfl rfl (by unfold vp_in; decide) d_Ho_init_208 ?_
  refine W.eq (g2 := F0 m 209 ls [.ref q37, .ref q43, .ref q43, .int 3, .ref q4]) rfl ?_
  refine k_goV (gr := [[(h, .inr (12, [.ref q1, .ref q2, .ref q3, .ref q4, .ref q5, .ref q7, .ref q9, .int 0, .int ((-1)), .ref q10, .ref q11, .int 0, .int 0, .ref q12, .int 0, .int 0, .null, .null, .null, .null, .null]))], [(q1, .inl (kA 4, 4, .inr (.inr (.inr (.inr (va_up (va_up (va_up (va_up (fun _ => none) 0 (some q13)) 1 (some q21)) 2 (some q29)) 3 (some q37)))))))], [(q2, .inl (kA 5, 4, .inr (.inr (.inr (.inr (va_up (va_up (va_up (va_up (fun _ => none) 0 (some q15)) 1 (some q23)) 2 (some q31)) 3 (some q39)))))))], [(q3, .inl (kA 6, 4, .inr (.inr (.inr (.inr (va_up (va_up (va_up (va_up (fun _ => none) 0 (some q17)) 1 (some q25)) 2 (some q33)) 3 (some q41)))))))], [(q4, .inl (kA 7, 4, .inr (.inr (.inr (.inr (va_up (va_up (va_up (fun _ => none) 0 (some q19)) 1 (some q27)) 2 (some q35)))))))], wRe kA q5 ((u6 0)) x0Re a0Re, wGr kA (u6 0 4) ((u6 1)) x0Gr a0Gr none, wEm kA q7 ((u8 0)) x0Em a0Em none, wNe kA (u8 0 1) ((u8 1)) x0Ne a0Ne, [(q9, .inl (kA 0, 24, .inl (fun _ => 0)))], [(q10, .inl (kA 1, 4000, .inl (fun _ => 0)))], [(q11, .inl (kA 1, 4000, .inl (fun _ => 0)))], [(q12, .inl (kA 0, 4096, .inl (fun _ => 0)))], wGr kA q13 u14 x0Gr a0Gr none, wFa kA q15 u16 x0Fa a0Fa, wNe kA q17 u18 x0Ne a0Ne, wDr kA q19 u20 x0Dr a0Dr, wGr kA q21 u22 x0Gr a0Gr none, wFa kA q23 u24 x0Fa a0Fa, wNe kA q25 u26 x0Ne a0Ne, wDr kA q27 u28 x0Dr a0Dr, wGr kA q29 u30 x0Gr a0Gr none, wFa kA q31 u32 x0Fa a0Fa, wNe kA q33 u34 x0Ne a0Ne, wDr kA q35 u36 x0Dr a0Dr, wGr kA q37 u38 x0Gr a0Gr none, wFa kA q39 u40 x0Fa a0Fa, wNe kA q41 u42 x0Ne a0Ne]) (k_rI (pc := 209) (As := [.ref q37]) (rest := [.ref q43, .int 3, .ref q4]) X (c_Dr_init l D kA q43 q37 H.size) rfl wm_463 wm_8 wm_461 wm_462 rfl 1 (by decide +kernel) ⟨Nat.le_of_ble_eq_true rfl, Nat.le_of_ble_eq_true rfl⟩ rfl rfl (k_pre hN hK hP hD [28] [0, 1, 2, 3, 4, 5, 6, 7, 8, 9, 10, 11, 12, 13, 14, 15, 16, 17, 18, 19, 20, 21, 22, 23, 24, 25, 26, 27] 29 rfl (by decide) rfl) rfl hl.1 rfl (Nat.le_of_ble_eq_true rfl) d_Ho_init_209 ⟨Nat.le_of_ble_eq_true rfl, Nat.le_of_ble_eq_true rfl⟩) hP hD hS hA [28] [0, 1, 2, 3, 4, 5, 6, 7, 8, 9, 10, 11, 12, 13, 14, 15, 16, 17, 18, 19, 20, 21, 22, 23, 24, 25, 26, 27] 29 rfl (by decide) rfl rfl (fun u44 H locs hu44 hP hD hS => ?_)
  have hP : va_P D classes (cat [[(h, .inr (12, [.ref q1, .ref q2, .ref q3, .ref q4, .ref q5, .ref q7, .ref q9, .int 0, .int ((-1)), .ref q10, .ref q11, .int 0, .int 0, .ref q12, .int 0, .int 0, .null, .null, .null, .null, .null]))], [(q1, .inl (kA 4, 4, .inr (.inr (.inr (.inr (va_up (va_up (va_up (va_up (fun _ => none) 0 (some q13)) 1 (some q21)) 2 (some q29)) 3 (some q37)))))))], [(q2, .inl (kA 5, 4, .inr (.inr (.inr (.inr (va_up (va_up (va_up (va_up (fun _ => none) 0 (some q15)) 1 (some q23)) 2 (some q31)) 3 (some q39)))))))], [(q3, .inl (kA 6, 4, .inr (.inr (.inr (.inr (va_up (va_up (va_up (va_up (fun _ => none) 0 (some q17)) 1 (some q25)) 2 (some q33)) 3 (some q41)))))))], [(q4, .inl (kA 7, 4, .inr (.inr (.inr (.inr (va_up (va_up (va_up (fun _ => none) 0 (some q19)) 1 (some q27)) 2 (some q35)))))))], wRe kA q5 ((u6 0)) x0Re a0Re, wGr kA (u6 0 4) ((u6 1)) x0Gr a0Gr none, wEm kA q7 ((u8 0)) x0Em a0Em none, wNe kA (u8 0 1) ((u8 1)) x0Ne a0Ne, [(q9, .inl (kA 0, 24, .inl (fun _ => 0)))], [(q10, .inl (kA 1, 4000, .inl (fun _ => 0)))], [(q11, .inl (kA 1, 4000, .inl (fun _ => 0)))], [(q12, .inl (kA 0, 4096, .inl (fun _ => 0)))], wGr kA q13 u14 x0Gr a0Gr none, wFa kA q15 u16 x0Fa a0Fa, wNe kA q17 u18 x0Ne a0Ne, wDr kA q19 u20 x0Dr a0Dr, wGr kA q21 u22 x0Gr a0Gr none, wFa kA q23 u24 x0Fa a0Fa, wNe kA q25 u26 x0Ne a0Ne, wDr kA q27 u28 x0Dr a0Dr, wGr kA q29 u30 x0Gr a0Gr none, wFa kA q31 u32 x0Fa a0Fa, wNe kA q33 u34 x0Ne a0Ne, wDr kA q35 u36 x0Dr a0Dr, wGr kA q37 u38 x0Gr a0Gr none, wFa kA q39 u40 x0Fa a0Fa, wNe kA q41 u42 x0Ne a0Ne, wDr kA q43 u44 x0Dr a0Dr]) H := hP
  have hD : va_D A (cat [[(h, .inr (12, [.ref q1, .ref q2, .ref q3, .ref q4, .ref q5, .ref q7, .ref q9, .int 0, .int ((-1)), .ref q10, .ref q11, .int 0, .int 0, .ref q12, .int 0, .int 0, .null, .null, .null, .null, .null]))], [(q1, .inl (kA 4, 4, .inr (.inr (.inr (.inr (va_up (va_up (va_up (va_up (fun _ => none) 0 (some q13)) 1 (some q21)) 2 (some q29)) 3 (some q37)))))))], [(q2, .inl (kA 5, 4, .inr (.inr (.inr (.inr (va_up (va_up (va_up (va_up (fun _ => none) 0 (some q15)) 1 (some q23)) 2 (some q31)) 3 (some q39)))))))], [(q3, .inl (kA 6, 4, .inr (.inr (.inr (.inr (va_up (va_up (va_up (va_up (fun _ => none) 0 (some q17)) 1 (some q25)) 2 (some q33)) 3 (some q41)))))))], [(q4, .inl (kA 7, 4, .inr (.inr (.inr (.inr (va_up (va_up (va_up (fun _ => none) 0 (some q19)) 1 (some q27)) 2 (some q35)))))))], wRe kA q5 ((u6 0)) x0Re a0Re, wGr kA (u6 0 4) ((u6 1)) x0Gr a0Gr none, wEm kA q7 ((u8 0)) x0Em a0Em none, wNe kA (u8 0 1) ((u8 1)) x0Ne a0Ne, [(q9, .inl (kA 0, 24, .inl (fun _ => 0)))], [(q10, .inl (kA 1, 4000, .inl (fun _ => 0)))], [(q11, .inl (kA 1, 4000, .inl (fun _ => 0)))], [(q12, .inl (kA 0, 4096, .inl (fun _ => 0)))], wGr kA q13 u14 x0Gr a0Gr none, wFa kA q15 u16 x0Fa a0Fa, wNe kA q17 u18 x0Ne a0Ne, wDr kA q19 u20 x0Dr a0Dr, wGr kA q21 u22 x0Gr a0Gr none, wFa kA q23 u24 x0Fa a0Fa, wNe kA q25 u26 x0Ne a0Ne, wDr kA q27 u28 x0Dr a0Dr, wGr kA q29 u30 x0Gr a0Gr none, wFa kA q31 u32 x0Fa a0Fa, wNe kA q33 u34 x0Ne a0Ne, wDr kA q35 u36 x0Dr a0Dr, wGr kA q37 u38 x0Gr a0Gr none, wFa kA q39 u40 x0Fa a0Fa, wNe kA q41 u42 x0Ne a0Ne, wDr kA q43 u44 x0Dr a0Dr]) := hD
  refine W.widen (k := 248) (n := 42666) (by omega) (by omega) ?_
  refine va_astq (pc := 212) hx hb hK hP hD hS 4 7 236 0 rfl rfl rfl rfl (by unfold vp_in; decide) d_Ho_init_212 (fun H locs hP hD hS => ?_)
  have hP : va_P D classes (cat [[(h, .inr (12, [.ref q1, .ref q2, .ref q3, .ref q4, .ref q5, .ref q7, .ref q9, .int 0, .int ((-1)), .ref q10, .ref q11, .int 0, .int 0, .ref q12, .int 0, .int 0, .null, .null, .null, .null, .null]))], [(q1, .inl (kA 4, 4, .inr (.inr (.inr (.inr (va_up (va_up (va_up (va_up (fun _ => none) 0 (some q13)) 1 (some q21)) 2 (some q29)) 3 (some q37)))))))], [(q2, .inl (kA 5, 4, .inr (.inr (.inr (.inr (va_up (va_up (va_up (va_up (fun _ => none) 0 (some q15)) 1 (some q23)) 2 (some q31)) 3 (some q39)))))))], [(q3, .inl (kA 6, 4, .inr (.inr (.inr (.inr (va_up (va_up (va_up (va_up (fun _ => none) 0 (some q17)) 1 (some q25)) 2 (some q33)) 3 (some q41)))))))], [(q4, .inl (kA 7, 4, .inr (.inr (.inr (.inr (va_up (va_up (va_up (va_up (fun _ => none) 0 (some q19)) 1 (some q27)) 2 (some q35)) 3 (some q43)))))))], wRe kA q5 ((u6 0)) x0Re a0Re, wGr kA (u6 0 4) ((u6 1)) x0Gr a0Gr none, wEm kA q7 ((u8 0)) x0Em a0Em none, wNe kA (u8 0 1) ((u8 1)) x0Ne a0Ne, [(q9, .inl (kA 0, 24, .inl (fun _ => 0)))], [(q10, .inl (kA 1, 4000, .inl (fun _ => 0)))], [(q11, .inl (kA 1, 4000, .inl (fun _ => 0)))], [(q12, .inl (kA 0, 4096, .inl (fun _ => 0)))], wGr kA q13 u14 x0Gr a0Gr none, wFa kA q15 u16 x0Fa a0Fa, wNe kA q17 u18 x0Ne a0Ne, wDr kA q19 u20 x0Dr a0Dr, wGr kA q21 u22 x0Gr a0Gr none, wFa kA q23 u24 x0Fa a0Fa, wNe kA q25 u26 x0Ne a0Ne, wDr kA q27 u28 x0Dr a0Dr, wGr kA q29 u30 x0Gr a0Gr none, wFa kA q31 u32 x0Fa a0Fa, wNe kA q33 u34 x0Ne a0Ne, wDr kA q35 u36 x0Dr a0Dr, wGr kA q37 u38 x0Gr a0Gr none, wFa kA q39 u40 x0Fa a0Fa, wNe kA q41 u42 x0Ne a0Ne, wDr kA q43 u44 x0Dr a0Dr]) H := hP
  have hD : va_D A (cat [[(h, .inr (12, [.ref q1, .ref q2, .ref q3, .ref q4, .ref q5, .ref q7, .ref q9, .int 0, .int ((-1)), .ref q10, .ref q11, .int 0, .int 0, .ref q12, .int 0, .int 0, .null, .null, .null, .null, .null]))], [(q1, .inl (kA 4, 4, .inr (.inr (.inr (.inr (va_up (va_up (va_up (va_up (fun _ => none) 0 (some q13)) 1 (some q21)) 2 (some q29)) 3 (some q37)))))))], [(q2, .inl (kA 5, 4, .inr (.inr (.inr (.inr (va_up (va_up (va_up (va_up (fun _ => none) 0 (some q15)) 1 (some q23)) 2 (some q31)) 3 (some q39)))))))], [(q3, .inl (kA 6, 4, .inr (.inr (.inr (.inr (va_up (va_up (va_up (va_up (fun _ => none) 0 (some q17)) 1 (some q25)) 2 (some q33)) 3 (some q41)))))))], [(q4, .inl (kA 7, 4, .inr (.inr (.inr (.inr (va_up (va_up (va_up (va_up (fun _ => none) 0 (some q19)) 1 (some q27)) 2 (some q35)) 3 (some q43)))))))], wRe kA q5 ((u6 0)) x0Re a0Re, wGr kA (u6 0 4) ((u6 1)) x0Gr a0Gr none, wEm kA q7 ((u8 0)) x0Em a0Em none, wNe kA (u8 0 1) ((u8 1)) x0Ne a0Ne, [(q9, .inl (kA 0, 24, .inl (fun _ => 0)))], [(q10, .inl (kA 1, 4000, .inl (fun _ => 0)))], [(q11, .inl (kA 1, 4000, .inl (fun _ => 0)))], [(q12, .inl (kA 0, 4096, .inl (fun _ => 0)))], wGr kA q13 u14 x0Gr a0Gr none, wFa kA q15 u16 x0Fa a0Fa, wNe kA q17 u18 x0Ne a0Ne, wDr kA q19 u20 x0Dr a0Dr, wGr kA q21 u22 x0Gr a0Gr none, wFa kA q23 u24 x0Fa a0Fa, wNe kA q25 u26 x0Ne a0Ne, wDr kA q27 u28 x0Dr a0Dr, wGr kA q29 u30 x0Gr a0Gr none, wFa kA q31 u32 x0Fa a0Fa, wNe kA q33 u34 x0Ne a0Ne, wDr kA q35 u36 x0Dr a0Dr, wGr kA q37 u38 x0Gr a0Gr none, wFa kA q39 u40 x0Fa a0Fa, wNe kA q41 u42 x0Ne a0Ne, wDr kA q43 u44 x0Dr a0Dr]) := hD
  refine lv_iinc (pc := 213) (v := 4) (lv' := [(1, .int 4), (0, .ref h)]) hx hb d_Ho_init_213 hl (k := 0) rfl (by decide) (by decide) rfl (fun ls hl => ?_)
  refine lv_goto (pc := 216) (tgt := 150) hx hb d_Ho_init_216 (by decide) ?_
  refine lv_iload_n (pc := 150) hx hb d_Ho_init_150 rfl (lv_at hl 0 rfl) ?_
  refine lv_iconst (pc := 151) (v := 4) hx hb d_Ho_init_151 (by decide) ?_
  refine lv_icmp_ge (pc := 152) (tgt := 219) hx hb d_Ho_init_152 (by decide) (fun _ => ?_) (fun c1 => absurd (by decide) c1)
  obtain ⟨hP, hD⟩ := k_ord (gc := [[(h, .inr (12, [.ref q1, .ref q2, .ref q3, .ref q4, .ref q5, .ref q7, .ref q9, .int 0, .int ((-1)), .ref q10, .ref q11, .int 0, .int 0, .ref q12, .int 0, .int 0, .null, .null, .null, .null, .null]))], [(q1, .inl (kA 4, 4, .inr (.inr (.inr (.inr (va_up (va_up (va_up (va_up (fun _ => none) 0 (some q13)) 1 (some q21)) 2 (some q29)) 3 (some q37)))))))], [(q2, .inl (kA 5, 4, .inr (.inr (.inr (.inr (va_up (va_up (va_up (va_up (fun _ => none) 0 (some q15)) 1 (some q23)) 2 (some q31)) 3 (some q39)))))))], [(q3, .inl (kA 6, 4, .inr (.inr (.inr (.inr (va_up (va_up (va_up (va_up (fun _ => none) 0 (some q17)) 1 (some q25)) 2 (some q33)) 3 (some q41)))))))], [(q4, .inl (kA 7, 4, .inr (.inr (.inr (.inr (va_up (va_up (va_up (va_up (fun _ => none) 0 (some q19)) 1 (some q27)) 2 (some q35)) 3 (some q43)))))))], [(q9, .inl (kA 0, 24, .inl (fun _ => 0)))], [(q10, .inl (kA 1, 4000, .inl (fun _ => 0)))], [(q11, .inl (kA 1, 4000, .inl (fun _ => 0)))], [(q12, .inl (kA 0, 4096, .inl (fun _ => 0)))], wRe kA q5 ((u6 0)) x0Re a0Re, wGr kA (u6 0 4) ((u6 1)) x0Gr a0Gr none, wEm kA q7 ((u8 0)) x0Em a0Em none, wNe kA (u8 0 1) ((u8 1)) x0Ne a0Ne, wGr kA q13 u14 x0Gr a0Gr none, wFa kA q15 u16 x0Fa a0Fa, wNe kA q17 u18 x0Ne a0Ne, wDr kA q19 u20 x0Dr a0Dr, wGr kA q21 u22 x0Gr a0Gr none, wFa kA q23 u24 x0Fa a0Fa, wNe kA q25 u26 x0Ne a0Ne, wDr kA q27 u28 x0Dr a0Dr, wGr kA q29 u30 x0Gr a0Gr none, wFa kA q31 u32 x0Fa a0Fa, wNe kA q33 u34 x0Ne a0Ne, wDr kA q35 u36 x0Dr a0Dr, wGr kA q37 u38 x0Gr a0Gr none, wFa kA q39 u40 x0Fa a0Fa, wNe kA q41 u42 x0Ne a0Ne, wDr kA q43 u44 x0Dr a0Dr]) hP hD [0, 1, 2, 3, 4, 9, 10, 11, 12, 5, 6, 7, 8, 13, 14, 15, 16, 17, 18, 19, 20, 21, 22, 23, 24, 25, 26, 27, 28] 29 rfl (by decide) rfl
  refine W.widen (k := 248) (n := 42666) (Nat.le_of_ble_eq_true rfl) (Nat.le_of_ble_eq_true rfl) ?_
  exact W.vret hx hb hr (fun t ht hW => ⟨⟨(fun i => match i with | 0 => (fun k => match k with | 0 => q1 | 1 => q2 | 2 => q3 | 3 => q4 | 4 => q5 | 5 => q7 | 6 => q9 | 9 => q10 | 10 => q11 | 13 => q12 | _ => 0) | 1 => (u6 0) | 2 => (u6 1) | 3 => (u8 0) | 4 => (u8 1) | 5 => u14 | 6 => u16 | 7 => u18 | 8 => u20 | 9 => u22 | 10 => u24 | 11 => u26 | 12 => u28 | 13 => u30 | 14 => u32 | 15 => u34 | 16 => u36 | 17 => u38 | 18 => u40 | 19 => u42 | 20 => u44 | 50 => (fun k => match k with | 1 => q5 | 2 => u6 0 4 | 3 => q7 | 4 => u8 0 1 | 5 => q13 | 6 => q15 | 7 => q17 | 8 => q19 | 9 => q21 | 10 => q23 | 11 => q25 | 12 => q27 | 13 => q29 | 14 => q31 | 15 => q33 | 16 => q35 | 17 => q37 | 18 => q39 | 19 => q41 | 20 => q43 | _ => 0) | _ => fun _ => 0), rfl, ⟨rfl, rfl, hu20, hu28, hu36, hu44⟩, by rw [ht]; exact hP, va_K.moved hW.alike hK, hD⟩, hS.F ht⟩) hS.2.2 d_Ho_init_219
end
