theorem wm_1169 : (Cond.methodLink "DrawingHouseLaw" (75 : Nat) ({ cls := "DrawingHouse", name := "turn", desc := "(IIII)I" } : MethodName) : Cond) ∈ lw_g := lw_gi (lw_c5 (List.mem_of_getElem? (i := 209) rfl)) rfl
theorem wm_1170 : (Cond.instanceMethod ({ cls := "DrawingHouse", name := "turn", desc := "(IIII)I" } : MethodName) : Cond) ∈ lw_g := lw_gi (lw_c5 (List.mem_of_getElem? (i := 210) rfl)) rfl
theorem wm_1171 : (Cond.selects "DrawingHouse" ({ cls := "DrawingHouse", name := "turn", desc := "(IIII)I" } : MethodName) ({ cls := "DrawingHouse", name := "turn", desc := "(IIII)I" } : MethodName) : Cond) ∈ lw_g := lw_gi (lw_c5 (List.mem_of_getElem? (i := 211) rfl)) rfl
theorem wm_1172 : (Cond.code ({ cls := "DrawingHouse", name := "turn", desc := "(IIII)I" } : MethodName) prog_1_method_16_code (6 : Nat) (Option.some ClassFile.FieldType.int) : Cond) ∈ lw_g := lw_gi (lw_c5 (List.mem_of_getElem? (i := 212) rfl)) rfl
theorem wm_1173 : (Cond.methodLink "DrawingHouse" (284 : Nat) ({ cls := "DrawingHouse$Net", name := "edgeAround", desc := "(II)I" } : MethodName) : Cond) ∈ lw_g := lw_gi (lw_c5 (List.mem_of_getElem? (i := 213) rfl)) rfl
theorem wm_1174 : (Cond.instanceMethod ({ cls := "DrawingHouse$Net", name := "edgeAround", desc := "(II)I" } : MethodName) : Cond) ∈ lw_g := lw_gi (lw_c5 (List.mem_of_getElem? (i := 214) rfl)) rfl
theorem wm_1175 : (Cond.selects "DrawingHouse$Net" ({ cls := "DrawingHouse$Net", name := "edgeAround", desc := "(II)I" } : MethodName) ({ cls := "DrawingHouse$Net", name := "edgeAround", desc := "(II)I" } : MethodName) : Cond) ∈ lw_g := lw_gi (lw_c5 (List.mem_of_getElem? (i := 215) rfl)) rfl
theorem wm_1176 : (Cond.code ({ cls := "DrawingHouse$Net", name := "edgeAround", desc := "(II)I" } : MethodName) prog_7_method_12_code (5 : Nat) (Option.some ClassFile.FieldType.int) : Cond) ∈ lw_g := lw_gi (lw_c5 (List.mem_of_getElem? (i := 216) rfl)) rfl
theorem wm_1178 : (Cond.methodLink "DrawingHouse" (287 : Nat) ({ cls := "DrawingHouse$Net", name := "nodeOfFace", desc := "(II)I" } : MethodName) : Cond) ∈ lw_g := lw_gi (lw_c5 (List.mem_of_getElem? (i := 218) rfl)) rfl
theorem wm_1179 : (Cond.instanceMethod ({ cls := "DrawingHouse$Net", name := "nodeOfFace", desc := "(II)I" } : MethodName) : Cond) ∈ lw_g := lw_gi (lw_c5 (List.mem_of_getElem? (i := 219) rfl)) rfl
theorem wm_1180 : (Cond.selects "DrawingHouse$Net" ({ cls := "DrawingHouse$Net", name := "nodeOfFace", desc := "(II)I" } : MethodName) ({ cls := "DrawingHouse$Net", name := "nodeOfFace", desc := "(II)I" } : MethodName) : Cond) ∈ lw_g := lw_gi (lw_c5 (List.mem_of_getElem? (i := 220) rfl)) rfl
theorem wm_1181 : (Cond.code ({ cls := "DrawingHouse$Net", name := "nodeOfFace", desc := "(II)I" } : MethodName) prog_7_method_13_code (3 : Nat) (Option.some ClassFile.FieldType.int) : Cond) ∈ lw_g := lw_gi (lw_c5 (List.mem_of_getElem? (i := 221) rfl)) rfl
theorem wm_3268 : (Cond.methodLink "DrawingHouseLaw" (78 : Nat) ({ cls := "DrawingHouseModel", name := "turn", desc := "(IIII)I" } : MethodName) : Cond) ∈ lw_g := lw_gi (lw_c14 (List.mem_of_getElem? (i := 148) rfl)) rfl
theorem wm_3269 : (Cond.instanceMethod ({ cls := "DrawingHouseModel", name := "turn", desc := "(IIII)I" } : MethodName) : Cond) ∈ lw_g := lw_gi (lw_c14 (List.mem_of_getElem? (i := 149) rfl)) rfl
theorem wm_3270 : (Cond.selects "DrawingHouseModel" ({ cls := "DrawingHouseModel", name := "turn", desc := "(IIII)I" } : MethodName) ({ cls := "DrawingHouseModel", name := "turn", desc := "(IIII)I" } : MethodName) : Cond) ∈ lw_g := lw_gi (lw_c14 (List.mem_of_getElem? (i := 150) rfl)) rfl
theorem wm_3271 : (Cond.code ({ cls := "DrawingHouseModel", name := "turn", desc := "(IIII)I" } : MethodName) prog_15_method_95_code (6 : Nat) (Option.some ClassFile.FieldType.int) : Cond) ∈ lw_g := lw_gi (lw_c14 (List.mem_of_getElem? (i := 151) rfl)) rfl
abbrev b_Ho_turn : ByteArray := prog_1_method_16_code
def y_Ho_turn : MethodName := ⟨"DrawingHouse", "turn", "(IIII)I"⟩
abbrev z_Ho_turn : List Cond := Cond.code y_Ho_turn b_Ho_turn 6 (some .int) :: lw_g
theorem d_Ho_turn_0 : decode b_Ho_turn 0 = .ok (.iload_n 1, 1) := by decide +kernel
theorem d_Ho_turn_1 : decode b_Ho_turn 1 = .ok (.invokestatic 115, 3) := by decide +kernel
theorem d_Ho_turn_4 : decode b_Ho_turn 4 = .ok (.ifCond .eq 7, 3) := by decide +kernel
theorem d_Ho_turn_7 : decode b_Ho_turn 7 = .ok (.iload_n 3, 1) := by decide +kernel
theorem d_Ho_turn_8 : decode b_Ho_turn 8 = .ok (.ifCond .ge 5, 3) := by decide +kernel
theorem d_Ho_turn_11 : decode b_Ho_turn 11 = .ok (.iconst (-1), 1) := by decide +kernel
theorem d_Ho_turn_12 : decode b_Ho_turn 12 = .ok (.ireturn, 1) := by decide +kernel
theorem d_Ho_turn_13 : decode b_Ho_turn 13 = .ok (.aload_n 0, 1) := by decide +kernel
theorem d_Ho_turn_14 : decode b_Ho_turn 14 = .ok (.iload_n 1, 1) := by decide +kernel
theorem d_Ho_turn_15 : decode b_Ho_turn 15 = .ok (.invokevirtual 261, 3) := by decide +kernel
theorem d_Ho_turn_18 : decode b_Ho_turn 18 = .ok (.astore 5, 2) := by decide +kernel
theorem d_Ho_turn_20 : decode b_Ho_turn 20 = .ok (.iload_n 2, 1) := by decide +kernel
theorem d_Ho_turn_21 : decode b_Ho_turn 21 = .ok (.iconst 2, 1) := by decide +kernel
theorem d_Ho_turn_22 : decode b_Ho_turn 22 = .ok (.if_icmp .ne 32, 3) := by decide +kernel
theorem d_Ho_turn_25 : decode b_Ho_turn 25 = .ok (.aload 5, 2) := by decide +kernel
theorem d_Ho_turn_27 : decode b_Ho_turn 27 = .ok (.getfield 265, 3) := by decide +kernel
theorem d_Ho_turn_30 : decode b_Ho_turn 30 = .ok (.ifCond .ne 22, 3) := by decide +kernel
theorem d_Ho_turn_52 : decode b_Ho_turn 52 = .ok (.iconst (-1), 1) := by decide +kernel
theorem d_Ho_turn_53 : decode b_Ho_turn 53 = .ok (.ireturn, 1) := by decide +kernel
theorem d_Ho_turn_54 : decode b_Ho_turn 54 = .ok (.aload 5, 2) := by decide +kernel
theorem d_Ho_turn_56 : decode b_Ho_turn 56 = .ok (.getfield 265, 3) := by decide +kernel
theorem d_Ho_turn_59 : decode b_Ho_turn 59 = .ok (.ifCond .eq 8, 3) := by decide +kernel
theorem d_Ho_turn_62 : decode b_Ho_turn 62 = .ok (.iload 4, 2) := by decide +kernel
theorem d_Ho_turn_64 : decode b_Ho_turn 64 = .ok (.ifCond .ge 5, 3) := by decide +kernel
theorem d_Ho_turn_67 : decode b_Ho_turn 67 = .ok (.iconst (-1), 1) := by decide +kernel
theorem d_Ho_turn_68 : decode b_Ho_turn 68 = .ok (.ireturn, 1) := by decide +kernel
theorem d_Ho_turn_69 : decode b_Ho_turn 69 = .ok (.iload_n 2, 1) := by decide +kernel
theorem d_Ho_turn_70 : decode b_Ho_turn 70 = .ok (.ifCond .ne 12, 3) := by decide +kernel
theorem d_Ho_turn_73 : decode b_Ho_turn 73 = .ok (.aload 5, 2) := by decide +kernel
theorem d_Ho_turn_75 : decode b_Ho_turn 75 = .ok (.iload_n 3, 1) := by decide +kernel
theorem d_Ho_turn_76 : decode b_Ho_turn 76 = .ok (.iload 4, 2) := by decide +kernel
theorem d_Ho_turn_78 : decode b_Ho_turn 78 = .ok (.invokevirtual 284, 3) := by decide +kernel
theorem d_Ho_turn_81 : decode b_Ho_turn 81 = .ok (.ireturn, 1) := by decide +kernel
theorem d_Ho_turn_82 : decode b_Ho_turn 82 = .ok (.iload_n 2, 1) := by decide +kernel
theorem d_Ho_turn_83 : decode b_Ho_turn 83 = .ok (.iconst 1, 1) := by decide +kernel
theorem d_Ho_turn_84 : decode b_Ho_turn 84 = .ok (.if_icmp .ne 14, 3) := by decide +kernel
theorem d_Ho_turn_87 : decode b_Ho_turn 87 = .ok (.aload 5, 2) := by decide +kernel
theorem d_Ho_turn_89 : decode b_Ho_turn 89 = .ok (.iload_n 3, 1) := by decide +kernel
theorem d_Ho_turn_90 : decode b_Ho_turn 90 = .ok (.iload 4, 2) := by decide +kernel
theorem d_Ho_turn_92 : decode b_Ho_turn 92 = .ok (.invokevirtual 287, 3) := by decide +kernel
theorem d_Ho_turn_95 : decode b_Ho_turn 95 = .ok (.goto 4, 3) := by decide +kernel
theorem d_Ho_turn_98 : decode b_Ho_turn 98 = .ok (.iconst (-1), 1) := by decide +kernel
theorem d_Ho_turn_99 : decode b_Ho_turn 99 = .ok (.ireturn, 1) := by decide +kernel
abbrev b_Mo_turn : ByteArray := prog_15_method_95_code
def y_Mo_turn : MethodName := ⟨"DrawingHouseModel", "turn", "(IIII)I"⟩
abbrev z_Mo_turn : List Cond := Cond.code y_Mo_turn b_Mo_turn 6 (some .int) :: lw_g
theorem d_Mo_turn_0 : decode b_Mo_turn 0 = .ok (.iload_n 1, 1) := by decide +kernel
theorem d_Mo_turn_1 : decode b_Mo_turn 1 = .ok (.invokestatic 521, 3) := by decide +kernel
theorem d_Mo_turn_4 : decode b_Mo_turn 4 = .ok (.ifCond .eq 12, 3) := by decide +kernel
theorem d_Mo_turn_7 : decode b_Mo_turn 7 = .ok (.iload_n 2, 1) := by decide +kernel
theorem d_Mo_turn_8 : decode b_Mo_turn 8 = .ok (.iconst 0, 1) := by decide +kernel
theorem d_Mo_turn_9 : decode b_Mo_turn 9 = .ok (.iconst 2, 1) := by decide +kernel
theorem d_Mo_turn_10 : decode b_Mo_turn 10 = .ok (.invokestatic 387, 3) := by decide +kernel
theorem d_Mo_turn_13 : decode b_Mo_turn 13 = .ok (.ifCond .ne 5, 3) := by decide +kernel
theorem d_Mo_turn_16 : decode b_Mo_turn 16 = .ok (.iconst (-1), 1) := by decide +kernel
theorem d_Mo_turn_17 : decode b_Mo_turn 17 = .ok (.ireturn, 1) := by decide +kernel
theorem d_Mo_turn_18 : decode b_Mo_turn 18 = .ok (.aload_n 0, 1) := by decide +kernel
theorem d_Mo_turn_19 : decode b_Mo_turn 19 = .ok (.iload_n 1, 1) := by decide +kernel
theorem d_Mo_turn_20 : decode b_Mo_turn 20 = .ok (.invokevirtual 527, 3) := by decide +kernel
theorem d_Mo_turn_23 : decode b_Mo_turn 23 = .ok (.aload_n 0, 1) := by decide +kernel
theorem d_Mo_turn_24 : decode b_Mo_turn 24 = .ok (.invokevirtual 704, 3) := by decide +kernel
theorem d_Mo_turn_27 : decode b_Mo_turn 27 = .ok (.istore 5, 2) := by decide +kernel
theorem d_Mo_turn_29 : decode b_Mo_turn 29 = .ok (.iload 5, 2) := by decide +kernel
theorem d_Mo_turn_31 : decode b_Mo_turn 31 = .ok (.iload_n 2, 1) := by decide +kernel
theorem d_Mo_turn_32 : decode b_Mo_turn 32 = .ok (.iconst 2, 1) := by decide +kernel
theorem d_Mo_turn_33 : decode b_Mo_turn 33 = .ok (.if_icmp .ne 7, 3) := by decide +kernel
theorem d_Mo_turn_36 : decode b_Mo_turn 36 = .ok (.iconst 1, 1) := by decide +kernel
theorem d_Mo_turn_37 : decode b_Mo_turn 37 = .ok (.goto 4, 3) := by decide +kernel
theorem d_Mo_turn_40 : decode b_Mo_turn 40 = .ok (.iconst 0, 1) := by decide +kernel
theorem d_Mo_turn_41 : decode b_Mo_turn 41 = .ok (.if_icmp .ne 5, 3) := by decide +kernel
theorem d_Mo_turn_44 : decode b_Mo_turn 44 = .ok (.iconst (-1), 1) := by decide +kernel
theorem d_Mo_turn_45 : decode b_Mo_turn 45 = .ok (.ireturn, 1) := by decide +kernel
theorem d_Mo_turn_46 : decode b_Mo_turn 46 = .ok (.iload_n 2, 1) := by decide +kernel
theorem d_Mo_turn_47 : decode b_Mo_turn 47 = .ok (.iconst 2, 1) := by decide +kernel
theorem d_Mo_turn_48 : decode b_Mo_turn 48 = .ok (.if_icmp .ne 32, 3) := by decide +kernel
theorem d_Mo_turn_80 : decode b_Mo_turn 80 = .ok (.iload_n 2, 1) := by decide +kernel
theorem d_Mo_turn_81 : decode b_Mo_turn 81 = .ok (.ifCond .ne 51, 3) := by decide +kernel
theorem d_Mo_turn_84 : decode b_Mo_turn 84 = .ok (.iload_n 3, 1) := by decide +kernel
theorem d_Mo_turn_85 : decode b_Mo_turn 85 = .ok (.iconst 0, 1) := by decide +kernel
theorem d_Mo_turn_86 : decode b_Mo_turn 86 = .ok (.aload_n 0, 1) := by decide +kernel
theorem d_Mo_turn_87 : decode b_Mo_turn 87 = .ok (.getfield 594, 3) := by decide +kernel
theorem d_Mo_turn_90 : decode b_Mo_turn 90 = .ok (.iconst 1, 1) := by decide +kernel
theorem d_Mo_turn_91 : decode b_Mo_turn 91 = .ok (.isub, 1) := by decide +kernel
theorem d_Mo_turn_92 : decode b_Mo_turn 92 = .ok (.invokestatic 387, 3) := by decide +kernel
theorem d_Mo_turn_95 : decode b_Mo_turn 95 = .ok (.ifCond .eq 35, 3) := by decide +kernel
theorem d_Mo_turn_130 : decode b_Mo_turn 130 = .ok (.iconst (-1), 1) := by decide +kernel
theorem d_Mo_turn_131 : decode b_Mo_turn 131 = .ok (.ireturn, 1) := by decide +kernel
theorem d_Mo_turn_132 : decode b_Mo_turn 132 = .ok (.aload_n 0, 1) := by decide +kernel
theorem d_Mo_turn_133 : decode b_Mo_turn 133 = .ok (.invokevirtual 707, 3) := by decide +kernel
theorem d_Mo_turn_136 : decode b_Mo_turn 136 = .ok (.iload_n 3, 1) := by decide +kernel
theorem d_Mo_turn_137 : decode b_Mo_turn 137 = .ok (.iconst 0, 1) := by decide +kernel
theorem d_Mo_turn_138 : decode b_Mo_turn 138 = .ok (.aload_n 0, 1) := by decide +kernel
theorem d_Mo_turn_139 : decode b_Mo_turn 139 = .ok (.getfield 683, 3) := by decide +kernel
theorem d_Mo_turn_142 : decode b_Mo_turn 142 = .ok (.iconst 1, 1) := by decide +kernel
theorem d_Mo_turn_143 : decode b_Mo_turn 143 = .ok (.isub, 1) := by decide +kernel
theorem d_Mo_turn_144 : decode b_Mo_turn 144 = .ok (.invokestatic 387, 3) := by decide +kernel
theorem d_Mo_turn_147 : decode b_Mo_turn 147 = .ok (.ifCond .eq 29, 3) := by decide +kernel
theorem d_Mo_turn_176 : decode b_Mo_turn 176 = .ok (.iconst (-1), 1) := by decide +kernel
theorem d_Mo_turn_177 : decode b_Mo_turn 177 = .ok (.ireturn, 1) := by decide +kernel
abbrev b_Ne_edgeAround : ByteArray := prog_7_method_12_code
def y_Ne_edgeAround : MethodName := ⟨"DrawingHouse$Net", "edgeAround", "(II)I"⟩
abbrev z_Ne_edgeAround : List Cond := Cond.code y_Ne_edgeAround b_Ne_edgeAround 5 (some .int) :: lw_g
theorem d_Ne_edgeAround_0 : decode b_Ne_edgeAround 0 = .ok (.iload_n 1, 1) := by decide +kernel
theorem d_Ne_edgeAround_1 : decode b_Ne_edgeAround 1 = .ok (.aload_n 0, 1) := by decide +kernel
theorem d_Ne_edgeAround_2 : decode b_Ne_edgeAround 2 = .ok (.getfield 28, 3) := by decide +kernel
theorem d_Ne_edgeAround_5 : decode b_Ne_edgeAround 5 = .ok (.if_icmp .ge 16, 3) := by decide +kernel
theorem d_Ne_edgeAround_21 : decode b_Ne_edgeAround 21 = .ok (.iconst (-1), 1) := by decide +kernel
theorem d_Ne_edgeAround_22 : decode b_Ne_edgeAround 22 = .ok (.ireturn, 1) := by decide +kernel
abbrev b_Ne_nodeOfFace : ByteArray := prog_7_method_13_code
def y_Ne_nodeOfFace : MethodName := ⟨"DrawingHouse$Net", "nodeOfFace", "(II)I"⟩
abbrev z_Ne_nodeOfFace : List Cond := Cond.code y_Ne_nodeOfFace b_Ne_nodeOfFace 3 (some .int) :: lw_g
theorem d_Ne_nodeOfFace_0 : decode b_Ne_nodeOfFace 0 = .ok (.iload_n 1, 1) := by decide +kernel
theorem d_Ne_nodeOfFace_1 : decode b_Ne_nodeOfFace 1 = .ok (.aload_n 0, 1) := by decide +kernel
theorem d_Ne_nodeOfFace_2 : decode b_Ne_nodeOfFace 2 = .ok (.getfield 52, 3) := by decide +kernel
theorem d_Ne_nodeOfFace_5 : decode b_Ne_nodeOfFace 5 = .ok (.if_icmp .ge 22, 3) := by decide +kernel
theorem d_Ne_nodeOfFace_27 : decode b_Ne_nodeOfFace 27 = .ok (.iconst (-1), 1) := by decide +kernel
theorem d_Ne_nodeOfFace_28 : decode b_Ne_nodeOfFace 28 = .ok (.ireturn, 1) := by decide +kernel
theorem d_law_law_712 : decode b_law_law 712 = .ok (.aload_n 1, 1) := by decide +kernel
theorem d_law_law_713 : decode b_law_law 713 = .ok (.aload_n 0, 1) := by decide +kernel
theorem d_law_law_714 : decode b_law_law 714 = .ok (.iload_n 3, 1) := by decide +kernel
theorem d_law_law_715 : decode b_law_law 715 = .ok (.iconst 1, 1) := by decide +kernel
theorem d_law_law_716 : decode b_law_law 716 = .ok (.iadd, 1) := by decide +kernel
theorem d_law_law_717 : decode b_law_law 717 = .ok (.iaload, 1) := by decide +kernel
theorem d_law_law_718 : decode b_law_law 718 = .ok (.aload_n 0, 1) := by decide +kernel
theorem d_law_law_719 : decode b_law_law 719 = .ok (.iload_n 3, 1) := by decide +kernel
theorem d_law_law_720 : decode b_law_law 720 = .ok (.iconst 2, 1) := by decide +kernel
theorem d_law_law_721 : decode b_law_law 721 = .ok (.iadd, 1) := by decide +kernel
theorem d_law_law_722 : decode b_law_law 722 = .ok (.iaload, 1) := by decide +kernel
theorem d_law_law_723 : decode b_law_law 723 = .ok (.aload_n 0, 1) := by decide +kernel
theorem d_law_law_724 : decode b_law_law 724 = .ok (.iload_n 3, 1) := by decide +kernel
theorem d_law_law_725 : decode b_law_law 725 = .ok (.iconst 3, 1) := by decide +kernel
theorem d_law_law_726 : decode b_law_law 726 = .ok (.iadd, 1) := by decide +kernel
theorem d_law_law_727 : decode b_law_law 727 = .ok (.iaload, 1) := by decide +kernel
theorem d_law_law_728 : decode b_law_law 728 = .ok (.aload_n 0, 1) := by decide +kernel
theorem d_law_law_729 : decode b_law_law 729 = .ok (.iload_n 3, 1) := by decide +kernel
theorem d_law_law_730 : decode b_law_law 730 = .ok (.iconst 4, 1) := by decide +kernel
theorem d_law_law_731 : decode b_law_law 731 = .ok (.iadd, 1) := by decide +kernel
theorem d_law_law_732 : decode b_law_law 732 = .ok (.iaload, 1) := by decide +kernel
theorem d_law_law_733 : decode b_law_law 733 = .ok (.invokevirtual 75, 3) := by decide +kernel
theorem d_law_law_736 : decode b_law_law 736 = .ok (.aload_n 2, 1) := by decide +kernel
theorem d_law_law_737 : decode b_law_law 737 = .ok (.aload_n 0, 1) := by decide +kernel
theorem d_law_law_738 : decode b_law_law 738 = .ok (.iload_n 3, 1) := by decide +kernel
theorem d_law_law_739 : decode b_law_law 739 = .ok (.iconst 1, 1) := by decide +kernel
theorem d_law_law_740 : decode b_law_law 740 = .ok (.iadd, 1) := by decide +kernel
theorem d_law_law_741 : decode b_law_law 741 = .ok (.iaload, 1) := by decide +kernel
theorem d_law_law_742 : decode b_law_law 742 = .ok (.aload_n 0, 1) := by decide +kernel
theorem d_law_law_743 : decode b_law_law 743 = .ok (.iload_n 3, 1) := by decide +kernel
theorem d_law_law_744 : decode b_law_law 744 = .ok (.iconst 2, 1) := by decide +kernel
theorem d_law_law_745 : decode b_law_law 745 = .ok (.iadd, 1) := by decide +kernel
theorem d_law_law_746 : decode b_law_law 746 = .ok (.iaload, 1) := by decide +kernel
theorem d_law_law_747 : decode b_law_law 747 = .ok (.aload_n 0, 1) := by decide +kernel
theorem d_law_law_748 : decode b_law_law 748 = .ok (.iload_n 3, 1) := by decide +kernel
theorem d_law_law_749 : decode b_law_law 749 = .ok (.iconst 3, 1) := by decide +kernel
theorem d_law_law_750 : decode b_law_law 750 = .ok (.iadd, 1) := by decide +kernel
theorem d_law_law_751 : decode b_law_law 751 = .ok (.iaload, 1) := by decide +kernel
theorem d_law_law_752 : decode b_law_law 752 = .ok (.aload_n 0, 1) := by decide +kernel
theorem d_law_law_753 : decode b_law_law 753 = .ok (.iload_n 3, 1) := by decide +kernel
theorem d_law_law_754 : decode b_law_law 754 = .ok (.iconst 4, 1) := by decide +kernel
theorem d_law_law_755 : decode b_law_law 755 = .ok (.iadd, 1) := by decide +kernel
theorem d_law_law_756 : decode b_law_law 756 = .ok (.iaload, 1) := by decide +kernel
theorem d_law_law_757 : decode b_law_law 757 = .ok (.invokevirtual 78, 3) := by decide +kernel
theorem d_law_law_760 : decode b_law_law 760 = .ok (.if_icmp .eq 535, 3) := by decide +kernel
set_option maxRecDepth 100000 in
set_option maxHeartbeats 4000000 in
/-- DrawingHouse.turn(IIII)I -/
theorem c_Ho_turn_z1 (l : Launch) (D : va_G) (kA : Nat → ClassId) (a0 : Nat) (v1 : Int32) (v2 : Int32) (v3 : Int32) (v4 : Int32) (hg : sp_Ho_isPlace v1 = 0) (hgM : sp_Mo_isPlace v1 = 0) : Ci l y_Ho_turn z_Ho_turn { frames := 1, cells := 0, slots := 0, locals := 20 } D classes (TY kA) [.ref a0, .int v1, .int v2, .int v3, .int v4] [] (fun r (_ : List va_W) => r = (-1)) (fun u => u) 0 0 := by
  intro sz
  refine k_met (cc := b_Ho_turn) (maxL := 6) (ret := (some .int)) (by decide) rfl (Nat.le_of_ble_eq_true rfl) (fun p e s m below meth c ls X hl hB => ?_)
  obtain ⟨hsz, hP, hK, hD0, hN⟩ := hB
  subst hsz
  have hD := hD0.self (sz := s.heap.size)
  generalize hAe : va_A (cat []) s.heap.size = A at hD ⊢
  have hA : ∀ q : Nat, s.heap.size ≤ q → A q := fun q h => by rw [← hAe]; exact Or.inr h
  have hS : va_S A s.heap s.heap [] := va_S.rf
  obtain ⟨hx, hb, hml, hown, hts, hr, hlk, hnm⟩ := id X
  have hl : lv_has ls 6 [(0, .ref a0), (1, .int v1), (2, .int v2), (3, .int v3), (4, .int v4)] := hl
  have hP : va_P D classes (cat []) s.heap := hP
  have hK : va_K D classes (TY kA) s := hK
  refine lv_iload_n (pc := 0) hx hb d_Ho_turn_0 rfl (lv_at hl 1 rfl) ?_
  refine k_goI (gr := []) (k_rS (pc := 1) (As := [.int v1]) (rest := []) X (c_Ho_isPlace l D kA v1 s.heap.size) rfl wm_633 wm_1 wm_631 wm_632 1 (by decide +kernel) ⟨Nat.le_of_ble_eq_true rfl, Nat.le_of_ble_eq_true rfl⟩ rfl rfl (k_pre hN hK hP hD [] [] 0 rfl (by decide) rfl) rfl hl.1 rfl (Nat.le_of_ble_eq_true rfl) d_Ho_turn_1 ⟨Nat.le_of_ble_eq_true rfl, Nat.le_of_ble_eq_true rfl⟩) hP hD hS hA [] [] 0 rfl (by decide) rfl rfl (fun r1 u2 H locs hu2 hP hD hS => ?_)
  subst hu2
  have hP : va_P D classes (cat []) H := hP
  have hD : va_D A (cat []) := hD
  refine lv_if_eq (pc := 4) (tgt := 11) hx hb d_Ho_turn_4 (by decide) (fun c1 => ?_) (fun c1 => absurd (hg) c1)
  refine lv_iconst (pc := 11) (v := -1) hx hb d_Ho_turn_11 (by decide) ?_
  refine W.widen (k := 0) (n := 0) (Nat.le_of_ble_eq_true rfl) (Nat.le_of_ble_eq_true rfl) ?_
  exact W.iret (v := (-1)) hx hb hr (fun t ht hW => ⟨⟨(-1), [], rfl, rfl, by rw [ht]; exact hP, va_K.moved hW.alike hK, hD⟩, hS.F ht⟩) hS.2.2 d_Ho_turn_12
set_option maxRecDepth 100000 in
set_option maxHeartbeats 4000000 in
/-- DrawingHouseModel.turn(IIII)I -/
theorem c_Mo_turn_z1 (l : Launch) (D : va_G) (kA : Nat → ClassId) (a0 : Nat) (v1 : Int32) (v2 : Int32) (v3 : Int32) (v4 : Int32) (hg : sp_Ho_isPlace v1 = 0) (hgM : sp_Mo_isPlace v1 = 0) : Ci l y_Mo_turn z_Mo_turn { frames := 2, cells := 0, slots := 0, locals := 42 } D classes (TY kA) [.ref a0, .int v1, .int v2, .int v3, .int v4] [] (fun r (_ : List va_W) => r = (-1)) (fun u => u) 0 0 := by
  intro sz
  refine k_met (cc := b_Mo_turn) (maxL := 6) (ret := (some .int)) (by decide) rfl (Nat.le_of_ble_eq_true rfl) (fun p e s m below meth c ls X hl hB => ?_)
  obtain ⟨hsz, hP, hK, hD0, hN⟩ := hB
  subst hsz
  have hD := hD0.self (sz := s.heap.size)
  generalize hAe : va_A (cat []) s.heap.size = A at hD ⊢
  have hA : ∀ q : Nat, s.heap.size ≤ q → A q := fun q h => by rw [← hAe]; exact Or.inr h
  have hS : va_S A s.heap s.heap [] := va_S.rf
  obtain ⟨hx, hb, hml, hown, hts, hr, hlk, hnm⟩ := id X
  have hl : lv_has ls 6 [(0, .ref a0), (1, .int v1), (2, .int v2), (3, .int v3), (4, .int v4)] := hl
  have hP : va_P D classes (cat []) s.heap := hP
  have hK : va_K D classes (TY kA) s := hK
  refine lv_iload_n (pc := 0) hx hb d_Mo_turn_0 rfl (lv_at hl 1 rfl) ?_
  refine k_goI (gr := []) (k_rS (pc := 1) (As := [.int v1]) (rest := []) X (c_Mo_isPlace l D kA v1 s.heap.size) rfl wm_2978 wm_9 wm_2976 wm_2977 1 (by decide +kernel) ⟨Nat.le_of_ble_eq_true rfl, Nat.le_of_ble_eq_true rfl⟩ rfl rfl (k_pre hN hK hP hD [] [] 0 rfl (by decide) rfl) rfl hl.1 rfl (Nat.le_of_ble_eq_true rfl) d_Mo_turn_1 ⟨Nat.le_of_ble_eq_true rfl, Nat.le_of_ble_eq_true rfl⟩) hP hD hS hA [] [] 0 rfl (by decide) rfl rfl (fun r1 u2 H locs hu2 hP hD hS => ?_)
  subst hu2
  have hP : va_P D classes (cat []) H := hP
  have hD : va_D A (cat []) := hD
  refine lv_if_eq (pc := 4) (tgt := 16) hx hb d_Mo_turn_4 (by decide) (fun c1 => ?_) (fun c1 => absurd (hgM) c1)
  refine lv_iconst (pc := 16) (v := -1) hx hb d_Mo_turn_16 (by decide) ?_
  refine W.widen (k := 0) (n := 0) (Nat.le_of_ble_eq_true rfl) (Nat.le_of_ble_eq_true rfl) ?_
  exact W.iret (v := (-1)) hx hb hr (fun t ht hW => ⟨⟨(-1), [], rfl, rfl, by rw [ht]; exact hP, va_K.moved hW.alike hK, hD⟩, hS.F ht⟩) hS.2.2 d_Mo_turn_17
set_option maxRecDepth 100000 in
set_option maxHeartbeats 4000000 in
/-- turn, a fresh house -/
theorem lf_turn_1 {p : Program} {e : Env} {s : State} {m : MethodId} {below : List Frame} {meth : Method} {c : Code} (l : Launch) {b : Nat} {xs : Nat → Int32} (C0 : lw_At p s m meth c b 6 xs) {D : va_G} {kA : Nat → ClassId} (h : Nat) (h2 : Nat) (q : Nat → Nat) (qm : Nat → Nat) (v1 : Int32) (v2 : Int32) (v3 : Int32) (v4 : Int32) (hg : sp_Ho_isPlace v1 = 0) (hgM : sp_Mo_isPlace v1 = 0) (hv1 : xs 1 = v1) (hv2 : xs 2 = v2) (hv3 : xs 3 = v3) (hv4 : xs 4 = v4) {H : Heap} {locs : List Loc} {ls : Array Slot} (hK : va_K D classes (TY kA) s) (hN : nst s) (hP : va_P D classes (cat [[(h, .inr (12, [.ref (q 0), .ref (q 1), .ref (q 2), .ref (q 3), .ref (q 4), .ref (q 5), .ref (q 6), .int 0, .int ((-1)), .ref (q 9), .ref (q 10), .int 0, .int 0, .ref (q 13), .int 0, .int 0, .null, .null, .null, .null, .null]))], [(h2, .inr (13, mF qm x0Mo y0Mo))]]) H) (hD : va_D (fun q : Nat => s.heap.size ≤ q) (cat [[(h, .inr (12, [.ref (q 0), .ref (q 1), .ref (q 2), .ref (q 3), .ref (q 4), .ref (q 5), .ref (q 6), .int 0, .int ((-1)), .ref (q 9), .ref (q 10), .int 0, .int 0, .ref (q 13), .int 0, .int 0, .null, .null, .null, .null, .null]))], [(h2, .inr (13, mF qm x0Mo y0Mo))]])) (hS : va_S (fun q : Nat => s.heap.size ≤ q) s.heap H locs) (hl : lv_has ls 4 [(3, .int 0), (2, .ref h2), (1, .ref h), (0, .ref b)]) : W p l e room_1 s m #[Value.ref b] below meth c H locs 368 365796 (lw_Z below #[Value.ref b] s) (F0 m 712 ls []) := by
  obtain ⟨hx, hb, hr, hml, hown, hts0, hX, hbl, hlocks, hgv⟩ := id C0
  have hts : ∀ w ∈ lw_g, w.before #[Value.ref b] s = true := fun w h => hts0 w (lw_gt h)
  have X : cx p s m #[Value.ref b] meth c b_law_law 4 ret "DrawingHouseLaw" meth.name := ⟨hx, hb, hml, hown, hts, hr, hlocks, rfl⟩
  obtain ⟨A, hAe⟩ : ∃ A : Nat → Prop, A = fun q : Nat => s.heap.size ≤ q := ⟨_, rfl⟩
  have hA : ∀ q : Nat, s.heap.size ≤ q → A q := fun q h => by rw [hAe]; exact h
  have hbA : ¬ A b := by rw [hAe]; exact Nat.not_le.mpr hbl
  rw [← hAe] at hD hS
  refine lv_aload_n (pc := 712) hx hb d_law_law_712 rfl (lv_at hl 2 rfl) ?_
  refine lv_aload_n (pc := 713) hx hb d_law_law_713 rfl (lv_at hl 3 rfl) ?_
  refine lv_iload_n (pc := 714) hx hb d_law_law_714 rfl (lv_at hl 0 rfl) ?_
  refine lv_iconst (pc := 715) (v := 1) hx hb d_law_law_715 (by decide) ?_
  refine lv_iadd (pc := 716) hx hb d_law_law_716 ?_
  refine k_cst (v := 1) (by decide) ?_
  refine va_sld (pc := 717) hx hb hX hbl hbA hS (by unfold vp_in; decide) d_law_law_717 ?_
  refine k_cst (v := v1) hv1 ?_
  refine lv_aload_n (pc := 718) hx hb d_law_law_718 rfl (lv_at hl 3 rfl) ?_
  refine lv_iload_n (pc := 719) hx hb d_law_law_719 rfl (lv_at hl 0 rfl) ?_
  refine lv_iconst (pc := 720) (v := 2) hx hb d_law_law_720 (by decide) ?_
  refine lv_iadd (pc := 721) hx hb d_law_law_721 ?_
  refine k_cst (v := 2) (by decide) ?_
  refine va_sld (pc := 722) hx hb hX hbl hbA hS (by unfold vp_in; decide) d_law_law_722 ?_
  refine k_cst (v := v2) hv2 ?_
  refine lv_aload_n (pc := 723) hx hb d_law_law_723 rfl (lv_at hl 3 rfl) ?_
  refine lv_iload_n (pc := 724) hx hb d_law_law_724 rfl (lv_at hl 0 rfl) ?_
  refine lv_iconst (pc := 725) (v := 3) hx hb d_law_law_725 (by decide) ?_
  refine lv_iadd (pc := 726) hx hb d_law_law_726 ?_
  refine k_cst (v := 3) (by decide) ?_
  refine va_sld (pc := 727) hx hb hX hbl hbA hS (by unfold vp_in; decide) d_law_law_727 ?_
  refine k_cst (v := v3) hv3 ?_
  refine lv_aload_n (pc := 728) hx hb d_law_law_728 rfl (lv_at hl 3 rfl) ?_
  refine lv_iload_n (pc := 729) hx hb d_law_law_729 rfl (lv_at hl 0 rfl) ?_
  refine lv_iconst (pc := 730) (v := 4) hx hb d_law_law_730 (by decide) ?_
  refine lv_iadd (pc := 731) hx hb d_law_law_731 ?_
  refine k_cst (v := 4) (by decide) ?_
  refine va_sld (pc := 732) hx hb hX hbl hbA hS (by unfold vp_in; decide) d_law_law_732 ?_
  refine k_cst (v := v4) hv4 ?_
  refine k_goI (gr := [[(h, .inr (12, [.ref (q 0), .ref (q 1), .ref (q 2), .ref (q 3), .ref (q 4), .ref (q 5), .ref (q 6), .int 0, .int ((-1)), .ref (q 9), .ref (q 10), .int 0, .int 0, .ref (q 13), .int 0, .int 0, .null, .null, .null, .null, .null]))], [(h2, .inr (13, mF qm x0Mo y0Mo))]]) (k_rV (pc := 733) (As := [.int v1, .int v2, .int v3, .int v4]) (rest := []) X (c_Ho_turn_z1 l D kA h v1 v2 v3 v4 hg hgM H.size) rfl wm_1172 wm_1 wm_1169 wm_1170 wm_1171 4 (by decide +kernel) ⟨Nat.le_of_ble_eq_true rfl, Nat.le_of_ble_eq_true rfl⟩ rfl rfl (va_recv hK hP (ci := 12) (q0 := 0) rfl rfl) (k_pre hN hK hP hD [] [0, 1] 2 rfl (by decide) rfl) rfl hl.1 rfl (Nat.le_of_ble_eq_true rfl) d_law_law_733 ⟨Nat.le_of_ble_eq_true rfl, Nat.le_of_ble_eq_true rfl⟩) hP hD hS hA [] [0, 1] 2 rfl (by decide) rfl rfl (fun r1 u2 H locs hu2 hP hD hS => ?_)
  obtain ⟨hP, hD⟩ := k_left hP hD
  subst hu2
  have hP : va_P D classes (cat [[(h, .inr (12, [.ref (q 0), .ref (q 1), .ref (q 2), .ref (q 3), .ref (q 4), .ref (q 5), .ref (q 6), .int 0, .int ((-1)), .ref (q 9), .ref (q 10), .int 0, .int 0, .ref (q 13), .int 0, .int 0, .null, .null, .null, .null, .null]))], [(h2, .inr (13, mF qm x0Mo y0Mo))]]) H := hP
  have hD : va_D A (cat [[(h, .inr (12, [.ref (q 0), .ref (q 1), .ref (q 2), .ref (q 3), .ref (q 4), .ref (q 5), .ref (q 6), .int 0, .int ((-1)), .ref (q 9), .ref (q 10), .int 0, .int 0, .ref (q 13), .int 0, .int 0, .null, .null, .null, .null, .null]))], [(h2, .inr (13, mF qm x0Mo y0Mo))]]) := hD
  refine lv_aload_n (pc := 736) hx hb d_law_law_736 rfl (lv_at hl 1 rfl) ?_
  refine lv_aload_n (pc := 737) hx hb d_law_law_737 rfl (lv_at hl 3 rfl) ?_
  refine lv_iload_n (pc := 738) hx hb d_law_law_738 rfl (lv_at hl 0 rfl) ?_
  refine lv_iconst (pc := 739) (v := 1) hx hb d_law_law_739 (by decide) ?_
  refine lv_iadd (pc := 740) hx hb d_law_law_740 ?_
  refine k_cst (v := 1) (by decide) ?_
  refine va_sld (pc := 741) hx hb hX hbl hbA hS (by unfold vp_in; decide) d_law_law_741 ?_
  refine k_cst (v := v1) hv1 ?_
  refine lv_aload_n (pc := 742) hx hb d_law_law_742 rfl (lv_at hl 3 rfl) ?_
  refine lv_iload_n (pc := 743) hx hb d_law_law_743 rfl (lv_at hl 0 rfl) ?_
  refine lv_iconst (pc := 744) (v := 2) hx hb d_law_law_744 (by decide) ?_
  refine lv_iadd (pc := 745) hx hb d_law_law_745 ?_
  refine k_cst (v := 2) (by decide) ?_
  refine va_sld (pc := 746) hx hb hX hbl hbA hS (by unfold vp_in; decide) d_law_law_746 ?_
  refine k_cst (v := v2) hv2 ?_
  refine lv_aload_n (pc := 747) hx hb d_law_law_747 rfl (lv_at hl 3 rfl) ?_
  refine lv_iload_n (pc := 748) hx hb d_law_law_748 rfl (lv_at hl 0 rfl) ?_
  refine lv_iconst (pc := 749) (v := 3) hx hb d_law_law_749 (by decide) ?_
  refine lv_iadd (pc := 750) hx hb d_law_law_750 ?_
  refine k_cst (v := 3) (by decide) ?_
  refine va_sld (pc := 751) hx hb hX hbl hbA hS (by unfold vp_in; decide) d_law_law_751 ?_
  refine k_cst (v := v3) hv3 ?_
  refine lv_aload_n (pc := 752) hx hb d_law_law_752 rfl (lv_at hl 3 rfl) ?_
  refine lv_iload_n (pc := 753) hx hb d_law_law_753 rfl (lv_at hl 0 rfl) ?_
  refine lv_iconst (pc := 754) (v := 4) hx hb d_law_law_754 (by decide) ?_
  refine lv_iadd (pc := 755) hx hb d_law_law_755 ?_
  refine k_cst (v := 4) (by decide) ?_
  refine va_sld (pc := 756) hx hb hX hbl hbA hS (by unfold vp_in; decide) d_law_law_756 ?_
  refine k_cst (v := v4) hv4 ?_
  refine k_goI (gr := [[(h, .inr (12, [.ref (q 0), .ref (q 1), .ref (q 2), .ref (q 3), .ref (q 4), .ref (q 5), .ref (q 6), .int 0, .int ((-1)), .ref (q 9), .ref (q 10), .int 0, .int 0, .ref (q 13), .int 0, .int 0, .null, .null, .null, .null, .null]))], [(h2, .inr (13, mF qm x0Mo y0Mo))]]) (k_rV (pc := 757) (As := [.int v1, .int v2, .int v3, .int v4]) (rest := [.int ((-1))]) X (c_Mo_turn_z1 l D kA h2 v1 v2 v3 v4 hg hgM H.size) rfl wm_3271 wm_9 wm_3268 wm_3269 wm_3270 4 (by decide +kernel) ⟨Nat.le_of_ble_eq_true rfl, Nat.le_of_ble_eq_true rfl⟩ rfl rfl (va_recv hK hP (ci := 13) (q0 := 1) rfl rfl) (k_pre hN hK hP hD [] [0, 1] 2 rfl (by decide) rfl) rfl hl.1 rfl (Nat.le_of_ble_eq_true rfl) d_law_law_757 ⟨Nat.le_of_ble_eq_true rfl, Nat.le_of_ble_eq_true rfl⟩) hP hD hS hA [] [0, 1] 2 rfl (by decide) rfl rfl (fun r3 u4 H locs hu4 hP hD hS => ?_)
  obtain ⟨hP, hD⟩ := k_left hP hD
  subst hu4
  have hP : va_P D classes (cat [[(h, .inr (12, [.ref (q 0), .ref (q 1), .ref (q 2), .ref (q 3), .ref (q 4), .ref (q 5), .ref (q 6), .int 0, .int ((-1)), .ref (q 9), .ref (q 10), .int 0, .int 0, .ref (q 13), .int 0, .int 0, .null, .null, .null, .null, .null]))], [(h2, .inr (13, mF qm x0Mo y0Mo))]]) H := hP
  have hD : va_D A (cat [[(h, .inr (12, [.ref (q 0), .ref (q 1), .ref (q 2), .ref (q 3), .ref (q 4), .ref (q 5), .ref (q 6), .int 0, .int ((-1)), .ref (q 9), .ref (q 10), .int 0, .int 0, .ref (q 13), .int 0, .int 0, .null, .null, .null, .null, .null]))], [(h2, .inr (13, mF qm x0Mo y0Mo))]]) := hD
  refine lv_icmp_eq (pc := 760) (tgt := 1295) hx hb d_law_law_760 (by decide) (fun _ => ?_) (fun c1 => absurd (by decide) c1)
  rw [hAe] at hS
  exact law_exit l C0 (Nat.le_of_ble_eq_true rfl) (Nat.le_of_ble_eq_true rfl) hS hl
set_option maxRecDepth 100000 in
set_option maxHeartbeats 4000000 in
/-- DrawingHouse.turn(IIII)I -/
theorem c_Ho_turn_z2 (l : Launch) (D : va_G) (kA : Nat → ClassId) (a0 : Nat) (j : Nat) (v2 : Int32) (v3 : Int32) (v4 : Int32) (hj : j < 4) (hs2 : v2.toInt < 0 ∨ ((3 : Int) - 1 < v2.toInt)) (hn3 : v3 < 0) : Ci l y_Ho_turn z_Ho_turn { frames := 1, cells := 0, slots := 0, locals := 20 } D classes (TY kA) [.ref a0, .int (nI j), .int v2, .int v3, .int v4] [] (fun r (_ : List va_W) => r = (-1)) (fun u => u) 0 0 := by
  intro sz
  refine k_met (cc := b_Ho_turn) (maxL := 6) (ret := (some .int)) (by decide) rfl (Nat.le_of_ble_eq_true rfl) (fun p e s m below meth c ls X hl hB => ?_)
  obtain ⟨hsz, hP, hK, hD0, hN⟩ := hB
  subst hsz
  have hD := hD0.self (sz := s.heap.size)
  generalize hAe : va_A (cat []) s.heap.size = A at hD ⊢
  have hA : ∀ q : Nat, s.heap.size ≤ q → A q := fun q h => by rw [← hAe]; exact Or.inr h
  have hS : va_S A s.heap s.heap [] := va_S.rf
  obtain ⟨hx, hb, hml, hown, hts, hr, hlk, hnm⟩ := id X
  have hl : lv_has ls 6 [(0, .ref a0), (1, .int (nI j)), (2, .int v2), (3, .int v3), (4, .int v4)] := hl
  have hP : va_P D classes (cat []) s.heap := hP
  have hK : va_K D classes (TY kA) s := hK
  refine lv_iload_n (pc := 0) hx hb d_Ho_turn_0 rfl (lv_at hl 1 rfl) ?_
  refine k_goI (gr := []) (k_rS (pc := 1) (As := [.int (nI j)]) (rest := []) X (c_Ho_isPlace l D kA (nI j) s.heap.size) rfl wm_633 wm_1 wm_631 wm_632 1 (by decide +kernel) ⟨Nat.le_of_ble_eq_true rfl, Nat.le_of_ble_eq_true rfl⟩ rfl rfl (k_pre hN hK hP hD [] [] 0 rfl (by decide) rfl) rfl hl.1 rfl (Nat.le_of_ble_eq_true rfl) d_Ho_turn_1 ⟨Nat.le_of_ble_eq_true rfl, Nat.le_of_ble_eq_true rfl⟩) hP hD hS hA [] [] 0 rfl (by decide) rfl rfl (fun r1 u2 H locs hu2 hP hD hS => ?_)
  subst hu2
  refine k_cst (v := 1) (place_ok hj) ?_
  have hP : va_P D classes (cat []) H := hP
  have hD : va_D A (cat []) := hD
  refine lv_if_eq (pc := 4) (tgt := 11) hx hb d_Ho_turn_4 (by decide) (fun c1 => absurd c1 (by decide)) (fun c1 => ?_)
  refine lv_iload_n (pc := 7) hx hb d_Ho_turn_7 rfl (lv_at hl 3 rfl) ?_
  refine lv_if_ge (pc := 8) (tgt := 13) hx hb d_Ho_turn_8 (by decide) (fun c1 => absurd c1 (Int32.not_le.mpr hn3)) (fun c1 => ?_)
  refine lv_iconst (pc := 11) (v := -1) hx hb d_Ho_turn_11 (by decide) ?_
  refine W.widen (k := 0) (n := 0) (Nat.le_of_ble_eq_true rfl) (Nat.le_of_ble_eq_true rfl) ?_
  exact W.iret (v := (-1)) hx hb hr (fun t ht hW => ⟨⟨(-1), [], rfl, rfl, by rw [ht]; exact hP, va_K.moved hW.alike hK, hD⟩, hS.F ht⟩) hS.2.2 d_Ho_turn_12
set_option maxRecDepth 100000 in
set_option maxHeartbeats 4000000 in
/-- DrawingHouseModel.in(III)Z -/
theorem c_Mo_in_z26 (l : Launch) (D : va_G) (kA : Nat → ClassId) (v2 : Int32) (hs2 : v2.toInt < 0 ∨ ((3 : Int) - 1 < v2.toInt)) : Ci l y_Mo_in z_Mo_in { frames := 0, cells := 0, slots := 0, locals := 0 } D classes (TY kA) [.int v2, .int 0, .int 2] [] (fun r (_ : Unit) => r = if v2 < 0 then 0 else if 2 < v2 then 0 else 1) (fun u => []) 0 0 := by
  intro sz
  refine k_met (cc := b_Mo_in) (maxL := 3) (ret := (some .boolean)) (by decide) rfl (Nat.le_of_ble_eq_true rfl) (fun p e s m below meth c ls X hl hB => ?_)
  obtain ⟨hsz, hP, hK, hD0, hN⟩ := hB
  subst hsz
  have hD := hD0.self (sz := s.heap.size)
  generalize hAe : va_A (cat []) s.heap.size = A at hD ⊢
  have hA : ∀ q : Nat, s.heap.size ≤ q → A q := fun q h => by rw [← hAe]; exact Or.inr h
  have hS : va_S A s.heap s.heap [] := va_S.rf
  obtain ⟨hx, hb, hml, hown, hts, hr, hlk, hnm⟩ := id X
  have hl : lv_has ls 3 [(0, .int v2), (1, .int 0), (2, .int 2)] := hl
  have hP : va_P D classes (cat []) s.heap := hP
  have hK : va_K D classes (TY kA) s := hK
  refine lv_iload_n (pc := 0) hx hb d_Mo_in_0 rfl (lv_at hl 0 rfl) ?_
  refine lv_iload_n (pc := 1) hx hb d_Mo_in_1 rfl (lv_at hl 1 rfl) ?_
  refine lv_icmp_lt (pc := 2) (tgt := 14) hx hb d_Mo_in_2 (by decide) (fun ck1 => ?_) (fun ck1 => ?_)
  · refine lv_iconst (pc := 14) (v := 0) hx hb d_Mo_in_14 (by decide) ?_
    refine W.widen (k := 0) (n := 0) (Nat.le_of_ble_eq_true rfl) (Nat.le_of_ble_eq_true rfl) ?_
    exact W.zret (v := 0) hx hb hr rfl (fun t ht hW => ⟨⟨0, (), rfl, (by rw [if_pos ck1]), by rw [ht]; exact hP, va_K.moved hW.alike hK, hD⟩, hS.F ht⟩) hS.2.2 d_Mo_in_15
  · refine lv_iload_n (pc := 5) hx hb d_Mo_in_5 rfl (lv_at hl 0 rfl) ?_
    refine lv_iload_n (pc := 6) hx hb d_Mo_in_6 rfl (lv_at hl 2 rfl) ?_
    refine lv_icmp_gt (pc := 7) (tgt := 14) hx hb d_Mo_in_7 (by decide) (fun ck2 => ?_) (fun ck2 => ?_)
    · refine lv_iconst (pc := 14) (v := 0) hx hb d_Mo_in_14 (by decide) ?_
      refine W.widen (k := 0) (n := 0) (Nat.le_of_ble_eq_true rfl) (Nat.le_of_ble_eq_true rfl) ?_
      exact W.zret (v := 0) hx hb hr rfl (fun t ht hW => ⟨⟨0, (), rfl, (by rw [if_neg ck1, if_pos ck2]), by rw [ht]; exact hP, va_K.moved hW.alike hK, hD⟩, hS.F ht⟩) hS.2.2 d_Mo_in_15
    · refine lv_iconst (pc := 10) (v := 1) hx hb d_Mo_in_10 (by decide) ?_
      refine lv_goto (pc := 11) (tgt := 15) hx hb d_Mo_in_11 (by decide) ?_
      refine W.widen (k := 0) (n := 0) (Nat.le_of_ble_eq_true rfl) (Nat.le_of_ble_eq_true rfl) ?_
      exact W.zret (v := 1) hx hb hr rfl (fun t ht hW => ⟨⟨1, (), rfl, (by rw [if_neg ck1, if_neg ck2]), by rw [ht]; exact hP, va_K.moved hW.alike hK, hD⟩, hS.F ht⟩) hS.2.2 d_Mo_in_15
set_option maxRecDepth 100000 in
set_option maxHeartbeats 4000000 in
/-- DrawingHouseModel.turn(IIII)I -/
theorem c_Mo_turn_z2 (l : Launch) (D : va_G) (kA : Nat → ClassId) (a0 : Nat) (j : Nat) (v2 : Int32) (v3 : Int32) (v4 : Int32) (qm : Nat → Nat) (f0 : Nat → Int32) (hj : j < 4) (hs2 : v2.toInt < 0 ∨ ((3 : Int) - 1 < v2.toInt)) (hn3 : v3 < 0) : Ci l y_Mo_turn z_Mo_turn { frames := 3, cells := 0, slots := 0, locals := 66 } D classes (TY kA) [.ref a0, .int (nI j), .int v2, .int v3, .int v4] [[(a0, .inr (13, mF qm x0Mo y0Mo))], [(qm 3, .inl (kA 0, 4, .inl (fun _ => 0)))], [(qm 2, .inl (kA 0, 66836, .inl all0))], [(qm 56, .inl (kA 0, 161, .inl f0))]] (fun r (_ : List va_W) => r = (-1)) (fun u => u) 0 0 := by
  intro sz
  refine k_met (cc := b_Mo_turn) (maxL := 6) (ret := (some .int)) (by decide) rfl (Nat.le_of_ble_eq_true rfl) (fun p e s m below meth c ls X hl hB => ?_)
  obtain ⟨hsz, hP, hK, hD0, hN⟩ := hB
  subst hsz
  have hD := hD0.self (sz := s.heap.size)
  generalize hAe : va_A (cat [[(a0, .inr (13, mF qm x0Mo y0Mo))], [(qm 3, .inl (kA 0, 4, .inl (fun _ => 0)))], [(qm 2, .inl (kA 0, 66836, .inl all0))], [(qm 56, .inl (kA 0, 161, .inl f0))]]) s.heap.size = A at hD ⊢
  have hA : ∀ q : Nat, s.heap.size ≤ q → A q := fun q h => by rw [← hAe]; exact Or.inr h
  have hS : va_S A s.heap s.heap [] := va_S.rf
  obtain ⟨hx, hb, hml, hown, hts, hr, hlk, hnm⟩ := id X
  have hl : lv_has ls 6 [(0, .ref a0), (1, .int (nI j)), (2, .int v2), (3, .int v3), (4, .int v4)] := hl
  have hP : va_P D classes (cat [[(a0, .inr (13, mF qm x0Mo y0Mo))], [(qm 3, .inl (kA 0, 4, .inl (fun _ => 0)))], [(qm 2, .inl (kA 0, 66836, .inl all0))], [(qm 56, .inl (kA 0, 161, .inl f0))]]) s.heap := hP
  have hK : va_K D classes (TY kA) s := hK
  refine lv_iload_n (pc := 0) hx hb d_Mo_turn_0 rfl (lv_at hl 1 rfl) ?_
  refine k_goI (gr := [[(a0, .inr (13, mF qm x0Mo y0Mo))], [(qm 3, .inl (kA 0, 4, .inl (fun _ => 0)))], [(qm 2, .inl (kA 0, 66836, .inl all0))], [(qm 56, .inl (kA 0, 161, .inl f0))]]) (k_rS (pc := 1) (As := [.int (nI j)]) (rest := []) X (c_Mo_isPlace l D kA (nI j) s.heap.size) rfl wm_2978 wm_9 wm_2976 wm_2977 1 (by decide +kernel) ⟨Nat.le_of_ble_eq_true rfl, Nat.le_of_ble_eq_true rfl⟩ rfl rfl (k_pre hN hK hP hD [] [0, 1, 2, 3] 4 rfl (by decide) rfl) rfl hl.1 rfl (Nat.le_of_ble_eq_true rfl) d_Mo_turn_1 ⟨Nat.le_of_ble_eq_true rfl, Nat.le_of_ble_eq_true rfl⟩) hP hD hS hA [] [0, 1, 2, 3] 4 rfl (by decide) rfl rfl (fun r1 u2 H locs hu2 hP hD hS => ?_)
  subst hu2
  refine k_cst (v := 1) (placeM_ok hj) ?_
  have hP : va_P D classes (cat [[(a0, .inr (13, mF qm x0Mo y0Mo))], [(qm 3, .inl (kA 0, 4, .inl (fun _ => 0)))], [(qm 2, .inl (kA 0, 66836, .inl all0))], [(qm 56, .inl (kA 0, 161, .inl f0))]]) H := hP
  have hD : va_D A (cat [[(a0, .inr (13, mF qm x0Mo y0Mo))], [(qm 3, .inl (kA 0, 4, .inl (fun _ => 0)))], [(qm 2, .inl (kA 0, 66836, .inl all0))], [(qm 56, .inl (kA 0, 161, .inl f0))]]) := hD
  refine lv_if_eq (pc := 4) (tgt := 16) hx hb d_Mo_turn_4 (by decide) (fun c1 => absurd c1 (by decide)) (fun c1 => ?_)
  refine lv_iload_n (pc := 7) hx hb d_Mo_turn_7 rfl (lv_at hl 2 rfl) ?_
  refine lv_iconst (pc := 8) (v := 0) hx hb d_Mo_turn_8 (by decide) ?_
  refine lv_iconst (pc := 9) (v := 2) hx hb d_Mo_turn_9 (by decide) ?_
  refine k_goI (gr := [[(a0, .inr (13, mF qm x0Mo y0Mo))], [(qm 3, .inl (kA 0, 4, .inl (fun _ => 0)))], [(qm 2, .inl (kA 0, 66836, .inl all0))], [(qm 56, .inl (kA 0, 161, .inl f0))]]) (k_rS (pc := 10) (As := [.int v2, .int 0, .int 2]) (rest := []) X (c_Mo_in_z26 l D kA v2 hs2 H.size) rfl wm_2971 wm_9 wm_2969 wm_2970 3 (by decide +kernel) ⟨Nat.le_of_ble_eq_true rfl, Nat.le_of_ble_eq_true rfl⟩ rfl rfl (k_pre hN hK hP hD [] [0, 1, 2, 3] 4 rfl (by decide) rfl) rfl hl.1 rfl (Nat.le_of_ble_eq_true rfl) d_Mo_turn_10 ⟨Nat.le_of_ble_eq_true rfl, Nat.le_of_ble_eq_true rfl⟩) hP hD hS hA [] [0, 1, 2, 3] 4 rfl (by decide) rfl rfl (fun r3 u4 H locs hu4 hP hD hS => ?_)
  subst hu4
  have hP : va_P D classes (cat [[(a0, .inr (13, mF qm x0Mo y0Mo))], [(qm 3, .inl (kA 0, 4, .inl (fun _ => 0)))], [(qm 2, .inl (kA 0, 66836, .inl all0))], [(qm 56, .inl (kA 0, 161, .inl f0))]]) H := hP
  have hD : va_D A (cat [[(a0, .inr (13, mF qm x0Mo y0Mo))], [(qm 3, .inl (kA 0, 4, .inl (fun _ => 0)))], [(qm 2, .inl (kA 0, 66836, .inl all0))], [(qm 56, .inl (kA 0, 161, .inl f0))]]) := hD
  refine lv_if_ne (pc := 13) (tgt := 18) hx hb d_Mo_turn_13 (by decide) (fun ck1 => ?_) (fun ck1 => ?_)
  · refine lv_aload_n (pc := 18) hx hb d_Mo_turn_18 rfl (lv_at hl 0 rfl) ?_
    refine lv_iload_n (pc := 19) hx hb d_Mo_turn_19 rfl (lv_at hl 1 rfl) ?_
    refine k_goV (gr := [[(qm 2, .inl (kA 0, 66836, .inl all0))], [(qm 56, .inl (kA 0, 161, .inl f0))]]) (k_rV (pc := 20) (As := [.int (nI j)]) (rest := []) X (c_Mo_take_z1 l D kA a0 j qm hj H.size) rfl wm_3091 wm_9 wm_3088 wm_3090 wv_14_2 1 (by decide +kernel) ⟨Nat.le_of_ble_eq_true rfl, Nat.le_of_ble_eq_true rfl⟩ rfl rfl (va_recv hK hP (ci := 13) (q0 := 0) rfl rfl) (k_pre hN hK hP hD [0, 1] [2, 3] 4 rfl (by decide) rfl) rfl hl.1 rfl (Nat.le_of_ble_eq_true rfl) d_Mo_turn_20 ⟨Nat.le_of_ble_eq_true rfl, Nat.le_of_ble_eq_true rfl⟩) hP hD hS hA [0, 1] [2, 3] 4 rfl (by decide) rfl rfl (fun u5 H locs hu5 hP hD hS => ?_)
    have hP : va_P D classes (cat [[(qm 2, .inl (kA 0, 66836, .inl all0))], [(qm 56, .inl (kA 0, 161, .inl f0))], [(a0, .inr (13, mF qm (va_up x0Mo 5 (nI (539 * (31 * j + 0)))) y0Mo))], [(qm 3, .inl (kA 0, 4, .inl (fun _ => 0)))]]) H := hP
    have hD : va_D A (cat [[(qm 2, .inl (kA 0, 66836, .inl all0))], [(qm 56, .inl (kA 0, 161, .inl f0))], [(a0, .inr (13, mF qm (va_up x0Mo 5 (nI (539 * (31 * j + 0)))) y0Mo))], [(qm 3, .inl (kA 0, 4, .inl (fun _ => 0)))]]) := hD
    refine lv_aload_n (pc := 23) hx hb d_Mo_turn_23 rfl (lv_at hl 0 rfl) ?_
    refine k_goI (gr := [[(qm 56, .inl (kA 0, 161, .inl f0))], [(qm 3, .inl (kA 0, 4, .inl (fun _ => 0)))]]) (k_rV (pc := 24) (As := []) (rest := []) X (c_Mo_isPlanar_z1 l D kA a0 qm j hj H.size) rfl wm_3251 wm_9 wm_3248 wm_3250 wv_16_5 0 (by decide +kernel) ⟨Nat.le_of_ble_eq_true rfl, Nat.le_of_ble_eq_true rfl⟩ rfl rfl (va_recv hK hP (ci := 13) (q0 := 2) rfl rfl) (k_pre hN hK hP hD [2, 0] [1, 3] 4 rfl (by decide) rfl) rfl hl.1 rfl (Nat.le_of_ble_eq_true rfl) d_Mo_turn_24 ⟨Nat.le_of_ble_eq_true rfl, Nat.le_of_ble_eq_true rfl⟩) hP hD hS hA [2, 0] [1, 3] 4 rfl (by decide) rfl rfl (fun r6 u7 H locs hu7 hP hD hS => ?_)
    subst hu7
    have hP : va_P D classes (cat [[(qm 56, .inl (kA 0, 161, .inl f0))], [(qm 3, .inl (kA 0, 4, .inl (fun _ => 0)))], [(a0, .inr (13, mF qm (va_up (va_up x0Mo 5 (nI (539 * (31 * j + 0)))) 49 (-1)) y0Mo))], [(qm 2, .inl (kA 0, 66836, .inl all0))]]) H := hP
    have hD : va_D A (cat [[(qm 56, .inl (kA 0, 161, .inl f0))], [(qm 3, .inl (kA 0, 4, .inl (fun _ => 0)))], [(a0, .inr (13, mF qm (va_up (va_up x0Mo 5 (nI (539 * (31 * j + 0)))) 49 (-1)) y0Mo))], [(qm 2, .inl (kA 0, 66836, .inl all0))]]) := hD
    refine lv_istore (pc := 27) (lv' := [(5, .int 1), (0, .ref a0), (1, .int (nI j)), (2, .int v2), (3, .int v3), (4, .int v4)]) hx hb d_Mo_turn_27 hl (by decide) rfl (fun ls hl => ?_)
    refine lv_iload (pc := 29) hx hb d_Mo_turn_29 (lv_at hl 0 rfl) ?_
    refine lv_iload_n (pc := 31) hx hb d_Mo_turn_31 rfl (lv_at hl 3 rfl) ?_
    refine lv_iconst (pc := 32) (v := 2) hx hb d_Mo_turn_32 (by decide) ?_
    refine lv_icmp_ne (pc := 33) (tgt := 40) hx hb d_Mo_turn_33 (by decide) (fun c1 => ?_) (fun c1 => absurd c1 (k_tne (v := 2) hs2 2 (by decide)))
    refine lv_iconst (pc := 40) (v := 0) hx hb d_Mo_turn_40 (by decide) ?_
    refine lv_icmp_ne (pc := 41) (tgt := 46) hx hb d_Mo_turn_41 (by decide) (fun _ => ?_) (fun c1 => absurd c1 (by decide))
    refine lv_iload_n (pc := 46) hx hb d_Mo_turn_46 rfl (lv_at hl 3 rfl) ?_
    refine lv_iconst (pc := 47) (v := 2) hx hb d_Mo_turn_47 (by decide) ?_
    refine lv_icmp_ne (pc := 48) (tgt := 80) hx hb d_Mo_turn_48 (by decide) (fun c1 => ?_) (fun c1 => absurd c1 (k_tne (v := 2) hs2 2 (by decide)))
    refine lv_iload_n (pc := 80) hx hb d_Mo_turn_80 rfl (lv_at hl 3 rfl) ?_
    refine lv_if_ne (pc := 81) (tgt := 132) hx hb d_Mo_turn_81 (by decide) (fun c1 => ?_) (fun c1 => absurd c1 (k_tne (v := 0) hs2 0 (by decide)))
    refine lv_aload_n (pc := 132) hx hb d_Mo_turn_132 rfl (lv_at hl 1 rfl) ?_
    refine k_goV (gr := [[(qm 3, .inl (kA 0, 4, .inl (fun _ => 0)))], [(qm 2, .inl (kA 0, 66836, .inl all0))]]) (k_rV (pc := 133) (As := []) (rest := []) X (c_Mo_goRound_z1 l D kA a0 qm j f0 hj H.size) rfl wm_3255 wm_9 wm_3252 wm_3254 wv_16_6 0 (by decide +kernel) ⟨Nat.le_of_ble_eq_true rfl, Nat.le_of_ble_eq_true rfl⟩ rfl rfl (va_recv hK hP (ci := 13) (q0 := 2) rfl rfl) (k_pre hN hK hP hD [2, 0] [1, 3] 4 rfl (by decide) rfl) rfl hl.1 rfl (Nat.le_of_ble_eq_true rfl) d_Mo_turn_133 ⟨Nat.le_of_ble_eq_true rfl, Nat.le_of_ble_eq_true rfl⟩) hP hD hS hA [2, 0] [1, 3] 4 rfl (by decide) rfl rfl (fun u8 H locs hu8 hP hD hS => ?_)
    have hP : va_P D classes (cat [[(qm 3, .inl (kA 0, 4, .inl (fun _ => 0)))], [(qm 2, .inl (kA 0, 66836, .inl all0))], [(a0, .inr (13, mF qm (va_up (va_up x0Mo 5 (nI (539 * (31 * j + 0)))) 49 (-1)) y0Mo))], [(qm 56, .inl (kA 0, 161, .inl (upd (f0) 0 0)))]]) H := hP
    have hD : va_D A (cat [[(qm 3, .inl (kA 0, 4, .inl (fun _ => 0)))], [(qm 2, .inl (kA 0, 66836, .inl all0))], [(a0, .inr (13, mF qm (va_up (va_up x0Mo 5 (nI (539 * (31 * j + 0)))) 49 (-1)) y0Mo))], [(qm 56, .inl (kA 0, 161, .inl (upd (f0) 0 0)))]]) := hD
    refine lv_iload_n (pc := 136) hx hb d_Mo_turn_136 rfl (lv_at hl 4 rfl) ?_
    refine lv_iconst (pc := 137) (v := 0) hx hb d_Mo_turn_137 (by decide) ?_
    refine lv_aload_n (pc := 138) hx hb d_Mo_turn_138 rfl (lv_at hl 1 rfl) ?_
    refine k_get (pc := 139) (v := .int 0) X hK hP 2 rfl rfl i_Mo 53 (by decide) wm_2485 rfl rfl d_Mo_turn_139 ?_
    refine lv_iconst (pc := 142) (v := 1) hx hb d_Mo_turn_142 (by decide) ?_
    refine lv_isub (pc := 143) hx hb d_Mo_turn_143 ?_
    refine k_cst (v := (-1)) (by decide) ?_
    refine k_goI (gr := [[(qm 3, .inl (kA 0, 4, .inl (fun _ => 0)))], [(qm 2, .inl (kA 0, 66836, .inl all0))], [(a0, .inr (13, mF qm (va_up (va_up x0Mo 5 (nI (539 * (31 * j + 0)))) 49 (-1)) y0Mo))], [(qm 56, .inl (kA 0, 161, .inl (upd (f0) 0 0)))]]) (k_rS (pc := 144) (As := [.int v3, .int 0, .int ((-1))]) (rest := []) X (c_Mo_in_z15 l D kA v3 hn3 H.size) rfl wm_2971 wm_9 wm_2969 wm_2970 3 (by decide +kernel) ⟨Nat.le_of_ble_eq_true rfl, Nat.le_of_ble_eq_true rfl⟩ rfl rfl (k_pre hN hK hP hD [] [0, 1, 2, 3] 4 rfl (by decide) rfl) rfl hl.1 rfl (Nat.le_of_ble_eq_true rfl) d_Mo_turn_144 ⟨Nat.le_of_ble_eq_true rfl, Nat.le_of_ble_eq_true rfl⟩) hP hD hS hA [] [0, 1, 2, 3] 4 rfl (by decide) rfl rfl (fun r9 u10 H locs hu10 hP hD hS => ?_)
    subst hu10
    have hP : va_P D classes (cat [[(qm 3, .inl (kA 0, 4, .inl (fun _ => 0)))], [(qm 2, .inl (kA 0, 66836, .inl all0))], [(a0, .inr (13, mF qm (va_up (va_up x0Mo 5 (nI (539 * (31 * j + 0)))) 49 (-1)) y0Mo))], [(qm 56, .inl (kA 0, 161, .inl (upd (f0) 0 0)))]]) H := hP
    have hD : va_D A (cat [[(qm 3, .inl (kA 0, 4, .inl (fun _ => 0)))], [(qm 2, .inl (kA 0, 66836, .inl all0))], [(a0, .inr (13, mF qm (va_up (va_up x0Mo 5 (nI (539 * (31 * j + 0)))) 49 (-1)) y0Mo))], [(qm 56, .inl (kA 0, 161, .inl (upd (f0) 0 0)))]]) := hD
    refine lv_if_eq (pc := 147) (tgt := 176) hx hb d_Mo_turn_147 (by decide) (fun c1 => ?_) (fun c1 => absurd (by decide) c1)
    refine lv_iconst (pc := 176) (v := -1) hx hb d_Mo_turn_176 (by decide) ?_
    refine W.widen (k := 0) (n := 0) (Nat.le_of_ble_eq_true rfl) (Nat.le_of_ble_eq_true rfl) ?_
    exact W.iret (v := (-1)) hx hb hr (fun t ht hW => ⟨⟨(-1), [[(qm 3, .inl (kA 0, 4, .inl (fun _ => 0)))], [(qm 2, .inl (kA 0, 66836, .inl all0))], [(a0, .inr (13, mF qm (va_up (va_up x0Mo 5 (nI (539 * (31 * j + 0)))) 49 (-1)) y0Mo))], [(qm 56, .inl (kA 0, 161, .inl (upd (f0) 0 0)))]], rfl, rfl, by rw [ht]; exact hP, va_K.moved hW.alike hK, hD⟩, hS.F ht⟩) hS.2.2 d_Mo_turn_177
  · refine lv_iconst (pc := 16) (v := -1) hx hb d_Mo_turn_16 (by decide) ?_
    refine W.widen (k := 0) (n := 0) (Nat.le_of_ble_eq_true rfl) (Nat.le_of_ble_eq_true rfl) ?_
    exact W.iret (v := (-1)) hx hb hr (fun t ht hW => ⟨⟨(-1), [[(a0, .inr (13, mF qm x0Mo y0Mo))], [(qm 3, .inl (kA 0, 4, .inl (fun _ => 0)))], [(qm 2, .inl (kA 0, 66836, .inl all0))], [(qm 56, .inl (kA 0, 161, .inl f0))]], rfl, rfl, by rw [ht]; exact hP, va_K.moved hW.alike hK, hD⟩, hS.F ht⟩) hS.2.2 d_Mo_turn_17
set_option maxRecDepth 100000 in
set_option maxHeartbeats 4000000 in
/-- turn, a fresh house -/
theorem lf_turn_2 {p : Program} {e : Env} {s : State} {m : MethodId} {below : List Frame} {meth : Method} {c : Code} (l : Launch) {b : Nat} {xs : Nat → Int32} (C0 : lw_At p s m meth c b 6 xs) {D : va_G} {kA : Nat → ClassId} (h : Nat) (h2 : Nat) (q : Nat → Nat) (qm : Nat → Nat) (j : Nat) (v2 : Int32) (v3 : Int32) (v4 : Int32) (hj : j < 4) (hs2 : v2.toInt < 0 ∨ ((3 : Int) - 1 < v2.toInt)) (hn3 : v3 < 0) (hv1 : xs 1 = nI j) (hv2 : xs 2 = v2) (hv3 : xs 3 = v3) (hv4 : xs 4 = v4) {H : Heap} {locs : List Loc} {ls : Array Slot} (hK : va_K D classes (TY kA) s) (hN : nst s) (hP : va_P D classes (cat [[(h, .inr (12, [.ref (q 0), .ref (q 1), .ref (q 2), .ref (q 3), .ref (q 4), .ref (q 5), .ref (q 6), .int 0, .int ((-1)), .ref (q 9), .ref (q 10), .int 0, .int 0, .ref (q 13), .int 0, .int 0, .null, .null, .null, .null, .null]))], [(h2, .inr (13, mF qm x0Mo y0Mo))], [(qm 3, .inl (kA 0, 4, .inl (fun _ => 0)))], [(qm 2, .inl (kA 0, 66836, .inl all0))], [(qm 56, .inl (kA 0, 161, .inl (fun _ => 0)))]]) H) (hD : va_D (fun q : Nat => s.heap.size ≤ q) (cat [[(h, .inr (12, [.ref (q 0), .ref (q 1), .ref (q 2), .ref (q 3), .ref (q 4), .ref (q 5), .ref (q 6), .int 0, .int ((-1)), .ref (q 9), .ref (q 10), .int 0, .int 0, .ref (q 13), .int 0, .int 0, .null, .null, .null, .null, .null]))], [(h2, .inr (13, mF qm x0Mo y0Mo))], [(qm 3, .inl (kA 0, 4, .inl (fun _ => 0)))], [(qm 2, .inl (kA 0, 66836, .inl all0))], [(qm 56, .inl (kA 0, 161, .inl (fun _ => 0)))]])) (hS : va_S (fun q : Nat => s.heap.size ≤ q) s.heap H locs) (hl : lv_has ls 4 [(3, .int 0), (2, .ref h2), (1, .ref h), (0, .ref b)]) : W p l e room_1 s m #[Value.ref b] below meth c H locs 368 365796 (lw_Z below #[Value.ref b] s) (F0 m 712 ls []) := by
  obtain ⟨hx, hb, hr, hml, hown, hts0, hX, hbl, hlocks, hgv⟩ := id C0
  have hts : ∀ w ∈ lw_g, w.before #[Value.ref b] s = true := fun w h => hts0 w (lw_gt h)
  have X : cx p s m #[Value.ref b] meth c b_law_law 4 ret "DrawingHouseLaw" meth.name := ⟨hx, hb, hml, hown, hts, hr, hlocks, rfl⟩
  obtain ⟨A, hAe⟩ : ∃ A : Nat → Prop, A = fun q : Nat => s.heap.size ≤ q := ⟨_, rfl⟩
  have hA : ∀ q : Nat, s.heap.size ≤ q → A q := fun q h => by rw [hAe]; exact h
  have hbA : ¬ A b := by rw [hAe]; exact Nat.not_le.mpr hbl
  rw [← hAe] at hD hS
  refine lv_aload_n (pc := 712) hx hb d_law_law_712 rfl (lv_at hl 2 rfl) ?_
  refine lv_aload_n (pc := 713) hx hb d_law_law_713 rfl (lv_at hl 3 rfl) ?_
  refine lv_iload_n (pc := 714) hx hb d_law_law_714 rfl (lv_at hl 0 rfl) ?_
  refine lv_iconst (pc := 715) (v := 1) hx hb d_law_law_715 (by decide) ?_
  refine lv_iadd (pc := 716) hx hb d_law_law_716 ?_
  refine k_cst (v := 1) (by decide) ?_
  refine va_sld (pc := 717) hx hb hX hbl hbA hS (by unfold vp_in; decide) d_law_law_717 ?_
  refine k_cst (v := nI j) hv1 ?_
  refine lv_aload_n (pc := 718) hx hb d_law_law_718 rfl (lv_at hl 3 rfl) ?_
  refine lv_iload_n (pc := 719) hx hb d_law_law_719 rfl (lv_at hl 0 rfl) ?_
  refine lv_iconst (pc := 720) (v := 2) hx hb d_law_law_720 (by decide) ?_
  refine lv_iadd (pc := 721) hx hb d_law_law_721 ?_
  refine k_cst (v := 2) (by decide) ?_
  refine va_sld (pc := 722) hx hb hX hbl hbA hS (by unfold vp_in; decide) d_law_law_722 ?_
  refine k_cst (v := v2) hv2 ?_
  refine lv_aload_n (pc := 723) hx hb d_law_law_723 rfl (lv_at hl 3 rfl) ?_
  refine lv_iload_n (pc := 724) hx hb d_law_law_724 rfl (lv_at hl 0 rfl) ?_
  refine lv_iconst (pc := 725) (v := 3) hx hb d_law_law_725 (by decide) ?_
  refine lv_iadd (pc := 726) hx hb d_law_law_726 ?_
  refine k_cst (v := 3) (by decide) ?_
  refine va_sld (pc := 727) hx hb hX hbl hbA hS (by unfold vp_in; decide) d_law_law_727 ?_
  refine k_cst (v := v3) hv3 ?_
  refine lv_aload_n (pc := 728) hx hb d_law_law_728 rfl (lv_at hl 3 rfl) ?_
  refine lv_iload_n (pc := 729) hx hb d_law_law_729 rfl (lv_at hl 0 rfl) ?_
  refine lv_iconst (pc := 730) (v := 4) hx hb d_law_law_730 (by decide) ?_
  refine lv_iadd (pc := 731) hx hb d_law_law_731 ?_
  refine k_cst (v := 4) (by decide) ?_
  refine va_sld (pc := 732) hx hb hX hbl hbA hS (by unfold vp_in; decide) d_law_law_732 ?_
  refine k_cst (v := v4) hv4 ?_
  refine k_goI (gr := [[(h, .inr (12, [.ref (q 0), .ref (q 1), .ref (q 2), .ref (q 3), .ref (q 4), .ref (q 5), .ref (q 6), .int 0, .int ((-1)), .ref (q 9), .ref (q 10), .int 0, .int 0, .ref (q 13), .int 0, .int 0, .null, .null, .null, .null, .null]))], [(h2, .inr (13, mF qm x0Mo y0Mo))], [(qm 3, .inl (kA 0, 4, .inl (fun _ => 0)))], [(qm 2, .inl (kA 0, 66836, .inl all0))], [(qm 56, .inl (kA 0, 161, .inl (fun _ => 0)))]]) (k_rV (pc := 733) (As := [.int (nI j), .int v2, .int v3, .int v4]) (rest := []) X (c_Ho_turn_z2 l D kA h j v2 v3 v4 hj hs2 hn3 H.size) rfl wm_1172 wm_1 wm_1169 wm_1170 wm_1171 4 (by decide +kernel) ⟨Nat.le_of_ble_eq_true rfl, Nat.le_of_ble_eq_true rfl⟩ rfl rfl (va_recv hK hP (ci := 12) (q0 := 0) rfl rfl) (k_pre hN hK hP hD [] [0, 1, 2, 3, 4] 5 rfl (by decide) rfl) rfl hl.1 rfl (Nat.le_of_ble_eq_true rfl) d_law_law_733 ⟨Nat.le_of_ble_eq_true rfl, Nat.le_of_ble_eq_true rfl⟩) hP hD hS hA [] [0, 1, 2, 3, 4] 5 rfl (by decide) rfl rfl (fun r1 u2 H locs hu2 hP hD hS => ?_)
  obtain ⟨hP, hD⟩ := k_left hP hD
  subst hu2
  have hP : va_P D classes (cat [[(h, .inr (12, [.ref (q 0), .ref (q 1), .ref (q 2), .ref (q 3), .ref (q 4), .ref (q 5), .ref (q 6), .int 0, .int ((-1)), .ref (q 9), .ref (q 10), .int 0, .int 0, .ref (q 13), .int 0, .int 0, .null, .null, .null, .null, .null]))], [(h2, .inr (13, mF qm x0Mo y0Mo))], [(qm 3, .inl (kA 0, 4, .inl (fun _ => 0)))], [(qm 2, .inl (kA 0, 66836, .inl all0))], [(qm 56, .inl (kA 0, 161, .inl (fun _ => 0)))]]) H := hP
  have hD : va_D A (cat [[(h, .inr (12, [.ref (q 0), .ref (q 1), .ref (q 2), .ref (q 3), .ref (q 4), .ref (q 5), .ref (q 6), .int 0, .int ((-1)), .ref (q 9), .ref (q 10), .int 0, .int 0, .ref (q 13), .int 0, .int 0, .null, .null, .null, .null, .null]))], [(h2, .inr (13, mF qm x0Mo y0Mo))], [(qm 3, .inl (kA 0, 4, .inl (fun _ => 0)))], [(qm 2, .inl (kA 0, 66836, .inl all0))], [(qm 56, .inl (kA 0, 161, .inl (fun _ => 0)))]]) := hD
  refine lv_aload_n (pc := 736) hx hb d_law_law_736 rfl (lv_at hl 1 rfl) ?_
  refine lv_aload_n (pc := 737) hx hb d_law_law_737 rfl (lv_at hl 3 rfl) ?_
  refine lv_iload_n (pc := 738) hx hb d_law_law_738 rfl (lv_at hl 0 rfl) ?_
  refine lv_iconst (pc := 739) (v := 1) hx hb d_law_law_739 (by decide) ?_
  refine lv_iadd (pc := 740) hx hb d_law_law_740 ?_
  refine k_cst (v := 1) (by decide) ?_
  refine va_sld (pc := 741) hx hb hX hbl hbA hS (by unfold vp_in; decide) d_law_law_741 ?_
  refine k_cst (v := nI j) hv1 ?_
  refine lv_aload_n (pc := 742) hx hb d_law_law_742 rfl (lv_at hl 3 rfl) ?_
  refine lv_iload_n (pc := 743) hx hb d_law_law_743 rfl (lv_at hl 0 rfl) ?_
  refine lv_iconst (pc := 744) (v := 2) hx hb d_law_law_744 (by decide) ?_
  refine lv_iadd (pc := 745) hx hb d_law_law_745 ?_
  refine k_cst (v := 2) (by decide) ?_
  refine va_sld (pc := 746) hx hb hX hbl hbA hS (by unfold vp_in; decide) d_law_law_746 ?_
  refine k_cst (v := v2) hv2 ?_
  refine lv_aload_n (pc := 747) hx hb d_law_law_747 rfl (lv_at hl 3 rfl) ?_
  refine lv_iload_n (pc := 748) hx hb d_law_law_748 rfl (lv_at hl 0 rfl) ?_
  refine lv_iconst (pc := 749) (v := 3) hx hb d_law_law_749 (by decide) ?_
  refine lv_iadd (pc := 750) hx hb d_law_law_750 ?_
  refine k_cst (v := 3) (by decide) ?_
  refine va_sld (pc := 751) hx hb hX hbl hbA hS (by unfold vp_in; decide) d_law_law_751 ?_
  refine k_cst (v := v3) hv3 ?_
  refine lv_aload_n (pc := 752) hx hb d_law_law_752 rfl (lv_at hl 3 rfl) ?_
  refine lv_iload_n (pc := 753) hx hb d_law_law_753 rfl (lv_at hl 0 rfl) ?_
  refine lv_iconst (pc := 754) (v := 4) hx hb d_law_law_754 (by decide) ?_
  refine lv_iadd (pc := 755) hx hb d_law_law_755 ?_
  refine k_cst (v := 4) (by decide) ?_
  refine va_sld (pc := 756) hx hb hX hbl hbA hS (by unfold vp_in; decide) d_law_law_756 ?_
  refine k_cst (v := v4) hv4 ?_
  refine k_goI (gr := [[(h, .inr (12, [.ref (q 0), .ref (q 1), .ref (q 2), .ref (q 3), .ref (q 4), .ref (q 5), .ref (q 6), .int 0, .int ((-1)), .ref (q 9), .ref (q 10), .int 0, .int 0, .ref (q 13), .int 0, .int 0, .null, .null, .null, .null, .null]))]]) (k_rV (pc := 757) (As := [.int (nI j), .int v2, .int v3, .int v4]) (rest := [.int ((-1))]) X (c_Mo_turn_z2 l D kA h2 j v2 v3 v4 qm (fun _ => 0) hj hs2 hn3 H.size) rfl wm_3271 wm_9 wm_3268 wm_3269 wm_3270 4 (by decide +kernel) ⟨Nat.le_of_ble_eq_true rfl, Nat.le_of_ble_eq_true rfl⟩ rfl rfl (va_recv hK hP (ci := 13) (q0 := 1) rfl rfl) (k_pre hN hK hP hD [1, 2, 3, 4] [0] 5 rfl (by decide) rfl) rfl hl.1 rfl (Nat.le_of_ble_eq_true rfl) d_law_law_757 ⟨Nat.le_of_ble_eq_true rfl, Nat.le_of_ble_eq_true rfl⟩) hP hD hS hA [1, 2, 3, 4] [0] 5 rfl (by decide) rfl rfl (fun r3 u4 H locs hu4 hP hD hS => ?_)
  obtain ⟨hP, hD⟩ := k_left hP hD
  subst hu4
  have hP : va_P D classes (cat [[(h, .inr (12, [.ref (q 0), .ref (q 1), .ref (q 2), .ref (q 3), .ref (q 4), .ref (q 5), .ref (q 6), .int 0, .int ((-1)), .ref (q 9), .ref (q 10), .int 0, .int 0, .ref (q 13), .int 0, .int 0, .null, .null, .null, .null, .null]))]]) H := hP
  have hD : va_D A (cat [[(h, .inr (12, [.ref (q 0), .ref (q 1), .ref (q 2), .ref (q 3), .ref (q 4), .ref (q 5), .ref (q 6), .int 0, .int ((-1)), .ref (q 9), .ref (q 10), .int 0, .int 0, .ref (q 13), .int 0, .int 0, .null, .null, .null, .null, .null]))]]) := hD
  refine lv_icmp_eq (pc := 760) (tgt := 1295) hx hb d_law_law_760 (by decide) (fun _ => ?_) (fun c1 => absurd (by decide) c1)
  rw [hAe] at hS
  exact law_exit l C0 (Nat.le_of_ble_eq_true rfl) (Nat.le_of_ble_eq_true rfl) hS hl
set_option maxRecDepth 100000 in
set_option maxHeartbeats 4000000 in
/-- DrawingHouse.turn(IIII)I -/
theorem c_Ho_turn_z3 (l : Launch) (D : va_G) (kA : Nat → ClassId) (a0 : Nat) (j : Nat) (v2 : Int32) (v3 : Int32) (v4 : Int32) (a1 : Nat) (a2 : Nat) (a3 : Nat) (a4 : Nat) (a5 : Nat) (a6 : Nat) (a7 : Nat) (a8 : Nat) (a9 : Nat) (a10 : Nat) (g : Nat → Nat → Nat) (a11 : Nat) (a12 : Nat) (a13 : Nat) (a14 : Nat) (a15 : Nat) (a16 : Nat) (a17 : Nat) (a18 : Nat) (a19 : Nat) (a20 : Nat) (a21 : Nat) (a22 : Nat) (a23 : Nat) (a24 : Nat) (a25 : Nat) (a26 : Nat) (a27 : Nat) (a28 : Nat) (a29 : Nat) (a30 : Nat) (a31 : Nat) (a32 : Nat) (a33 : Nat) (f0 : Nat → Int32) (f1 : Nat → Int32) (f2 : Nat → Int32) (a34 : Nat) (a35 : Nat) (a36 : Nat) (a37 : Nat) (a38 : Nat) (a39 : Nat) (a40 : Nat) (a41 : Nat) (a42 : Nat) (a43 : Nat) (a44 : Nat) (a45 : Nat) (f3 : Nat → Int32) (f4 : Nat → Int32) (hj : j < 4) (hs2 : v2.toInt < 0 ∨ ((3 : Int) - 1 < v2.toInt)) (hn3 : ¬ v3 < 0) : Ci l y_Ho_turn z_Ho_turn { frames := 4, cells := 0, slots := 0, locals := 95 } D classes (TY kA) [.ref a0, .int (nI j), .int v2, .int v3, .int v4] [[(a0, .inr (12, [.ref a1, .ref a2, .ref a3, .ref a4, .ref a5, .ref a6, .ref a7, .int 0, .int ((-1)), .ref a8, .ref a9, .int 0, .int 0, .ref a10, .int 0, .int 0, .null, .null, .null, .null, .null]))], [(a3, .inl (kA 6, 4, .inr (.inr (.inr (.inr (rr (g 2)))))))], [(g 2 j, .inr (5, [.int ((-1)), .int ((-1)), .int ((-1)), .int 0, .ref a11, .int 0, .int 0, .ref a12, .ref a13, .ref a14, .ref a15, .ref a16, .ref a17, .int 0, .ref a18, .ref a19, .ref a20]))], [(a1, .inl (kA 4, 4, .inr (.inr (.inr (.inr (rr (g 0)))))))], [(g 0 j, .inr (3, [.int 0, .int 0, .int 1, .ref a21, .ref a22, .ref a23, .ref a24, .ref a25, .ref a26, .ref a27, .ref a28, .ref a29, .ref a30, .ref a31, .ref a32, .ref a33, .null, .int 0, .int 0]))], [(a14, .inl (kA 0, 25, .inl f0))], [(a15, .inl (kA 0, 625, .inl f1))], [(a17, .inl (kA 0, 25, .inl f2))], [(a6, .inr (1, [.null, .ref a34, .ref a35, .ref a36, .ref a37, .int 0, .int 0, .int 0, .ref a38, .ref a39, .ref a40, .ref a41, .ref a42, .ref a43, .ref a44, .int 0, .int 0, .int 0, .int 0, .ref a45]))], [(a20, .inl (kA 0, 144, .inl f3))], [(a18, .inl (kA 0, 145, .inl f4))]] (fun r (_ : List va_W) => r = (-1)) (fun u => u) 0 0 := by
  intro sz
  refine k_met (cc := b_Ho_turn) (maxL := 6) (ret := (some .int)) (by decide) rfl (Nat.le_of_ble_eq_true rfl) (fun p e s m below meth c ls X hl hB => ?_)
  obtain ⟨hsz, hP, hK, hD0, hN⟩ := hB
  subst hsz
  have hD := hD0.self (sz := s.heap.size)
  generalize hAe : va_A (cat [[(a0, .inr (12, [.ref a1, .ref a2, .ref a3, .ref a4, .ref a5, .ref a6, .ref a7, .int 0, .int ((-1)), .ref a8, .ref a9, .int 0, .int 0, .ref a10, .int 0, .int 0, .null, .null, .null, .null, .null]))], [(a3, .inl (kA 6, 4, .inr (.inr (.inr (.inr (rr (g 2)))))))], [(g 2 j, .inr (5, [.int ((-1)), .int ((-1)), .int ((-1)), .int 0, .ref a11, .int 0, .int 0, .ref a12, .ref a13, .ref a14, .ref a15, .ref a16, .ref a17, .int 0, .ref a18, .ref a19, .ref a20]))], [(a1, .inl (kA 4, 4, .inr (.inr (.inr (.inr (rr (g 0)))))))], [(g 0 j, .inr (3, [.int 0, .int 0, .int 1, .ref a21, .ref a22, .ref a23, .ref a24, .ref a25, .ref a26, .ref a27, .ref a28, .ref a29, .ref a30, .ref a31, .ref a32, .ref a33, .null, .int 0, .int 0]))], [(a14, .inl (kA 0, 25, .inl f0))], [(a15, .inl (kA 0, 625, .inl f1))], [(a17, .inl (kA 0, 25, .inl f2))], [(a6, .inr (1, [.null, .ref a34, .ref a35, .ref a36, .ref a37, .int 0, .int 0, .int 0, .ref a38, .ref a39, .ref a40, .ref a41, .ref a42, .ref a43, .ref a44, .int 0, .int 0, .int 0, .int 0, .ref a45]))], [(a20, .inl (kA 0, 144, .inl f3))], [(a18, .inl (kA 0, 145, .inl f4))]]) s.heap.size = A at hD ⊢
  have hA : ∀ q : Nat, s.heap.size ≤ q → A q := fun q h => by rw [← hAe]; exact Or.inr h
  have hS : va_S A s.heap s.heap [] := va_S.rf
  obtain ⟨hx, hb, hml, hown, hts, hr, hlk, hnm⟩ := id X
  have hl : lv_has ls 6 [(0, .ref a0), (1, .int (nI j)), (2, .int v2), (3, .int v3), (4, .int v4)] := hl
  have hP : va_P D classes (cat [[(a0, .inr (12, [.ref a1, .ref a2, .ref a3, .ref a4, .ref a5, .ref a6, .ref a7, .int 0, .int ((-1)), .ref a8, .ref a9, .int 0, .int 0, .ref a10, .int 0, .int 0, .null, .null, .null, .null, .null]))], [(a3, .inl (kA 6, 4, .inr (.inr (.inr (.inr (rr (g 2)))))))], [(g 2 j, .inr (5, [.int ((-1)), .int ((-1)), .int ((-1)), .int 0, .ref a11, .int 0, .int 0, .ref a12, .ref a13, .ref a14, .ref a15, .ref a16, .ref a17, .int 0, .ref a18, .ref a19, .ref a20]))], [(a1, .inl (kA 4, 4, .inr (.inr (.inr (.inr (rr (g 0)))))))], [(g 0 j, .inr (3, [.int 0, .int 0, .int 1, .ref a21, .ref a22, .ref a23, .ref a24, .ref a25, .ref a26, .ref a27, .ref a28, .ref a29, .ref a30, .ref a31, .ref a32, .ref a33, .null, .int 0, .int 0]))], [(a14, .inl (kA 0, 25, .inl f0))], [(a15, .inl (kA 0, 625, .inl f1))], [(a17, .inl (kA 0, 25, .inl f2))], [(a6, .inr (1, [.null, .ref a34, .ref a35, .ref a36, .ref a37, .int 0, .int 0, .int 0, .ref a38, .ref a39, .ref a40, .ref a41, .ref a42, .ref a43, .ref a44, .int 0, .int 0, .int 0, .int 0, .ref a45]))], [(a20, .inl (kA 0, 144, .inl f3))], [(a18, .inl (kA 0, 145, .inl f4))]]) s.heap := hP
  have hK : va_K D classes (TY kA) s := hK
  refine lv_iload_n (pc := 0) hx hb d_Ho_turn_0 rfl (lv_at hl 1 rfl) ?_
  refine k_goI (gr := [[(a0, .inr (12, [.ref a1, .ref a2, .ref a3, .ref a4, .ref a5, .ref a6, .ref a7, .int 0, .int ((-1)), .ref a8, .ref a9, .int 0, .int 0, .ref a10, .int 0, .int 0, .null, .null, .null, .null, .null]))], [(a3, .inl (kA 6, 4, .inr (.inr (.inr (.inr (rr (g 2)))))))], [(g 2 j, .inr (5, [.int ((-1)), .int ((-1)), .int ((-1)), .int 0, .ref a11, .int 0, .int 0, .ref a12, .ref a13, .ref a14, .ref a15, .ref a16, .ref a17, .int 0, .ref a18, .ref a19, .ref a20]))], [(a1, .inl (kA 4, 4, .inr (.inr (.inr (.inr (rr (g 0)))))))], [(g 0 j, .inr (3, [.int 0, .int 0, .int 1, .ref a21, .ref a22, .ref a23, .ref a24, .ref a25, .ref a26, .ref a27, .ref a28, .ref a29, .ref a30, .ref a31, .ref a32, .ref a33, .null, .int 0, .int 0]))], [(a14, .inl (kA 0, 25, .inl f0))], [(a15, .inl (kA 0, 625, .inl f1))], [(a17, .inl (kA 0, 25, .inl f2))], [(a6, .inr (1, [.null, .ref a34, .ref a35, .ref a36, .ref a37, .int 0, .int 0, .int 0, .ref a38, .ref a39, .ref a40, .ref a41, .ref a42, .ref a43, .ref a44, .int 0, .int 0, .int 0, .int 0, .ref a45]))], [(a20, .inl (kA 0, 144, .inl f3))], [(a18, .inl (kA 0, 145, .inl f4))]]) (k_rS (pc := 1) (As := [.int (nI j)]) (rest := []) X (c_Ho_isPlace l D kA (nI j) s.heap.size) rfl wm_633 wm_1 wm_631 wm_632 1 (by decide +kernel) ⟨Nat.le_of_ble_eq_true rfl, Nat.le_of_ble_eq_true rfl⟩ rfl rfl (k_pre hN hK hP hD [] [0, 1, 2, 3, 4, 5, 6, 7, 8, 9, 10] 11 rfl (by decide) rfl) rfl hl.1 rfl (Nat.le_of_ble_eq_true rfl) d_Ho_turn_1 ⟨Nat.le_of_ble_eq_true rfl, Nat.le_of_ble_eq_true rfl⟩) hP hD hS hA [] [0, 1, 2, 3, 4, 5, 6, 7, 8, 9, 10] 11 rfl (by decide) rfl rfl (fun r1 u2 H locs hu2 hP hD hS => ?_)
  subst hu2
  refine k_cst (v := 1) (place_ok hj) ?_
  have hP : va_P D classes (cat [[(a0, .inr (12, [.ref a1, .ref a2, .ref a3, .ref a4, .ref a5, .ref a6, .ref a7, .int 0, .int ((-1)), .ref a8, .ref a9, .int 0, .int 0, .ref a10, .int 0, .int 0, .null, .null, .null, .null, .null]))], [(a3, .inl (kA 6, 4, .inr (.inr (.inr (.inr (rr (g 2)))))))], [(g 2 j, .inr (5, [.int ((-1)), .int ((-1)), .int ((-1)), .int 0, .ref a11, .int 0, .int 0, .ref a12, .ref a13, .ref a14, .ref a15, .ref a16, .ref a17, .int 0, .ref a18, .ref a19, .ref a20]))], [(a1, .inl (kA 4, 4, .inr (.inr (.inr (.inr (rr (g 0)))))))], [(g 0 j, .inr (3, [.int 0, .int 0, .int 1, .ref a21, .ref a22, .ref a23, .ref a24, .ref a25, .ref a26, .ref a27, .ref a28, .ref a29, .ref a30, .ref a31, .ref a32, .ref a33, .null, .int 0, .int 0]))], [(a14, .inl (kA 0, 25, .inl f0))], [(a15, .inl (kA 0, 625, .inl f1))], [(a17, .inl (kA 0, 25, .inl f2))], [(a6, .inr (1, [.null, .ref a34, .ref a35, .ref a36, .ref a37, .int 0, .int 0, .int 0, .ref a38, .ref a39, .ref a40, .ref a41, .ref a42, .ref a43, .ref a44, .int 0, .int 0, .int 0, .int 0, .ref a45]))], [(a20, .inl (kA 0, 144, .inl f3))], [(a18, .inl (kA 0, 145, .inl f4))]]) H := hP
  have hD : va_D A (cat [[(a0, .inr (12, [.ref a1, .ref a2, .ref a3, .ref a4, .ref a5, .ref a6, .ref a7, .int 0, .int ((-1)), .ref a8, .ref a9, .int 0, .int 0, .ref a10, .int 0, .int 0, .null, .null, .null, .null, .null]))], [(a3, .inl (kA 6, 4, .inr (.inr (.inr (.inr (rr (g 2)))))))], [(g 2 j, .inr (5, [.int ((-1)), .int ((-1)), .int ((-1)), .int 0, .ref a11, .int 0, .int 0, .ref a12, .ref a13, .ref a14, .ref a15, .ref a16, .ref a17, .int 0, .ref a18, .ref a19, .ref a20]))], [(a1, .inl (kA 4, 4, .inr (.inr (.inr (.inr (rr (g 0)))))))], [(g 0 j, .inr (3, [.int 0, .int 0, .int 1, .ref a21, .ref a22, .ref a23, .ref a24, .ref a25, .ref a26, .ref a27, .ref a28, .ref a29, .ref a30, .ref a31, .ref a32, .ref a33, .null, .int 0, .int 0]))], [(a14, .inl (kA 0, 25, .inl f0))], [(a15, .inl (kA 0, 625, .inl f1))], [(a17, .inl (kA 0, 25, .inl f2))], [(a6, .inr (1, [.null, .ref a34, .ref a35, .ref a36, .ref a37, .int 0, .int 0, .int 0, .ref a38, .ref a39, .ref a40, .ref a41, .ref a42, .ref a43, .ref a44, .int 0, .int 0, .int 0, .int 0, .ref a45]))], [(a20, .inl (kA 0, 144, .inl f3))], [(a18, .inl (kA 0, 145, .inl f4))]]) := hD
  refine lv_if_eq (pc := 4) (tgt := 11) hx hb d_Ho_turn_4 (by decide) (fun c1 => absurd c1 (by decide)) (fun c1 => ?_)
  refine lv_iload_n (pc := 7) hx hb d_Ho_turn_7 rfl (lv_at hl 3 rfl) ?_
  refine lv_if_ge (pc := 8) (tgt := 13) hx hb d_Ho_turn_8 (by decide) (fun c1 => ?_) (fun c1 => absurd (Int32.not_lt.mp hn3) c1)
  refine lv_aload_n (pc := 13) hx hb d_Ho_turn_13 rfl (lv_at hl 0 rfl) ?_
  refine lv_iload_n (pc := 14) hx hb d_Ho_turn_14 rfl (lv_at hl 1 rfl) ?_
  refine k_goR (gr := []) (k_rV (pc := 15) (As := [.int (nI j)]) (rest := []) X (c_Ho_embedded_z1 l D kA a0 j a1 a2 a3 a4 a5 a6 a7 a8 a9 a10 g a11 a12 a13 a14 a15 a16 a17 a18 a19 a20 a21 a22 a23 a24 a25 a26 a27 a28 a29 a30 a31 a32 a33 f0 f1 f2 a34 a35 a36 a37 a38 a39 a40 a41 a42 a43 a44 a45 f3 f4 hj H.size) rfl wm_1052 wm_1 wm_1049 wm_1051 wv_3_6 1 (by decide +kernel) ⟨Nat.le_of_ble_eq_true rfl, Nat.le_of_ble_eq_true rfl⟩ rfl rfl (va_recv hK hP (ci := 12) (q0 := 0) rfl rfl) (k_pre hN hK hP hD [0, 1, 2, 3, 4, 5, 6, 7, 8, 9, 10] [] 11 rfl (by decide) rfl) rfl hl.1 rfl (Nat.le_of_ble_eq_true rfl) d_Ho_turn_15 ⟨Nat.le_of_ble_eq_true rfl, Nat.le_of_ble_eq_true rfl⟩) hP hD hS hA [0, 1, 2, 3, 4, 5, 6, 7, 8, 9, 10] [] 11 rfl (by decide) rfl rfl (fun u4 H locs hu4 hP hD hS => ?_)
  have hP : va_P D classes (cat [[(a0, .inr (12, [.ref a1, .ref a2, .ref a3, .ref a4, .ref a5, .ref a6, .ref a7, .int 0, .int ((-1)), .ref a8, .ref a9, .int 0, .int 0, .ref a10, .int 0, .int 0, .null, .null, .null, .null, .null]))], [(a3, .inl (kA 6, 4, .inr (.inr (.inr (.inr (rr (g 2)))))))], [(g 2 j, .inr (5, [.int 1, .int ((-1)), .int ((-1)), .int 0, .ref a11, .int 0, .int 0, .ref a12, .ref a13, .ref a14, .ref a15, .ref a16, .ref a17, .int 0, .ref a18, .ref a19, .ref a20]))], [(a1, .inl (kA 4, 4, .inr (.inr (.inr (.inr (rr (g 0)))))))], [(g 0 j, .inr (3, [.int 0, .int 0, .int 1, .ref a21, .ref a22, .ref a23, .ref a24, .ref a25, .ref a26, .ref a27, .ref a28, .ref a29, .ref a30, .ref a31, .ref a32, .ref a33, .null, .int 0, .int 0]))], [(a14, .inl (kA 0, 25, .inl (fl f0 25 0)))], [(a15, .inl (kA 0, 625, .inl (fl f1 625 (-1))))], [(a17, .inl (kA 0, 25, .inl (fl f2 25 (-1))))], [(a6, .inr (1, [.ref (g 2 j), .ref a34, .ref a35, .ref a36, .ref a37, .int 0, .int 0, .int 0, .ref a38, .ref a39, .ref a40, .ref a41, .ref a42, .ref a43, .ref a44, .int 0, .int 0, .int 0, .int 0, .ref a45]))], [(a20, .inl (kA 0, 144, .inl (fl f3 144 (-1))))], [(a18, .inl (kA 0, 145, .inl (upd (f4) 0 0)))]]) H := hP
  have hD : va_D A (cat [[(a0, .inr (12, [.ref a1, .ref a2, .ref a3, .ref a4, .ref a5, .ref a6, .ref a7, .int 0, .int ((-1)), .ref a8, .ref a9, .int 0, .int 0, .ref a10, .int 0, .int 0, .null, .null, .null, .null, .null]))], [(a3, .inl (kA 6, 4, .inr (.inr (.inr (.inr (rr (g 2)))))))], [(g 2 j, .inr (5, [.int 1, .int ((-1)), .int ((-1)), .int 0, .ref a11, .int 0, .int 0, .ref a12, .ref a13, .ref a14, .ref a15, .ref a16, .ref a17, .int 0, .ref a18, .ref a19, .ref a20]))], [(a1, .inl (kA 4, 4, .inr (.inr (.inr (.inr (rr (g 0)))))))], [(g 0 j, .inr (3, [.int 0, .int 0, .int 1, .ref a21, .ref a22, .ref a23, .ref a24, .ref a25, .ref a26, .ref a27, .ref a28, .ref a29, .ref a30, .ref a31, .ref a32, .ref a33, .null, .int 0, .int 0]))], [(a14, .inl (kA 0, 25, .inl (fl f0 25 0)))], [(a15, .inl (kA 0, 625, .inl (fl f1 625 (-1))))], [(a17, .inl (kA 0, 25, .inl (fl f2 25 (-1))))], [(a6, .inr (1, [.ref (g 2 j), .ref a34, .ref a35, .ref a36, .ref a37, .int 0, .int 0, .int 0, .ref a38, .ref a39, .ref a40, .ref a41, .ref a42, .ref a43, .ref a44, .int 0, .int 0, .int 0, .int 0, .ref a45]))], [(a20, .inl (kA 0, 144, .inl (fl f3 144 (-1))))], [(a18, .inl (kA 0, 145, .inl (upd (f4) 0 0)))]]) := hD
  refine lv_astore (pc := 18) (lv' := [(5, .ref (g 2 j)), (0, .ref a0), (1, .int (nI j)), (2, .int v2), (3, .int v3), (4, .int v4)]) hx hb d_Ho_turn_18 hl (by decide) rfl (fun ls hl => ?_)
  refine lv_iload_n (pc := 20) hx hb d_Ho_turn_20 rfl (lv_at hl 3 rfl) ?_
  refine lv_iconst (pc := 21) (v := 2) hx hb d_Ho_turn_21 (by decide) ?_
  refine lv_icmp_ne (pc := 22) (tgt := 54) hx hb d_Ho_turn_22 (by decide) (fun c1 => ?_) (fun c1 => absurd c1 (k_tne (v := 2) hs2 2 (by decide)))
  refine lv_aload (pc := 54) hx hb d_Ho_turn_54 (lv_at hl 0 rfl) ?_
  refine k_get (pc := 56) X hK hP 2 rfl rfl i_Ne 0 (by decide) wm_250 rfl rfl d_Ho_turn_56 ?_
  refine lv_if_eq (pc := 59) (tgt := 67) hx hb d_Ho_turn_59 (by decide) (fun c1 => absurd c1 (by decide)) (fun c1 => ?_)
  refine lv_iload (pc := 62) hx hb d_Ho_turn_62 (lv_at hl 5 rfl) ?_
  refine lv_if_ge (pc := 64) (tgt := 69) hx hb d_Ho_turn_64 (by decide) (fun ck1 => ?_) (fun ck1 => ?_)
  · refine lv_iload_n (pc := 69) hx hb d_Ho_turn_69 rfl (lv_at hl 3 rfl) ?_
    refine lv_if_ne (pc := 70) (tgt := 82) hx hb d_Ho_turn_70 (by decide) (fun c1 => ?_) (fun c1 => absurd c1 (k_tne (v := 0) hs2 0 (by decide)))
    refine lv_iload_n (pc := 82) hx hb d_Ho_turn_82 rfl (lv_at hl 3 rfl) ?_
    refine lv_iconst (pc := 83) (v := 1) hx hb d_Ho_turn_83 (by decide) ?_
    refine lv_icmp_ne (pc := 84) (tgt := 98) hx hb d_Ho_turn_84 (by decide) (fun c1 => ?_) (fun c1 => absurd c1 (k_tne (v := 1) hs2 1 (by decide)))
    refine lv_iconst (pc := 98) (v := -1) hx hb d_Ho_turn_98 (by decide) ?_
    refine W.widen (k := 0) (n := 0) (Nat.le_of_ble_eq_true rfl) (Nat.le_of_ble_eq_true rfl) ?_
    exact W.iret (v := (-1)) hx hb hr (fun t ht hW => ⟨⟨(-1), [[(a0, .inr (12, [.ref a1, .ref a2, .ref a3, .ref a4, .ref a5, .ref a6, .ref a7, .int 0, .int ((-1)), .ref a8, .ref a9, .int 0, .int 0, .ref a10, .int 0, .int 0, .null, .null, .null, .null, .null]))], [(a3, .inl (kA 6, 4, .inr (.inr (.inr (.inr (rr (g 2)))))))], [(g 2 j, .inr (5, [.int 1, .int ((-1)), .int ((-1)), .int 0, .ref a11, .int 0, .int 0, .ref a12, .ref a13, .ref a14, .ref a15, .ref a16, .ref a17, .int 0, .ref a18, .ref a19, .ref a20]))], [(a1, .inl (kA 4, 4, .inr (.inr (.inr (.inr (rr (g 0)))))))], [(g 0 j, .inr (3, [.int 0, .int 0, .int 1, .ref a21, .ref a22, .ref a23, .ref a24, .ref a25, .ref a26, .ref a27, .ref a28, .ref a29, .ref a30, .ref a31, .ref a32, .ref a33, .null, .int 0, .int 0]))], [(a14, .inl (kA 0, 25, .inl (fl f0 25 0)))], [(a15, .inl (kA 0, 625, .inl (fl f1 625 (-1))))], [(a17, .inl (kA 0, 25, .inl (fl f2 25 (-1))))], [(a6, .inr (1, [.ref (g 2 j), .ref a34, .ref a35, .ref a36, .ref a37, .int 0, .int 0, .int 0, .ref a38, .ref a39, .ref a40, .ref a41, .ref a42, .ref a43, .ref a44, .int 0, .int 0, .int 0, .int 0, .ref a45]))], [(a20, .inl (kA 0, 144, .inl (fl f3 144 (-1))))], [(a18, .inl (kA 0, 145, .inl (upd (f4) 0 0)))]], rfl, rfl, by rw [ht]; exact hP, va_K.moved hW.alike hK, hD⟩, hS.F ht⟩) hS.2.2 d_Ho_turn_99
  · refine lv_iconst (pc := 67) (v := -1) hx hb d_Ho_turn_67 (by decide) ?_
    refine W.widen (k := 0) (n := 0) (Nat.le_of_ble_eq_true rfl) (Nat.le_of_ble_eq_true rfl) ?_
    exact W.iret (v := (-1)) hx hb hr (fun t ht hW => ⟨⟨(-1), [[(a0, .inr (12, [.ref a1, .ref a2, .ref a3, .ref a4, .ref a5, .ref a6, .ref a7, .int 0, .int ((-1)), .ref a8, .ref a9, .int 0, .int 0, .ref a10, .int 0, .int 0, .null, .null, .null, .null, .null]))], [(a3, .inl (kA 6, 4, .inr (.inr (.inr (.inr (rr (g 2)))))))], [(g 2 j, .inr (5, [.int 1, .int ((-1)), .int ((-1)), .int 0, .ref a11, .int 0, .int 0, .ref a12, .ref a13, .ref a14, .ref a15, .ref a16, .ref a17, .int 0, .ref a18, .ref a19, .ref a20]))], [(a1, .inl (kA 4, 4, .inr (.inr (.inr (.inr (rr (g 0)))))))], [(g 0 j, .inr (3, [.int 0, .int 0, .int 1, .ref a21, .ref a22, .ref a23, .ref a24, .ref a25, .ref a26, .ref a27, .ref a28, .ref a29, .ref a30, .ref a31, .ref a32, .ref a33, .null, .int 0, .int 0]))], [(a14, .inl (kA 0, 25, .inl (fl f0 25 0)))], [(a15, .inl (kA 0, 625, .inl (fl f1 625 (-1))))], [(a17, .inl (kA 0, 25, .inl (fl f2 25 (-1))))], [(a6, .inr (1, [.ref (g 2 j), .ref a34, .ref a35, .ref a36, .ref a37, .int 0, .int 0, .int 0, .ref a38, .ref a39, .ref a40, .ref a41, .ref a42, .ref a43, .ref a44, .int 0, .int 0, .int 0, .int 0, .ref a45]))], [(a20, .inl (kA 0, 144, .inl (fl f3 144 (-1))))], [(a18, .inl (kA 0, 145, .inl (upd (f4) 0 0)))]], rfl, rfl, by rw [ht]; exact hP, va_K.moved hW.alike hK, hD⟩, hS.F ht⟩) hS.2.2 d_Ho_turn_68
set_option maxRecDepth 100000 in
set_option maxHeartbeats 4000000 in
/-- DrawingHouseModel.in(III)Z -/
theorem c_Mo_in_z27 (l : Launch) (D : va_G) (kA : Nat → ClassId) (v3 : Int32) (hn3 : ¬ v3 < 0) : Ci l y_Mo_in z_Mo_in { frames := 0, cells := 0, slots := 0, locals := 0 } D classes (TY kA) [.int v3, .int 0, .int ((-1))] [] (fun r (_ : Unit) => r = 0) (fun u => []) 0 0 := by
  intro sz
  refine k_met (cc := b_Mo_in) (maxL := 3) (ret := (some .boolean)) (by decide) rfl (Nat.le_of_ble_eq_true rfl) (fun p e s m below meth c ls X hl hB => ?_)
  obtain ⟨hsz, hP, hK, hD0, hN⟩ := hB
  subst hsz
  have hD := hD0.self (sz := s.heap.size)
  generalize hAe : va_A (cat []) s.heap.size = A at hD ⊢
  have hA : ∀ q : Nat, s.heap.size ≤ q → A q := fun q h => by rw [← hAe]; exact Or.inr h
  have hS : va_S A s.heap s.heap [] := va_S.rf
  obtain ⟨hx, hb, hml, hown, hts, hr, hlk, hnm⟩ := id X
  have hl : lv_has ls 3 [(0, .int v3), (1, .int 0), (2, .int ((-1)))] := hl
  have hP : va_P D classes (cat []) s.heap := hP
  have hK : va_K D classes (TY kA) s := hK
  refine lv_iload_n (pc := 0) hx hb d_Mo_in_0 rfl (lv_at hl 0 rfl) ?_
  refine lv_iload_n (pc := 1) hx hb d_Mo_in_1 rfl (lv_at hl 1 rfl) ?_
  refine lv_icmp_lt (pc := 2) (tgt := 14) hx hb d_Mo_in_2 (by decide) (fun c1 => absurd c1 (hn3)) (fun c1 => ?_)
  refine lv_iload_n (pc := 5) hx hb d_Mo_in_5 rfl (lv_at hl 0 rfl) ?_
  refine lv_iload_n (pc := 6) hx hb d_Mo_in_6 rfl (lv_at hl 2 rfl) ?_
  refine lv_icmp_gt (pc := 7) (tgt := 14) hx hb d_Mo_in_7 (by decide) (fun c1 => ?_) (fun c1 => absurd (m1_lt hn3) c1)
  refine lv_iconst (pc := 14) (v := 0) hx hb d_Mo_in_14 (by decide) ?_
  refine W.widen (k := 0) (n := 0) (Nat.le_of_ble_eq_true rfl) (Nat.le_of_ble_eq_true rfl) ?_
  exact W.zret (v := 0) hx hb hr rfl (fun t ht hW => ⟨⟨0, (), rfl, rfl, by rw [ht]; exact hP, va_K.moved hW.alike hK, hD⟩, hS.F ht⟩) hS.2.2 d_Mo_in_15
set_option maxRecDepth 100000 in
set_option maxHeartbeats 4000000 in
/-- DrawingHouseModel.turn(IIII)I -/
theorem c_Mo_turn_z3 (l : Launch) (D : va_G) (kA : Nat → ClassId) (a0 : Nat) (j : Nat) (v2 : Int32) (v3 : Int32) (v4 : Int32) (qm : Nat → Nat) (f0 : Nat → Int32) (hj : j < 4) (hs2 : v2.toInt < 0 ∨ ((3 : Int) - 1 < v2.toInt)) (hn3 : ¬ v3 < 0) : Ci l y_Mo_turn z_Mo_turn { frames := 3, cells := 0, slots := 0, locals := 66 } D classes (TY kA) [.ref a0, .int (nI j), .int v2, .int v3, .int v4] [[(a0, .inr (13, mF qm x0Mo y0Mo))], [(qm 3, .inl (kA 0, 4, .inl (fun _ => 0)))], [(qm 2, .inl (kA 0, 66836, .inl all0))], [(qm 56, .inl (kA 0, 161, .inl f0))]] (fun r (_ : List va_W) => r = (-1)) (fun u => u) 0 0 := by
  intro sz
  refine k_met (cc := b_Mo_turn) (maxL := 6) (ret := (some .int)) (by decide) rfl (Nat.le_of_ble_eq_true rfl) (fun p e s m below meth c ls X hl hB => ?_)
  obtain ⟨hsz, hP, hK, hD0, hN⟩ := hB
  subst hsz
  have hD := hD0.self (sz := s.heap.size)
  generalize hAe : va_A (cat [[(a0, .inr (13, mF qm x0Mo y0Mo))], [(qm 3, .inl (kA 0, 4, .inl (fun _ => 0)))], [(qm 2, .inl (kA 0, 66836, .inl all0))], [(qm 56, .inl (kA 0, 161, .inl f0))]]) s.heap.size = A at hD ⊢
  have hA : ∀ q : Nat, s.heap.size ≤ q → A q := fun q h => by rw [← hAe]; exact Or.inr h
  have hS : va_S A s.heap s.heap [] := va_S.rf
  obtain ⟨hx, hb, hml, hown, hts, hr, hlk, hnm⟩ := id X
  have hl : lv_has ls 6 [(0, .ref a0), (1, .int (nI j)), (2, .int v2), (3, .int v3), (4, .int v4)] := hl
  have hP : va_P D classes (cat [[(a0, .inr (13, mF qm x0Mo y0Mo))], [(qm 3, .inl (kA 0, 4, .inl (fun _ => 0)))], [(qm 2, .inl (kA 0, 66836, .inl all0))], [(qm 56, .inl (kA 0, 161, .inl f0))]]) s.heap := hP
  have hK : va_K D classes (TY kA) s := hK
  refine lv_iload_n (pc := 0) hx hb d_Mo_turn_0 rfl (lv_at hl 1 rfl) ?_
  refine k_goI (gr := [[(a0, .inr (13, mF qm x0Mo y0Mo))], [(qm 3, .inl (kA 0, 4, .inl (fun _ => 0)))], [(qm 2, .inl (kA 0, 66836, .inl all0))], [(qm 56, .inl (kA 0, 161, .inl f0))]]) (k_rS (pc := 1) (As := [.int (nI j)]) (rest := []) X (c_Mo_isPlace l D kA (nI j) s.heap.size) rfl wm_2978 wm_9 wm_2976 wm_2977 1 (by decide +kernel) ⟨Nat.le_of_ble_eq_true rfl, Nat.le_of_ble_eq_true rfl⟩ rfl rfl (k_pre hN hK hP hD [] [0, 1, 2, 3] 4 rfl (by decide) rfl) rfl hl.1 rfl (Nat.le_of_ble_eq_true rfl) d_Mo_turn_1 ⟨Nat.le_of_ble_eq_true rfl, Nat.le_of_ble_eq_true rfl⟩) hP hD hS hA [] [0, 1, 2, 3] 4 rfl (by decide) rfl rfl (fun r1 u2 H locs hu2 hP hD hS => ?_)
  subst hu2
  refine k_cst (v := 1) (placeM_ok hj) ?_
  have hP : va_P D classes (cat [[(a0, .inr (13, mF qm x0Mo y0Mo))], [(qm 3, .inl (kA 0, 4, .inl (fun _ => 0)))], [(qm 2, .inl (kA 0, 66836, .inl all0))], [(qm 56, .inl (kA 0, 161, .inl f0))]]) H := hP
  have hD : va_D A (cat [[(a0, .inr (13, mF qm x0Mo y0Mo))], [(qm 3, .inl (kA 0, 4, .inl (fun _ => 0)))], [(qm 2, .inl (kA 0, 66836, .inl all0))], [(qm 56, .inl (kA 0, 161, .inl f0))]]) := hD
  refine lv_if_eq (pc := 4) (tgt := 16) hx hb d_Mo_turn_4 (by decide) (fun c1 => absurd c1 (by decide)) (fun c1 => ?_)
  refine lv_iload_n (pc := 7) hx hb d_Mo_turn_7 rfl (lv_at hl 2 rfl) ?_
  refine lv_iconst (pc := 8) (v := 0) hx hb d_Mo_turn_8 (by decide) ?_
  refine lv_iconst (pc := 9) (v := 2) hx hb d_Mo_turn_9 (by decide) ?_
  refine k_goI (gr := [[(a0, .inr (13, mF qm x0Mo y0Mo))], [(qm 3, .inl (kA 0, 4, .inl (fun _ => 0)))], [(qm 2, .inl (kA 0, 66836, .inl all0))], [(qm 56, .inl (kA 0, 161, .inl f0))]]) (k_rS (pc := 10) (As := [.int v2, .int 0, .int 2]) (rest := []) X (c_Mo_in_z26 l D kA v2 hs2 H.size) rfl wm_2971 wm_9 wm_2969 wm_2970 3 (by decide +kernel) ⟨Nat.le_of_ble_eq_true rfl, Nat.le_of_ble_eq_true rfl⟩ rfl rfl (k_pre hN hK hP hD [] [0, 1, 2, 3] 4 rfl (by decide) rfl) rfl hl.1 rfl (Nat.le_of_ble_eq_true rfl) d_Mo_turn_10 ⟨Nat.le_of_ble_eq_true rfl, Nat.le_of_ble_eq_true rfl⟩) hP hD hS hA [] [0, 1, 2, 3] 4 rfl (by decide) rfl rfl (fun r3 u4 H locs hu4 hP hD hS => ?_)
  subst hu4
  have hP : va_P D classes (cat [[(a0, .inr (13, mF qm x0Mo y0Mo))], [(qm 3, .inl (kA 0, 4, .inl (fun _ => 0)))], [(qm 2, .inl (kA 0, 66836, .inl all0))], [(qm 56, .inl (kA 0, 161, .inl f0))]]) H := hP
  have hD : va_D A (cat [[(a0, .inr (13, mF qm x0Mo y0Mo))], [(qm 3, .inl (kA 0, 4, .inl (fun _ => 0)))], [(qm 2, .inl (kA 0, 66836, .inl all0))], [(qm 56, .inl (kA 0, 161, .inl f0))]]) := hD
  refine lv_if_ne (pc := 13) (tgt := 18) hx hb d_Mo_turn_13 (by decide) (fun ck1 => ?_) (fun ck1 => ?_)
  · refine lv_aload_n (pc := 18) hx hb d_Mo_turn_18 rfl (lv_at hl 0 rfl) ?_
    refine lv_iload_n (pc := 19) hx hb d_Mo_turn_19 rfl (lv_at hl 1 rfl) ?_
    refine k_goV (gr := [[(qm 2, .inl (kA 0, 66836, .inl all0))], [(qm 56, .inl (kA 0, 161, .inl f0))]]) (k_rV (pc := 20) (As := [.int (nI j)]) (rest := []) X (c_Mo_take_z1 l D kA a0 j qm hj H.size) rfl wm_3091 wm_9 wm_3088 wm_3090 wv_14_2 1 (by decide +kernel) ⟨Nat.le_of_ble_eq_true rfl, Nat.le_of_ble_eq_true rfl⟩ rfl rfl (va_recv hK hP (ci := 13) (q0 := 0) rfl rfl) (k_pre hN hK hP hD [0, 1] [2, 3] 4 rfl (by decide) rfl) rfl hl.1 rfl (Nat.le_of_ble_eq_true rfl) d_Mo_turn_20 ⟨Nat.le_of_ble_eq_true rfl, Nat.le_of_ble_eq_true rfl⟩) hP hD hS hA [0, 1] [2, 3] 4 rfl (by decide) rfl rfl (fun u5 H locs hu5 hP hD hS => ?_)
    have hP : va_P D classes (cat [[(qm 2, .inl (kA 0, 66836, .inl all0))], [(qm 56, .inl (kA 0, 161, .inl f0))], [(a0, .inr (13, mF qm (va_up x0Mo 5 (nI (539 * (31 * j + 0)))) y0Mo))], [(qm 3, .inl (kA 0, 4, .inl (fun _ => 0)))]]) H := hP
    have hD : va_D A (cat [[(qm 2, .inl (kA 0, 66836, .inl all0))], [(qm 56, .inl (kA 0, 161, .inl f0))], [(a0, .inr (13, mF qm (va_up x0Mo 5 (nI (539 * (31 * j + 0)))) y0Mo))], [(qm 3, .inl (kA 0, 4, .inl (fun _ => 0)))]]) := hD
    refine lv_aload_n (pc := 23) hx hb d_Mo_turn_23 rfl (lv_at hl 0 rfl) ?_
    refine k_goI (gr := [[(qm 56, .inl (kA 0, 161, .inl f0))], [(qm 3, .inl (kA 0, 4, .inl (fun _ => 0)))]]) (k_rV (pc := 24) (As := []) (rest := []) X (c_Mo_isPlanar_z1 l D kA a0 qm j hj H.size) rfl wm_3251 wm_9 wm_3248 wm_3250 wv_16_5 0 (by decide +kernel) ⟨Nat.le_of_ble_eq_true rfl, Nat.le_of_ble_eq_true rfl⟩ rfl rfl (va_recv hK hP (ci := 13) (q0 := 2) rfl rfl) (k_pre hN hK hP hD [2, 0] [1, 3] 4 rfl (by decide) rfl) rfl hl.1 rfl (Nat.le_of_ble_eq_true rfl) d_Mo_turn_24 ⟨Nat.le_of_ble_eq_true rfl, Nat.le_of_ble_eq_true rfl⟩) hP hD hS hA [2, 0] [1, 3] 4 rfl (by decide) rfl rfl (fun r6 u7 H locs hu7 hP hD hS => ?_)
    subst hu7
    have hP : va_P D classes (cat [[(qm 56, .inl (kA 0, 161, .inl f0))], [(qm 3, .inl (kA 0, 4, .inl (fun _ => 0)))], [(a0, .inr (13, mF qm (va_up (va_up x0Mo 5 (nI (539 * (31 * j + 0)))) 49 (-1)) y0Mo))], [(qm 2, .inl (kA 0, 66836, .inl all0))]]) H := hP
    have hD : va_D A (cat [[(qm 56, .inl (kA 0, 161, .inl f0))], [(qm 3, .inl (kA 0, 4, .inl (fun _ => 0)))], [(a0, .inr (13, mF qm (va_up (va_up x0Mo 5 (nI (539 * (31 * j + 0)))) 49 (-1)) y0Mo))], [(qm 2, .inl (kA 0, 66836, .inl all0))]]) := hD
    refine lv_istore (pc := 27) (lv' := [(5, .int 1), (0, .ref a0), (1, .int (nI j)), (2, .int v2), (3, .int v3), (4, .int v4)]) hx hb d_Mo_turn_27 hl (by decide) rfl (fun ls hl => ?_)
    refine lv_iload (pc := 29) hx hb d_Mo_turn_29 (lv_at hl 0 rfl) ?_
    refine lv_iload_n (pc := 31) hx hb d_Mo_turn_31 rfl (lv_at hl 3 rfl) ?_
    refine lv_iconst (pc := 32) (v := 2) hx hb d_Mo_turn_32 (by decide) ?_
    refine lv_icmp_ne (pc := 33) (tgt := 40) hx hb d_Mo_turn_33 (by decide) (fun c1 => ?_) (fun c1 => absurd c1 (k_tne (v := 2) hs2 2 (by decide)))
    refine lv_iconst (pc := 40) (v := 0) hx hb d_Mo_turn_40 (by decide) ?_
    refine lv_icmp_ne (pc := 41) (tgt := 46) hx hb d_Mo_turn_41 (by decide) (fun _ => ?_) (fun c1 => absurd c1 (by decide))
    refine lv_iload_n (pc := 46) hx hb d_Mo_turn_46 rfl (lv_at hl 3 rfl) ?_
    refine lv_iconst (pc := 47) (v := 2) hx hb d_Mo_turn_47 (by decide) ?_
    refine lv_icmp_ne (pc := 48) (tgt := 80) hx hb d_Mo_turn_48 (by decide) (fun c1 => ?_) (fun c1 => absurd c1 (k_tne (v := 2) hs2 2 (by decide)))
    refine lv_iload_n (pc := 80) hx hb d_Mo_turn_80 rfl (lv_at hl 3 rfl) ?_
    refine lv_if_ne (pc := 81) (tgt := 132) hx hb d_Mo_turn_81 (by decide) (fun c1 => ?_) (fun c1 => absurd c1 (k_tne (v := 0) hs2 0 (by decide)))
    refine lv_aload_n (pc := 132) hx hb d_Mo_turn_132 rfl (lv_at hl 1 rfl) ?_
    refine k_goV (gr := [[(qm 3, .inl (kA 0, 4, .inl (fun _ => 0)))], [(qm 2, .inl (kA 0, 66836, .inl all0))]]) (k_rV (pc := 133) (As := []) (rest := []) X (c_Mo_goRound_z1 l D kA a0 qm j f0 hj H.size) rfl wm_3255 wm_9 wm_3252 wm_3254 wv_16_6 0 (by decide +kernel) ⟨Nat.le_of_ble_eq_true rfl, Nat.le_of_ble_eq_true rfl⟩ rfl rfl (va_recv hK hP (ci := 13) (q0 := 2) rfl rfl) (k_pre hN hK hP hD [2, 0] [1, 3] 4 rfl (by decide) rfl) rfl hl.1 rfl (Nat.le_of_ble_eq_true rfl) d_Mo_turn_133 ⟨Nat.le_of_ble_eq_true rfl, Nat.le_of_ble_eq_true rfl⟩) hP hD hS hA [2, 0] [1, 3] 4 rfl (by decide) rfl rfl (fun u8 H locs hu8 hP hD hS => ?_)
    have hP : va_P D classes (cat [[(qm 3, .inl (kA 0, 4, .inl (fun _ => 0)))], [(qm 2, .inl (kA 0, 66836, .inl all0))], [(a0, .inr (13, mF qm (va_up (va_up x0Mo 5 (nI (539 * (31 * j + 0)))) 49 (-1)) y0Mo))], [(qm 56, .inl (kA 0, 161, .inl (upd (f0) 0 0)))]]) H := hP
    have hD : va_D A (cat [[(qm 3, .inl (kA 0, 4, .inl (fun _ => 0)))], [(qm 2, .inl (kA 0, 66836, .inl all0))], [(a0, .inr (13, mF qm (va_up (va_up x0Mo 5 (nI (539 * (31 * j + 0)))) 49 (-1)) y0Mo))], [(qm 56, .inl (kA 0, 161, .inl (upd (f0) 0 0)))]]) := hD
    refine lv_iload_n (pc := 136) hx hb d_Mo_turn_136 rfl (lv_at hl 4 rfl) ?_
    refine lv_iconst (pc := 137) (v := 0) hx hb d_Mo_turn_137 (by decide) ?_
    refine lv_aload_n (pc := 138) hx hb d_Mo_turn_138 rfl (lv_at hl 1 rfl) ?_
    refine k_get (pc := 139) (v := .int 0) X hK hP 2 rfl rfl i_Mo 53 (by decide) wm_2485 rfl rfl d_Mo_turn_139 ?_
    refine lv_iconst (pc := 142) (v := 1) hx hb d_Mo_turn_142 (by decide) ?_
    refine lv_isub (pc := 143) hx hb d_Mo_turn_143 ?_
    refine k_cst (v := (-1)) (by decide) ?_
    refine k_goI (gr := [[(qm 3, .inl (kA 0, 4, .inl (fun _ => 0)))], [(qm 2, .inl (kA 0, 66836, .inl all0))], [(a0, .inr (13, mF qm (va_up (va_up x0Mo 5 (nI (539 * (31 * j + 0)))) 49 (-1)) y0Mo))], [(qm 56, .inl (kA 0, 161, .inl (upd (f0) 0 0)))]]) (k_rS (pc := 144) (As := [.int v3, .int 0, .int ((-1))]) (rest := []) X (c_Mo_in_z27 l D kA v3 hn3 H.size) rfl wm_2971 wm_9 wm_2969 wm_2970 3 (by decide +kernel) ⟨Nat.le_of_ble_eq_true rfl, Nat.le_of_ble_eq_true rfl⟩ rfl rfl (k_pre hN hK hP hD [] [0, 1, 2, 3] 4 rfl (by decide) rfl) rfl hl.1 rfl (Nat.le_of_ble_eq_true rfl) d_Mo_turn_144 ⟨Nat.le_of_ble_eq_true rfl, Nat.le_of_ble_eq_true rfl⟩) hP hD hS hA [] [0, 1, 2, 3] 4 rfl (by decide) rfl rfl (fun r9 u10 H locs hu10 hP hD hS => ?_)
    subst hu10
    have hP : va_P D classes (cat [[(qm 3, .inl (kA 0, 4, .inl (fun _ => 0)))], [(qm 2, .inl (kA 0, 66836, .inl all0))], [(a0, .inr (13, mF qm (va_up (va_up x0Mo 5 (nI (539 * (31 * j + 0)))) 49 (-1)) y0Mo))], [(qm 56, .inl (kA 0, 161, .inl (upd (f0) 0 0)))]]) H := hP
    have hD : va_D A (cat [[(qm 3, .inl (kA 0, 4, .inl (fun _ => 0)))], [(qm 2, .inl (kA 0, 66836, .inl all0))], [(a0, .inr (13, mF qm (va_up (va_up x0Mo 5 (nI (539 * (31 * j + 0)))) 49 (-1)) y0Mo))], [(qm 56, .inl (kA 0, 161, .inl (upd (f0) 0 0)))]]) := hD
    refine lv_if_eq (pc := 147) (tgt := 176) hx hb d_Mo_turn_147 (by decide) (fun c1 => ?_) (fun c1 => absurd (by decide) c1)
    refine lv_iconst (pc := 176) (v := -1) hx hb d_Mo_turn_176 (by decide) ?_
    refine W.widen (k := 0) (n := 0) (Nat.le_of_ble_eq_true rfl) (Nat.le_of_ble_eq_true rfl) ?_
    exact W.iret (v := (-1)) hx hb hr (fun t ht hW => ⟨⟨(-1), [[(qm 3, .inl (kA 0, 4, .inl (fun _ => 0)))], [(qm 2, .inl (kA 0, 66836, .inl all0))], [(a0, .inr (13, mF qm (va_up (va_up x0Mo 5 (nI (539 * (31 * j + 0)))) 49 (-1)) y0Mo))], [(qm 56, .inl (kA 0, 161, .inl (upd (f0) 0 0)))]], rfl, rfl, by rw [ht]; exact hP, va_K.moved hW.alike hK, hD⟩, hS.F ht⟩) hS.2.2 d_Mo_turn_177
  · refine lv_iconst (pc := 16) (v := -1) hx hb d_Mo_turn_16 (by decide) ?_
    refine W.widen (k := 0) (n := 0) (Nat.le_of_ble_eq_true rfl) (Nat.le_of_ble_eq_true rfl) ?_
    exact W.iret (v := (-1)) hx hb hr (fun t ht hW => ⟨⟨(-1), [[(a0, .inr (13, mF qm x0Mo y0Mo))], [(qm 3, .inl (kA 0, 4, .inl (fun _ => 0)))], [(qm 2, .inl (kA 0, 66836, .inl all0))], [(qm 56, .inl (kA 0, 161, .inl f0))]], rfl, rfl, by rw [ht]; exact hP, va_K.moved hW.alike hK, hD⟩, hS.F ht⟩) hS.2.2 d_Mo_turn_17
set_option maxRecDepth 100000 in
set_option maxHeartbeats 4000000 in
/-- turn, a fresh house -/
theorem lf_turn_3 {p : Program} {e : Env} {s : State} {m : MethodId} {below : List Frame} {meth : Method} {c : Code} (l : Launch) {b : Nat} {xs : Nat → Int32} (C0 : lw_At p s m meth c b 6 xs) {D : va_G} {kA : Nat → ClassId} (h : Nat) (h2 : Nat) (q : Nat → Nat) (qg : Nat → Nat) (qn : Nat → Nat) (qe : Nat → Nat) (qm : Nat → Nat) (g : Nat → Nat → Nat) (j : Nat) (v2 : Int32) (v3 : Int32) (v4 : Int32) (hj : j < 4) (hs2 : v2.toInt < 0 ∨ ((3 : Int) - 1 < v2.toInt)) (hn3 : ¬ v3 < 0) (hv1 : xs 1 = nI j) (hv2 : xs 2 = v2) (hv3 : xs 3 = v3) (hv4 : xs 4 = v4) {H : Heap} {locs : List Loc} {ls : Array Slot} (hK : va_K D classes (TY kA) s) (hN : nst s) (hP : va_P D classes (cat [[(h, .inr (12, [.ref (q 0), .ref (q 1), .ref (q 2), .ref (q 3), .ref (q 4), .ref (q 5), .ref (q 6), .int 0, .int ((-1)), .ref (q 9), .ref (q 10), .int 0, .int 0, .ref (q 13), .int 0, .int 0, .null, .null, .null, .null, .null]))], [(q 2, .inl (kA 6, 4, .inr (.inr (.inr (.inr (rr (g 2)))))))], [(g 2 j, .inr (5, [.int ((-1)), .int ((-1)), .int ((-1)), .int 0, .ref (qn 4), .int 0, .int 0, .ref (qn 7), .ref (qn 8), .ref (qn 9), .ref (qn 10), .ref (qn 11), .ref (qn 12), .int 0, .ref (qn 14), .ref (qn 15), .ref (qn 16)]))], [(q 0, .inl (kA 4, 4, .inr (.inr (.inr (.inr (rr (g 0)))))))], [(g 0 j, .inr (3, [.int 0, .int 0, .int 1, .ref (qg 3), .ref (qg 4), .ref (qg 5), .ref (qg 6), .ref (qg 7), .ref (qg 8), .ref (qg 9), .ref (qg 10), .ref (qg 11), .ref (qg 12), .ref (qg 13), .ref (qg 14), .ref (qg 15), .null, .int 0, .int 0]))], [(qn 9, .inl (kA 0, 25, .inl (fun _ => 0)))], [(qn 10, .inl (kA 0, 625, .inl (fun _ => 0)))], [(qn 12, .inl (kA 0, 25, .inl (fun _ => 0)))], [(q 5, .inr (1, [.null, .ref (qe 1), .ref (qe 2), .ref (qe 3), .ref (qe 4), .int 0, .int 0, .int 0, .ref (qe 8), .ref (qe 9), .ref (qe 10), .ref (qe 11), .ref (qe 12), .ref (qe 13), .ref (qe 14), .int 0, .int 0, .int 0, .int 0, .ref (qe 19)]))], [(qn 16, .inl (kA 0, 144, .inl (fun _ => 0)))], [(qn 14, .inl (kA 0, 145, .inl (fun _ => 0)))], [(h2, .inr (13, mF qm x0Mo y0Mo))], [(qm 3, .inl (kA 0, 4, .inl (fun _ => 0)))], [(qm 2, .inl (kA 0, 66836, .inl all0))], [(qm 56, .inl (kA 0, 161, .inl (fun _ => 0)))]]) H) (hD : va_D (fun q : Nat => s.heap.size ≤ q) (cat [[(h, .inr (12, [.ref (q 0), .ref (q 1), .ref (q 2), .ref (q 3), .ref (q 4), .ref (q 5), .ref (q 6), .int 0, .int ((-1)), .ref (q 9), .ref (q 10), .int 0, .int 0, .ref (q 13), .int 0, .int 0, .null, .null, .null, .null, .null]))], [(q 2, .inl (kA 6, 4, .inr (.inr (.inr (.inr (rr (g 2)))))))], [(g 2 j, .inr (5, [.int ((-1)), .int ((-1)), .int ((-1)), .int 0, .ref (qn 4), .int 0, .int 0, .ref (qn 7), .ref (qn 8), .ref (qn 9), .ref (qn 10), .ref (qn 11), .ref (qn 12), .int 0, .ref (qn 14), .ref (qn 15), .ref (qn 16)]))], [(q 0, .inl (kA 4, 4, .inr (.inr (.inr (.inr (rr (g 0)))))))], [(g 0 j, .inr (3, [.int 0, .int 0, .int 1, .ref (qg 3), .ref (qg 4), .ref (qg 5), .ref (qg 6), .ref (qg 7), .ref (qg 8), .ref (qg 9), .ref (qg 10), .ref (qg 11), .ref (qg 12), .ref (qg 13), .ref (qg 14), .ref (qg 15), .null, .int 0, .int 0]))], [(qn 9, .inl (kA 0, 25, .inl (fun _ => 0)))], [(qn 10, .inl (kA 0, 625, .inl (fun _ => 0)))], [(qn 12, .inl (kA 0, 25, .inl (fun _ => 0)))], [(q 5, .inr (1, [.null, .ref (qe 1), .ref (qe 2), .ref (qe 3), .ref (qe 4), .int 0, .int 0, .int 0, .ref (qe 8), .ref (qe 9), .ref (qe 10), .ref (qe 11), .ref (qe 12), .ref (qe 13), .ref (qe 14), .int 0, .int 0, .int 0, .int 0, .ref (qe 19)]))], [(qn 16, .inl (kA 0, 144, .inl (fun _ => 0)))], [(qn 14, .inl (kA 0, 145, .inl (fun _ => 0)))], [(h2, .inr (13, mF qm x0Mo y0Mo))], [(qm 3, .inl (kA 0, 4, .inl (fun _ => 0)))], [(qm 2, .inl (kA 0, 66836, .inl all0))], [(qm 56, .inl (kA 0, 161, .inl (fun _ => 0)))]])) (hS : va_S (fun q : Nat => s.heap.size ≤ q) s.heap H locs) (hl : lv_has ls 4 [(3, .int 0), (2, .ref h2), (1, .ref h), (0, .ref b)]) : W p l e room_1 s m #[Value.ref b] below meth c H locs 368 365796 (lw_Z below #[Value.ref b] s) (F0 m 712 ls []) := by
  obtain ⟨hx, hb, hr, hml, hown, hts0, hX, hbl, hlocks, hgv⟩ := id C0
  have hts : ∀ w ∈ lw_g, w.before #[Value.ref b] s = true := fun w h => hts0 w (lw_gt h)
  have X : cx p s m #[Value.ref b] meth c b_law_law 4 ret "DrawingHouseLaw" meth.name := ⟨hx, hb, hml, hown, hts, hr, hlocks, rfl⟩
  obtain ⟨A, hAe⟩ : ∃ A : Nat → Prop, A = fun q : Nat => s.heap.size ≤ q := ⟨_, rfl⟩
  have hA : ∀ q : Nat, s.heap.size ≤ q → A q := fun q h => by rw [hAe]; exact h
  have hbA : ¬ A b := by rw [hAe]; exact Nat.not_le.mpr hbl
  rw [← hAe] at hD hS
  refine lv_aload_n (pc := 712) hx hb d_law_law_712 rfl (lv_at hl 2 rfl) ?_
  refine lv_aload_n (pc := 713) hx hb d_law_law_713 rfl (lv_at hl 3 rfl) ?_
  refine lv_iload_n (pc := 714) hx hb d_law_law_714 rfl (lv_at hl 0 rfl) ?_
  refine lv_iconst (pc := 715) (v := 1) hx hb d_law_law_715 (by decide) ?_
  refine lv_iadd (pc := 716) hx hb d_law_law_716 ?_
  refine k_cst (v := 1) (by decide) ?_
  refine va_sld (pc := 717) hx hb hX hbl hbA hS (by unfold vp_in; decide) d_law_law_717 ?_
  refine k_cst (v := nI j) hv1 ?_
  refine lv_aload_n (pc := 718) hx hb d_law_law_718 rfl (lv_at hl 3 rfl) ?_
  refine lv_iload_n (pc := 719) hx hb d_law_law_719 rfl (lv_at hl 0 rfl) ?_
  refine lv_iconst (pc := 720) (v := 2) hx hb d_law_law_720 (by decide) ?_
  refine lv_iadd (pc := 721) hx hb d_law_law_721 ?_
  refine k_cst (v := 2) (by decide) ?_
  refine va_sld (pc := 722) hx hb hX hbl hbA hS (by unfold vp_in; decide) d_law_law_722 ?_
  refine k_cst (v := v2) hv2 ?_
  refine lv_aload_n (pc := 723) hx hb d_law_law_723 rfl (lv_at hl 3 rfl) ?_
  refine lv_iload_n (pc := 724) hx hb d_law_law_724 rfl (lv_at hl 0 rfl) ?_
  refine lv_iconst (pc := 725) (v := 3) hx hb d_law_law_725 (by decide) ?_
  refine lv_iadd (pc := 726) hx hb d_law_law_726 ?_
  refine k_cst (v := 3) (by decide) ?_
  refine va_sld (pc := 727) hx hb hX hbl hbA hS (by unfold vp_in; decide) d_law_law_727 ?_
  refine k_cst (v := v3) hv3 ?_
  refine lv_aload_n (pc := 728) hx hb d_law_law_728 rfl (lv_at hl 3 rfl) ?_
  refine lv_iload_n (pc := 729) hx hb d_law_law_729 rfl (lv_at hl 0 rfl) ?_
  refine lv_iconst (pc := 730) (v := 4) hx hb d_law_law_730 (by decide) ?_
  refine lv_iadd (pc := 731) hx hb d_law_law_731 ?_
  refine k_cst (v := 4) (by decide) ?_
  refine va_sld (pc := 732) hx hb hX hbl hbA hS (by unfold vp_in; decide) d_law_law_732 ?_
  refine k_cst (v := v4) hv4 ?_
  refine k_goI (gr := [[(h2, .inr (13, mF qm x0Mo y0Mo))], [(qm 3, .inl (kA 0, 4, .inl (fun _ => 0)))], [(qm 2, .inl (kA 0, 66836, .inl all0))], [(qm 56, .inl (kA 0, 161, .inl (fun _ => 0)))]]) (k_rV (pc := 733) (As := [.int (nI j), .int v2, .int v3, .int v4]) (rest := []) X (c_Ho_turn_z3 l D kA h j v2 v3 v4 (q 0) (q 1) (q 2) (q 3) (q 4) (q 5) (q 6) (q 9) (q 10) (q 13) g (qn 4) (qn 7) (qn 8) (qn 9) (qn 10) (qn 11) (qn 12) (qn 14) (qn 15) (qn 16) (qg 3) (qg 4) (qg 5) (qg 6) (qg 7) (qg 8) (qg 9) (qg 10) (qg 11) (qg 12) (qg 13) (qg 14) (qg 15) (fun _ => 0) (fun _ => 0) (fun _ => 0) (qe 1) (qe 2) (qe 3) (qe 4) (qe 8) (qe 9) (qe 10) (qe 11) (qe 12) (qe 13) (qe 14) (qe 19) (fun _ => 0) (fun _ => 0) hj hs2 hn3 H.size) rfl wm_1172 wm_1 wm_1169 wm_1170 wm_1171 4 (by decide +kernel) ⟨Nat.le_of_ble_eq_true rfl, Nat.le_of_ble_eq_true rfl⟩ rfl rfl (va_recv hK hP (ci := 12) (q0 := 0) rfl rfl) (k_pre hN hK hP hD [0, 1, 2, 3, 4, 5, 6, 7, 8, 9, 10] [11, 12, 13, 14] 15 rfl (by decide) rfl) rfl hl.1 rfl (Nat.le_of_ble_eq_true rfl) d_law_law_733 ⟨Nat.le_of_ble_eq_true rfl, Nat.le_of_ble_eq_true rfl⟩) hP hD hS hA [0, 1, 2, 3, 4, 5, 6, 7, 8, 9, 10] [11, 12, 13, 14] 15 rfl (by decide) rfl rfl (fun r1 u2 H locs hu2 hP hD hS => ?_)
  obtain ⟨hP, hD⟩ := k_left hP hD
  subst hu2
  have hP : va_P D classes (cat [[(h2, .inr (13, mF qm x0Mo y0Mo))], [(qm 3, .inl (kA 0, 4, .inl (fun _ => 0)))], [(qm 2, .inl (kA 0, 66836, .inl all0))], [(qm 56, .inl (kA 0, 161, .inl (fun _ => 0)))]]) H := hP
  have hD : va_D A (cat [[(h2, .inr (13, mF qm x0Mo y0Mo))], [(qm 3, .inl (kA 0, 4, .inl (fun _ => 0)))], [(qm 2, .inl (kA 0, 66836, .inl all0))], [(qm 56, .inl (kA 0, 161, .inl (fun _ => 0)))]]) := hD
  refine lv_aload_n (pc := 736) hx hb d_law_law_736 rfl (lv_at hl 1 rfl) ?_
  refine lv_aload_n (pc := 737) hx hb d_law_law_737 rfl (lv_at hl 3 rfl) ?_
  refine lv_iload_n (pc := 738) hx hb d_law_law_738 rfl (lv_at hl 0 rfl) ?_
  refine lv_iconst (pc := 739) (v := 1) hx hb d_law_law_739 (by decide) ?_
  refine lv_iadd (pc := 740) hx hb d_law_law_740 ?_
  refine k_cst (v := 1) (by decide) ?_
  refine va_sld (pc := 741) hx hb hX hbl hbA hS (by unfold vp_in; decide) d_law_law_741 ?_
  refine k_cst (v := nI j) hv1 ?_
  refine lv_aload_n (pc := 742) hx hb d_law_law_742 rfl (lv_at hl 3 rfl) ?_
  refine lv_iload_n (pc := 743) hx hb d_law_law_743 rfl (lv_at hl 0 rfl) ?_
  refine lv_iconst (pc := 744) (v := 2) hx hb d_law_law_744 (by decide) ?_
  refine lv_iadd (pc := 745) hx hb d_law_law_745 ?_
  refine k_cst (v := 2) (by decide) ?_
  refine va_sld (pc := 746) hx hb hX hbl hbA hS (by unfold vp_in; decide) d_law_law_746 ?_
  refine k_cst (v := v2) hv2 ?_
  refine lv_aload_n (pc := 747) hx hb d_law_law_747 rfl (lv_at hl 3 rfl) ?_
  refine lv_iload_n (pc := 748) hx hb d_law_law_748 rfl (lv_at hl 0 rfl) ?_
  refine lv_iconst (pc := 749) (v := 3) hx hb d_law_law_749 (by decide) ?_
  refine lv_iadd (pc := 750) hx hb d_law_law_750 ?_
  refine k_cst (v := 3) (by decide) ?_
  refine va_sld (pc := 751) hx hb hX hbl hbA hS (by unfold vp_in; decide) d_law_law_751 ?_
  refine k_cst (v := v3) hv3 ?_
  refine lv_aload_n (pc := 752) hx hb d_law_law_752 rfl (lv_at hl 3 rfl) ?_
  refine lv_iload_n (pc := 753) hx hb d_law_law_753 rfl (lv_at hl 0 rfl) ?_
  refine lv_iconst (pc := 754) (v := 4) hx hb d_law_law_754 (by decide) ?_
  refine lv_iadd (pc := 755) hx hb d_law_law_755 ?_
  refine k_cst (v := 4) (by decide) ?_
  refine va_sld (pc := 756) hx hb hX hbl hbA hS (by unfold vp_in; decide) d_law_law_756 ?_
  refine k_cst (v := v4) hv4 ?_
  refine k_goI (gr := []) (k_rV (pc := 757) (As := [.int (nI j), .int v2, .int v3, .int v4]) (rest := [.int ((-1))]) X (c_Mo_turn_z3 l D kA h2 j v2 v3 v4 qm (fun _ => 0) hj hs2 hn3 H.size) rfl wm_3271 wm_9 wm_3268 wm_3269 wm_3270 4 (by decide +kernel) ⟨Nat.le_of_ble_eq_true rfl, Nat.le_of_ble_eq_true rfl⟩ rfl rfl (va_recv hK hP (ci := 13) (q0 := 0) rfl rfl) (k_pre hN hK hP hD [0, 1, 2, 3] [] 4 rfl (by decide) rfl) rfl hl.1 rfl (Nat.le_of_ble_eq_true rfl) d_law_law_757 ⟨Nat.le_of_ble_eq_true rfl, Nat.le_of_ble_eq_true rfl⟩) hP hD hS hA [0, 1, 2, 3] [] 4 rfl (by decide) rfl rfl (fun r3 u4 H locs hu4 hP hD hS => ?_)
  obtain ⟨hP, hD⟩ := k_left hP hD
  subst hu4
  have hP : va_P D classes (cat []) H := hP
  have hD : va_D A (cat []) := hD
  refine lv_icmp_eq (pc := 760) (tgt := 1295) hx hb d_law_law_760 (by decide) (fun _ => ?_) (fun c1 => absurd (by decide) c1)
  rw [hAe] at hS
  exact law_exit l C0 (Nat.le_of_ble_eq_true rfl) (Nat.le_of_ble_eq_true rfl) hS hl
set_option maxRecDepth 100000 in
set_option maxHeartbeats 4000000 in
/-- DrawingHouse.turn(IIII)I -/
theorem c_Ho_turn_z4 (l : Launch) (D : va_G) (kA : Nat → ClassId) (a0 : Nat) (j : Nat) (v3 : Int32) (v4 : Int32) (hj : j < 4) (hn3 : v3 < 0) : Ci l y_Ho_turn z_Ho_turn { frames := 1, cells := 0, slots := 0, locals := 20 } D classes (TY kA) [.ref a0, .int (nI j), .int 0, .int v3, .int v4] [] (fun r (_ : List va_W) => r = (-1)) (fun u => u) 0 0 := by
  intro sz
  refine k_met (cc := b_Ho_turn) (maxL := 6) (ret := (some .int)) (by decide) rfl (Nat.le_of_ble_eq_true rfl) (fun p e s m below meth c ls X hl hB => ?_)
  obtain ⟨hsz, hP, hK, hD0, hN⟩ := hB
  subst hsz
  have hD := hD0.self (sz := s.heap.size)
  generalize hAe : va_A (cat []) s.heap.size = A at hD ⊢
  have hA : ∀ q : Nat, s.heap.size ≤ q → A q := fun q h => by rw [← hAe]; exact Or.inr h
  have hS : va_S A s.heap s.heap [] := va_S.rf
  obtain ⟨hx, hb, hml, hown, hts, hr, hlk, hnm⟩ := id X
  have hl : lv_has ls 6 [(0, .ref a0), (1, .int (nI j)), (2, .int 0), (3, .int v3), (4, .int v4)] := hl
  have hP : va_P D classes (cat []) s.heap := hP
  have hK : va_K D classes (TY kA) s := hK
  refine lv_iload_n (pc := 0) hx hb d_Ho_turn_0 rfl (lv_at hl 1 rfl) ?_
  refine k_goI (gr := []) (k_rS (pc := 1) (As := [.int (nI j)]) (rest := []) X (c_Ho_isPlace l D kA (nI j) s.heap.size) rfl wm_633 wm_1 wm_631 wm_632 1 (by decide +kernel) ⟨Nat.le_of_ble_eq_true rfl, Nat.le_of_ble_eq_true rfl⟩ rfl rfl (k_pre hN hK hP hD [] [] 0 rfl (by decide) rfl) rfl hl.1 rfl (Nat.le_of_ble_eq_true rfl) d_Ho_turn_1 ⟨Nat.le_of_ble_eq_true rfl, Nat.le_of_ble_eq_true rfl⟩) hP hD hS hA [] [] 0 rfl (by decide) rfl rfl (fun r1 u2 H locs hu2 hP hD hS => ?_)
  subst hu2
  refine k_cst (v := 1) (place_ok hj) ?_
  have hP : va_P D classes (cat []) H := hP
  have hD : va_D A (cat []) := hD
  refine lv_if_eq (pc := 4) (tgt := 11) hx hb d_Ho_turn_4 (by decide) (fun c1 => absurd c1 (by decide)) (fun c1 => ?_)
  refine lv_iload_n (pc := 7) hx hb d_Ho_turn_7 rfl (lv_at hl 3 rfl) ?_
  refine lv_if_ge (pc := 8) (tgt := 13) hx hb d_Ho_turn_8 (by decide) (fun c1 => absurd c1 (Int32.not_le.mpr hn3)) (fun c1 => ?_)
  refine lv_iconst (pc := 11) (v := -1) hx hb d_Ho_turn_11 (by decide) ?_
  refine W.widen (k := 0) (n := 0) (Nat.le_of_ble_eq_true rfl) (Nat.le_of_ble_eq_true rfl) ?_
  exact W.iret (v := (-1)) hx hb hr (fun t ht hW => ⟨⟨(-1), [], rfl, rfl, by rw [ht]; exact hP, va_K.moved hW.alike hK, hD⟩, hS.F ht⟩) hS.2.2 d_Ho_turn_12
set_option maxRecDepth 100000 in
set_option maxHeartbeats 4000000 in
/-- DrawingHouseModel.in(III)Z -/
theorem c_Mo_in_z28 (l : Launch) (D : va_G) (kA : Nat → ClassId) : Ci l y_Mo_in z_Mo_in { frames := 0, cells := 0, slots := 0, locals := 0 } D classes (TY kA) [.int 0, .int 0, .int 2] [] (fun r (_ : Unit) => r = 1) (fun u => []) 0 0 := by
  intro sz
  refine k_met (cc := b_Mo_in) (maxL := 3) (ret := (some .boolean)) (by decide) rfl (Nat.le_of_ble_eq_true rfl) (fun p e s m below meth c ls X hl hB => ?_)
  obtain ⟨hsz, hP, hK, hD0, hN⟩ := hB
  subst hsz
  have hD := hD0.self (sz := s.heap.size)
  generalize hAe : va_A (cat []) s.heap.size = A at hD ⊢
  have hA : ∀ q : Nat, s.heap.size ≤ q → A q := fun q h => by rw [← hAe]; exact Or.inr h
  have hS : va_S A s.heap s.heap [] := va_S.rf
  obtain ⟨hx, hb, hml, hown, hts, hr, hlk, hnm⟩ := id X
  have hl : lv_has ls 3 [(0, .int 0), (1, .int 0), (2, .int 2)] := hl
  have hP : va_P D classes (cat []) s.heap := hP
  have hK : va_K D classes (TY kA) s := hK
  refine lv_iload_n (pc := 0) hx hb d_Mo_in_0 rfl (lv_at hl 0 rfl) ?_
  refine lv_iload_n (pc := 1) hx hb d_Mo_in_1 rfl (lv_at hl 1 rfl) ?_
  refine lv_icmp_lt (pc := 2) (tgt := 14) hx hb d_Mo_in_2 (by decide) (fun c1 => absurd c1 (by decide)) (fun _ => ?_)
  refine lv_iload_n (pc := 5) hx hb d_Mo_in_5 rfl (lv_at hl 0 rfl) ?_
  refine lv_iload_n (pc := 6) hx hb d_Mo_in_6 rfl (lv_at hl 2 rfl) ?_
  refine lv_icmp_gt (pc := 7) (tgt := 14) hx hb d_Mo_in_7 (by decide) (fun c1 => absurd c1 (by decide)) (fun _ => ?_)
  refine lv_iconst (pc := 10) (v := 1) hx hb d_Mo_in_10 (by decide) ?_
  refine lv_goto (pc := 11) (tgt := 15) hx hb d_Mo_in_11 (by decide) ?_
  refine W.widen (k := 0) (n := 0) (Nat.le_of_ble_eq_true rfl) (Nat.le_of_ble_eq_true rfl) ?_
  exact W.zret (v := 1) hx hb hr rfl (fun t ht hW => ⟨⟨1, (), rfl, rfl, by rw [ht]; exact hP, va_K.moved hW.alike hK, hD⟩, hS.F ht⟩) hS.2.2 d_Mo_in_15
set_option maxRecDepth 100000 in
set_option maxHeartbeats 4000000 in
/-- DrawingHouseModel.turn(IIII)I -/
theorem c_Mo_turn_z4 (l : Launch) (D : va_G) (kA : Nat → ClassId) (a0 : Nat) (j : Nat) (v3 : Int32) (v4 : Int32) (qm : Nat → Nat) (hj : j < 4) (hn3 : v3 < 0) : Ci l y_Mo_turn z_Mo_turn { frames := 3, cells := 0, slots := 0, locals := 66 } D classes (TY kA) [.ref a0, .int (nI j), .int 0, .int v3, .int v4] [[(a0, .inr (13, mF qm x0Mo y0Mo))], [(qm 3, .inl (kA 0, 4, .inl (fun _ => 0)))], [(qm 2, .inl (kA 0, 66836, .inl all0))]] (fun r (_ : List va_W) => r = (-1)) (fun u => u) 0 0 := by
  intro sz
  refine k_met (cc := b_Mo_turn) (maxL := 6) (ret := (some .int)) (by decide) rfl (Nat.le_of_ble_eq_true rfl) (fun p e s m below meth c ls X hl hB => ?_)
  obtain ⟨hsz, hP, hK, hD0, hN⟩ := hB
  subst hsz
  have hD := hD0.self (sz := s.heap.size)
  generalize hAe : va_A (cat [[(a0, .inr (13, mF qm x0Mo y0Mo))], [(qm 3, .inl (kA 0, 4, .inl (fun _ => 0)))], [(qm 2, .inl (kA 0, 66836, .inl all0))]]) s.heap.size = A at hD ⊢
  have hA : ∀ q : Nat, s.heap.size ≤ q → A q := fun q h => by rw [← hAe]; exact Or.inr h
  have hS : va_S A s.heap s.heap [] := va_S.rf
  obtain ⟨hx, hb, hml, hown, hts, hr, hlk, hnm⟩ := id X
  have hl : lv_has ls 6 [(0, .ref a0), (1, .int (nI j)), (2, .int 0), (3, .int v3), (4, .int v4)] := hl
  have hP : va_P D classes (cat [[(a0, .inr (13, mF qm x0Mo y0Mo))], [(qm 3, .inl (kA 0, 4, .inl (fun _ => 0)))], [(qm 2, .inl (kA 0, 66836, .inl all0))]]) s.heap := hP
  have hK : va_K D classes (TY kA) s := hK
  refine lv_iload_n (pc := 0) hx hb d_Mo_turn_0 rfl (lv_at hl 1 rfl) ?_
  refine k_goI (gr := [[(a0, .inr (13, mF qm x0Mo y0Mo))], [(qm 3, .inl (kA 0, 4, .inl (fun _ => 0)))], [(qm 2, .inl (kA 0, 66836, .inl all0))]]) (k_rS (pc := 1) (As := [.int (nI j)]) (rest := []) X (c_Mo_isPlace l D kA (nI j) s.heap.size) rfl wm_2978 wm_9 wm_2976 wm_2977 1 (by decide +kernel) ⟨Nat.le_of_ble_eq_true rfl, Nat.le_of_ble_eq_true rfl⟩ rfl rfl (k_pre hN hK hP hD [] [0, 1, 2] 3 rfl (by decide) rfl) rfl hl.1 rfl (Nat.le_of_ble_eq_true rfl) d_Mo_turn_1 ⟨Nat.le_of_ble_eq_true rfl, Nat.le_of_ble_eq_true rfl⟩) hP hD hS hA [] [0, 1, 2] 3 rfl (by decide) rfl rfl (fun r1 u2 H locs hu2 hP hD hS => ?_)
  subst hu2
  refine k_cst (v := 1) (placeM_ok hj) ?_
  have hP : va_P D classes (cat [[(a0, .inr (13, mF qm x0Mo y0Mo))], [(qm 3, .inl (kA 0, 4, .inl (fun _ => 0)))], [(qm 2, .inl (kA 0, 66836, .inl all0))]]) H := hP
  have hD : va_D A (cat [[(a0, .inr (13, mF qm x0Mo y0Mo))], [(qm 3, .inl (kA 0, 4, .inl (fun _ => 0)))], [(qm 2, .inl (kA 0, 66836, .inl all0))]]) := hD
  refine lv_if_eq (pc := 4) (tgt := 16) hx hb d_Mo_turn_4 (by decide) (fun c1 => absurd c1 (by decide)) (fun c1 => ?_)
  refine lv_iload_n (pc := 7) hx hb d_Mo_turn_7 rfl (lv_at hl 2 rfl) ?_
  refine lv_iconst (pc := 8) (v := 0) hx hb d_Mo_turn_8 (by decide) ?_
  refine lv_iconst (pc := 9) (v := 2) hx hb d_Mo_turn_9 (by decide) ?_
  refine k_goI (gr := [[(a0, .inr (13, mF qm x0Mo y0Mo))], [(qm 3, .inl (kA 0, 4, .inl (fun _ => 0)))], [(qm 2, .inl (kA 0, 66836, .inl all0))]]) (k_rS (pc := 10) (As := [.int 0, .int 0, .int 2]) (rest := []) X (c_Mo_in_z28 l D kA  H.size) rfl wm_2971 wm_9 wm_2969 wm_2970 3 (by decide +kernel) ⟨Nat.le_of_ble_eq_true rfl, Nat.le_of_ble_eq_true rfl⟩ rfl rfl (k_pre hN hK hP hD [] [0, 1, 2] 3 rfl (by decide) rfl) rfl hl.1 rfl (Nat.le_of_ble_eq_true rfl) d_Mo_turn_10 ⟨Nat.le_of_ble_eq_true rfl, Nat.le_of_ble_eq_true rfl⟩) hP hD hS hA [] [0, 1, 2] 3 rfl (by decide) rfl rfl (fun r3 u4 H locs hu4 hP hD hS => ?_)
  subst hu4
  have hP : va_P D classes (cat [[(a0, .inr (13, mF qm x0Mo y0Mo))], [(qm 3, .inl (kA 0, 4, .inl (fun _ => 0)))], [(qm 2, .inl (kA 0, 66836, .inl all0))]]) H := hP
  have hD : va_D A (cat [[(a0, .inr (13, mF qm x0Mo y0Mo))], [(qm 3, .inl (kA 0, 4, .inl (fun _ => 0)))], [(qm 2, .inl (kA 0, 66836, .inl all0))]]) := hD
  refine lv_if_ne (pc := 13) (tgt := 18) hx hb d_Mo_turn_13 (by decide) (fun c1 => ?_) (fun c1 => absurd c1 (by decide))
  refine lv_aload_n (pc := 18) hx hb d_Mo_turn_18 rfl (lv_at hl 0 rfl) ?_
  refine lv_iload_n (pc := 19) hx hb d_Mo_turn_19 rfl (lv_at hl 1 rfl) ?_
  refine k_goV (gr := [[(qm 2, .inl (kA 0, 66836, .inl all0))]]) (k_rV (pc := 20) (As := [.int (nI j)]) (rest := []) X (c_Mo_take_z1 l D kA a0 j qm hj H.size) rfl wm_3091 wm_9 wm_3088 wm_3090 wv_14_2 1 (by decide +kernel) ⟨Nat.le_of_ble_eq_true rfl, Nat.le_of_ble_eq_true rfl⟩ rfl rfl (va_recv hK hP (ci := 13) (q0 := 0) rfl rfl) (k_pre hN hK hP hD [0, 1] [2] 3 rfl (by decide) rfl) rfl hl.1 rfl (Nat.le_of_ble_eq_true rfl) d_Mo_turn_20 ⟨Nat.le_of_ble_eq_true rfl, Nat.le_of_ble_eq_true rfl⟩) hP hD hS hA [0, 1] [2] 3 rfl (by decide) rfl rfl (fun u5 H locs hu5 hP hD hS => ?_)
  have hP : va_P D classes (cat [[(qm 2, .inl (kA 0, 66836, .inl all0))], [(a0, .inr (13, mF qm (va_up x0Mo 5 (nI (539 * (31 * j + 0)))) y0Mo))], [(qm 3, .inl (kA 0, 4, .inl (fun _ => 0)))]]) H := hP
  have hD : va_D A (cat [[(qm 2, .inl (kA 0, 66836, .inl all0))], [(a0, .inr (13, mF qm (va_up x0Mo 5 (nI (539 * (31 * j + 0)))) y0Mo))], [(qm 3, .inl (kA 0, 4, .inl (fun _ => 0)))]]) := hD
  refine lv_aload_n (pc := 23) hx hb d_Mo_turn_23 rfl (lv_at hl 0 rfl) ?_
  refine k_goI (gr := [[(qm 3, .inl (kA 0, 4, .inl (fun _ => 0)))]]) (k_rV (pc := 24) (As := []) (rest := []) X (c_Mo_isPlanar_z1 l D kA a0 qm j hj H.size) rfl wm_3251 wm_9 wm_3248 wm_3250 wv_16_5 0 (by decide +kernel) ⟨Nat.le_of_ble_eq_true rfl, Nat.le_of_ble_eq_true rfl⟩ rfl rfl (va_recv hK hP (ci := 13) (q0 := 1) rfl rfl) (k_pre hN hK hP hD [1, 0] [2] 3 rfl (by decide) rfl) rfl hl.1 rfl (Nat.le_of_ble_eq_true rfl) d_Mo_turn_24 ⟨Nat.le_of_ble_eq_true rfl, Nat.le_of_ble_eq_true rfl⟩) hP hD hS hA [1, 0] [2] 3 rfl (by decide) rfl rfl (fun r6 u7 H locs hu7 hP hD hS => ?_)
  subst hu7
  have hP : va_P D classes (cat [[(qm 3, .inl (kA 0, 4, .inl (fun _ => 0)))], [(a0, .inr (13, mF qm (va_up (va_up x0Mo 5 (nI (539 * (31 * j + 0)))) 49 (-1)) y0Mo))], [(qm 2, .inl (kA 0, 66836, .inl all0))]]) H := hP
  have hD : va_D A (cat [[(qm 3, .inl (kA 0, 4, .inl (fun _ => 0)))], [(a0, .inr (13, mF qm (va_up (va_up x0Mo 5 (nI (539 * (31 * j + 0)))) 49 (-1)) y0Mo))], [(qm 2, .inl (kA 0, 66836, .inl all0))]]) := hD
  refine lv_istore (pc := 27) (lv' := [(5, .int 1), (0, .ref a0), (1, .int (nI j)), (2, .int 0), (3, .int v3), (4, .int v4)]) hx hb d_Mo_turn_27 hl (by decide) rfl (fun ls hl => ?_)
  refine lv_iload (pc := 29) hx hb d_Mo_turn_29 (lv_at hl 0 rfl) ?_
  refine lv_iload_n (pc := 31) hx hb d_Mo_turn_31 rfl (lv_at hl 3 rfl) ?_
  refine lv_iconst (pc := 32) (v := 2) hx hb d_Mo_turn_32 (by decide) ?_
  refine lv_icmp_ne (pc := 33) (tgt := 40) hx hb d_Mo_turn_33 (by decide) (fun _ => ?_) (fun c1 => absurd c1 (by decide))
  refine lv_iconst (pc := 40) (v := 0) hx hb d_Mo_turn_40 (by decide) ?_
  refine lv_icmp_ne (pc := 41) (tgt := 46) hx hb d_Mo_turn_41 (by decide) (fun _ => ?_) (fun c1 => absurd c1 (by decide))
  refine lv_iload_n (pc := 46) hx hb d_Mo_turn_46 rfl (lv_at hl 3 rfl) ?_
  refine lv_iconst (pc := 47) (v := 2) hx hb d_Mo_turn_47 (by decide) ?_
  refine lv_icmp_ne (pc := 48) (tgt := 80) hx hb d_Mo_turn_48 (by decide) (fun _ => ?_) (fun c1 => absurd c1 (by decide))
  refine lv_iload_n (pc := 80) hx hb d_Mo_turn_80 rfl (lv_at hl 3 rfl) ?_
  refine lv_if_ne (pc := 81) (tgt := 132) hx hb d_Mo_turn_81 (by decide) (fun c1 => absurd (by decide) c1) (fun c1 => ?_)
  refine lv_iload_n (pc := 84) hx hb d_Mo_turn_84 rfl (lv_at hl 4 rfl) ?_
  refine lv_iconst (pc := 85) (v := 0) hx hb d_Mo_turn_85 (by decide) ?_
  refine lv_aload_n (pc := 86) hx hb d_Mo_turn_86 rfl (lv_at hl 1 rfl) ?_
  refine k_get (pc := 87) (v := .int 0) X hK hP 1 rfl rfl i_Mo 31 (by decide) wm_2464 rfl rfl d_Mo_turn_87 ?_
  refine lv_iconst (pc := 90) (v := 1) hx hb d_Mo_turn_90 (by decide) ?_
  refine lv_isub (pc := 91) hx hb d_Mo_turn_91 ?_
  refine k_cst (v := (-1)) (by decide) ?_
  refine k_goI (gr := [[(qm 3, .inl (kA 0, 4, .inl (fun _ => 0)))], [(a0, .inr (13, mF qm (va_up (va_up x0Mo 5 (nI (539 * (31 * j + 0)))) 49 (-1)) y0Mo))], [(qm 2, .inl (kA 0, 66836, .inl all0))]]) (k_rS (pc := 92) (As := [.int v3, .int 0, .int ((-1))]) (rest := []) X (c_Mo_in_z15 l D kA v3 hn3 H.size) rfl wm_2971 wm_9 wm_2969 wm_2970 3 (by decide +kernel) ⟨Nat.le_of_ble_eq_true rfl, Nat.le_of_ble_eq_true rfl⟩ rfl rfl (k_pre hN hK hP hD [] [0, 1, 2] 3 rfl (by decide) rfl) rfl hl.1 rfl (Nat.le_of_ble_eq_true rfl) d_Mo_turn_92 ⟨Nat.le_of_ble_eq_true rfl, Nat.le_of_ble_eq_true rfl⟩) hP hD hS hA [] [0, 1, 2] 3 rfl (by decide) rfl rfl (fun r8 u9 H locs hu9 hP hD hS => ?_)
  subst hu9
  have hP : va_P D classes (cat [[(qm 3, .inl (kA 0, 4, .inl (fun _ => 0)))], [(a0, .inr (13, mF qm (va_up (va_up x0Mo 5 (nI (539 * (31 * j + 0)))) 49 (-1)) y0Mo))], [(qm 2, .inl (kA 0, 66836, .inl all0))]]) H := hP
  have hD : va_D A (cat [[(qm 3, .inl (kA 0, 4, .inl (fun _ => 0)))], [(a0, .inr (13, mF qm (va_up (va_up x0Mo 5 (nI (539 * (31 * j + 0)))) 49 (-1)) y0Mo))], [(qm 2, .inl (kA 0, 66836, .inl all0))]]) := hD
  refine lv_if_eq (pc := 95) (tgt := 130) hx hb d_Mo_turn_95 (by decide) (fun c1 => ?_) (fun c1 => absurd (by decide) c1)
  refine lv_iconst (pc := 130) (v := -1) hx hb d_Mo_turn_130 (by decide) ?_
  refine W.widen (k := 0) (n := 0) (Nat.le_of_ble_eq_true rfl) (Nat.le_of_ble_eq_true rfl) ?_
  exact W.iret (v := (-1)) hx hb hr (fun t ht hW => ⟨⟨(-1), [[(qm 3, .inl (kA 0, 4, .inl (fun _ => 0)))], [(a0, .inr (13, mF qm (va_up (va_up x0Mo 5 (nI (539 * (31 * j + 0)))) 49 (-1)) y0Mo))], [(qm 2, .inl (kA 0, 66836, .inl all0))]], rfl, rfl, by rw [ht]; exact hP, va_K.moved hW.alike hK, hD⟩, hS.F ht⟩) hS.2.2 d_Mo_turn_131
set_option maxRecDepth 100000 in
set_option maxHeartbeats 4000000 in
/-- turn, a fresh house -/
theorem lf_turn_4 {p : Program} {e : Env} {s : State} {m : MethodId} {below : List Frame} {meth : Method} {c : Code} (l : Launch) {b : Nat} {xs : Nat → Int32} (C0 : lw_At p s m meth c b 6 xs) {D : va_G} {kA : Nat → ClassId} (h : Nat) (h2 : Nat) (q : Nat → Nat) (qm : Nat → Nat) (j : Nat) (v3 : Int32) (v4 : Int32) (hj : j < 4) (hn3 : v3 < 0) (hv1 : xs 1 = nI j) (hv2 : xs 2 = 0) (hv3 : xs 3 = v3) (hv4 : xs 4 = v4) {H : Heap} {locs : List Loc} {ls : Array Slot} (hK : va_K D classes (TY kA) s) (hN : nst s) (hP : va_P D classes (cat [[(h, .inr (12, [.ref (q 0), .ref (q 1), .ref (q 2), .ref (q 3), .ref (q 4), .ref (q 5), .ref (q 6), .int 0, .int ((-1)), .ref (q 9), .ref (q 10), .int 0, .int 0, .ref (q 13), .int 0, .int 0, .null, .null, .null, .null, .null]))], [(h2, .inr (13, mF qm x0Mo y0Mo))], [(qm 3, .inl (kA 0, 4, .inl (fun _ => 0)))], [(qm 2, .inl (kA 0, 66836, .inl all0))]]) H) (hD : va_D (fun q : Nat => s.heap.size ≤ q) (cat [[(h, .inr (12, [.ref (q 0), .ref (q 1), .ref (q 2), .ref (q 3), .ref (q 4), .ref (q 5), .ref (q 6), .int 0, .int ((-1)), .ref (q 9), .ref (q 10), .int 0, .int 0, .ref (q 13), .int 0, .int 0, .null, .null, .null, .null, .null]))], [(h2, .inr (13, mF qm x0Mo y0Mo))], [(qm 3, .inl (kA 0, 4, .inl (fun _ => 0)))], [(qm 2, .inl (kA 0, 66836, .inl all0))]])) (hS : va_S (fun q : Nat => s.heap.size ≤ q) s.heap H locs) (hl : lv_has ls 4 [(3, .int 0), (2, .ref h2), (1, .ref h), (0, .ref b)]) : W p l e room_1 s m #[Value.ref b] below meth c H locs 368 365796 (lw_Z below #[Value.ref b] s) (F0 m 712 ls []) := by
  obtain ⟨hx, hb, hr, hml, hown, hts0, hX, hbl, hlocks, hgv⟩ := id C0
  have hts : ∀ w ∈ lw_g, w.before #[Value.ref b] s = true := fun w h => hts0 w (lw_gt h)
  have X : cx p s m #[Value.ref b] meth c b_law_law 4 ret "DrawingHouseLaw" meth.name := ⟨hx, hb, hml, hown, hts, hr, hlocks, rfl⟩
  obtain ⟨A, hAe⟩ : ∃ A : Nat → Prop, A = fun q : Nat => s.heap.size ≤ q := ⟨_, rfl⟩
  have hA : ∀ q : Nat, s.heap.size ≤ q → A q := fun q h => by rw [hAe]; exact h
  have hbA : ¬ A b := by rw [hAe]; exact Nat.not_le.mpr hbl
  rw [← hAe] at hD hS
  refine lv_aload_n (pc := 712) hx hb d_law_law_712 rfl (lv_at hl 2 rfl) ?_
  refine lv_aload_n (pc := 713) hx hb d_law_law_713 rfl (lv_at hl 3 rfl) ?_
  refine lv_iload_n (pc := 714) hx hb d_law_law_714 rfl (lv_at hl 0 rfl) ?_
  refine lv_iconst (pc := 715) (v := 1) hx hb d_law_law_715 (by decide) ?_
  refine lv_iadd (pc := 716) hx hb d_law_law_716 ?_
  refine k_cst (v := 1) (by decide) ?_
  refine va_sld (pc := 717) hx hb hX hbl hbA hS (by unfold vp_in; decide) d_law_law_717 ?_
  refine k_cst (v := nI j) hv1 ?_
  refine lv_aload_n (pc := 718) hx hb d_law_law_718 rfl (lv_at hl 3 rfl) ?_
  refine lv_iload_n (pc := 719) hx hb d_law_law_719 rfl (lv_at hl 0 rfl) ?_
  refine lv_iconst (pc := 720) (v := 2) hx hb d_law_law_720 (by decide) ?_
  refine lv_iadd (pc := 721) hx hb d_law_law_721 ?_
  refine k_cst (v := 2) (by decide) ?_
  refine va_sld (pc := 722) hx hb hX hbl hbA hS (by unfold vp_in; decide) d_law_law_722 ?_
  refine k_cst (v := 0) hv2 ?_
  refine lv_aload_n (pc := 723) hx hb d_law_law_723 rfl (lv_at hl 3 rfl) ?_
  refine lv_iload_n (pc := 724) hx hb d_law_law_724 rfl (lv_at hl 0 rfl) ?_
  refine lv_iconst (pc := 725) (v := 3) hx hb d_law_law_725 (by decide) ?_
  refine lv_iadd (pc := 726) hx hb d_law_law_726 ?_
  refine k_cst (v := 3) (by decide) ?_
  refine va_sld (pc := 727) hx hb hX hbl hbA hS (by unfold vp_in; decide) d_law_law_727 ?_
  refine k_cst (v := v3) hv3 ?_
  refine lv_aload_n (pc := 728) hx hb d_law_law_728 rfl (lv_at hl 3 rfl) ?_
  refine lv_iload_n (pc := 729) hx hb d_law_law_729 rfl (lv_at hl 0 rfl) ?_
  refine lv_iconst (pc := 730) (v := 4) hx hb d_law_law_730 (by decide) ?_
  refine lv_iadd (pc := 731) hx hb d_law_law_731 ?_
  refine k_cst (v := 4) (by decide) ?_
  refine va_sld (pc := 732) hx hb hX hbl hbA hS (by unfold vp_in; decide) d_law_law_732 ?_
  refine k_cst (v := v4) hv4 ?_
  refine k_goI (gr := [[(h, .inr (12, [.ref (q 0), .ref (q 1), .ref (q 2), .ref (q 3), .ref (q 4), .ref (q 5), .ref (q 6), .int 0, .int ((-1)), .ref (q 9), .ref (q 10), .int 0, .int 0, .ref (q 13), .int 0, .int 0, .null, .null, .null, .null, .null]))], [(h2, .inr (13, mF qm x0Mo y0Mo))], [(qm 3, .inl (kA 0, 4, .inl (fun _ => 0)))], [(qm 2, .inl (kA 0, 66836, .inl all0))]]) (k_rV (pc := 733) (As := [.int (nI j), .int 0, .int v3, .int v4]) (rest := []) X (c_Ho_turn_z4 l D kA h j v3 v4 hj hn3 H.size) rfl wm_1172 wm_1 wm_1169 wm_1170 wm_1171 4 (by decide +kernel) ⟨Nat.le_of_ble_eq_true rfl, Nat.le_of_ble_eq_true rfl⟩ rfl rfl (va_recv hK hP (ci := 12) (q0 := 0) rfl rfl) (k_pre hN hK hP hD [] [0, 1, 2, 3] 4 rfl (by decide) rfl) rfl hl.1 rfl (Nat.le_of_ble_eq_true rfl) d_law_law_733 ⟨Nat.le_of_ble_eq_true rfl, Nat.le_of_ble_eq_true rfl⟩) hP hD hS hA [] [0, 1, 2, 3] 4 rfl (by decide) rfl rfl (fun r1 u2 H locs hu2 hP hD hS => ?_)
  obtain ⟨hP, hD⟩ := k_left hP hD
  subst hu2
  have hP : va_P D classes (cat [[(h, .inr (12, [.ref (q 0), .ref (q 1), .ref (q 2), .ref (q 3), .ref (q 4), .ref (q 5), .ref (q 6), .int 0, .int ((-1)), .ref (q 9), .ref (q 10), .int 0, .int 0, .ref (q 13), .int 0, .int 0, .null, .null, .null, .null, .null]))], [(h2, .inr (13, mF qm x0Mo y0Mo))], [(qm 3, .inl (kA 0, 4, .inl (fun _ => 0)))], [(qm 2, .inl (kA 0, 66836, .inl all0))]]) H := hP
  have hD : va_D A (cat [[(h, .inr (12, [.ref (q 0), .ref (q 1), .ref (q 2), .ref (q 3), .ref (q 4), .ref (q 5), .ref (q 6), .int 0, .int ((-1)), .ref (q 9), .ref (q 10), .int 0, .int 0, .ref (q 13), .int 0, .int 0, .null, .null, .null, .null, .null]))], [(h2, .inr (13, mF qm x0Mo y0Mo))], [(qm 3, .inl (kA 0, 4, .inl (fun _ => 0)))], [(qm 2, .inl (kA 0, 66836, .inl all0))]]) := hD
  refine lv_aload_n (pc := 736) hx hb d_law_law_736 rfl (lv_at hl 1 rfl) ?_
  refine lv_aload_n (pc := 737) hx hb d_law_law_737 rfl (lv_at hl 3 rfl) ?_
  refine lv_iload_n (pc := 738) hx hb d_law_law_738 rfl (lv_at hl 0 rfl) ?_
  refine lv_iconst (pc := 739) (v := 1) hx hb d_law_law_739 (by decide) ?_
  refine lv_iadd (pc := 740) hx hb d_law_law_740 ?_
  refine k_cst (v := 1) (by decide) ?_
  refine va_sld (pc := 741) hx hb hX hbl hbA hS (by unfold vp_in; decide) d_law_law_741 ?_
  refine k_cst (v := nI j) hv1 ?_
  refine lv_aload_n (pc := 742) hx hb d_law_law_742 rfl (lv_at hl 3 rfl) ?_
  refine lv_iload_n (pc := 743) hx hb d_law_law_743 rfl (lv_at hl 0 rfl) ?_
  refine lv_iconst (pc := 744) (v := 2) hx hb d_law_law_744 (by decide) ?_
  refine lv_iadd (pc := 745) hx hb d_law_law_745 ?_
  refine k_cst (v := 2) (by decide) ?_
  refine va_sld (pc := 746) hx hb hX hbl hbA hS (by unfold vp_in; decide) d_law_law_746 ?_
  refine k_cst (v := 0) hv2 ?_
  refine lv_aload_n (pc := 747) hx hb d_law_law_747 rfl (lv_at hl 3 rfl) ?_
  refine lv_iload_n (pc := 748) hx hb d_law_law_748 rfl (lv_at hl 0 rfl) ?_
  refine lv_iconst (pc := 749) (v := 3) hx hb d_law_law_749 (by decide) ?_
  refine lv_iadd (pc := 750) hx hb d_law_law_750 ?_
  refine k_cst (v := 3) (by decide) ?_
  refine va_sld (pc := 751) hx hb hX hbl hbA hS (by unfold vp_in; decide) d_law_law_751 ?_
  refine k_cst (v := v3) hv3 ?_
  refine lv_aload_n (pc := 752) hx hb d_law_law_752 rfl (lv_at hl 3 rfl) ?_
  refine lv_iload_n (pc := 753) hx hb d_law_law_753 rfl (lv_at hl 0 rfl) ?_
  refine lv_iconst (pc := 754) (v := 4) hx hb d_law_law_754 (by decide) ?_
  refine lv_iadd (pc := 755) hx hb d_law_law_755 ?_
  refine k_cst (v := 4) (by decide) ?_
  refine va_sld (pc := 756) hx hb hX hbl hbA hS (by unfold vp_in; decide) d_law_law_756 ?_
  refine k_cst (v := v4) hv4 ?_
  refine k_goI (gr := [[(h, .inr (12, [.ref (q 0), .ref (q 1), .ref (q 2), .ref (q 3), .ref (q 4), .ref (q 5), .ref (q 6), .int 0, .int ((-1)), .ref (q 9), .ref (q 10), .int 0, .int 0, .ref (q 13), .int 0, .int 0, .null, .null, .null, .null, .null]))]]) (k_rV (pc := 757) (As := [.int (nI j), .int 0, .int v3, .int v4]) (rest := [.int ((-1))]) X (c_Mo_turn_z4 l D kA h2 j v3 v4 qm hj hn3 H.size) rfl wm_3271 wm_9 wm_3268 wm_3269 wm_3270 4 (by decide +kernel) ⟨Nat.le_of_ble_eq_true rfl, Nat.le_of_ble_eq_true rfl⟩ rfl rfl (va_recv hK hP (ci := 13) (q0 := 1) rfl rfl) (k_pre hN hK hP hD [1, 2, 3] [0] 4 rfl (by decide) rfl) rfl hl.1 rfl (Nat.le_of_ble_eq_true rfl) d_law_law_757 ⟨Nat.le_of_ble_eq_true rfl, Nat.le_of_ble_eq_true rfl⟩) hP hD hS hA [1, 2, 3] [0] 4 rfl (by decide) rfl rfl (fun r3 u4 H locs hu4 hP hD hS => ?_)
  obtain ⟨hP, hD⟩ := k_left hP hD
  subst hu4
  have hP : va_P D classes (cat [[(h, .inr (12, [.ref (q 0), .ref (q 1), .ref (q 2), .ref (q 3), .ref (q 4), .ref (q 5), .ref (q 6), .int 0, .int ((-1)), .ref (q 9), .ref (q 10), .int 0, .int 0, .ref (q 13), .int 0, .int 0, .null, .null, .null, .null, .null]))]]) H := hP
  have hD : va_D A (cat [[(h, .inr (12, [.ref (q 0), .ref (q 1), .ref (q 2), .ref (q 3), .ref (q 4), .ref (q 5), .ref (q 6), .int 0, .int ((-1)), .ref (q 9), .ref (q 10), .int 0, .int 0, .ref (q 13), .int 0, .int 0, .null, .null, .null, .null, .null]))]]) := hD
  refine lv_icmp_eq (pc := 760) (tgt := 1295) hx hb d_law_law_760 (by decide) (fun _ => ?_) (fun c1 => absurd (by decide) c1)
  rw [hAe] at hS
  exact law_exit l C0 (Nat.le_of_ble_eq_true rfl) (Nat.le_of_ble_eq_true rfl) hS hl
set_option maxRecDepth 100000 in
set_option maxHeartbeats 4000000 in
/-- DrawingHouse$Net.edgeAround(II)I -/
theorem c_Ne_edgeAround_z1 (l : Launch) (D : va_G) (kA : Nat → ClassId) (g : Nat → Nat → Nat) (j : Nat) (v3 : Int32) (v4 : Int32) (a0 : Nat) (a1 : Nat) (a2 : Nat) (a3 : Nat) (a4 : Nat) (a5 : Nat) (a6 : Nat) (a7 : Nat) (a8 : Nat) (a9 : Nat) (hj : j < 4) (hn3 : ¬ v3 < 0) : Ci l y_Ne_edgeAround z_Ne_edgeAround { frames := 0, cells := 0, slots := 0, locals := 0 } D classes (TY kA) [.ref (g 2 j), .int v3, .int v4] [[(g 2 j, .inr (5, [.int 1, .int ((-1)), .int ((-1)), .int 0, .ref a0, .int 0, .int 0, .ref a1, .ref a2, .ref a3, .ref a4, .ref a5, .ref a6, .int 0, .ref a7, .ref a8, .ref a9]))]] (fun r (_ : Unit) => r = (-1)) (fun u => [[(g 2 j, .inr (5, [.int 1, .int ((-1)), .int ((-1)), .int 0, .ref a0, .int 0, .int 0, .ref a1, .ref a2, .ref a3, .ref a4, .ref a5, .ref a6, .int 0, .ref a7, .ref a8, .ref a9]))]]) 0 0 := by
  intro sz
  refine k_met (cc := b_Ne_edgeAround) (maxL := 5) (ret := (some .int)) (by decide) rfl (Nat.le_of_ble_eq_true rfl) (fun p e s m below meth c ls X hl hB => ?_)
  obtain ⟨hsz, hP, hK, hD0, hN⟩ := hB
  subst hsz
  have hD := hD0.self (sz := s.heap.size)
  generalize hAe : va_A (cat [[(g 2 j, .inr (5, [.int 1, .int ((-1)), .int ((-1)), .int 0, .ref a0, .int 0, .int 0, .ref a1, .ref a2, .ref a3, .ref a4, .ref a5, .ref a6, .int 0, .ref a7, .ref a8, .ref a9]))]]) s.heap.size = A at hD ⊢
  have hA : ∀ q : Nat, s.heap.size ≤ q → A q := fun q h => by rw [← hAe]; exact Or.inr h
  have hS : va_S A s.heap s.heap [] := va_S.rf
  obtain ⟨hx, hb, hml, hown, hts, hr, hlk, hnm⟩ := id X
  have hl : lv_has ls 5 [(0, .ref (g 2 j)), (1, .int v3), (2, .int v4)] := hl
  have hP : va_P D classes (cat [[(g 2 j, .inr (5, [.int 1, .int ((-1)), .int ((-1)), .int 0, .ref a0, .int 0, .int 0, .ref a1, .ref a2, .ref a3, .ref a4, .ref a5, .ref a6, .int 0, .ref a7, .ref a8, .ref a9]))]]) s.heap := hP
  have hK : va_K D classes (TY kA) s := hK
  refine lv_iload_n (pc := 0) hx hb d_Ne_edgeAround_0 rfl (lv_at hl 1 rfl) ?_
  refine lv_aload_n (pc := 1) hx hb d_Ne_edgeAround_1 rfl (lv_at hl 0 rfl) ?_
  refine k_get (pc := 2) X hK hP 0 rfl rfl i_Ne 5 (by decide) wm_262 rfl rfl d_Ne_edgeAround_2 ?_
  refine lv_icmp_ge (pc := 5) (tgt := 21) hx hb d_Ne_edgeAround_5 (by decide) (fun c1 => ?_) (fun c1 => absurd (Int32.not_lt.mp hn3) c1)
  refine lv_iconst (pc := 21) (v := -1) hx hb d_Ne_edgeAround_21 (by decide) ?_
  refine W.widen (k := 0) (n := 0) (Nat.le_of_ble_eq_true rfl) (Nat.le_of_ble_eq_true rfl) ?_
  exact W.iret (v := (-1)) hx hb hr (fun t ht hW => ⟨⟨(-1), (), rfl, rfl, by rw [ht]; exact hP, va_K.moved hW.alike hK, hD⟩, hS.F ht⟩) hS.2.2 d_Ne_edgeAround_22
set_option maxRecDepth 100000 in
set_option maxHeartbeats 4000000 in
/-- DrawingHouse.turn(IIII)I -/
theorem c_Ho_turn_z5 (l : Launch) (D : va_G) (kA : Nat → ClassId) (a0 : Nat) (j : Nat) (v3 : Int32) (v4 : Int32) (a1 : Nat) (a2 : Nat) (a3 : Nat) (a4 : Nat) (a5 : Nat) (a6 : Nat) (a7 : Nat) (a8 : Nat) (a9 : Nat) (a10 : Nat) (g : Nat → Nat → Nat) (a11 : Nat) (a12 : Nat) (a13 : Nat) (a14 : Nat) (a15 : Nat) (a16 : Nat) (a17 : Nat) (a18 : Nat) (a19 : Nat) (a20 : Nat) (a21 : Nat) (a22 : Nat) (a23 : Nat) (a24 : Nat) (a25 : Nat) (a26 : Nat) (a27 : Nat) (a28 : Nat) (a29 : Nat) (a30 : Nat) (a31 : Nat) (a32 : Nat) (a33 : Nat) (f0 : Nat → Int32) (f1 : Nat → Int32) (f2 : Nat → Int32) (a34 : Nat) (a35 : Nat) (a36 : Nat) (a37 : Nat) (a38 : Nat) (a39 : Nat) (a40 : Nat) (a41 : Nat) (a42 : Nat) (a43 : Nat) (a44 : Nat) (a45 : Nat) (f3 : Nat → Int32) (f4 : Nat → Int32) (hj : j < 4) (hn3 : ¬ v3 < 0) : Ci l y_Ho_turn z_Ho_turn { frames := 4, cells := 0, slots := 0, locals := 95 } D classes (TY kA) [.ref a0, .int (nI j), .int 0, .int v3, .int v4] [[(a0, .inr (12, [.ref a1, .ref a2, .ref a3, .ref a4, .ref a5, .ref a6, .ref a7, .int 0, .int ((-1)), .ref a8, .ref a9, .int 0, .int 0, .ref a10, .int 0, .int 0, .null, .null, .null, .null, .null]))], [(a3, .inl (kA 6, 4, .inr (.inr (.inr (.inr (rr (g 2)))))))], [(g 2 j, .inr (5, [.int ((-1)), .int ((-1)), .int ((-1)), .int 0, .ref a11, .int 0, .int 0, .ref a12, .ref a13, .ref a14, .ref a15, .ref a16, .ref a17, .int 0, .ref a18, .ref a19, .ref a20]))], [(a1, .inl (kA 4, 4, .inr (.inr (.inr (.inr (rr (g 0)))))))], [(g 0 j, .inr (3, [.int 0, .int 0, .int 1, .ref a21, .ref a22, .ref a23, .ref a24, .ref a25, .ref a26, .ref a27, .ref a28, .ref a29, .ref a30, .ref a31, .ref a32, .ref a33, .null, .int 0, .int 0]))], [(a14, .inl (kA 0, 25, .inl f0))], [(a15, .inl (kA 0, 625, .inl f1))], [(a17, .inl (kA 0, 25, .inl f2))], [(a6, .inr (1, [.null, .ref a34, .ref a35, .ref a36, .ref a37, .int 0, .int 0, .int 0, .ref a38, .ref a39, .ref a40, .ref a41, .ref a42, .ref a43, .ref a44, .int 0, .int 0, .int 0, .int 0, .ref a45]))], [(a20, .inl (kA 0, 144, .inl f3))], [(a18, .inl (kA 0, 145, .inl f4))]] (fun r (_ : List va_W) => r = (-1)) (fun u => u) 0 0 := by
  intro sz
  refine k_met (cc := b_Ho_turn) (maxL := 6) (ret := (some .int)) (by decide) rfl (Nat.le_of_ble_eq_true rfl) (fun p e s m below meth c ls X hl hB => ?_)
  obtain ⟨hsz, hP, hK, hD0, hN⟩ := hB
  subst hsz
  have hD := hD0.self (sz := s.heap.size)
  generalize hAe : va_A (cat [[(a0, .inr (12, [.ref a1, .ref a2, .ref a3, .ref a4, .ref a5, .ref a6, .ref a7, .int 0, .int ((-1)), .ref a8, .ref a9, .int 0, .int 0, .ref a10, .int 0, .int 0, .null, .null, .null, .null, .null]))], [(a3, .inl (kA 6, 4, .inr (.inr (.inr (.inr (rr (g 2)))))))], [(g 2 j, .inr (5, [.int ((-1)), .int ((-1)), .int ((-1)), .int 0, .ref a11, .int 0, .int 0, .ref a12, .ref a13, .ref a14, .ref a15, .ref a16, .ref a17, .int 0, .ref a18, .ref a19, .ref a20]))], [(a1, .inl (kA 4, 4, .inr (.inr (.inr (.inr (rr (g 0)))))))], [(g 0 j, .inr (3, [.int 0, .int 0, .int 1, .ref a21, .ref a22, .ref a23, .ref a24, .ref a25, .ref a26, .ref a27, .ref a28, .ref a29, .ref a30, .ref a31, .ref a32, .ref a33, .null, .int 0, .int 0]))], [(a14, .inl (kA 0, 25, .inl f0))], [(a15, .inl (kA 0, 625, .inl f1))], [(a17, .inl (kA 0, 25, .inl f2))], [(a6, .inr (1, [.null, .ref a34, .ref a35, .ref a36, .ref a37, .int 0, .int 0, .int 0, .ref a38, .ref a39, .ref a40, .ref a41, .ref a42, .ref a43, .ref a44, .int 0, .int 0, .int 0, .int 0, .ref a45]))], [(a20, .inl (kA 0, 144, .inl f3))], [(a18, .inl (kA 0, 145, .inl f4))]]) s.heap.size = A at hD ⊢
  have hA : ∀ q : Nat, s.heap.size ≤ q → A q := fun q h => by rw [← hAe]; exact Or.inr h
  have hS : va_S A s.heap s.heap [] := va_S.rf
  obtain ⟨hx, hb, hml, hown, hts, hr, hlk, hnm⟩ := id X
  have hl : lv_has ls 6 [(0, .ref a0), (1, .int (nI j)), (2, .int 0), (3, .int v3), (4, .int v4)] := hl
  have hP : va_P D classes (cat [[(a0, .inr (12, [.ref a1, .ref a2, .ref a3, .ref a4, .ref a5, .ref a6, .ref a7, .int 0, .int ((-1)), .ref a8, .ref a9, .int 0, .int 0, .ref a10, .int 0, .int 0, .null, .null, .null, .null, .null]))], [(a3, .inl (kA 6, 4, .inr (.inr (.inr (.inr (rr (g 2)))))))], [(g 2 j, .inr (5, [.int ((-1)), .int ((-1)), .int ((-1)), .int 0, .ref a11, .int 0, .int 0, .ref a12, .ref a13, .ref a14, .ref a15, .ref a16, .ref a17, .int 0, .ref a18, .ref a19, .ref a20]))], [(a1, .inl (kA 4, 4, .inr (.inr (.inr (.inr (rr (g 0)))))))], [(g 0 j, .inr (3, [.int 0, .int 0, .int 1, .ref a21, .ref a22, .ref a23, .ref a24, .ref a25, .ref a26, .ref a27, .ref a28, .ref a29, .ref a30, .ref a31, .ref a32, .ref a33, .null, .int 0, .int 0]))], [(a14, .inl (kA 0, 25, .inl f0))], [(a15, .inl (kA 0, 625, .inl f1))], [(a17, .inl (kA 0, 25, .inl f2))], [(a6, .inr (1, [.null, .ref a34, .ref a35, .ref a36, .ref a37, .int 0, .int 0, .int 0, .ref a38, .ref a39, .ref a40, .ref a41, .ref a42, .ref a43, .ref a44, .int 0, .int 0, .int 0, .int 0, .ref a45]))], [(a20, .inl (kA 0, 144, .inl f3))], [(a18, .inl (kA 0, 145, .inl f4))]]) s.heap := hP
  have hK : va_K D classes (TY kA) s := hK
  refine lv_iload_n (pc := 0) hx hb d_Ho_turn_0 rfl (lv_at hl 1 rfl) ?_
  refine k_goI (gr := [[(a0, .inr (12, [.ref a1, .ref a2, .ref a3, .ref a4, .ref a5, .ref a6, .ref a7, .int 0, .int ((-1)), .ref a8, .ref a9, .int 0, .int 0, .ref a10, .int 0, .int 0, .null, .null, .null, .null, .null]))], [(a3, .inl (kA 6, 4, .inr (.inr (.inr (.inr (rr (g 2)))))))], [(g 2 j, .inr (5, [.int ((-1)), .int ((-1)), .int ((-1)), .int 0, .ref a11, .int 0, .int 0, .ref a12, .ref a13, .ref a14, .ref a15, .ref a16, .ref a17, .int 0, .ref a18, .ref a19, .ref a20]))], [(a1, .inl (kA 4, 4, .inr (.inr (.inr (.inr (rr (g 0)))))))], [(g 0 j, .inr (3, [.int 0, .int 0, .int 1, .ref a21, .ref a22, .ref a23, .ref a24, .ref a25, .ref a26, .ref a27, .ref a28, .ref a29, .ref a30, .ref a31, .ref a32, .ref a33, .null, .int 0, .int 0]))], [(a14, .inl (kA 0, 25, .inl f0))], [(a15, .inl (kA 0, 625, .inl f1))], [(a17, .inl (kA 0, 25, .inl f2))], [(a6, .inr (1, [.null, .ref a34, .ref a35, .ref a36, .ref a37, .int 0, .int 0, .int 0, .ref a38, .ref a39, .ref a40, .ref a41, .ref a42, .ref a43, .ref a44, .int 0, .int 0, .int 0, .int 0, .ref a45]))], [(a20, .inl (kA 0, 144, .inl f3))], [(a18, .inl (kA 0, 145, .inl f4))]]) (k_rS (pc := 1) (As := [.int (nI j)]) (rest := []) X (c_Ho_isPlace l D kA (nI j) s.heap.size) rfl wm_633 wm_1 wm_631 wm_632 1 (by decide +kernel) ⟨Nat.le_of_ble_eq_true rfl, Nat.le_of_ble_eq_true rfl⟩ rfl rfl (k_pre hN hK hP hD [] [0, 1, 2, 3, 4, 5, 6, 7, 8, 9, 10] 11 rfl (by decide) rfl) rfl hl.1 rfl (Nat.le_of_ble_eq_true rfl) d_Ho_turn_1 ⟨Nat.le_of_ble_eq_true rfl, Nat.le_of_ble_eq_true rfl⟩) hP hD hS hA [] [0, 1, 2, 3, 4, 5, 6, 7, 8, 9, 10] 11 rfl (by decide) rfl rfl (fun r1 u2 H locs hu2 hP hD hS => ?_)
  subst hu2
  refine k_cst (v := 1) (place_ok hj) ?_
  have hP : va_P D classes (cat [[(a0, .inr (12, [.ref a1, .ref a2, .ref a3, .ref a4, .ref a5, .ref a6, .ref a7, .int 0, .int ((-1)), .ref a8, .ref a9, .int 0, .int 0, .ref a10, .int 0, .int 0, .null, .null, .null, .null, .null]))], [(a3, .inl (kA 6, 4, .inr (.inr (.inr (.inr (rr (g 2)))))))], [(g 2 j, .inr (5, [.int ((-1)), .int ((-1)), .int ((-1)), .int 0, .ref a11, .int 0, .int 0, .ref a12, .ref a13, .ref a14, .ref a15, .ref a16, .ref a17, .int 0, .ref a18, .ref a19, .ref a20]))], [(a1, .inl (kA 4, 4, .inr (.inr (.inr (.inr (rr (g 0)))))))], [(g 0 j, .inr (3, [.int 0, .int 0, .int 1, .ref a21, .ref a22, .ref a23, .ref a24, .ref a25, .ref a26, .ref a27, .ref a28, .ref a29, .ref a30, .ref a31, .ref a32, .ref a33, .null, .int 0, .int 0]))], [(a14, .inl (kA 0, 25, .inl f0))], [(a15, .inl (kA 0, 625, .inl f1))], [(a17, .inl (kA 0, 25, .inl f2))], [(a6, .inr (1, [.null, .ref a34, .ref a35, .ref a36, .ref a37, .int 0, .int 0, .int 0, .ref a38, .ref a39, .ref a40, .ref a41, .ref a42, .ref a43, .ref a44, .int 0, .int 0, .int 0, .int 0, .ref a45]))], [(a20, .inl (kA 0, 144, .inl f3))], [(a18, .inl (kA 0, 145, .inl f4))]]) H := hP
  have hD : va_D A (cat [[(a0, .inr (12, [.ref a1, .ref a2, .ref a3, .ref a4, .ref a5, .ref a6, .ref a7, .int 0, .int ((-1)), .ref a8, .ref a9, .int 0, .int 0, .ref a10, .int 0, .int 0, .null, .null, .null, .null, .null]))], [(a3, .inl (kA 6, 4, .inr (.inr (.inr (.inr (rr (g 2)))))))], [(g 2 j, .inr (5, [.int ((-1)), .int ((-1)), .int ((-1)), .int 0, .ref a11, .int 0, .int 0, .ref a12, .ref a13, .ref a14, .ref a15, .ref a16, .ref a17, .int 0, .ref a18, .ref a19, .ref a20]))], [(a1, .inl (kA 4, 4, .inr (.inr (.inr (.inr (rr (g 0)))))))], [(g 0 j, .inr (3, [.int 0, .int 0, .int 1, .ref a21, .ref a22, .ref a23, .ref a24, .ref a25, .ref a26, .ref a27, .ref a28, .ref a29, .ref a30, .ref a31, .ref a32, .ref a33, .null, .int 0, .int 0]))], [(a14, .inl (kA 0, 25, .inl f0))], [(a15, .inl (kA 0, 625, .inl f1))], [(a17, .inl (kA 0, 25, .inl f2))], [(a6, .inr (1, [.null, .ref a34, .ref a35, .ref a36, .ref a37, .int 0, .int 0, .int 0, .ref a38, .ref a39, .ref a40, .ref a41, .ref a42, .ref a43, .ref a44, .int 0, .int 0, .int 0, .int 0, .ref a45]))], [(a20, .inl (kA 0, 144, .inl f3))], [(a18, .inl (kA 0, 145, .inl f4))]]) := hD
  refine lv_if_eq (pc := 4) (tgt := 11) hx hb d_Ho_turn_4 (by decide) (fun c1 => absurd c1 (by decide)) (fun c1 => ?_)
  refine lv_iload_n (pc := 7) hx hb d_Ho_turn_7 rfl (lv_at hl 3 rfl) ?_
  refine lv_if_ge (pc := 8) (tgt := 13) hx hb d_Ho_turn_8 (by decide) (fun c1 => ?_) (fun c1 => absurd (Int32.not_lt.mp hn3) c1)
  refine lv_aload_n (pc := 13) hx hb d_Ho_turn_13 rfl (lv_at hl 0 rfl) ?_
  refine lv_iload_n (pc := 14) hx hb d_Ho_turn_14 rfl (lv_at hl 1 rfl) ?_
  refine k_goR (gr := []) (k_rV (pc := 15) (As := [.int (nI j)]) (rest := []) X (c_Ho_embedded_z1 l D kA a0 j a1 a2 a3 a4 a5 a6 a7 a8 a9 a10 g a11 a12 a13 a14 a15 a16 a17 a18 a19 a20 a21 a22 a23 a24 a25 a26 a27 a28 a29 a30 a31 a32 a33 f0 f1 f2 a34 a35 a36 a37 a38 a39 a40 a41 a42 a43 a44 a45 f3 f4 hj H.size) rfl wm_1052 wm_1 wm_1049 wm_1051 wv_3_6 1 (by decide +kernel) ⟨Nat.le_of_ble_eq_true rfl, Nat.le_of_ble_eq_true rfl⟩ rfl rfl (va_recv hK hP (ci := 12) (q0 := 0) rfl rfl) (k_pre hN hK hP hD [0, 1, 2, 3, 4, 5, 6, 7, 8, 9, 10] [] 11 rfl (by decide) rfl) rfl hl.1 rfl (Nat.le_of_ble_eq_true rfl) d_Ho_turn_15 ⟨Nat.le_of_ble_eq_true rfl, Nat.le_of_ble_eq_true rfl⟩) hP hD hS hA [0, 1, 2, 3, 4, 5, 6, 7, 8, 9, 10] [] 11 rfl (by decide) rfl rfl (fun u4 H locs hu4 hP hD hS => ?_)
  have hP : va_P D classes (cat [[(a0, .inr (12, [.ref a1, .ref a2, .ref a3, .ref a4, .ref a5, .ref a6, .ref a7, .int 0, .int ((-1)), .ref a8, .ref a9, .int 0, .int 0, .ref a10, .int 0, .int 0, .null, .null, .null, .null, .null]))], [(a3, .inl (kA 6, 4, .inr (.inr (.inr (.inr (rr (g 2)))))))], [(g 2 j, .inr (5, [.int 1, .int ((-1)), .int ((-1)), .int 0, .ref a11, .int 0, .int 0, .ref a12, .ref a13, .ref a14, .ref a15, .ref a16, .ref a17, .int 0, .ref a18, .ref a19, .ref a20]))], [(a1, .inl (kA 4, 4, .inr (.inr (.inr (.inr (rr (g 0)))))))], [(g 0 j, .inr (3, [.int 0, .int 0, .int 1, .ref a21, .ref a22, .ref a23, .ref a24, .ref a25, .ref a26, .ref a27, .ref a28, .ref a29, .ref a30, .ref a31, .ref a32, .ref a33, .null, .int 0, .int 0]))], [(a14, .inl (kA 0, 25, .inl (fl f0 25 0)))], [(a15, .inl (kA 0, 625, .inl (fl f1 625 (-1))))], [(a17, .inl (kA 0, 25, .inl (fl f2 25 (-1))))], [(a6, .inr (1, [.ref (g 2 j), .ref a34, .ref a35, .ref a36, .ref a37, .int 0, .int 0, .int 0, .ref a38, .ref a39, .ref a40, .ref a41, .ref a42, .ref a43, .ref a44, .int 0, .int 0, .int 0, .int 0, .ref a45]))], [(a20, .inl (kA 0, 144, .inl (fl f3 144 (-1))))], [(a18, .inl (kA 0, 145, .inl (upd (f4) 0 0)))]]) H := hP
  have hD : va_D A (cat [[(a0, .inr (12, [.ref a1, .ref a2, .ref a3, .ref a4, .ref a5, .ref a6, .ref a7, .int 0, .int ((-1)), .ref a8, .ref a9, .int 0, .int 0, .ref a10, .int 0, .int 0, .null, .null, .null, .null, .null]))], [(a3, .inl (kA 6, 4, .inr (.inr (.inr (.inr (rr (g 2)))))))], [(g 2 j, .inr (5, [.int 1, .int ((-1)), .int ((-1)), .int 0, .ref a11, .int 0, .int 0, .ref a12, .ref a13, .ref a14, .ref a15, .ref a16, .ref a17, .int 0, .ref a18, .ref a19, .ref a20]))], [(a1, .inl (kA 4, 4, .inr (.inr (.inr (.inr (rr (g 0)))))))], [(g 0 j, .inr (3, [.int 0, .int 0, .int 1, .ref a21, .ref a22, .ref a23, .ref a24, .ref a25, .ref a26, .ref a27, .ref a28, .ref a29, .ref a30, .ref a31, .ref a32, .ref a33, .null, .int 0, .int 0]))], [(a14, .inl (kA 0, 25, .inl (fl f0 25 0)))], [(a15, .inl (kA 0, 625, .inl (fl f1 625 (-1))))], [(a17, .inl (kA 0, 25, .inl (fl f2 25 (-1))))], [(a6, .inr (1, [.ref (g 2 j), .ref a34, .ref a35, .ref a36, .ref a37, .int 0, .int 0, .int 0, .ref a38, .ref a39, .ref a40, .ref a41, .ref a42, .ref a43, .ref a44, .int 0, .int 0, .int 0, .int 0, .ref a45]))], [(a20, .inl (kA 0, 144, .inl (fl f3 144 (-1))))], [(a18, .inl (kA 0, 145, .inl (upd (f4) 0 0)))]]) := hD
  refine lv_astore (pc := 18) (lv' := [(5, .ref (g 2 j)), (0, .ref a0), (1, .int (nI j)), (2, .int 0), (3, .int v3), (4, .int v4)]) hx hb d_Ho_turn_18 hl (by decide) rfl (fun ls hl => ?_)
  refine lv_iload_n (pc := 20) hx hb d_Ho_turn_20 rfl (lv_at hl 3 rfl) ?_
  refine lv_iconst (pc := 21) (v := 2) hx hb d_Ho_turn_21 (by decide) ?_
  refine lv_icmp_ne (pc := 22) (tgt := 54) hx hb d_Ho_turn_22 (by decide) (fun _ => ?_) (fun c1 => absurd c1 (by decide))
  refine lv_aload (pc := 54) hx hb d_Ho_turn_54 (lv_at hl 0 rfl) ?_
  refine k_get (pc := 56) X hK hP 2 rfl rfl i_Ne 0 (by decide) wm_250 rfl rfl d_Ho_turn_56 ?_
  refine lv_if_eq (pc := 59) (tgt := 67) hx hb d_Ho_turn_59 (by decide) (fun c1 => absurd c1 (by decide)) (fun c1 => ?_)
  refine lv_iload (pc := 62) hx hb d_Ho_turn_62 (lv_at hl 5 rfl) ?_
  refine lv_if_ge (pc := 64) (tgt := 69) hx hb d_Ho_turn_64 (by decide) (fun ck1 => ?_) (fun ck1 => ?_)
  · refine lv_iload_n (pc := 69) hx hb d_Ho_turn_69 rfl (lv_at hl 3 rfl) ?_
    refine lv_if_ne (pc := 70) (tgt := 82) hx hb d_Ho_turn_70 (by decide) (fun c1 => absurd (by decide) c1) (fun c1 => ?_)
    refine lv_aload (pc := 73) hx hb d_Ho_turn_73 (lv_at hl 0 rfl) ?_
    refine lv_iload_n (pc := 75) hx hb d_Ho_turn_75 rfl (lv_at hl 4 rfl) ?_
    refine lv_iload (pc := 76) hx hb d_Ho_turn_76 (lv_at hl 5 rfl) ?_
    refine k_goI (gr := [[(a0, .inr (12, [.ref a1, .ref a2, .ref a3, .ref a4, .ref a5, .ref a6, .ref a7, .int 0, .int ((-1)), .ref a8, .ref a9, .int 0, .int 0, .ref a10, .int 0, .int 0, .null, .null, .null, .null, .null]))], [(a3, .inl (kA 6, 4, .inr (.inr (.inr (.inr (rr (g 2)))))))], [(a1, .inl (kA 4, 4, .inr (.inr (.inr (.inr (rr (g 0)))))))], [(g 0 j, .inr (3, [.int 0, .int 0, .int 1, .ref a21, .ref a22, .ref a23, .ref a24, .ref a25, .ref a26, .ref a27, .ref a28, .ref a29, .ref a30, .ref a31, .ref a32, .ref a33, .null, .int 0, .int 0]))], [(a14, .inl (kA 0, 25, .inl (fl f0 25 0)))], [(a15, .inl (kA 0, 625, .inl (fl f1 625 (-1))))], [(a17, .inl (kA 0, 25, .inl (fl f2 25 (-1))))], [(a6, .inr (1, [.ref (g 2 j), .ref a34, .ref a35, .ref a36, .ref a37, .int 0, .int 0, .int 0, .ref a38, .ref a39, .ref a40, .ref a41, .ref a42, .ref a43, .ref a44, .int 0, .int 0, .int 0, .int 0, .ref a45]))], [(a20, .inl (kA 0, 144, .inl (fl f3 144 (-1))))], [(a18, .inl (kA 0, 145, .inl (upd (f4) 0 0)))]]) (k_rV (pc := 78) (As := [.int v3, .int v4]) (rest := []) X (c_Ne_edgeAround_z1 l D kA g j v3 v4 a11 a12 a13 a14 a15 a16 a17 a18 a19 a20 hj hn3 H.size) rfl wm_1176 wm_6 wm_1173 wm_1174 wm_1175 2 (by decide +kernel) ⟨Nat.le_of_ble_eq_true rfl, Nat.le_of_ble_eq_true rfl⟩ rfl rfl (va_recv hK hP (ci := 5) (q0 := 2) rfl rfl) (k_pre hN hK hP hD [2] [0, 1, 3, 4, 5, 6, 7, 8, 9, 10] 11 rfl (by decide) rfl) rfl hl.1 rfl (Nat.le_of_ble_eq_true rfl) d_Ho_turn_78 ⟨Nat.le_of_ble_eq_true rfl, Nat.le_of_ble_eq_true rfl⟩) hP hD hS hA [2] [0, 1, 3, 4, 5, 6, 7, 8, 9, 10] 11 rfl (by decide) rfl rfl (fun r5 u6 H locs hu6 hP hD hS => ?_)
    subst hu6
    have hP : va_P D classes (cat [[(a0, .inr (12, [.ref a1, .ref a2, .ref a3, .ref a4, .ref a5, .ref a6, .ref a7, .int 0, .int ((-1)), .ref a8, .ref a9, .int 0, .int 0, .ref a10, .int 0, .int 0, .null, .null, .null, .null, .null]))], [(a3, .inl (kA 6, 4, .inr (.inr (.inr (.inr (rr (g 2)))))))], [(a1, .inl (kA 4, 4, .inr (.inr (.inr (.inr (rr (g 0)))))))], [(g 0 j, .inr (3, [.int 0, .int 0, .int 1, .ref a21, .ref a22, .ref a23, .ref a24, .ref a25, .ref a26, .ref a27, .ref a28, .ref a29, .ref a30, .ref a31, .ref a32, .ref a33, .null, .int 0, .int 0]))], [(a14, .inl (kA 0, 25, .inl (fl f0 25 0)))], [(a15, .inl (kA 0, 625, .inl (fl f1 625 (-1))))], [(a17, .inl (kA 0, 25, .inl (fl f2 25 (-1))))], [(a6, .inr (1, [.ref (g 2 j), .ref a34, .ref a35, .ref a36, .ref a37, .int 0, .int 0, .int 0, .ref a38, .ref a39, .ref a40, .ref a41, .ref a42, .ref a43, .ref a44, .int 0, .int 0, .int 0, .int 0, .ref a45]))], [(a20, .inl (kA 0, 144, .inl (fl f3 144 (-1))))], [(a18, .inl (kA 0, 145, .inl (upd (f4) 0 0)))], [(g 2 j, .inr (5, [.int 1, .int ((-1)), .int ((-1)), .int 0, .ref a11, .int 0, .int 0, .ref a12, .ref a13, .ref a14, .ref a15, .ref a16, .ref a17, .int 0, .ref a18, .ref a19, .ref a20]))]]) H := hP
    have hD : va_D A (cat [[(a0, .inr (12, [.ref a1, .ref a2, .ref a3, .ref a4, .ref a5, .ref a6, .ref a7, .int 0, .int ((-1)), .ref a8, .ref a9, .int 0, .int 0, .ref a10, .int 0, .int 0, .null, .null, .null, .null, .null]))], [(a3, .inl (kA 6, 4, .inr (.inr (.inr (.inr (rr (g 2)))))))], [(a1, .inl (kA 4, 4, .inr (.inr (.inr (.inr (rr (g 0)))))))], [(g 0 j, .inr (3, [.int 0, .int 0, .int 1, .ref a21, .ref a22, .ref a23, .ref a24, .ref a25, .ref a26, .ref a27, .ref a28, .ref a29, .ref a30, .ref a31, .ref a32, .ref a33, .null, .int 0, .int 0]))], [(a14, .inl (kA 0, 25, .inl (fl f0 25 0)))], [(a15, .inl (kA 0, 625, .inl (fl f1 625 (-1))))], [(a17, .inl (kA 0, 25, .inl (fl f2 25 (-1))))], [(a6, .inr (1, [.ref (g 2 j), .ref a34, .ref a35, .ref a36, .ref a37, .int 0, .int 0, .int 0, .ref a38, .ref a39, .ref a40, .ref a41, .ref a42, .ref a43, .ref a44, .int 0, .int 0, .int 0, .int 0, .ref a45]))], [(a20, .inl (kA 0, 144, .inl (fl f3 144 (-1))))], [(a18, .inl (kA 0, 145, .inl (upd (f4) 0 0)))], [(g 2 j, .inr (5, [.int 1, .int ((-1)), .int ((-1)), .int 0, .ref a11, .int 0, .int 0, .ref a12, .ref a13, .ref a14, .ref a15, .ref a16, .ref a17, .int 0, .ref a18, .ref a19, .ref a20]))]]) := hD
    refine W.widen (k := 0) (n := 0) (Nat.le_of_ble_eq_true rfl) (Nat.le_of_ble_eq_true rfl) ?_
    exact W.iret (v := (-1)) hx hb hr (fun t ht hW => ⟨⟨(-1), [[(a0, .inr (12, [.ref a1, .ref a2, .ref a3, .ref a4, .ref a5, .ref a6, .ref a7, .int 0, .int ((-1)), .ref a8, .ref a9, .int 0, .int 0, .ref a10, .int 0, .int 0, .null, .null, .null, .null, .null]))], [(a3, .inl (kA 6, 4, .inr (.inr (.inr (.inr (rr (g 2)))))))], [(a1, .inl (kA 4, 4, .inr (.inr (.inr (.inr (rr (g 0)))))))], [(g 0 j, .inr (3, [.int 0, .int 0, .int 1, .ref a21, .ref a22, .ref a23, .ref a24, .ref a25, .ref a26, .ref a27, .ref a28, .ref a29, .ref a30, .ref a31, .ref a32, .ref a33, .null, .int 0, .int 0]))], [(a14, .inl (kA 0, 25, .inl (fl f0 25 0)))], [(a15, .inl (kA 0, 625, .inl (fl f1 625 (-1))))], [(a17, .inl (kA 0, 25, .inl (fl f2 25 (-1))))], [(a6, .inr (1, [.ref (g 2 j), .ref a34, .ref a35, .ref a36, .ref a37, .int 0, .int 0, .int 0, .ref a38, .ref a39, .ref a40, .ref a41, .ref a42, .ref a43, .ref a44, .int 0, .int 0, .int 0, .int 0, .ref a45]))], [(a20, .inl (kA 0, 144, .inl (fl f3 144 (-1))))], [(a18, .inl (kA 0, 145, .inl (upd (f4) 0 0)))], [(g 2 j, .inr (5, [.int 1, .int ((-1)), .int ((-1)), .int 0, .ref a11, .int 0, .int 0, .ref a12, .ref a13, .ref a14, .ref a15, .ref a16, .ref a17, .int 0, .ref a18, .ref a19, .ref a20]))]], rfl, rfl, by rw [ht]; exact hP, va_K.moved hW.alike hK, hD⟩, hS.F ht⟩) hS.2.2 d_Ho_turn_81
  · refine lv_iconst (pc := 67) (v := -1) hx hb d_Ho_turn_67 (by decide) ?_
    refine W.widen (k := 0) (n := 0) (Nat.le_of_ble_eq_true rfl) (Nat.le_of_ble_eq_true rfl) ?_
    exact W.iret (v := (-1)) hx hb hr (fun t ht hW => ⟨⟨(-1), [[(a0, .inr (12, [.ref a1, .ref a2, .ref a3, .ref a4, .ref a5, .ref a6, .ref a7, .int 0, .int ((-1)), .ref a8, .ref a9, .int 0, .int 0, .ref a10, .int 0, .int 0, .null, .null, .null, .null, .null]))], [(a3, .inl (kA 6, 4, .inr (.inr (.inr (.inr (rr (g 2)))))))], [(g 2 j, .inr (5, [.int 1, .int ((-1)), .int ((-1)), .int 0, .ref a11, .int 0, .int 0, .ref a12, .ref a13, .ref a14, .ref a15, .ref a16, .ref a17, .int 0, .ref a18, .ref a19, .ref a20]))], [(a1, .inl (kA 4, 4, .inr (.inr (.inr (.inr (rr (g 0)))))))], [(g 0 j, .inr (3, [.int 0, .int 0, .int 1, .ref a21, .ref a22, .ref a23, .ref a24, .ref a25, .ref a26, .ref a27, .ref a28, .ref a29, .ref a30, .ref a31, .ref a32, .ref a33, .null, .int 0, .int 0]))], [(a14, .inl (kA 0, 25, .inl (fl f0 25 0)))], [(a15, .inl (kA 0, 625, .inl (fl f1 625 (-1))))], [(a17, .inl (kA 0, 25, .inl (fl f2 25 (-1))))], [(a6, .inr (1, [.ref (g 2 j), .ref a34, .ref a35, .ref a36, .ref a37, .int 0, .int 0, .int 0, .ref a38, .ref a39, .ref a40, .ref a41, .ref a42, .ref a43, .ref a44, .int 0, .int 0, .int 0, .int 0, .ref a45]))], [(a20, .inl (kA 0, 144, .inl (fl f3 144 (-1))))], [(a18, .inl (kA 0, 145, .inl (upd (f4) 0 0)))]], rfl, rfl, by rw [ht]; exact hP, va_K.moved hW.alike hK, hD⟩, hS.F ht⟩) hS.2.2 d_Ho_turn_68
set_option maxRecDepth 100000 in
set_option maxHeartbeats 4000000 in
/-- DrawingHouseModel.turn(IIII)I -/
theorem c_Mo_turn_z5 (l : Launch) (D : va_G) (kA : Nat → ClassId) (a0 : Nat) (j : Nat) (v3 : Int32) (v4 : Int32) (qm : Nat → Nat) (hj : j < 4) (hn3 : ¬ v3 < 0) : Ci l y_Mo_turn z_Mo_turn { frames := 3, cells := 0, slots := 0, locals := 66 } D classes (TY kA) [.ref a0, .int (nI j), .int 0, .int v3, .int v4] [[(a0, .inr (13, mF qm x0Mo y0Mo))], [(qm 3, .inl (kA 0, 4, .inl (fun _ => 0)))], [(qm 2, .inl (kA 0, 66836, .inl all0))]] (fun r (_ : List va_W) => r = (-1)) (fun u => u) 0 0 := by
  intro sz
  refine k_met (cc := b_Mo_turn) (maxL := 6) (ret := (some .int)) (by decide) rfl (Nat.le_of_ble_eq_true rfl) (fun p e s m below meth c ls X hl hB => ?_)
  obtain ⟨hsz, hP, hK, hD0, hN⟩ := hB
  subst hsz
  have hD := hD0.self (sz := s.heap.size)
  generalize hAe : va_A (cat [[(a0, .inr (13, mF qm x0Mo y0Mo))], [(qm 3, .inl (kA 0, 4, .inl (fun _ => 0)))], [(qm 2, .inl (kA 0, 66836, .inl all0))]]) s.heap.size = A at hD ⊢
  have hA : ∀ q : Nat, s.heap.size ≤ q → A q := fun q h => by rw [← hAe]; exact Or.inr h
  have hS : va_S A s.heap s.heap [] := va_S.rf
  obtain ⟨hx, hb, hml, hown, hts, hr, hlk, hnm⟩ := id X
  have hl : lv_has ls 6 [(0, .ref a0), (1, .int (nI j)), (2, .int 0), (3, .int v3), (4, .int v4)] := hl
  have hP : va_P D classes (cat [[(a0, .inr (13, mF qm x0Mo y0Mo))], [(qm 3, .inl (kA 0, 4, .inl (fun _ => 0)))], [(qm 2, .inl (kA 0, 66836, .inl all0))]]) s.heap := hP
  have hK : va_K D classes (TY kA) s := hK
  refine lv_iload_n (pc := 0) hx hb d_Mo_turn_0 rfl (lv_at hl 1 rfl) ?_
  refine k_goI (gr := [[(a0, .inr (13, mF qm x0Mo y0Mo))], [(qm 3, .inl (kA 0, 4, .inl (fun _ => 0)))], [(qm 2, .inl (kA 0, 66836, .inl all0))]]) (k_rS (pc := 1) (As := [.int (nI j)]) (rest := []) X (c_Mo_isPlace l D kA (nI j) s.heap.size) rfl wm_2978 wm_9 wm_2976 wm_2977 1 (by decide +kernel) ⟨Nat.le_of_ble_eq_true rfl, Nat.le_of_ble_eq_true rfl⟩ rfl rfl (k_pre hN hK hP hD [] [0, 1, 2] 3 rfl (by decide) rfl) rfl hl.1 rfl (Nat.le_of_ble_eq_true rfl) d_Mo_turn_1 ⟨Nat.le_of_ble_eq_true rfl, Nat.le_of_ble_eq_true rfl⟩) hP hD hS hA [] [0, 1, 2] 3 rfl (by decide) rfl rfl (fun r1 u2 H locs hu2 hP hD hS => ?_)
  subst hu2
  refine k_cst (v := 1) (placeM_ok hj) ?_
  have hP : va_P D classes (cat [[(a0, .inr (13, mF qm x0Mo y0Mo))], [(qm 3, .inl (kA 0, 4, .inl (fun _ => 0)))], [(qm 2, .inl (kA 0, 66836, .inl all0))]]) H := hP
  have hD : va_D A (cat [[(a0, .inr (13, mF qm x0Mo y0Mo))], [(qm 3, .inl (kA 0, 4, .inl (fun _ => 0)))], [(qm 2, .inl (kA 0, 66836, .inl all0))]]) := hD
  refine lv_if_eq (pc := 4) (tgt := 16) hx hb d_Mo_turn_4 (by decide) (fun c1 => absurd c1 (by decide)) (fun c1 => ?_)
  refine lv_iload_n (pc := 7) hx hb d_Mo_turn_7 rfl (lv_at hl 2 rfl) ?_
  refine lv_iconst (pc := 8) (v := 0) hx hb d_Mo_turn_8 (by decide) ?_
  refine lv_iconst (pc := 9) (v := 2) hx hb d_Mo_turn_9 (by decide) ?_
  refine k_goI (gr := [[(a0, .inr (13, mF qm x0Mo y0Mo))], [(qm 3, .inl (kA 0, 4, .inl (fun _ => 0)))], [(qm 2, .inl (kA 0, 66836, .inl all0))]]) (k_rS (pc := 10) (As := [.int 0, .int 0, .int 2]) (rest := []) X (c_Mo_in_z28 l D kA  H.size) rfl wm_2971 wm_9 wm_2969 wm_2970 3 (by decide +kernel) ⟨Nat.le_of_ble_eq_true rfl, Nat.le_of_ble_eq_true rfl⟩ rfl rfl (k_pre hN hK hP hD [] [0, 1, 2] 3 rfl (by decide) rfl) rfl hl.1 rfl (Nat.le_of_ble_eq_true rfl) d_Mo_turn_10 ⟨Nat.le_of_ble_eq_true rfl, Nat.le_of_ble_eq_true rfl⟩) hP hD hS hA [] [0, 1, 2] 3 rfl (by decide) rfl rfl (fun r3 u4 H locs hu4 hP hD hS => ?_)
  subst hu4
  have hP : va_P D classes (cat [[(a0, .inr (13, mF qm x0Mo y0Mo))], [(qm 3, .inl (kA 0, 4, .inl (fun _ => 0)))], [(qm 2, .inl (kA 0, 66836, .inl all0))]]) H := hP
  have hD : va_D A (cat [[(a0, .inr (13, mF qm x0Mo y0Mo))], [(qm 3, .inl (kA 0, 4, .inl (fun _ => 0)))], [(qm 2, .inl (kA 0, 66836, .inl all0))]]) := hD
  refine lv_if_ne (pc := 13) (tgt := 18) hx hb d_Mo_turn_13 (by decide) (fun c1 => ?_) (fun c1 => absurd c1 (by decide))
  refine lv_aload_n (pc := 18) hx hb d_Mo_turn_18 rfl (lv_at hl 0 rfl) ?_
  refine lv_iload_n (pc := 19) hx hb d_Mo_turn_19 rfl (lv_at hl 1 rfl) ?_
  refine k_goV (gr := [[(qm 2, .inl (kA 0, 66836, .inl all0))]]) (k_rV (pc := 20) (As := [.int (nI j)]) (rest := []) X (c_Mo_take_z1 l D kA a0 j qm hj H.size) rfl wm_3091 wm_9 wm_3088 wm_3090 wv_14_2 1 (by decide +kernel) ⟨Nat.le_of_ble_eq_true rfl, Nat.le_of_ble_eq_true rfl⟩ rfl rfl (va_recv hK hP (ci := 13) (q0 := 0) rfl rfl) (k_pre hN hK hP hD [0, 1] [2] 3 rfl (by decide) rfl) rfl hl.1 rfl (Nat.le_of_ble_eq_true rfl) d_Mo_turn_20 ⟨Nat.le_of_ble_eq_true rfl, Nat.le_of_ble_eq_true rfl⟩) hP hD hS hA [0, 1] [2] 3 rfl (by decide) rfl rfl (fun u5 H locs hu5 hP hD hS => ?_)
  have hP : va_P D classes (cat [[(qm 2, .inl (kA 0, 66836, .inl all0))], [(a0, .inr (13, mF qm (va_up x0Mo 5 (nI (539 * (31 * j + 0)))) y0Mo))], [(qm 3, .inl (kA 0, 4, .inl (fun _ => 0)))]]) H := hP
  have hD : va_D A (cat [[(qm 2, .inl (kA 0, 66836, .inl all0))], [(a0, .inr (13, mF qm (va_up x0Mo 5 (nI (539 * (31 * j + 0)))) y0Mo))], [(qm 3, .inl (kA 0, 4, .inl (fun _ => 0)))]]) := hD
  refine lv_aload_n (pc := 23) hx hb d_Mo_turn_23 rfl (lv_at hl 0 rfl) ?_
  refine k_goI (gr := [[(qm 3, .inl (kA 0, 4, .inl (fun _ => 0)))]]) (k_rV (pc := 24) (As := []) (rest := []) X (c_Mo_isPlanar_z1 l D kA a0 qm j hj H.size) rfl wm_3251 wm_9 wm_3248 wm_3250 wv_16_5 0 (by decide +kernel) ⟨Nat.le_of_ble_eq_true rfl, Nat.le_of_ble_eq_true rfl⟩ rfl rfl (va_recv hK hP (ci := 13) (q0 := 1) rfl rfl) (k_pre hN hK hP hD [1, 0] [2] 3 rfl (by decide) rfl) rfl hl.1 rfl (Nat.le_of_ble_eq_true rfl) d_Mo_turn_24 ⟨Nat.le_of_ble_eq_true rfl, Nat.le_of_ble_eq_true rfl⟩) hP hD hS hA [1, 0] [2] 3 rfl (by decide) rfl rfl (fun r6 u7 H locs hu7 hP hD hS => ?_)
  subst hu7
  have hP : va_P D classes (cat [[(qm 3, .inl (kA 0, 4, .inl (fun _ => 0)))], [(a0, .inr (13, mF qm (va_up (va_up x0Mo 5 (nI (539 * (31 * j + 0)))) 49 (-1)) y0Mo))], [(qm 2, .inl (kA 0, 66836, .inl all0))]]) H := hP
  have hD : va_D A (cat [[(qm 3, .inl (kA 0, 4, .inl (fun _ => 0)))], [(a0, .inr (13, mF qm (va_up (va_up x0Mo 5 (nI (539 * (31 * j + 0)))) 49 (-1)) y0Mo))], [(qm 2, .inl (kA 0, 66836, .inl all0))]]) := hD
  refine lv_istore (pc := 27) (lv' := [(5, .int 1), (0, .ref a0), (1, .int (nI j)), (2, .int 0), (3, .int v3), (4, .int v4)]) hx hb d_Mo_turn_27 hl (by decide) rfl (fun ls hl => ?_)
  refine lv_iload (pc := 29) hx hb d_Mo_turn_29 (lv_at hl 0 rfl) ?_
  refine lv_iload_n (pc := 31) hx hb d_Mo_turn_31 rfl (lv_at hl 3 rfl) ?_
  refine lv_iconst (pc := 32) (v := 2) hx hb d_Mo_turn_32 (by decide) ?_
  refine lv_icmp_ne (pc := 33) (tgt := 40) hx hb d_Mo_turn_33 (by decide) (fun _ => ?_) (fun c1 => absurd c1 (by decide))
  refine lv_iconst (pc := 40) (v := 0) hx hb d_Mo_turn_40 (by decide) ?_
  refine lv_icmp_ne (pc := 41) (tgt := 46) hx hb d_Mo_turn_41 (by decide) (fun _ => ?_) (fun c1 => absurd c1 (by decide))
  refine lv_iload_n (pc := 46) hx hb d_Mo_turn_46 rfl (lv_at hl 3 rfl) ?_
  refine lv_iconst (pc := 47) (v := 2) hx hb d_Mo_turn_47 (by decide) ?_
  refine lv_icmp_ne (pc := 48) (tgt := 80) hx hb d_Mo_turn_48 (by decide) (fun _ => ?_) (fun c1 => absurd c1 (by decide))
  refine lv_iload_n (pc := 80) hx hb d_Mo_turn_80 rfl (lv_at hl 3 rfl) ?_
  refine lv_if_ne (pc := 81) (tgt := 132) hx hb d_Mo_turn_81 (by decide) (fun c1 => absurd (by decide) c1) (fun c1 => ?_)
  refine lv_iload_n (pc := 84) hx hb d_Mo_turn_84 rfl (lv_at hl 4 rfl) ?_
  refine lv_iconst (pc := 85) (v := 0) hx hb d_Mo_turn_85 (by decide) ?_
  refine lv_aload_n (pc := 86) hx hb d_Mo_turn_86 rfl (lv_at hl 1 rfl) ?_
  refine k_get (pc := 87) (v := .int 0) X hK hP 1 rfl rfl i_Mo 31 (by decide) wm_2464 rfl rfl d_Mo_turn_87 ?_
  refine lv_iconst (pc := 90) (v := 1) hx hb d_Mo_turn_90 (by decide) ?_
  refine lv_isub (pc := 91) hx hb d_Mo_turn_91 ?_
  refine k_cst (v := (-1)) (by decide) ?_
  refine k_goI (gr := [[(qm 3, .inl (kA 0, 4, .inl (fun _ => 0)))], [(a0, .inr (13, mF qm (va_up (va_up x0Mo 5 (nI (539 * (31 * j + 0)))) 49 (-1)) y0Mo))], [(qm 2, .inl (kA 0, 66836, .inl all0))]]) (k_rS (pc := 92) (As := [.int v3, .int 0, .int ((-1))]) (rest := []) X (c_Mo_in_z27 l D kA v3 hn3 H.size) rfl wm_2971 wm_9 wm_2969 wm_2970 3 (by decide +kernel) ⟨Nat.le_of_ble_eq_true rfl, Nat.le_of_ble_eq_true rfl⟩ rfl rfl (k_pre hN hK hP hD [] [0, 1, 2] 3 rfl (by decide) rfl) rfl hl.1 rfl (Nat.le_of_ble_eq_true rfl) d_Mo_turn_92 ⟨Nat.le_of_ble_eq_true rfl, Nat.le_of_ble_eq_true rfl⟩) hP hD hS hA [] [0, 1, 2] 3 rfl (by decide) rfl rfl (fun r8 u9 H locs hu9 hP hD hS => ?_)
  subst hu9
  have hP : va_P D classes (cat [[(qm 3, .inl (kA 0, 4, .inl (fun _ => 0)))], [(a0, .inr (13, mF qm (va_up (va_up x0Mo 5 (nI (539 * (31 * j + 0)))) 49 (-1)) y0Mo))], [(qm 2, .inl (kA 0, 66836, .inl all0))]]) H := hP
  have hD : va_D A (cat [[(qm 3, .inl (kA 0, 4, .inl (fun _ => 0)))], [(a0, .inr (13, mF qm (va_up (va_up x0Mo 5 (nI (539 * (31 * j + 0)))) 49 (-1)) y0Mo))], [(qm 2, .inl (kA 0, 66836, .inl all0))]]) := hD
  refine lv_if_eq (pc := 95) (tgt := 130) hx hb d_Mo_turn_95 (by decide) (fun c1 => ?_) (fun c1 => absurd (by decide) c1)
  refine lv_iconst (pc := 130) (v := -1) hx hb d_Mo_turn_130 (by decide) ?_
  refine W.widen (k := 0) (n := 0) (Nat.le_of_ble_eq_true rfl) (Nat.le_of_ble_eq_true rfl) ?_
  exact W.iret (v := (-1)) hx hb hr (fun t ht hW => ⟨⟨(-1), [[(qm 3, .inl (kA 0, 4, .inl (fun _ => 0)))], [(a0, .inr (13, mF qm (va_up (va_up x0Mo 5 (nI (539 * (31 * j + 0)))) 49 (-1)) y0Mo))], [(qm 2, .inl (kA 0, 66836, .inl all0))]], rfl, rfl, by rw [ht]; exact hP, va_K.moved hW.alike hK, hD⟩, hS.F ht⟩) hS.2.2 d_Mo_turn_131
set_option maxRecDepth 100000 in
set_option maxHeartbeats 4000000 in
/-- turn, a fresh house -/
theorem lf_turn_5 {p : Program} {e : Env} {s : State} {m : MethodId} {below : List Frame} {meth : Method} {c : Code} (l : Launch) {b : Nat} {xs : Nat → Int32} (C0 : lw_At p s m meth c b 6 xs) {D : va_G} {kA : Nat → ClassId} (h : Nat) (h2 : Nat) (q : Nat → Nat) (qg : Nat → Nat) (qn : Nat → Nat) (qe : Nat → Nat) (qm : Nat → Nat) (g : Nat → Nat → Nat) (j : Nat) (v3 : Int32) (v4 : Int32) (hj : j < 4) (hn3 : ¬ v3 < 0) (hv1 : xs 1 = nI j) (hv2 : xs 2 = 0) (hv3 : xs 3 = v3) (hv4 : xs 4 = v4) {H : Heap} {locs : List Loc} {ls : Array Slot} (hK : va_K D classes (TY kA) s) (hN : nst s) (hP : va_P D classes (cat [[(h, .inr (12, [.ref (q 0), .ref (q 1), .ref (q 2), .ref (q 3), .ref (q 4), .ref (q 5), .ref (q 6), .int 0, .int ((-1)), .ref (q 9), .ref (q 10), .int 0, .int 0, .ref (q 13), .int 0, .int 0, .null, .null, .null, .null, .null]))], [(q 2, .inl (kA 6, 4, .inr (.inr (.inr (.inr (rr (g 2)))))))], [(g 2 j, .inr (5, [.int ((-1)), .int ((-1)), .int ((-1)), .int 0, .ref (qn 4), .int 0, .int 0, .ref (qn 7), .ref (qn 8), .ref (qn 9), .ref (qn 10), .ref (qn 11), .ref (qn 12), .int 0, .ref (qn 14), .ref (qn 15), .ref (qn 16)]))], [(q 0, .inl (kA 4, 4, .inr (.inr (.inr (.inr (rr (g 0)))))))], [(g 0 j, .inr (3, [.int 0, .int 0, .int 1, .ref (qg 3), .ref (qg 4), .ref (qg 5), .ref (qg 6), .ref (qg 7), .ref (qg 8), .ref (qg 9), .ref (qg 10), .ref (qg 11), .ref (qg 12), .ref (qg 13), .ref (qg 14), .ref (qg 15), .null, .int 0, .int 0]))], [(qn 9, .inl (kA 0, 25, .inl (fun _ => 0)))], [(qn 10, .inl (kA 0, 625, .inl (fun _ => 0)))], [(qn 12, .inl (kA 0, 25, .inl (fun _ => 0)))], [(q 5, .inr (1, [.null, .ref (qe 1), .ref (qe 2), .ref (qe 3), .ref (qe 4), .int 0, .int 0, .int 0, .ref (qe 8), .ref (qe 9), .ref (qe 10), .ref (qe 11), .ref (qe 12), .ref (qe 13), .ref (qe 14), .int 0, .int 0, .int 0, .int 0, .ref (qe 19)]))], [(qn 16, .inl (kA 0, 144, .inl (fun _ => 0)))], [(qn 14, .inl (kA 0, 145, .inl (fun _ => 0)))], [(h2, .inr (13, mF qm x0Mo y0Mo))], [(qm 3, .inl (kA 0, 4, .inl (fun _ => 0)))], [(qm 2, .inl (kA 0, 66836, .inl all0))]]) H) (hD : va_D (fun q : Nat => s.heap.size ≤ q) (cat [[(h, .inr (12, [.ref (q 0), .ref (q 1), .ref (q 2), .ref (q 3), .ref (q 4), .ref (q 5), .ref (q 6), .int 0, .int ((-1)), .ref (q 9), .ref (q 10), .int 0, .int 0, .ref (q 13), .int 0, .int 0, .null, .null, .null, .null, .null]))], [(q 2, .inl (kA 6, 4, .inr (.inr (.inr (.inr (rr (g 2)))))))], [(g 2 j, .inr (5, [.int ((-1)), .int ((-1)), .int ((-1)), .int 0, .ref (qn 4), .int 0, .int 0, .ref (qn 7), .ref (qn 8), .ref (qn 9), .ref (qn 10), .ref (qn 11), .ref (qn 12), .int 0, .ref (qn 14), .ref (qn 15), .ref (qn 16)]))], [(q 0, .inl (kA 4, 4, .inr (.inr (.inr (.inr (rr (g 0)))))))], [(g 0 j, .inr (3, [.int 0, .int 0, .int 1, .ref (qg 3), .ref (qg 4), .ref (qg 5), .ref (qg 6), .ref (qg 7), .ref (qg 8), .ref (qg 9), .ref (qg 10), .ref (qg 11), .ref (qg 12), .ref (qg 13), .ref (qg 14), .ref (qg 15), .null, .int 0, .int 0]))], [(qn 9, .inl (kA 0, 25, .inl (fun _ => 0)))], [(qn 10, .inl (kA 0, 625, .inl (fun _ => 0)))], [(qn 12, .inl (kA 0, 25, .inl (fun _ => 0)))], [(q 5, .inr (1, [.null, .ref (qe 1), .ref (qe 2), .ref (qe 3), .ref (qe 4), .int 0, .int 0, .int 0, .ref (qe 8), .ref (qe 9), .ref (qe 10), .ref (qe 11), .ref (qe 12), .ref (qe 13), .ref (qe 14), .int 0, .int 0, .int 0, .int 0, .ref (qe 19)]))], [(qn 16, .inl (kA 0, 144, .inl (fun _ => 0)))], [(qn 14, .inl (kA 0, 145, .inl (fun _ => 0)))], [(h2, .inr (13, mF qm x0Mo y0Mo))], [(qm 3, .inl (kA 0, 4, .inl (fun _ => 0)))], [(qm 2, .inl (kA 0, 66836, .inl all0))]])) (hS : va_S (fun q : Nat => s.heap.size ≤ q) s.heap H locs) (hl : lv_has ls 4 [(3, .int 0), (2, .ref h2), (1, .ref h), (0, .ref b)]) : W p l e room_1 s m #[Value.ref b] below meth c H locs 368 365796 (lw_Z below #[Value.ref b] s) (F0 m 712 ls []) := by
  obtain ⟨hx, hb, hr, hml, hown, hts0, hX, hbl, hlocks, hgv⟩ := id C0
  have hts : ∀ w ∈ lw_g, w.before #[Value.ref b] s = true := fun w h => hts0 w (lw_gt h)
  have X : cx p s m #[Value.ref b] meth c b_law_law 4 ret "DrawingHouseLaw" meth.name := ⟨hx, hb, hml, hown, hts, hr, hlocks, rfl⟩
  obtain ⟨A, hAe⟩ : ∃ A : Nat → Prop, A = fun q : Nat => s.heap.size ≤ q := ⟨_, rfl⟩
  have hA : ∀ q : Nat, s.heap.size ≤ q → A q := fun q h => by rw [hAe]; exact h
  have hbA : ¬ A b := by rw [hAe]; exact Nat.not_le.mpr hbl
  rw [← hAe] at hD hS
  refine lv_aload_n (pc := 712) hx hb d_law_law_712 rfl (lv_at hl 2 rfl) ?_
  refine lv_aload_n (pc := 713) hx hb d_law_law_713 rfl (lv_at hl 3 rfl) ?_
  refine lv_iload_n (pc := 714) hx hb d_law_law_714 rfl (lv_at hl 0 rfl) ?_
  refine lv_iconst (pc := 715) (v := 1) hx hb d_law_law_715 (by decide) ?_
  refine lv_iadd (pc := 716) hx hb d_law_law_716 ?_
  refine k_cst (v := 1) (by decide) ?_
  refine va_sld (pc := 717) hx hb hX hbl hbA hS (by unfold vp_in; decide) d_law_law_717 ?_
  refine k_cst (v := nI j) hv1 ?_
  refine lv_aload_n (pc := 718) hx hb d_law_law_718 rfl (lv_at hl 3 rfl) ?_
  refine lv_iload_n (pc := 719) hx hb d_law_law_719 rfl (lv_at hl 0 rfl) ?_
  refine lv_iconst (pc := 720) (v := 2) hx hb d_law_law_720 (by decide) ?_
  refine lv_iadd (pc := 721) hx hb d_law_law_721 ?_
  refine k_cst (v := 2) (by decide) ?_
  refine va_sld (pc := 722) hx hb hX hbl hbA hS (by unfold vp_in; decide) d_law_law_722 ?_
  refine k_cst (v := 0) hv2 ?_
  refine lv_aload_n (pc := 723) hx hb d_law_law_723 rfl (lv_at hl 3 rfl) ?_
  refine lv_iload_n (pc := 724) hx hb d_law_law_724 rfl (lv_at hl 0 rfl) ?_
  refine lv_iconst (pc := 725) (v := 3) hx hb d_law_law_725 (by decide) ?_
  refine lv_iadd (pc := 726) hx hb d_law_law_726 ?_
  refine k_cst (v := 3) (by decide) ?_
  refine va_sld (pc := 727) hx hb hX hbl hbA hS (by unfold vp_in; decide) d_law_law_727 ?_
  refine k_cst (v := v3) hv3 ?_
  refine lv_aload_n (pc := 728) hx hb d_law_law_728 rfl (lv_at hl 3 rfl) ?_
  refine lv_iload_n (pc := 729) hx hb d_law_law_729 rfl (lv_at hl 0 rfl) ?_
  refine lv_iconst (pc := 730) (v := 4) hx hb d_law_law_730 (by decide) ?_
  refine lv_iadd (pc := 731) hx hb d_law_law_731 ?_
  refine k_cst (v := 4) (by decide) ?_
  refine va_sld (pc := 732) hx hb hX hbl hbA hS (by unfold vp_in; decide) d_law_law_732 ?_
  refine k_cst (v := v4) hv4 ?_
  refine k_goI (gr := [[(h2, .inr (13, mF qm x0Mo y0Mo))], [(qm 3, .inl (kA 0, 4, .inl (fun _ => 0)))], [(qm 2, .inl (kA 0, 66836, .inl all0))]]) (k_rV (pc := 733) (As := [.int (nI j), .int 0, .int v3, .int v4]) (rest := []) X (c_Ho_turn_z5 l D kA h j v3 v4 (q 0) (q 1) (q 2) (q 3) (q 4) (q 5) (q 6) (q 9) (q 10) (q 13) g (qn 4) (qn 7) (qn 8) (qn 9) (qn 10) (qn 11) (qn 12) (qn 14) (qn 15) (qn 16) (qg 3) (qg 4) (qg 5) (qg 6) (qg 7) (qg 8) (qg 9) (qg 10) (qg 11) (qg 12) (qg 13) (qg 14) (qg 15) (fun _ => 0) (fun _ => 0) (fun _ => 0) (qe 1) (qe 2) (qe 3) (qe 4) (qe 8) (qe 9) (qe 10) (qe 11) (qe 12) (qe 13) (qe 14) (qe 19) (fun _ => 0) (fun _ => 0) hj hn3 H.size) rfl wm_1172 wm_1 wm_1169 wm_1170 wm_1171 4 (by decide +kernel) ⟨Nat.le_of_ble_eq_true rfl, Nat.le_of_ble_eq_true rfl⟩ rfl rfl (va_recv hK hP (ci := 12) (q0 := 0) rfl rfl) (k_pre hN hK hP hD [0, 1, 2, 3, 4, 5, 6, 7, 8, 9, 10] [11, 12, 13] 14 rfl (by decide) rfl) rfl hl.1 rfl (Nat.le_of_ble_eq_true rfl) d_law_law_733 ⟨Nat.le_of_ble_eq_true rfl, Nat.le_of_ble_eq_true rfl⟩) hP hD hS hA [0, 1, 2, 3, 4, 5, 6, 7, 8, 9, 10] [11, 12, 13] 14 rfl (by decide) rfl rfl (fun r1 u2 H locs hu2 hP hD hS => ?_)
  obtain ⟨hP, hD⟩ := k_left hP hD
  subst hu2
  have hP : va_P D classes (cat [[(h2, .inr (13, mF qm x0Mo y0Mo))], [(qm 3, .inl (kA 0, 4, .inl (fun _ => 0)))], [(qm 2, .inl (kA 0, 66836, .inl all0))]]) H := hP
  have hD : va_D A (cat [[(h2, .inr (13, mF qm x0Mo y0Mo))], [(qm 3, .inl (kA 0, 4, .inl (fun _ => 0)))], [(qm 2, .inl (kA 0, 66836, .inl all0))]]) := hD
  refine lv_aload_n (pc := 736) hx hb d_law_law_736 rfl (lv_at hl 1 rfl) ?_
  refine lv_aload_n (pc := 737) hx hb d_law_law_737 rfl (lv_at hl 3 rfl) ?_
  refine lv_iload_n (pc := 738) hx hb d_law_law_738 rfl (lv_at hl 0 rfl) ?_
  refine lv_iconst (pc := 739) (v := 1) hx hb d_law_law_739 (by decide) ?_
  refine lv_iadd (pc := 740) hx hb d_law_law_740 ?_
  refine k_cst (v := 1) (by decide) ?_
  refine va_sld (pc := 741) hx hb hX hbl hbA hS (by unfold vp_in; decide) d_law_law_741 ?_
  refine k_cst (v := nI j) hv1 ?_
  refine lv_aload_n (pc := 742) hx hb d_law_law_742 rfl (lv_at hl 3 rfl) ?_
  refine lv_iload_n (pc := 743) hx hb d_law_law_743 rfl (lv_at hl 0 rfl) ?_
  refine lv_iconst (pc := 744) (v := 2) hx hb d_law_law_744 (by decide) ?_
  refine lv_iadd (pc := 745) hx hb d_law_law_745 ?_
  refine k_cst (v := 2) (by decide) ?_
  refine va_sld (pc := 746) hx hb hX hbl hbA hS (by unfold vp_in; decide) d_law_law_746 ?_
  refine k_cst (v := 0) hv2 ?_
  refine lv_aload_n (pc := 747) hx hb d_law_law_747 rfl (lv_at hl 3 rfl) ?_
  refine lv_iload_n (pc := 748) hx hb d_law_law_748 rfl (lv_at hl 0 rfl) ?_
  refine lv_iconst (pc := 749) (v := 3) hx hb d_law_law_749 (by decide) ?_
  refine lv_iadd (pc := 750) hx hb d_law_law_750 ?_
  refine k_cst (v := 3) (by decide) ?_
  refine va_sld (pc := 751) hx hb hX hbl hbA hS (by unfold vp_in; decide) d_law_law_751 ?_
  refine k_cst (v := v3) hv3 ?_
  refine lv_aload_n (pc := 752) hx hb d_law_law_752 rfl (lv_at hl 3 rfl) ?_
  refine lv_iload_n (pc := 753) hx hb d_law_law_753 rfl (lv_at hl 0 rfl) ?_
  refine lv_iconst (pc := 754) (v := 4) hx hb d_law_law_754 (by decide) ?_
  refine lv_iadd (pc := 755) hx hb d_law_law_755 ?_
  refine k_cst (v := 4) (by decide) ?_
  refine va_sld (pc := 756) hx hb hX hbl hbA hS (by unfold vp_in; decide) d_law_law_756 ?_
  refine k_cst (v := v4) hv4 ?_
  refine k_goI (gr := []) (k_rV (pc := 757) (As := [.int (nI j), .int 0, .int v3, .int v4]) (rest := [.int ((-1))]) X (c_Mo_turn_z5 l D kA h2 j v3 v4 qm hj hn3 H.size) rfl wm_3271 wm_9 wm_3268 wm_3269 wm_3270 4 (by decide +kernel) ⟨Nat.le_of_ble_eq_true rfl, Nat.le_of_ble_eq_true rfl⟩ rfl rfl (va_recv hK hP (ci := 13) (q0 := 0) rfl rfl) (k_pre hN hK hP hD [0, 1, 2] [] 3 rfl (by decide) rfl) rfl hl.1 rfl (Nat.le_of_ble_eq_true rfl) d_law_law_757 ⟨Nat.le_of_ble_eq_true rfl, Nat.le_of_ble_eq_true rfl⟩) hP hD hS hA [0, 1, 2] [] 3 rfl (by decide) rfl rfl (fun r3 u4 H locs hu4 hP hD hS => ?_)
  obtain ⟨hP, hD⟩ := k_left hP hD
  subst hu4
  have hP : va_P D classes (cat []) H := hP
  have hD : va_D A (cat []) := hD
  refine lv_icmp_eq (pc := 760) (tgt := 1295) hx hb d_law_law_760 (by decide) (fun _ => ?_) (fun c1 => absurd (by decide) c1)
  rw [hAe] at hS
  exact law_exit l C0 (Nat.le_of_ble_eq_true rfl) (Nat.le_of_ble_eq_true rfl) hS hl
set_option maxRecDepth 100000 in
set_option maxHeartbeats 4000000 in
/-- DrawingHouse.turn(IIII)I -/
theorem c_Ho_turn_z6 (l : Launch) (D : va_G) (kA : Nat → ClassId) (a0 : Nat) (j : Nat) (v3 : Int32) (v4 : Int32) (hj : j < 4) (hn3 : v3 < 0) : Ci l y_Ho_turn z_Ho_turn { frames := 1, cells := 0, slots := 0, locals := 20 } D classes (TY kA) [.ref a0, .int (nI j), .int 1, .int v3, .int v4] [] (fun r (_ : List va_W) => r = (-1)) (fun u => u) 0 0 := by
  intro sz
  refine k_met (cc := b_Ho_turn) (maxL := 6) (ret := (some .int)) (by decide) rfl (Nat.le_of_ble_eq_true rfl) (fun p e s m below meth c ls X hl hB => ?_)
  obtain ⟨hsz, hP, hK, hD0, hN⟩ := hB
  subst hsz
  have hD := hD0.self (sz := s.heap.size)
  generalize hAe : va_A (cat []) s.heap.size = A at hD ⊢
  have hA : ∀ q : Nat, s.heap.size ≤ q → A q := fun q h => by rw [← hAe]; exact Or.inr h
  have hS : va_S A s.heap s.heap [] := va_S.rf
  obtain ⟨hx, hb, hml, hown, hts, hr, hlk, hnm⟩ := id X
  have hl : lv_has ls 6 [(0, .ref a0), (1, .int (nI j)), (2, .int 1), (3, .int v3), (4, .int v4)] := hl
  have hP : va_P D classes (cat []) s.heap := hP
  have hK : va_K D classes (TY kA) s := hK
  refine lv_iload_n (pc := 0) hx hb d_Ho_turn_0 rfl (lv_at hl 1 rfl) ?_
  refine k_goI (gr := []) (k_rS (pc := 1) (As := [.int (nI j)]) (rest := []) X (c_Ho_isPlace l D kA (nI j) s.heap.size) rfl wm_633 wm_1 wm_631 wm_632 1 (by decide +kernel) ⟨Nat.le_of_ble_eq_true rfl, Nat.le_of_ble_eq_true rfl⟩ rfl rfl (k_pre hN hK hP hD [] [] 0 rfl (by decide) rfl) rfl hl.1 rfl (Nat.le_of_ble_eq_true rfl) d_Ho_turn_1 ⟨Nat.le_of_ble_eq_true rfl, Nat.le_of_ble_eq_true rfl⟩) hP hD hS hA [] [] 0 rfl (by decide) rfl rfl (fun r1 u2 H locs hu2 hP hD hS => ?_)
  subst hu2
  refine k_cst (v := 1) (place_ok hj) ?_
  have hP : va_P D classes (cat []) H := hP
  have hD : va_D A (cat []) := hD
  refine lv_if_eq (pc := 4) (tgt := 11) hx hb d_Ho_turn_4 (by decide) (fun c1 => absurd c1 (by decide)) (fun c1 => ?_)
  refine lv_iload_n (pc := 7) hx hb d_Ho_turn_7 rfl (lv_at hl 3 rfl) ?_
  refine lv_if_ge (pc := 8) (tgt := 13) hx hb d_Ho_turn_8 (by decide) (fun c1 => absurd c1 (Int32.not_le.mpr hn3)) (fun c1 => ?_)
  refine lv_iconst (pc := 11) (v := -1) hx hb d_Ho_turn_11 (by decide) ?_
  refine W.widen (k := 0) (n := 0) (Nat.le_of_ble_eq_true rfl) (Nat.le_of_ble_eq_true rfl) ?_
  exact W.iret (v := (-1)) hx hb hr (fun t ht hW => ⟨⟨(-1), [], rfl, rfl, by rw [ht]; exact hP, va_K.moved hW.alike hK, hD⟩, hS.F ht⟩) hS.2.2 d_Ho_turn_12
set_option maxRecDepth 100000 in
set_option maxHeartbeats 4000000 in
/-- DrawingHouseModel.in(III)Z -/
theorem c_Mo_in_z29 (l : Launch) (D : va_G) (kA : Nat → ClassId) : Ci l y_Mo_in z_Mo_in { frames := 0, cells := 0, slots := 0, locals := 0 } D classes (TY kA) [.int 1, .int 0, .int 2] [] (fun r (_ : Unit) => r = 1) (fun u => []) 0 0 := by
  intro sz
  refine k_met (cc := b_Mo_in) (maxL := 3) (ret := (some .boolean)) (by decide) rfl (Nat.le_of_ble_eq_true rfl) (fun p e s m below meth c ls X hl hB => ?_)
  obtain ⟨hsz, hP, hK, hD0, hN⟩ := hB
  subst hsz
  have hD := hD0.self (sz := s.heap.size)
  generalize hAe : va_A (cat []) s.heap.size = A at hD ⊢
  have hA : ∀ q : Nat, s.heap.size ≤ q → A q := fun q h => by rw [← hAe]; exact Or.inr h
  have hS : va_S A s.heap s.heap [] := va_S.rf
  obtain ⟨hx, hb, hml, hown, hts, hr, hlk, hnm⟩ := id X
  have hl : lv_has ls 3 [(0, .int 1), (1, .int 0), (2, .int 2)] := hl
  have hP : va_P D classes (cat []) s.heap := hP
  have hK : va_K D classes (TY kA) s := hK
  refine lv_iload_n (pc := 0) hx hb d_Mo_in_0 rfl (lv_at hl 0 rfl) ?_
  refine lv_iload_n (pc := 1) hx hb d_Mo_in_1 rfl (lv_at hl 1 rfl) ?_
  refine lv_icmp_lt (pc := 2) (tgt := 14) hx hb d_Mo_in_2 (by decide) (fun c1 => absurd c1 (by decide)) (fun _ => ?_)
  refine lv_iload_n (pc := 5) hx hb d_Mo_in_5 rfl (lv_at hl 0 rfl) ?_
  refine lv_iload_n (pc := 6) hx hb d_Mo_in_6 rfl (lv_at hl 2 rfl) ?_
  refine lv_icmp_gt (pc := 7) (tgt := 14) hx hb d_Mo_in_7 (by decide) (fun c1 => absurd c1 (by decide)) (fun _ => ?_)
  refine lv_iconst (pc := 10) (v := 1) hx hb d_Mo_in_10 (by decide) ?_
  refine lv_goto (pc := 11) (tgt := 15) hx hb d_Mo_in_11 (by decide) ?_
  refine W.widen (k := 0) (n := 0) (Nat.le_of_ble_eq_true rfl) (Nat.le_of_ble_eq_true rfl) ?_
  exact W.zret (v := 1) hx hb hr rfl (fun t ht hW => ⟨⟨1, (), rfl, rfl, by rw [ht]; exact hP, va_K.moved hW.alike hK, hD⟩, hS.F ht⟩) hS.2.2 d_Mo_in_15
set_option maxRecDepth 100000 in
set_option maxHeartbeats 4000000 in
/-- DrawingHouseModel.turn(IIII)I -/
theorem c_Mo_turn_z6 (l : Launch) (D : va_G) (kA : Nat → ClassId) (a0 : Nat) (j : Nat) (v3 : Int32) (v4 : Int32) (qm : Nat → Nat) (f0 : Nat → Int32) (hj : j < 4) (hn3 : v3 < 0) : Ci l y_Mo_turn z_Mo_turn { frames := 3, cells := 0, slots := 0, locals := 66 } D classes (TY kA) [.ref a0, .int (nI j), .int 1, .int v3, .int v4] [[(a0, .inr (13, mF qm x0Mo y0Mo))], [(qm 3, .inl (kA 0, 4, .inl (fun _ => 0)))], [(qm 2, .inl (kA 0, 66836, .inl all0))], [(qm 56, .inl (kA 0, 161, .inl f0))]] (fun r (_ : List va_W) => r = (-1)) (fun u => u) 0 0 := by
  intro sz
  refine k_met (cc := b_Mo_turn) (maxL := 6) (ret := (some .int)) (by decide) rfl (Nat.le_of_ble_eq_true rfl) (fun p e s m below meth c ls X hl hB => ?_)
  obtain ⟨hsz, hP, hK, hD0, hN⟩ := hB
  subst hsz
  have hD := hD0.self (sz := s.heap.size)
  generalize hAe : va_A (cat [[(a0, .inr (13, mF qm x0Mo y0Mo))], [(qm 3, .inl (kA 0, 4, .inl (fun _ => 0)))], [(qm 2, .inl (kA 0, 66836, .inl all0))], [(qm 56, .inl (kA 0, 161, .inl f0))]]) s.heap.size = A at hD ⊢
  have hA : ∀ q : Nat, s.heap.size ≤ q → A q := fun q h => by rw [← hAe]; exact Or.inr h
  have hS : va_S A s.heap s.heap [] := va_S.rf
  obtain ⟨hx, hb, hml, hown, hts, hr, hlk, hnm⟩ := id X
  have hl : lv_has ls 6 [(0, .ref a0), (1, .int (nI j)), (2, .int 1), (3, .int v3), (4, .int v4)] := hl
  have hP : va_P D classes (cat [[(a0, .inr (13, mF qm x0Mo y0Mo))], [(qm 3, .inl (kA 0, 4, .inl (fun _ => 0)))], [(qm 2, .inl (kA 0, 66836, .inl all0))], [(qm 56, .inl (kA 0, 161, .inl f0))]]) s.heap := hP
  have hK : va_K D classes (TY kA) s := hK
  refine lv_iload_n (pc := 0) hx hb d_Mo_turn_0 rfl (lv_at hl 1 rfl) ?_
  refine k_goI (gr := [[(a0, .inr (13, mF qm x0Mo y0Mo))], [(qm 3, .inl (kA 0, 4, .inl (fun _ => 0)))], [(qm 2, .inl (kA 0, 66836, .inl all0))], [(qm 56, .inl (kA 0, 161, .inl f0))]]) (k_rS (pc := 1) (As := [.int (nI j)]) (rest := []) X (c_Mo_isPlace l D kA (nI j) s.heap.size) rfl wm_2978 wm_9 wm_2976 wm_2977 1 (by decide +kernel) ⟨Nat.le_of_ble_eq_true rfl, Nat.le_of_ble_eq_true rfl⟩ rfl rfl (k_pre hN hK hP hD [] [0, 1, 2, 3] 4 rfl (by decide) rfl) rfl hl.1 rfl (Nat.le_of_ble_eq_true rfl) d_Mo_turn_1 ⟨Nat.le_of_ble_eq_true rfl, Nat.le_of_ble_eq_true rfl⟩) hP hD hS hA [] [0, 1, 2, 3] 4 rfl (by decide) rfl rfl (fun r1 u2 H locs hu2 hP hD hS => ?_)
  subst hu2
  refine k_cst (v := 1) (placeM_ok hj) ?_
  have hP : va_P D classes (cat [[(a0, .inr (13, mF qm x0Mo y0Mo))], [(qm 3, .inl (kA 0, 4, .inl (fun _ => 0)))], [(qm 2, .inl (kA 0, 66836, .inl all0))], [(qm 56, .inl (kA 0, 161, .inl f0))]]) H := hP
  have hD : va_D A (cat [[(a0, .inr (13, mF qm x0Mo y0Mo))], [(qm 3, .inl (kA 0, 4, .inl (fun _ => 0)))], [(qm 2, .inl (kA 0, 66836, .inl all0))], [(qm 56, .inl (kA 0, 161, .inl f0))]]) := hD
  refine lv_if_eq (pc := 4) (tgt := 16) hx hb d_Mo_turn_4 (by decide) (fun c1 => absurd c1 (by decide)) (fun c1 => ?_)
  refine lv_iload_n (pc := 7) hx hb d_Mo_turn_7 rfl (lv_at hl 2 rfl) ?_
  refine lv_iconst (pc := 8) (v := 0) hx hb d_Mo_turn_8 (by decide) ?_
  refine lv_iconst (pc := 9) (v := 2) hx hb d_Mo_turn_9 (by decide) ?_
  refine k_goI (gr := [[(a0, .inr (13, mF qm x0Mo y0Mo))], [(qm 3, .inl (kA 0, 4, .inl (fun _ => 0)))], [(qm 2, .inl (kA 0, 66836, .inl all0))], [(qm 56, .inl (kA 0, 161, .inl f0))]]) (k_rS (pc := 10) (As := [.int 1, .int 0, .int 2]) (rest := []) X (c_Mo_in_z29 l D kA  H.size) rfl wm_2971 wm_9 wm_2969 wm_2970 3 (by decide +kernel) ⟨Nat.le_of_ble_eq_true rfl, Nat.le_of_ble_eq_true rfl⟩ rfl rfl (k_pre hN hK hP hD [] [0, 1, 2, 3] 4 rfl (by decide) rfl) rfl hl.1 rfl (Nat.le_of_ble_eq_true rfl) d_Mo_turn_10 ⟨Nat.le_of_ble_eq_true rfl, Nat.le_of_ble_eq_true rfl⟩) hP hD hS hA [] [0, 1, 2, 3] 4 rfl (by decide) rfl rfl (fun r3 u4 H locs hu4 hP hD hS => ?_)
  subst hu4
  have hP : va_P D classes (cat [[(a0, .inr (13, mF qm x0Mo y0Mo))], [(qm 3, .inl (kA 0, 4, .inl (fun _ => 0)))], [(qm 2, .inl (kA 0, 66836, .inl all0))], [(qm 56, .inl (kA 0, 161, .inl f0))]]) H := hP
  have hD : va_D A (cat [[(a0, .inr (13, mF qm x0Mo y0Mo))], [(qm 3, .inl (kA 0, 4, .inl (fun _ => 0)))], [(qm 2, .inl (kA 0, 66836, .inl all0))], [(qm 56, .inl (kA 0, 161, .inl f0))]]) := hD
  refine lv_if_ne (pc := 13) (tgt := 18) hx hb d_Mo_turn_13 (by decide) (fun c1 => ?_) (fun c1 => absurd c1 (by decide))
  refine lv_aload_n (pc := 18) hx hb d_Mo_turn_18 rfl (lv_at hl 0 rfl) ?_
  refine lv_iload_n (pc := 19) hx hb d_Mo_turn_19 rfl (lv_at hl 1 rfl) ?_
  refine k_goV (gr := [[(qm 2, .inl (kA 0, 66836, .inl all0))], [(qm 56, .inl (kA 0, 161, .inl f0))]]) (k_rV (pc := 20) (As := [.int (nI j)]) (rest := []) X (c_Mo_take_z1 l D kA a0 j qm hj H.size) rfl wm_3091 wm_9 wm_3088 wm_3090 wv_14_2 1 (by decide +kernel) ⟨Nat.le_of_ble_eq_true rfl, Nat.le_of_ble_eq_true rfl⟩ rfl rfl (va_recv hK hP (ci := 13) (q0 := 0) rfl rfl) (k_pre hN hK hP hD [0, 1] [2, 3] 4 rfl (by decide) rfl) rfl hl.1 rfl (Nat.le_of_ble_eq_true rfl) d_Mo_turn_20 ⟨Nat.le_of_ble_eq_true rfl, Nat.le_of_ble_eq_true rfl⟩) hP hD hS hA [0, 1] [2, 3] 4 rfl (by decide) rfl rfl (fun u5 H locs hu5 hP hD hS => ?_)
  have hP : va_P D classes (cat [[(qm 2, .inl (kA 0, 66836, .inl all0))], [(qm 56, .inl (kA 0, 161, .inl f0))], [(a0, .inr (13, mF qm (va_up x0Mo 5 (nI (539 * (31 * j + 0)))) y0Mo))], [(qm 3, .inl (kA 0, 4, .inl (fun _ => 0)))]]) H := hP
  have hD : va_D A (cat [[(qm 2, .inl (kA 0, 66836, .inl all0))], [(qm 56, .inl (kA 0, 161, .inl f0))], [(a0, .inr (13, mF qm (va_up x0Mo 5 (nI (539 * (31 * j + 0)))) y0Mo))], [(qm 3, .inl (kA 0, 4, .inl (fun _ => 0)))]]) := hD
  refine lv_aload_n (pc := 23) hx hb d_Mo_turn_23 rfl (lv_at hl 0 rfl) ?_
  refine k_goI (gr := [[(qm 56, .inl (kA 0, 161, .inl f0))], [(qm 3, .inl (kA 0, 4, .inl (fun _ => 0)))]]) (k_rV (pc := 24) (As := []) (rest := []) X (c_Mo_isPlanar_z1 l D kA a0 qm j hj H.size) rfl wm_3251 wm_9 wm_3248 wm_3250 wv_16_5 0 (by decide +kernel) ⟨Nat.le_of_ble_eq_true rfl, Nat.le_of_ble_eq_true rfl⟩ rfl rfl (va_recv hK hP (ci := 13) (q0 := 2) rfl rfl) (k_pre hN hK hP hD [2, 0] [1, 3] 4 rfl (by decide) rfl) rfl hl.1 rfl (Nat.le_of_ble_eq_true rfl) d_Mo_turn_24 ⟨Nat.le_of_ble_eq_true rfl, Nat.le_of_ble_eq_true rfl⟩) hP hD hS hA [2, 0] [1, 3] 4 rfl (by decide) rfl rfl (fun r6 u7 H locs hu7 hP hD hS => ?_)
  subst hu7
  have hP : va_P D classes (cat [[(qm 56, .inl (kA 0, 161, .inl f0))], [(qm 3, .inl (kA 0, 4, .inl (fun _ => 0)))], [(a0, .inr (13, mF qm (va_up (va_up x0Mo 5 (nI (539 * (31 * j + 0)))) 49 (-1)) y0Mo))], [(qm 2, .inl (kA 0, 66836, .inl all0))]]) H := hP
  have hD : va_D A (cat [[(qm 56, .inl (kA 0, 161, .inl f0))], [(qm 3, .inl (kA 0, 4, .inl (fun _ => 0)))], [(a0, .inr (13, mF qm (va_up (va_up x0Mo 5 (nI (539 * (31 * j + 0)))) 49 (-1)) y0Mo))], [(qm 2, .inl (kA 0, 66836, .inl all0))]]) := hD
  refine lv_istore (pc := 27) (lv' := [(5, .int 1), (0, .ref a0), (1, .int (nI j)), (2, .int 1), (3, .int v3), (4, .int v4)]) hx hb d_Mo_turn_27 hl (by decide) rfl (fun ls hl => ?_)
  refine lv_iload (pc := 29) hx hb d_Mo_turn_29 (lv_at hl 0 rfl) ?_
  refine lv_iload_n (pc := 31) hx hb d_Mo_turn_31 rfl (lv_at hl 3 rfl) ?_
  refine lv_iconst (pc := 32) (v := 2) hx hb d_Mo_turn_32 (by decide) ?_
  refine lv_icmp_ne (pc := 33) (tgt := 40) hx hb d_Mo_turn_33 (by decide) (fun _ => ?_) (fun c1 => absurd c1 (by decide))
  refine lv_iconst (pc := 40) (v := 0) hx hb d_Mo_turn_40 (by decide) ?_
  refine lv_icmp_ne (pc := 41) (tgt := 46) hx hb d_Mo_turn_41 (by decide) (fun _ => ?_) (fun c1 => absurd c1 (by decide))
  refine lv_iload_n (pc := 46) hx hb d_Mo_turn_46 rfl (lv_at hl 3 rfl) ?_
  refine lv_iconst (pc := 47) (v := 2) hx hb d_Mo_turn_47 (by decide) ?_
  refine lv_icmp_ne (pc := 48) (tgt := 80) hx hb d_Mo_turn_48 (by decide) (fun _ => ?_) (fun c1 => absurd c1 (by decide))
  refine lv_iload_n (pc := 80) hx hb d_Mo_turn_80 rfl (lv_at hl 3 rfl) ?_
  refine lv_if_ne (pc := 81) (tgt := 132) hx hb d_Mo_turn_81 (by decide) (fun c1 => ?_) (fun c1 => absurd c1 (by decide))
  refine lv_aload_n (pc := 132) hx hb d_Mo_turn_132 rfl (lv_at hl 1 rfl) ?_
  refine k_goV (gr := [[(qm 3, .inl (kA 0, 4, .inl (fun _ => 0)))], [(qm 2, .inl (kA 0, 66836, .inl all0))]]) (k_rV (pc := 133) (As := []) (rest := []) X (c_Mo_goRound_z1 l D kA a0 qm j f0 hj H.size) rfl wm_3255 wm_9 wm_3252 wm_3254 wv_16_6 0 (by decide +kernel) ⟨Nat.le_of_ble_eq_true rfl, Nat.le_of_ble_eq_true rfl⟩ rfl rfl (va_recv hK hP (ci := 13) (q0 := 2) rfl rfl) (k_pre hN hK hP hD [2, 0] [1, 3] 4 rfl (by decide) rfl) rfl hl.1 rfl (Nat.le_of_ble_eq_true rfl) d_Mo_turn_133 ⟨Nat.le_of_ble_eq_true rfl, Nat.le_of_ble_eq_true rfl⟩) hP hD hS hA [2, 0] [1, 3] 4 rfl (by decide) rfl rfl (fun u8 H locs hu8 hP hD hS => ?_)
  have hP : va_P D classes (cat [[(qm 3, .inl (kA 0, 4, .inl (fun _ => 0)))], [(qm 2, .inl (kA 0, 66836, .inl all0))], [(a0, .inr (13, mF qm (va_up (va_up x0Mo 5 (nI (539 * (31 * j + 0)))) 49 (-1)) y0Mo))], [(qm 56, .inl (kA 0, 161, .inl (upd (f0) 0 0)))]]) H := hP
  have hD : va_D A (cat [[(qm 3, .inl (kA 0, 4, .inl (fun _ => 0)))], [(qm 2, .inl (kA 0, 66836, .inl all0))], [(a0, .inr (13, mF qm (va_up (va_up x0Mo 5 (nI (539 * (31 * j + 0)))) 49 (-1)) y0Mo))], [(qm 56, .inl (kA 0, 161, .inl (upd (f0) 0 0)))]]) := hD
  refine lv_iload_n (pc := 136) hx hb d_Mo_turn_136 rfl (lv_at hl 4 rfl) ?_
  refine lv_iconst (pc := 137) (v := 0) hx hb d_Mo_turn_137 (by decide) ?_
  refine lv_aload_n (pc := 138) hx hb d_Mo_turn_138 rfl (lv_at hl 1 rfl) ?_
  refine k_get (pc := 139) (v := .int 0) X hK hP 2 rfl rfl i_Mo 53 (by decide) wm_2485 rfl rfl d_Mo_turn_139 ?_
  refine lv_iconst (pc := 142) (v := 1) hx hb d_Mo_turn_142 (by decide) ?_
  refine lv_isub (pc := 143) hx hb d_Mo_turn_143 ?_
  refine k_cst (v := (-1)) (by decide) ?_
  refine k_goI (gr := [[(qm 3, .inl (kA 0, 4, .inl (fun _ => 0)))], [(qm 2, .inl (kA 0, 66836, .inl all0))], [(a0, .inr (13, mF qm (va_up (va_up x0Mo 5 (nI (539 * (31 * j + 0)))) 49 (-1)) y0Mo))], [(qm 56, .inl (kA 0, 161, .inl (upd (f0) 0 0)))]]) (k_rS (pc := 144) (As := [.int v3, .int 0, .int ((-1))]) (rest := []) X (c_Mo_in_z15 l D kA v3 hn3 H.size) rfl wm_2971 wm_9 wm_2969 wm_2970 3 (by decide +kernel) ⟨Nat.le_of_ble_eq_true rfl, Nat.le_of_ble_eq_true rfl⟩ rfl rfl (k_pre hN hK hP hD [] [0, 1, 2, 3] 4 rfl (by decide) rfl) rfl hl.1 rfl (Nat.le_of_ble_eq_true rfl) d_Mo_turn_144 ⟨Nat.le_of_ble_eq_true rfl, Nat.le_of_ble_eq_true rfl⟩) hP hD hS hA [] [0, 1, 2, 3] 4 rfl (by decide) rfl rfl (fun r9 u10 H locs hu10 hP hD hS => ?_)
  subst hu10
  have hP : va_P D classes (cat [[(qm 3, .inl (kA 0, 4, .inl (fun _ => 0)))], [(qm 2, .inl (kA 0, 66836, .inl all0))], [(a0, .inr (13, mF qm (va_up (va_up x0Mo 5 (nI (539 * (31 * j + 0)))) 49 (-1)) y0Mo))], [(qm 56, .inl (kA 0, 161, .inl (upd (f0) 0 0)))]]) H := hP
  have hD : va_D A (cat [[(qm 3, .inl (kA 0, 4, .inl (fun _ => 0)))], [(qm 2, .inl (kA 0, 66836, .inl all0))], [(a0, .inr (13, mF qm (va_up (va_up x0Mo 5 (nI (539 * (31 * j + 0)))) 49 (-1)) y0Mo))], [(qm 56, .inl (kA 0, 161, .inl (upd (f0) 0 0)))]]) := hD
  refine lv_if_eq (pc := 147) (tgt := 176) hx hb d_Mo_turn_147 (by decide) (fun c1 => ?_) (fun c1 => absurd (by decide) c1)
  refine lv_iconst (pc := 176) (v := -1) hx hb d_Mo_turn_176 (by decide) ?_
  refine W.widen (k := 0) (n := 0) (Nat.le_of_ble_eq_true rfl) (Nat.le_of_ble_eq_true rfl) ?_
  exact W.iret (v := (-1)) hx hb hr (fun t ht hW => ⟨⟨(-1), [[(qm 3, .inl (kA 0, 4, .inl (fun _ => 0)))], [(qm 2, .inl (kA 0, 66836, .inl all0))], [(a0, .inr (13, mF qm (va_up (va_up x0Mo 5 (nI (539 * (31 * j + 0)))) 49 (-1)) y0Mo))], [(qm 56, .inl (kA 0, 161, .inl (upd (f0) 0 0)))]], rfl, rfl, by rw [ht]; exact hP, va_K.moved hW.alike hK, hD⟩, hS.F ht⟩) hS.2.2 d_Mo_turn_177
set_option maxRecDepth 100000 in
set_option maxHeartbeats 4000000 in
/-- turn, a fresh house -/
theorem lf_turn_6 {p : Program} {e : Env} {s : State} {m : MethodId} {below : List Frame} {meth : Method} {c : Code} (l : Launch) {b : Nat} {xs : Nat → Int32} (C0 : lw_At p s m meth c b 6 xs) {D : va_G} {kA : Nat → ClassId} (h : Nat) (h2 : Nat) (q : Nat → Nat) (qm : Nat → Nat) (j : Nat) (v3 : Int32) (v4 : Int32) (hj : j < 4) (hn3 : v3 < 0) (hv1 : xs 1 = nI j) (hv2 : xs 2 = 1) (hv3 : xs 3 = v3) (hv4 : xs 4 = v4) {H : Heap} {locs : List Loc} {ls : Array Slot} (hK : va_K D classes (TY kA) s) (hN : nst s) (hP : va_P D classes (cat [[(h, .inr (12, [.ref (q 0), .ref (q 1), .ref (q 2), .ref (q 3), .ref (q 4), .ref (q 5), .ref (q 6), .int 0, .int ((-1)), .ref (q 9), .ref (q 10), .int 0, .int 0, .ref (q 13), .int 0, .int 0, .null, .null, .null, .null, .null]))], [(h2, .inr (13, mF qm x0Mo y0Mo))], [(qm 3, .inl (kA 0, 4, .inl (fun _ => 0)))], [(qm 2, .inl (kA 0, 66836, .inl all0))], [(qm 56, .inl (kA 0, 161, .inl (fun _ => 0)))]]) H) (hD : va_D (fun q : Nat => s.heap.size ≤ q) (cat [[(h, .inr (12, [.ref (q 0), .ref (q 1), .ref (q 2), .ref (q 3), .ref (q 4), .ref (q 5), .ref (q 6), .int 0, .int ((-1)), .ref (q 9), .ref (q 10), .int 0, .int 0, .ref (q 13), .int 0, .int 0, .null, .null, .null, .null, .null]))], [(h2, .inr (13, mF qm x0Mo y0Mo))], [(qm 3, .inl (kA 0, 4, .inl (fun _ => 0)))], [(qm 2, .inl (kA 0, 66836, .inl all0))], [(qm 56, .inl (kA 0, 161, .inl (fun _ => 0)))]])) (hS : va_S (fun q : Nat => s.heap.size ≤ q) s.heap H locs) (hl : lv_has ls 4 [(3, .int 0), (2, .ref h2), (1, .ref h), (0, .ref b)]) : W p l e room_1 s m #[Value.ref b] below meth c H locs 368 365796 (lw_Z below #[Value.ref b] s) (F0 m 712 ls []) := by
  obtain ⟨hx, hb, hr, hml, hown, hts0, hX, hbl, hlocks, hgv⟩ := id C0
  have hts : ∀ w ∈ lw_g, w.before #[Value.ref b] s = true := fun w h => hts0 w (lw_gt h)
  have X : cx p s m #[Value.ref b] meth c b_law_law 4 ret "DrawingHouseLaw" meth.name := ⟨hx, hb, hml, hown, hts, hr, hlocks, rfl⟩
  obtain ⟨A, hAe⟩ : ∃ A : Nat → Prop, A = fun q : Nat => s.heap.size ≤ q := ⟨_, rfl⟩
  have hA : ∀ q : Nat, s.heap.size ≤ q → A q := fun q h => by rw [hAe]; exact h
  have hbA : ¬ A b := by rw [hAe]; exact Nat.not_le.mpr hbl
  rw [← hAe] at hD hS
  refine lv_aload_n (pc := 712) hx hb d_law_law_712 rfl (lv_at hl 2 rfl) ?_
  refine lv_aload_n (pc := 713) hx hb d_law_law_713 rfl (lv_at hl 3 rfl) ?_
  refine lv_iload_n (pc := 714) hx hb d_law_law_714 rfl (lv_at hl 0 rfl) ?_
  refine lv_iconst (pc := 715) (v := 1) hx hb d_law_law_715 (by decide) ?_
  refine lv_iadd (pc := 716) hx hb d_law_law_716 ?_
  refine k_cst (v := 1) (by decide) ?_
  refine va_sld (pc := 717) hx hb hX hbl hbA hS (by unfold vp_in; decide) d_law_law_717 ?_
  refine k_cst (v := nI j) hv1 ?_
  refine lv_aload_n (pc := 718) hx hb d_law_law_718 rfl (lv_at hl 3 rfl) ?_
  refine lv_iload_n (pc := 719) hx hb d_law_law_719 rfl (lv_at hl 0 rfl) ?_
  refine lv_iconst (pc := 720) (v := 2) hx hb d_law_law_720 (by decide) ?_
  refine lv_iadd (pc := 721) hx hb d_law_law_721 ?_
  refine k_cst (v := 2) (by decide) ?_
  refine va_sld (pc := 722) hx hb hX hbl hbA hS (by unfold vp_in; decide) d_law_law_722 ?_
  refine k_cst (v := 1) hv2 ?_
  refine lv_aload_n (pc := 723) hx hb d_law_law_723 rfl (lv_at hl 3 rfl) ?_
  refine lv_iload_n (pc := 724) hx hb d_law_law_724 rfl (lv_at hl 0 rfl) ?_
  refine lv_iconst (pc := 725) (v := 3) hx hb d_law_law_725 (by decide) ?_
  refine lv_iadd (pc := 726) hx hb d_law_law_726 ?_
  refine k_cst (v := 3) (by decide) ?_
  refine va_sld (pc := 727) hx hb hX hbl hbA hS (by unfold vp_in; decide) d_law_law_727 ?_
  refine k_cst (v := v3) hv3 ?_
  refine lv_aload_n (pc := 728) hx hb d_law_law_728 rfl (lv_at hl 3 rfl) ?_
  refine lv_iload_n (pc := 729) hx hb d_law_law_729 rfl (lv_at hl 0 rfl) ?_
  refine lv_iconst (pc := 730) (v := 4) hx hb d_law_law_730 (by decide) ?_
  refine lv_iadd (pc := 731) hx hb d_law_law_731 ?_
  refine k_cst (v := 4) (by decide) ?_
  refine va_sld (pc := 732) hx hb hX hbl hbA hS (by unfold vp_in; decide) d_law_law_732 ?_
  refine k_cst (v := v4) hv4 ?_
  refine k_goI (gr := [[(h, .inr (12, [.ref (q 0), .ref (q 1), .ref (q 2), .ref (q 3), .ref (q 4), .ref (q 5), .ref (q 6), .int 0, .int ((-1)), .ref (q 9), .ref (q 10), .int 0, .int 0, .ref (q 13), .int 0, .int 0, .null, .null, .null, .null, .null]))], [(h2, .inr (13, mF qm x0Mo y0Mo))], [(qm 3, .inl (kA 0, 4, .inl (fun _ => 0)))], [(qm 2, .inl (kA 0, 66836, .inl all0))], [(qm 56, .inl (kA 0, 161, .inl (fun _ => 0)))]]) (k_rV (pc := 733) (As := [.int (nI j), .int 1, .int v3, .int v4]) (rest := []) X (c_Ho_turn_z6 l D kA h j v3 v4 hj hn3 H.size) rfl wm_1172 wm_1 wm_1169 wm_1170 wm_1171 4 (by decide +kernel) ⟨Nat.le_of_ble_eq_true rfl, Nat.le_of_ble_eq_true rfl⟩ rfl rfl (va_recv hK hP (ci := 12) (q0 := 0) rfl rfl) (k_pre hN hK hP hD [] [0, 1, 2, 3, 4] 5 rfl (by decide) rfl) rfl hl.1 rfl (Nat.le_of_ble_eq_true rfl) d_law_law_733 ⟨Nat.le_of_ble_eq_true rfl, Nat.le_of_ble_eq_true rfl⟩) hP hD hS hA [] [0, 1, 2, 3, 4] 5 rfl (by decide) rfl rfl (fun r1 u2 H locs hu2 hP hD hS => ?_)
  obtain ⟨hP, hD⟩ := k_left hP hD
  subst hu2
  have hP : va_P D classes (cat [[(h, .inr (12, [.ref (q 0), .ref (q 1), .ref (q 2), .ref (q 3), .ref (q 4), .ref (q 5), .ref (q 6), .int 0, .int ((-1)), .ref (q 9), .ref (q 10), .int 0, .int 0, .ref (q 13), .int 0, .int 0, .null, .null, .null, .null, .null]))], [(h2, .inr (13, mF qm x0Mo y0Mo))], [(qm 3, .inl (kA 0, 4, .inl (fun _ => 0)))], [(qm 2, .inl (kA 0, 66836, .inl all0))], [(qm 56, .inl (kA 0, 161, .inl (fun _ => 0)))]]) H := hP
  have hD : va_D A (cat [[(h, .inr (12, [.ref (q 0), .ref (q 1), .ref (q 2), .ref (q 3), .ref (q 4), .ref (q 5), .ref (q 6), .int 0, .int ((-1)), .ref (q 9), .ref (q 10), .int 0, .int 0, .ref (q 13), .int 0, .int 0, .null, .null, .null, .null, .null]))], [(h2, .inr (13, mF qm x0Mo y0Mo))], [(qm 3, .inl (kA 0, 4, .inl (fun _ => 0)))], [(qm 2, .inl (kA 0, 66836, .inl all0))], [(qm 56, .inl (kA 0, 161, .inl (fun _ => 0)))]]) := hD
  refine lv_aload_n (pc := 736) hx hb d_law_law_736 rfl (lv_at hl 1 rfl) ?_
  refine lv_aload_n (pc := 737) hx hb d_law_law_737 rfl (lv_at hl 3 rfl) ?_
  refine lv_iload_n (pc := 738) hx hb d_law_law_738 rfl (lv_at hl 0 rfl) ?_
  refine lv_iconst (pc := 739) (v := 1) hx hb d_law_law_739 (by decide) ?_
  refine lv_iadd (pc := 740) hx hb d_law_law_740 ?_
  refine k_cst (v := 1) (by decide) ?_
  refine va_sld (pc := 741) hx hb hX hbl hbA hS (by unfold vp_in; decide) d_law_law_741 ?_
  refine k_cst (v := nI j) hv1 ?_
  refine lv_aload_n (pc := 742) hx hb d_law_law_742 rfl (lv_at hl 3 rfl) ?_
  refine lv_iload_n (pc := 743) hx hb d_law_law_743 rfl (lv_at hl 0 rfl) ?_
  refine lv_iconst (pc := 744) (v := 2) hx hb d_law_law_744 (by decide) ?_
  refine lv_iadd (pc := 745) hx hb d_law_law_745 ?_
  refine k_cst (v := 2) (by decide) ?_
  refine va_sld (pc := 746) hx hb hX hbl hbA hS (by unfold vp_in; decide) d_law_law_746 ?_
  refine k_cst (v := 1) hv2 ?_
  refine lv_aload_n (pc := 747) hx hb d_law_law_747 rfl (lv_at hl 3 rfl) ?_
  refine lv_iload_n (pc := 748) hx hb d_law_law_748 rfl (lv_at hl 0 rfl) ?_
  refine lv_iconst (pc := 749) (v := 3) hx hb d_law_law_749 (by decide) ?_
  refine lv_iadd (pc := 750) hx hb d_law_law_750 ?_
  refine k_cst (v := 3) (by decide) ?_
  refine va_sld (pc := 751) hx hb hX hbl hbA hS (by unfold vp_in; decide) d_law_law_751 ?_
  refine k_cst (v := v3) hv3 ?_
  refine lv_aload_n (pc := 752) hx hb d_law_law_752 rfl (lv_at hl 3 rfl) ?_
  refine lv_iload_n (pc := 753) hx hb d_law_law_753 rfl (lv_at hl 0 rfl) ?_
  refine lv_iconst (pc := 754) (v := 4) hx hb d_law_law_754 (by decide) ?_
  refine lv_iadd (pc := 755) hx hb d_law_law_755 ?_
  refine k_cst (v := 4) (by decide) ?_
  refine va_sld (pc := 756) hx hb hX hbl hbA hS (by unfold vp_in; decide) d_law_law_756 ?_
  refine k_cst (v := v4) hv4 ?_
  refine k_goI (gr := [[(h, .inr (12, [.ref (q 0), .ref (q 1), .ref (q 2), .ref (q 3), .ref (q 4), .ref (q 5), .ref (q 6), .int 0, .int ((-1)), .ref (q 9), .ref (q 10), .int 0, .int 0, .ref (q 13), .int 0, .int 0, .null, .null, .null, .null, .null]))]]) (k_rV (pc := 757) (As := [.int (nI j), .int 1, .int v3, .int v4]) (rest := [.int ((-1))]) X (c_Mo_turn_z6 l D kA h2 j v3 v4 qm (fun _ => 0) hj hn3 H.size) rfl wm_3271 wm_9 wm_3268 wm_3269 wm_3270 4 (by decide +kernel) ⟨Nat.le_of_ble_eq_true rfl, Nat.le_of_ble_eq_true rfl⟩ rfl rfl (va_recv hK hP (ci := 13) (q0 := 1) rfl rfl) (k_pre hN hK hP hD [1, 2, 3, 4] [0] 5 rfl (by decide) rfl) rfl hl.1 rfl (Nat.le_of_ble_eq_true rfl) d_law_law_757 ⟨Nat.le_of_ble_eq_true rfl, Nat.le_of_ble_eq_true rfl⟩) hP hD hS hA [1, 2, 3, 4] [0] 5 rfl (by decide) rfl rfl (fun r3 u4 H locs hu4 hP hD hS => ?_)
  obtain ⟨hP, hD⟩ := k_left hP hD
  subst hu4
  have hP : va_P D classes (cat [[(h, .inr (12, [.ref (q 0), .ref (q 1), .ref (q 2), .ref (q 3), .ref (q 4), .ref (q 5), .ref (q 6), .int 0, .int ((-1)), .ref (q 9), .ref (q 10), .int 0, .int 0, .ref (q 13), .int 0, .int 0, .null, .null, .null, .null, .null]))]]) H := hP
  have hD : va_D A (cat [[(h, .inr (12, [.ref (q 0), .ref (q 1), .ref (q 2), .ref (q 3), .ref (q 4), .ref (q 5), .ref (q 6), .int 0, .int ((-1)), .ref (q 9), .ref (q 10), .int 0, .int 0, .ref (q 13), .int 0, .int 0, .null, .null, .null, .null, .null]))]]) := hD
  refine lv_icmp_eq (pc := 760) (tgt := 1295) hx hb d_law_law_760 (by decide) (fun _ => ?_) (fun c1 => absurd (by decide) c1)
  rw [hAe] at hS
  exact law_exit l C0 (Nat.le_of_ble_eq_true rfl) (Nat.le_of_ble_eq_true rfl) hS hl
set_option maxRecDepth 100000 in
set_option maxHeartbeats 4000000 in
/-- DrawingHouse$Net.nodeOfFace(II)I -/
theorem c_Ne_nodeOfFace_z1 (l : Launch) (D : va_G) (kA : Nat → ClassId) (g : Nat → Nat → Nat) (j : Nat) (v3 : Int32) (v4 : Int32) (a0 : Nat) (a1 : Nat) (a2 : Nat) (a3 : Nat) (a4 : Nat) (a5 : Nat) (a6 : Nat) (a7 : Nat) (a8 : Nat) (a9 : Nat) (hj : j < 4) (hn3 : ¬ v3 < 0) : Ci l y_Ne_nodeOfFace z_Ne_nodeOfFace { frames := 0, cells := 0, slots := 0, locals := 0 } D classes (TY kA) [.ref (g 2 j), .int v3, .int v4] [[(g 2 j, .inr (5, [.int 1, .int ((-1)), .int ((-1)), .int 0, .ref a0, .int 0, .int 0, .ref a1, .ref a2, .ref a3, .ref a4, .ref a5, .ref a6, .int 0, .ref a7, .ref a8, .ref a9]))]] (fun r (_ : Unit) => r = (-1)) (fun u => [[(g 2 j, .inr (5, [.int 1, .int ((-1)), .int ((-1)), .int 0, .ref a0, .int 0, .int 0, .ref a1, .ref a2, .ref a3, .ref a4, .ref a5, .ref a6, .int 0, .ref a7, .ref a8, .ref a9]))]]) 0 0 := by
  intro sz
  refine k_met (cc := b_Ne_nodeOfFace) (maxL := 3) (ret := (some .int)) (by decide) rfl (Nat.le_of_ble_eq_true rfl) (fun p e s m below meth c ls X hl hB => ?_)
  obtain ⟨hsz, hP, hK, hD0, hN⟩ := hB
  subst hsz
  have hD := hD0.self (sz := s.heap.size)
  generalize hAe : va_A (cat [[(g 2 j, .inr (5, [.int 1, .int ((-1)), .int ((-1)), .int 0, .ref a0, .int 0, .int 0, .ref a1, .ref a2, .ref a3, .ref a4, .ref a5, .ref a6, .int 0, .ref a7, .ref a8, .ref a9]))]]) s.heap.size = A at hD ⊢
  have hA : ∀ q : Nat, s.heap.size ≤ q → A q := fun q h => by rw [← hAe]; exact Or.inr h
  have hS : va_S A s.heap s.heap [] := va_S.rf
  obtain ⟨hx, hb, hml, hown, hts, hr, hlk, hnm⟩ := id X
  have hl : lv_has ls 3 [(0, .ref (g 2 j)), (1, .int v3), (2, .int v4)] := hl
  have hP : va_P D classes (cat [[(g 2 j, .inr (5, [.int 1, .int ((-1)), .int ((-1)), .int 0, .ref a0, .int 0, .int 0, .ref a1, .ref a2, .ref a3, .ref a4, .ref a5, .ref a6, .int 0, .ref a7, .ref a8, .ref a9]))]]) s.heap := hP
  have hK : va_K D classes (TY kA) s := hK
  refine lv_iload_n (pc := 0) hx hb d_Ne_nodeOfFace_0 rfl (lv_at hl 1 rfl) ?_
  refine lv_aload_n (pc := 1) hx hb d_Ne_nodeOfFace_1 rfl (lv_at hl 0 rfl) ?_
  refine k_get (pc := 2) X hK hP 0 rfl rfl i_Ne 13 (by decide) wm_282 rfl rfl d_Ne_nodeOfFace_2 ?_
  refine lv_icmp_ge (pc := 5) (tgt := 27) hx hb d_Ne_nodeOfFace_5 (by decide) (fun c1 => ?_) (fun c1 => absurd (Int32.not_lt.mp hn3) c1)
  refine lv_iconst (pc := 27) (v := -1) hx hb d_Ne_nodeOfFace_27 (by decide) ?_
  refine W.widen (k := 0) (n := 0) (Nat.le_of_ble_eq_true rfl) (Nat.le_of_ble_eq_true rfl) ?_
  exact W.iret (v := (-1)) hx hb hr (fun t ht hW => ⟨⟨(-1), (), rfl, rfl, by rw [ht]; exact hP, va_K.moved hW.alike hK, hD⟩, hS.F ht⟩) hS.2.2 d_Ne_nodeOfFace_28
set_option maxRecDepth 100000 in
set_option maxHeartbeats 4000000 in
/-- DrawingHouse.turn(IIII)I -/
theorem c_Ho_turn_z7 (l : Launch) (D : va_G) (kA : Nat → ClassId) (a0 : Nat) (j : Nat) (v3 : Int32) (v4 : Int32) (a1 : Nat) (a2 : Nat) (a3 : Nat) (a4 : Nat) (a5 : Nat) (a6 : Nat) (a7 : Nat) (a8 : Nat) (a9 : Nat) (a10 : Nat) (g : Nat → Nat → Nat) (a11 : Nat) (a12 : Nat) (a13 : Nat) (a14 : Nat) (a15 : Nat) (a16 : Nat) (a17 : Nat) (a18 : Nat) (a19 : Nat) (a20 : Nat) (a21 : Nat) (a22 : Nat) (a23 : Nat) (a24 : Nat) (a25 : Nat) (a26 : Nat) (a27 : Nat) (a28 : Nat) (a29 : Nat) (a30 : Nat) (a31 : Nat) (a32 : Nat) (a33 : Nat) (f0 : Nat → Int32) (f1 : Nat → Int32) (f2 : Nat → Int32) (a34 : Nat) (a35 : Nat) (a36 : Nat) (a37 : Nat) (a38 : Nat) (a39 : Nat) (a40 : Nat) (a41 : Nat) (a42 : Nat) (a43 : Nat) (a44 : Nat) (a45 : Nat) (f3 : Nat → Int32) (f4 : Nat → Int32) (hj : j < 4) (hn3 : ¬ v3 < 0) : Ci l y_Ho_turn z_Ho_turn { frames := 4, cells := 0, slots := 0, locals := 95 } D classes (TY kA) [.ref a0, .int (nI j), .int 1, .int v3, .int v4] [[(a0, .inr (12, [.ref a1, .ref a2, .ref a3, .ref a4, .ref a5, .ref a6, .ref a7, .int 0, .int ((-1)), .ref a8, .ref a9, .int 0, .int 0, .ref a10, .int 0, .int 0, .null, .null, .null, .null, .null]))], [(a3, .inl (kA 6, 4, .inr (.inr (.inr (.inr (rr (g 2)))))))], [(g 2 j, .inr (5, [.int ((-1)), .int ((-1)), .int ((-1)), .int 0, .ref a11, .int 0, .int 0, .ref a12, .ref a13, .ref a14, .ref a15, .ref a16, .ref a17, .int 0, .ref a18, .ref a19, .ref a20]))], [(a1, .inl (kA 4, 4, .inr (.inr (.inr (.inr (rr (g 0)))))))], [(g 0 j, .inr (3, [.int 0, .int 0, .int 1, .ref a21, .ref a22, .ref a23, .ref a24, .ref a25, .ref a26, .ref a27, .ref a28, .ref a29, .ref a30, .ref a31, .ref a32, .ref a33, .null, .int 0, .int 0]))], [(a14, .inl (kA 0, 25, .inl f0))], [(a15, .inl (kA 0, 625, .inl f1))], [(a17, .inl (kA 0, 25, .inl f2))], [(a6, .inr (1, [.null, .ref a34, .ref a35, .ref a36, .ref a37, .int 0, .int 0, .int 0, .ref a38, .ref a39, .ref a40, .ref a41, .ref a42, .ref a43, .ref a44, .int 0, .int 0, .int 0, .int 0, .ref a45]))], [(a20, .inl (kA 0, 144, .inl f3))], [(a18, .inl (kA 0, 145, .inl f4))]] (fun r (_ : List va_W) => r = (-1)) (fun u => u) 0 0 := by
  intro sz
  refine k_met (cc := b_Ho_turn) (maxL := 6) (ret := (some .int)) (by decide) rfl (Nat.le_of_ble_eq_true rfl) (fun p e s m below meth c ls X hl hB => ?_)
  obtain ⟨hsz, hP, hK, hD0, hN⟩ := hB
  subst hsz
  have hD := hD0.self (sz := s.heap.size)
  generalize hAe : va_A (cat [[(a0, .inr (12, [.ref a1, .ref a2, .ref a3, .ref a4, .ref a5, .ref a6, .ref a7, .int 0, .int ((-1)), .ref a8, .ref a9, .int 0, .int 0, .ref a10, .int 0, .int 0, .null, .null, .null, .null, .null]))], [(a3, .inl (kA 6, 4, .inr (.inr (.inr (.inr (rr (g 2)))))))], [(g 2 j, .inr (5, [.int ((-1)), .int ((-1)), .int ((-1)), .int 0, .ref a11, .int 0, .int 0, .ref a12, .ref a13, .ref a14, .ref a15, .ref a16, .ref a17, .int 0, .ref a18, .ref a19, .ref a20]))], [(a1, .inl (kA 4, 4, .inr (.inr (.inr (.inr (rr (g 0)))))))], [(g 0 j, .inr (3, [.int 0, .int 0, .int 1, .ref a21, .ref a22, .ref a23, .ref a24, .ref a25, .ref a26, .ref a27, .ref a28, .ref a29, .ref a30, .ref a31, .ref a32, .ref a33, .null, .int 0, .int 0]))], [(a14, .inl (kA 0, 25, .inl f0))], [(a15, .inl (kA 0, 625, .inl f1))], [(a17, .inl (kA 0, 25, .inl f2))], [(a6, .inr (1, [.null, .ref a34, .ref a35, .ref a36, .ref a37, .int 0, .int 0, .int 0, .ref a38, .ref a39, .ref a40, .ref a41, .ref a42, .ref a43, .ref a44, .int 0, .int 0, .int 0, .int 0, .ref a45]))], [(a20, .inl (kA 0, 144, .inl f3))], [(a18, .inl (kA 0, 145, .inl f4))]]) s.heap.size = A at hD ⊢
  have hA : ∀ q : Nat, s.heap.size ≤ q → A q := fun q h => by rw [← hAe]; exact Or.inr h
  have hS : va_S A s.heap s.heap [] := va_S.rf
  obtain ⟨hx, hb, hml, hown, hts, hr, hlk, hnm⟩ := id X
  have hl : lv_has ls 6 [(0, .ref a0), (1, .int (nI j)), (2, .int 1), (3, .int v3), (4, .int v4)] := hl
  have hP : va_P D classes (cat [[(a0, .inr (12, [.ref a1, .ref a2, .ref a3, .ref a4, .ref a5, .ref a6, .ref a7, .int 0, .int ((-1)), .ref a8, .ref a9, .int 0, .int 0, .ref a10, .int 0, .int 0, .null, .null, .null, .null, .null]))], [(a3, .inl (kA 6, 4, .inr (.inr (.inr (.inr (rr (g 2)))))))], [(g 2 j, .inr (5, [.int ((-1)), .int ((-1)), .int ((-1)), .int 0, .ref a11, .int 0, .int 0, .ref a12, .ref a13, .ref a14, .ref a15, .ref a16, .ref a17, .int 0, .ref a18, .ref a19, .ref a20]))], [(a1, .inl (kA 4, 4, .inr (.inr (.inr (.inr (rr (g 0)))))))], [(g 0 j, .inr (3, [.int 0, .int 0, .int 1, .ref a21, .ref a22, .ref a23, .ref a24, .ref a25, .ref a26, .ref a27, .ref a28, .ref a29, .ref a30, .ref a31, .ref a32, .ref a33, .null, .int 0, .int 0]))], [(a14, .inl (kA 0, 25, .inl f0))], [(a15, .inl (kA 0, 625, .inl f1))], [(a17, .inl (kA 0, 25, .inl f2))], [(a6, .inr (1, [.null, .ref a34, .ref a35, .ref a36, .ref a37, .int 0, .int 0, .int 0, .ref a38, .ref a39, .ref a40, .ref a41, .ref a42, .ref a43, .ref a44, .int 0, .int 0, .int 0, .int 0, .ref a45]))], [(a20, .inl (kA 0, 144, .inl f3))], [(a18, .inl (kA 0, 145, .inl f4))]]) s.heap := hP
  have hK : va_K D classes (TY kA) s := hK
  refine lv_iload_n (pc := 0) hx hb d_Ho_turn_0 rfl (lv_at hl 1 rfl) ?_
  refine k_goI (gr := [[(a0, .inr (12, [.ref a1, .ref a2, .ref a3, .ref a4, .ref a5, .ref a6, .ref a7, .int 0, .int ((-1)), .ref a8, .ref a9, .int 0, .int 0, .ref a10, .int 0, .int 0, .null, .null, .null, .null, .null]))], [(a3, .inl (kA 6, 4, .inr (.inr (.inr (.inr (rr (g 2)))))))], [(g 2 j, .inr (5, [.int ((-1)), .int ((-1)), .int ((-1)), .int 0, .ref a11, .int 0, .int 0, .ref a12, .ref a13, .ref a14, .ref a15, .ref a16, .ref a17, .int 0, .ref a18, .ref a19, .ref a20]))], [(a1, .inl (kA 4, 4, .inr (.inr (.inr (.inr (rr (g 0)))))))], [(g 0 j, .inr (3, [.int 0, .int 0, .int 1, .ref a21, .ref a22, .ref a23, .ref a24, .ref a25, .ref a26, .ref a27, .ref a28, .ref a29, .ref a30, .ref a31, .ref a32, .ref a33, .null, .int 0, .int 0]))], [(a14, .inl (kA 0, 25, .inl f0))], [(a15, .inl (kA 0, 625, .inl f1))], [(a17, .inl (kA 0, 25, .inl f2))], [(a6, .inr (1, [.null, .ref a34, .ref a35, .ref a36, .ref a37, .int 0, .int 0, .int 0, .ref a38, .ref a39, .ref a40, .ref a41, .ref a42, .ref a43, .ref a44, .int 0, .int 0, .int 0, .int 0, .ref a45]))], [(a20, .inl (kA 0, 144, .inl f3))], [(a18, .inl (kA 0, 145, .inl f4))]]) (k_rS (pc := 1) (As := [.int (nI j)]) (rest := []) X (c_Ho_isPlace l D kA (nI j) s.heap.size) rfl wm_633 wm_1 wm_631 wm_632 1 (by decide +kernel) ⟨Nat.le_of_ble_eq_true rfl, Nat.le_of_ble_eq_true rfl⟩ rfl rfl (k_pre hN hK hP hD [] [0, 1, 2, 3, 4, 5, 6, 7, 8, 9, 10] 11 rfl (by decide) rfl) rfl hl.1 rfl (Nat.le_of_ble_eq_true rfl) d_Ho_turn_1 ⟨Nat.le_of_ble_eq_true rfl, Nat.le_of_ble_eq_true rfl⟩) hP hD hS hA [] [0, 1, 2, 3, 4, 5, 6, 7, 8, 9, 10] 11 rfl (by decide) rfl rfl (fun r1 u2 H locs hu2 hP hD hS => ?_)
  subst hu2
  refine k_cst (v := 1) (place_ok hj) ?_
  have hP : va_P D classes (cat [[(a0, .inr (12, [.ref a1, .ref a2, .ref a3, .ref a4, .ref a5, .ref a6, .ref a7, .int 0, .int ((-1)), .ref a8, .ref a9, .int 0, .int 0, .ref a10, .int 0, .int 0, .null, .null, .null, .null, .null]))], [(a3, .inl (kA 6, 4, .inr (.inr (.inr (.inr (rr (g 2)))))))], [(g 2 j, .inr (5, [.int ((-1)), .int ((-1)), .int ((-1)), .int 0, .ref a11, .int 0, .int 0, .ref a12, .ref a13, .ref a14, .ref a15, .ref a16, .ref a17, .int 0, .ref a18, .ref a19, .ref a20]))], [(a1, .inl (kA 4, 4, .inr (.inr (.inr (.inr (rr (g 0)))))))], [(g 0 j, .inr (3, [.int 0, .int 0, .int 1, .ref a21, .ref a22, .ref a23, .ref a24, .ref a25, .ref a26, .ref a27, .ref a28, .ref a29, .ref a30, .ref a31, .ref a32, .ref a33, .null, .int 0, .int 0]))], [(a14, .inl (kA 0, 25, .inl f0))], [(a15, .inl (kA 0, 625, .inl f1))], [(a17, .inl (kA 0, 25, .inl f2))], [(a6, .inr (1, [.null, .ref a34, .ref a35, .ref a36, .ref a37, .int 0, .int 0, .int 0, .ref a38, .ref a39, .ref a40, .ref a41, .ref a42, .ref a43, .ref a44, .int 0, .int 0, .int 0, .int 0, .ref a45]))], [(a20, .inl (kA 0, 144, .inl f3))], [(a18, .inl (kA 0, 145, .inl f4))]]) H := hP
  have hD : va_D A (cat [[(a0, .inr (12, [.ref a1, .ref a2, .ref a3, .ref a4, .ref a5, .ref a6, .ref a7, .int 0, .int ((-1)), .ref a8, .ref a9, .int 0, .int 0, .ref a10, .int 0, .int 0, .null, .null, .null, .null, .null]))], [(a3, .inl (kA 6, 4, .inr (.inr (.inr (.inr (rr (g 2)))))))], [(g 2 j, .inr (5, [.int ((-1)), .int ((-1)), .int ((-1)), .int 0, .ref a11, .int 0, .int 0, .ref a12, .ref a13, .ref a14, .ref a15, .ref a16, .ref a17, .int 0, .ref a18, .ref a19, .ref a20]))], [(a1, .inl (kA 4, 4, .inr (.inr (.inr (.inr (rr (g 0)))))))], [(g 0 j, .inr (3, [.int 0, .int 0, .int 1, .ref a21, .ref a22, .ref a23, .ref a24, .ref a25, .ref a26, .ref a27, .ref a28, .ref a29, .ref a30, .ref a31, .ref a32, .ref a33, .null, .int 0, .int 0]))], [(a14, .inl (kA 0, 25, .inl f0))], [(a15, .inl (kA 0, 625, .inl f1))], [(a17, .inl (kA 0, 25, .inl f2))], [(a6, .inr (1, [.null, .ref a34, .ref a35, .ref a36, .ref a37, .int 0, .int 0, .int 0, .ref a38, .ref a39, .ref a40, .ref a41, .ref a42, .ref a43, .ref a44, .int 0, .int 0, .int 0, .int 0, .ref a45]))], [(a20, .inl (kA 0, 144, .inl f3))], [(a18, .inl (kA 0, 145, .inl f4))]]) := hD
  refine lv_if_eq (pc := 4) (tgt := 11) hx hb d_Ho_turn_4 (by decide) (fun c1 => absurd c1 (by decide)) (fun c1 => ?_)
  refine lv_iload_n (pc := 7) hx hb d_Ho_turn_7 rfl (lv_at hl 3 rfl) ?_
  refine lv_if_ge (pc := 8) (tgt := 13) hx hb d_Ho_turn_8 (by decide) (fun c1 => ?_) (fun c1 => absurd (Int32.not_lt.mp hn3) c1)
  refine lv_aload_n (pc := 13) hx hb d_Ho_turn_13 rfl (lv_at hl 0 rfl) ?_
  refine lv_iload_n (pc := 14) hx hb d_Ho_turn_14 rfl (lv_at hl 1 rfl) ?_
  refine k_goR (gr := []) (k_rV (pc := 15) (As := [.int (nI j)]) (rest := []) X (c_Ho_embedded_z1 l D kA a0 j a1 a2 a3 a4 a5 a6 a7 a8 a9 a10 g a11 a12 a13 a14 a15 a16 a17 a18 a19 a20 a21 a22 a23 a24 a25 a26 a27 a28 a29 a30 a31 a32 a33 f0 f1 f2 a34 a35 a36 a37 a38 a39 a40 a41 a42 a43 a44 a45 f3 f4 hj H.size) rfl wm_1052 wm_1 wm_1049 wm_1051 wv_3_6 1 (by decide +kernel) ⟨Nat.le_of_ble_eq_true rfl, Nat.le_of_ble_eq_true rfl⟩ rfl rfl (va_recv hK hP (ci := 12) (q0 := 0) rfl rfl) (k_pre hN hK hP hD [0, 1, 2, 3, 4, 5, 6, 7, 8, 9, 10] [] 11 rfl (by decide) rfl) rfl hl.1 rfl (Nat.le_of_ble_eq_true rfl) d_Ho_turn_15 ⟨Nat.le_of_ble_eq_true rfl, Nat.le_of_ble_eq_true rfl⟩) hP hD hS hA [0, 1, 2, 3, 4, 5, 6, 7, 8, 9, 10] [] 11 rfl (by decide) rfl rfl (fun u4 H locs hu4 hP hD hS => ?_)
  have hP : va_P D classes (cat [[(a0, .inr (12, [.ref a1, .ref a2, .ref a3, .ref a4, .ref a5, .ref a6, .ref a7, .int 0, .int ((-1)), .ref a8, .ref a9, .int 0, .int 0, .ref a10, .int 0, .int 0, .null, .null, .null, .null, .null]))], [(a3, .inl (kA 6, 4, .inr (.inr (.inr (.inr (rr (g 2)))))))], [(g 2 j, .inr (5, [.int 1, .int ((-1)), .int ((-1)), .int 0, .ref a11, .int 0, .int 0, .ref a12, .ref a13, .ref a14, .ref a15, .ref a16, .ref a17, .int 0, .ref a18, .ref a19, .ref a20]))], [(a1, .inl (kA 4, 4, .inr (.inr (.inr (.inr (rr (g 0)))))))], [(g 0 j, .inr (3, [.int 0, .int 0, .int 1, .ref a21, .ref a22, .ref a23, .ref a24, .ref a25, .ref a26, .ref a27, .ref a28, .ref a29, .ref a30, .ref a31, .ref a32, .ref a33, .null, .int 0, .int 0]))], [(a14, .inl (kA 0, 25, .inl (fl f0 25 0)))], [(a15, .inl (kA 0, 625, .inl (fl f1 625 (-1))))], [(a17, .inl (kA 0, 25, .inl (fl f2 25 (-1))))], [(a6, .inr (1, [.ref (g 2 j), .ref a34, .ref a35, .ref a36, .ref a37, .int 0, .int 0, .int 0, .ref a38, .ref a39, .ref a40, .ref a41, .ref a42, .ref a43, .ref a44, .int 0, .int 0, .int 0, .int 0, .ref a45]))], [(a20, .inl (kA 0, 144, .inl (fl f3 144 (-1))))], [(a18, .inl (kA 0, 145, .inl (upd (f4) 0 0)))]]) H := hP
  have hD : va_D A (cat [[(a0, .inr (12, [.ref a1, .ref a2, .ref a3, .ref a4, .ref a5, .ref a6, .ref a7, .int 0, .int ((-1)), .ref a8, .ref a9, .int 0, .int 0, .ref a10, .int 0, .int 0, .null, .null, .null, .null, .null]))], [(a3, .inl (kA 6, 4, .inr (.inr (.inr (.inr (rr (g 2)))))))], [(g 2 j, .inr (5, [.int 1, .int ((-1)), .int ((-1)), .int 0, .ref a11, .int 0, .int 0, .ref a12, .ref a13, .ref a14, .ref a15, .ref a16, .ref a17, .int 0, .ref a18, .ref a19, .ref a20]))], [(a1, .inl (kA 4, 4, .inr (.inr (.inr (.inr (rr (g 0)))))))], [(g 0 j, .inr (3, [.int 0, .int 0, .int 1, .ref a21, .ref a22, .ref a23, .ref a24, .ref a25, .ref a26, .ref a27, .ref a28, .ref a29, .ref a30, .ref a31, .ref a32, .ref a33, .null, .int 0, .int 0]))], [(a14, .inl (kA 0, 25, .inl (fl f0 25 0)))], [(a15, .inl (kA 0, 625, .inl (fl f1 625 (-1))))], [(a17, .inl (kA 0, 25, .inl (fl f2 25 (-1))))], [(a6, .inr (1, [.ref (g 2 j), .ref a34, .ref a35, .ref a36, .ref a37, .int 0, .int 0, .int 0, .ref a38, .ref a39, .ref a40, .ref a41, .ref a42, .ref a43, .ref a44, .int 0, .int 0, .int 0, .int 0, .ref a45]))], [(a20, .inl (kA 0, 144, .inl (fl f3 144 (-1))))], [(a18, .inl (kA 0, 145, .inl (upd (f4) 0 0)))]]) := hD
  refine lv_astore (pc := 18) (lv' := [(5, .ref (g 2 j)), (0, .ref a0), (1, .int (nI j)), (2, .int 1), (3, .int v3), (4, .int v4)]) hx hb d_Ho_turn_18 hl (by decide) rfl (fun ls hl => ?_)
  refine lv_iload_n (pc := 20) hx hb d_Ho_turn_20 rfl (lv_at hl 3 rfl) ?_
  refine lv_iconst (pc := 21) (v := 2) hx hb d_Ho_turn_21 (by decide) ?_
  refine lv_icmp_ne (pc := 22) (tgt := 54) hx hb d_Ho_turn_22 (by decide) (fun _ => ?_) (fun c1 => absurd c1 (by decide))
  refine lv_aload (pc := 54) hx hb d_Ho_turn_54 (lv_at hl 0 rfl) ?_
  refine k_get (pc := 56) X hK hP 2 rfl rfl i_Ne 0 (by decide) wm_250 rfl rfl d_Ho_turn_56 ?_
  refine lv_if_eq (pc := 59) (tgt := 67) hx hb d_Ho_turn_59 (by decide) (fun c1 => absurd c1 (by decide)) (fun c1 => ?_)
  refine lv_iload (pc := 62) hx hb d_Ho_turn_62 (lv_at hl 5 rfl) ?_
  refine lv_if_ge (pc := 64) (tgt := 69) hx hb d_Ho_turn_64 (by decide) (fun ck1 => ?_) (fun ck1 => ?_)
  · refine lv_iload_n (pc := 69) hx hb d_Ho_turn_69 rfl (lv_at hl 3 rfl) ?_
    refine lv_if_ne (pc := 70) (tgt := 82) hx hb d_Ho_turn_70 (by decide) (fun c1 => ?_) (fun c1 => absurd c1 (by decide))
    refine lv_iload_n (pc := 82) hx hb d_Ho_turn_82 rfl (lv_at hl 3 rfl) ?_
    refine lv_iconst (pc := 83) (v := 1) hx hb d_Ho_turn_83 (by decide) ?_
    refine lv_icmp_ne (pc := 84) (tgt := 98) hx hb d_Ho_turn_84 (by decide) (fun c1 => absurd (by decide) c1) (fun _ => ?_)
    refine lv_aload (pc := 87) hx hb d_Ho_turn_87 (lv_at hl 0 rfl) ?_
    refine lv_iload_n (pc := 89) hx hb d_Ho_turn_89 rfl (lv_at hl 4 rfl) ?_
    refine lv_iload (pc := 90) hx hb d_Ho_turn_90 (lv_at hl 5 rfl) ?_
    refine k_goI (gr := [[(a0, .inr (12, [.ref a1, .ref a2, .ref a3, .ref a4, .ref a5, .ref a6, .ref a7, .int 0, .int ((-1)), .ref a8, .ref a9, .int 0, .int 0, .ref a10, .int 0, .int 0, .null, .null, .null, .null, .null]))], [(a3, .inl (kA 6, 4, .inr (.inr (.inr (.inr (rr (g 2)))))))], [(a1, .inl (kA 4, 4, .inr (.inr (.inr (.inr (rr (g 0)))))))], [(g 0 j, .inr (3, [.int 0, .int 0, .int 1, .ref a21, .ref a22, .ref a23, .ref a24, .ref a25, .ref a26, .ref a27, .ref a28, .ref a29, .ref a30, .ref a31, .ref a32, .ref a33, .null, .int 0, .int 0]))], [(a14, .inl (kA 0, 25, .inl (fl f0 25 0)))], [(a15, .inl (kA 0, 625, .inl (fl f1 625 (-1))))], [(a17, .inl (kA 0, 25, .inl (fl f2 25 (-1))))], [(a6, .inr (1, [.ref (g 2 j), .ref a34, .ref a35, .ref a36, .ref a37, .int 0, .int 0, .int 0, .ref a38, .ref a39, .ref a40, .ref a41, .ref a42, .ref a43, .ref a44, .int 0, .int 0, .int 0, .int 0, .ref a45]))], [(a20, .inl (kA 0, 144, .inl (fl f3 144 (-1))))], [(a18, .inl (kA 0, 145, .inl (upd (f4) 0 0)))]]) (k_rV (pc := 92) (As := [.int v3, .int v4]) (rest := []) X (c_Ne_nodeOfFace_z1 l D kA g j v3 v4 a11 a12 a13 a14 a15 a16 a17 a18 a19 a20 hj hn3 H.size) rfl wm_1181 wm_6 wm_1178 wm_1179 wm_1180 2 (by decide +kernel) ⟨Nat.le_of_ble_eq_true rfl, Nat.le_of_ble_eq_true rfl⟩ rfl rfl (va_recv hK hP (ci := 5) (q0 := 2) rfl rfl) (k_pre hN hK hP hD [2] [0, 1, 3, 4, 5, 6, 7, 8, 9, 10] 11 rfl (by decide) rfl) rfl hl.1 rfl (Nat.le_of_ble_eq_true rfl) d_Ho_turn_92 ⟨Nat.le_of_ble_eq_true rfl, Nat.le_of_ble_eq_true rfl⟩) hP hD hS hA [2] [0, 1, 3, 4, 5, 6, 7, 8, 9, 10] 11 rfl (by decide) rfl rfl (fun r5 u6 H locs hu6 hP hD hS => ?_)
    subst hu6
    have hP : va_P D classes (cat [[(a0, .inr (12, [.ref a1, .ref a2, .ref a3, .ref a4, .ref a5, .ref a6, .ref a7, .int 0, .int ((-1)), .ref a8, .ref a9, .int 0, .int 0, .ref a10, .int 0, .int 0, .null, .null, .null, .null, .null]))], [(a3, .inl (kA 6, 4, .inr (.inr (.inr (.inr (rr (g 2)))))))], [(a1, .inl (kA 4, 4, .inr (.inr (.inr (.inr (rr (g 0)))))))], [(g 0 j, .inr (3, [.int 0, .int 0, .int 1, .ref a21, .ref a22, .ref a23, .ref a24, .ref a25, .ref a26, .ref a27, .ref a28, .ref a29, .ref a30, .ref a31, .ref a32, .ref a33, .null, .int 0, .int 0]))], [(a14, .inl (kA 0, 25, .inl (fl f0 25 0)))], [(a15, .inl (kA 0, 625, .inl (fl f1 625 (-1))))], [(a17, .inl (kA 0, 25, .inl (fl f2 25 (-1))))], [(a6, .inr (1, [.ref (g 2 j), .ref a34, .ref a35, .ref a36, .ref a37, .int 0, .int 0, .int 0, .ref a38, .ref a39, .ref a40, .ref a41, .ref a42, .ref a43, .ref a44, .int 0, .int 0, .int 0, .int 0, .ref a45]))], [(a20, .inl (kA 0, 144, .inl (fl f3 144 (-1))))], [(a18, .inl (kA 0, 145, .inl (upd (f4) 0 0)))], [(g 2 j, .inr (5, [.int 1, .int ((-1)), .int ((-1)), .int 0, .ref a11, .int 0, .int 0, .ref a12, .ref a13, .ref a14, .ref a15, .ref a16, .ref a17, .int 0, .ref a18, .ref a19, .ref a20]))]]) H := hP
    have hD : va_D A (cat [[(a0, .inr (12, [.ref a1, .ref a2, .ref a3, .ref a4, .ref a5, .ref a6, .ref a7, .int 0, .int ((-1)), .ref a8, .ref a9, .int 0, .int 0, .ref a10, .int 0, .int 0, .null, .null, .null, .null, .null]))], [(a3, .inl (kA 6, 4, .inr (.inr (.inr (.inr (rr (g 2)))))))], [(a1, .inl (kA 4, 4, .inr (.inr (.inr (.inr (rr (g 0)))))))], [(g 0 j, .inr (3, [.int 0, .int 0, .int 1, .ref a21, .ref a22, .ref a23, .ref a24, .ref a25, .ref a26, .ref a27, .ref a28, .ref a29, .ref a30, .ref a31, .ref a32, .ref a33, .null, .int 0, .int 0]))], [(a14, .inl (kA 0, 25, .inl (fl f0 25 0)))], [(a15, .inl (kA 0, 625, .inl (fl f1 625 (-1))))], [(a17, .inl (kA 0, 25, .inl (fl f2 25 (-1))))], [(a6, .inr (1, [.ref (g 2 j), .ref a34, .ref a35, .ref a36, .ref a37, .int 0, .int 0, .int 0, .ref a38, .ref a39, .ref a40, .ref a41, .ref a42, .ref a43, .ref a44, .int 0, .int 0, .int 0, .int 0, .ref a45]))], [(a20, .inl (kA 0, 144, .inl (fl f3 144 (-1))))], [(a18, .inl (kA 0, 145, .inl (upd (f4) 0 0)))], [(g 2 j, .inr (5, [.int 1, .int ((-1)), .int ((-1)), .int 0, .ref a11, .int 0, .int 0, .ref a12, .ref a13, .ref a14, .ref a15, .ref a16, .ref a17, .int 0, .ref a18, .ref a19, .ref a20]))]]) := hD
    refine lv_goto (pc := 95) (tgt := 99) hx hb d_Ho_turn_95 (by decide) ?_
    refine W.widen (k := 0) (n := 0) (Nat.le_of_ble_eq_true rfl) (Nat.le_of_ble_eq_true rfl) ?_
    exact W.iret (v := (-1)) hx hb hr (fun t ht hW => ⟨⟨(-1), [[(a0, .inr (12, [.ref a1, .ref a2, .ref a3, .ref a4, .ref a5, .ref a6, .ref a7, .int 0, .int ((-1)), .ref a8, .ref a9, .int 0, .int 0, .ref a10, .int 0, .int 0, .null, .null, .null, .null, .null]))], [(a3, .inl (kA 6, 4, .inr (.inr (.inr (.inr (rr (g 2)))))))], [(a1, .inl (kA 4, 4, .inr (.inr (.inr (.inr (rr (g 0)))))))], [(g 0 j, .inr (3, [.int 0, .int 0, .int 1, .ref a21, .ref a22, .ref a23, .ref a24, .ref a25, .ref a26, .ref a27, .ref a28, .ref a29, .ref a30, .ref a31, .ref a32, .ref a33, .null, .int 0, .int 0]))], [(a14, .inl (kA 0, 25, .inl (fl f0 25 0)))], [(a15, .inl (kA 0, 625, .inl (fl f1 625 (-1))))], [(a17, .inl (kA 0, 25, .inl (fl f2 25 (-1))))], [(a6, .inr (1, [.ref (g 2 j), .ref a34, .ref a35, .ref a36, .ref a37, .int 0, .int 0, .int 0, .ref a38, .ref a39, .ref a40, .ref a41, .ref a42, .ref a43, .ref a44, .int 0, .int 0, .int 0, .int 0, .ref a45]))], [(a20, .inl (kA 0, 144, .inl (fl f3 144 (-1))))], [(a18, .inl (kA 0, 145, .inl (upd (f4) 0 0)))], [(g 2 j, .inr (5, [.int 1, .int ((-1)), .int ((-1)), .int 0, .ref a11, .int 0, .int 0, .ref a12, .ref a13, .ref a14, .ref a15, .ref a16, .ref a17, .int 0, .ref a18, .ref a19, .ref a20]))]], rfl, rfl, by rw [ht]; exact hP, va_K.moved hW.alike hK, hD⟩, hS.F ht⟩) hS.2.2 d_Ho_turn_99
  · refine lv_iconst (pc := 67) (v := -1) hx hb d_Ho_turn_67 (by decide) ?_
    refine W.widen (k := 0) (n := 0) (Nat.le_of_ble_eq_true rfl) (Nat.le_of_ble_eq_true rfl) ?_
    exact W.iret (v := (-1)) hx hb hr (fun t ht hW => ⟨⟨(-1), [[(a0, .inr (12, [.ref a1, .ref a2, .ref a3, .ref a4, .ref a5, .ref a6, .ref a7, .int 0, .int ((-1)), .ref a8, .ref a9, .int 0, .int 0, .ref a10, .int 0, .int 0, .null, .null, .null, .null, .null]))], [(a3, .inl (kA 6, 4, .inr (.inr (.inr (.inr (rr (g 2)))))))], [(g 2 j, .inr (5, [.int 1, .int ((-1)), .int ((-1)), .int 0, .ref a11, .int 0, .int 0, .ref a12, .ref a13, .ref a14, .ref a15, .ref a16, .ref a17, .int 0, .ref a18, .ref a19, .ref a20]))], [(a1, .inl (kA 4, 4, .inr (.inr (.inr (.inr (rr (g 0)))))))], [(g 0 j, .inr (3, [.int 0, .int 0, .int 1, .ref a21, .ref a22, .ref a23, .ref a24, .ref a25, .ref a26, .ref a27, .ref a28, .ref a29, .ref a30, .ref a31, .ref a32, .ref a33, .null, .int 0, .int 0]))], [(a14, .inl (kA 0, 25, .inl (fl f0 25 0)))], [(a15, .inl (kA 0, 625, .inl (fl f1 625 (-1))))], [(a17, .inl (kA 0, 25, .inl (fl f2 25 (-1))))], [(a6, .inr (1, [.ref (g 2 j), .ref a34, .ref a35, .ref a36, .ref a37, .int 0, .int 0, .int 0, .ref a38, .ref a39, .ref a40, .ref a41, .ref a42, .ref a43, .ref a44, .int 0, .int 0, .int 0, .int 0, .ref a45]))], [(a20, .inl (kA 0, 144, .inl (fl f3 144 (-1))))], [(a18, .inl (kA 0, 145, .inl (upd (f4) 0 0)))]], rfl, rfl, by rw [ht]; exact hP, va_K.moved hW.alike hK, hD⟩, hS.F ht⟩) hS.2.2 d_Ho_turn_68
set_option maxRecDepth 100000 in
set_option maxHeartbeats 4000000 in
/-- DrawingHouseModel.turn(IIII)I -/
theorem c_Mo_turn_z7 (l : Launch) (D : va_G) (kA : Nat → ClassId) (a0 : Nat) (j : Nat) (v3 : Int32) (v4 : Int32) (qm : Nat → Nat) (f0 : Nat → Int32) (hj : j < 4) (hn3 : ¬ v3 < 0) : Ci l y_Mo_turn z_Mo_turn { frames := 3, cells := 0, slots := 0, locals := 66 } D classes (TY kA) [.ref a0, .int (nI j), .int 1, .int v3, .int v4] [[(a0, .inr (13, mF qm x0Mo y0Mo))], [(qm 3, .inl (kA 0, 4, .inl (fun _ => 0)))], [(qm 2, .inl (kA 0, 66836, .inl all0))], [(qm 56, .inl (kA 0, 161, .inl f0))]] (fun r (_ : List va_W) => r = (-1)) (fun u => u) 0 0 := by
  intro sz
  refine k_met (cc := b_Mo_turn) (maxL := 6) (ret := (some .int)) (by decide) rfl (Nat.le_of_ble_eq_true rfl) (fun p e s m below meth c ls X hl hB => ?_)
  obtain ⟨hsz, hP, hK, hD0, hN⟩ := hB
  subst hsz
  have hD := hD0.self (sz := s.heap.size)
  generalize hAe : va_A (cat [[(a0, .inr (13, mF qm x0Mo y0Mo))], [(qm 3, .inl (kA 0, 4, .inl (fun _ => 0)))], [(qm 2, .inl (kA 0, 66836, .inl all0))], [(qm 56, .inl (kA 0, 161, .inl f0))]]) s.heap.size = A at hD ⊢
  have hA : ∀ q : Nat, s.heap.size ≤ q → A q := fun q h => by rw [← hAe]; exact Or.inr h
  have hS : va_S A s.heap s.heap [] := va_S.rf
  obtain ⟨hx, hb, hml, hown, hts, hr, hlk, hnm⟩ := id X
  have hl : lv_has ls 6 [(0, .ref a0), (1, .int (nI j)), (2, .int 1), (3, .int v3), (4, .int v4)] := hl
  have hP : va_P D classes (cat [[(a0, .inr (13, mF qm x0Mo y0Mo))], [(qm 3, .inl (kA 0, 4, .inl (fun _ => 0)))], [(qm 2, .inl (kA 0, 66836, .inl all0))], [(qm 56, .inl (kA 0, 161, .inl f0))]]) s.heap := hP
  have hK : va_K D classes (TY kA) s := hK
  refine lv_iload_n (pc := 0) hx hb d_Mo_turn_0 rfl (lv_at hl 1 rfl) ?_
  refine k_goI (gr := [[(a0, .inr (13, mF qm x0Mo y0Mo))], [(qm 3, .inl (kA 0, 4, .inl (fun _ => 0)))], [(qm 2, .inl (kA 0, 66836, .inl all0))], [(qm 56, .inl (kA 0, 161, .inl f0))]]) (k_rS (pc := 1) (As := [.int (nI j)]) (rest := []) X (c_Mo_isPlace l D kA (nI j) s.heap.size) rfl wm_2978 wm_9 wm_2976 wm_2977 1 (by decide +kernel) ⟨Nat.le_of_ble_eq_true rfl, Nat.le_of_ble_eq_true rfl⟩ rfl rfl (k_pre hN hK hP hD [] [0, 1, 2, 3] 4 rfl (by decide) rfl) rfl hl.1 rfl (Nat.le_of_ble_eq_true rfl) d_Mo_turn_1 ⟨Nat.le_of_ble_eq_true rfl, Nat.le_of_ble_eq_true rfl⟩) hP hD hS hA [] [0, 1, 2, 3] 4 rfl (by decide) rfl rfl (fun r1 u2 H locs hu2 hP hD hS => ?_)
  subst hu2
  refine k_cst (v := 1) (placeM_ok hj) ?_
  have hP : va_P D classes (cat [[(a0, .inr (13, mF qm x0Mo y0Mo))], [(qm 3, .inl (kA 0, 4, .inl (fun _ => 0)))], [(qm 2, .inl (kA 0, 66836, .inl all0))], [(qm 56, .inl (kA 0, 161, .inl f0))]]) H := hP
  have hD : va_D A (cat [[(a0, .inr (13, mF qm x0Mo y0Mo))], [(qm 3, .inl (kA 0, 4, .inl (fun _ => 0)))], [(qm 2, .inl (kA 0, 66836, .inl all0))], [(qm 56, .inl (kA 0, 161, .inl f0))]]) := hD
  refine lv_if_eq (pc := 4) (tgt := 16) hx hb d_Mo_turn_4 (by decide) (fun c1 => absurd c1 (by decide)) (fun c1 => ?_)
  refine lv_iload_n (pc := 7) hx hb d_Mo_turn_7 rfl (lv_at hl 2 rfl) ?_
  refine lv_iconst (pc := 8) (v := 0) hx hb d_Mo_turn_8 (by decide) ?_
  refine lv_iconst (pc := 9) (v := 2) hx hb d_Mo_turn_9 (by decide) ?_
  refine k_goI (gr := [[(a0, .inr (13, mF qm x0Mo y0Mo))], [(qm 3, .inl (kA 0, 4, .inl (fun _ => 0)))], [(qm 2, .inl (kA 0, 66836, .inl all0))], [(qm 56, .inl (kA 0, 161, .inl f0))]]) (k_rS (pc := 10) (As := [.int 1, .int 0, .int 2]) (rest := []) X (c_Mo_in_z29 l D kA  H.size) rfl wm_2971 wm_9 wm_2969 wm_2970 3 (by decide +kernel) ⟨Nat.le_of_ble_eq_true rfl, Nat.le_of_ble_eq_true rfl⟩ rfl rfl (k_pre hN hK hP hD [] [0, 1, 2, 3] 4 rfl (by decide) rfl) rfl hl.1 rfl (Nat.le_of_ble_eq_true rfl) d_Mo_turn_10 ⟨Nat.le_of_ble_eq_true rfl, Nat.le_of_ble_eq_true rfl⟩) hP hD hS hA [] [0, 1, 2, 3] 4 rfl (by decide) rfl rfl (fun r3 u4 H locs hu4 hP hD hS => ?_)
  subst hu4
  have hP : va_P D classes (cat [[(a0, .inr (13, mF qm x0Mo y0Mo))], [(qm 3, .inl (kA 0, 4, .inl (fun _ => 0)))], [(qm 2, .inl (kA 0, 66836, .inl all0))], [(qm 56, .inl (kA 0, 161, .inl f0))]]) H := hP
  have hD : va_D A (cat [[(a0, .inr (13, mF qm x0Mo y0Mo))], [(qm 3, .inl (kA 0, 4, .inl (fun _ => 0)))], [(qm 2, .inl (kA 0, 66836, .inl all0))], [(qm 56, .inl (kA 0, 161, .inl f0))]]) := hD
  refine lv_if_ne (pc := 13) (tgt := 18) hx hb d_Mo_turn_13 (by decide) (fun c1 => ?_) (fun c1 => absurd c1 (by decide))
  refine lv_aload_n (pc := 18) hx hb d_Mo_turn_18 rfl (lv_at hl 0 rfl) ?_
  refine lv_iload_n (pc := 19) hx hb d_Mo_turn_19 rfl (lv_at hl 1 rfl) ?_
  refine k_goV (gr := [[(qm 2, .inl (kA 0, 66836, .inl all0))], [(qm 56, .inl (kA 0, 161, .inl f0))]]) (k_rV (pc := 20) (As := [.int (nI j)]) (rest := []) X (c_Mo_take_z1 l D kA a0 j qm hj H.size) rfl wm_3091 wm_9 wm_3088 wm_3090 wv_14_2 1 (by decide +kernel) ⟨Nat.le_of_ble_eq_true rfl, Nat.le_of_ble_eq_true rfl⟩ rfl rfl (va_recv hK hP (ci := 13) (q0 := 0) rfl rfl) (k_pre hN hK hP hD [0, 1] [2, 3] 4 rfl (by decide) rfl) rfl hl.1 rfl (Nat.le_of_ble_eq_true rfl) d_Mo_turn_20 ⟨Nat.le_of_ble_eq_true rfl, Nat.le_of_ble_eq_true rfl⟩) hP hD hS hA [0, 1] [2, 3] 4 rfl (by decide) rfl rfl (fun u5 H locs hu5 hP hD hS => ?_)
  have hP : va_P D classes (cat [[(qm 2, .inl (kA 0, 66836, .inl all0))], [(qm 56, .inl (kA 0, 161, .inl f0))], [(a0, .inr (13, mF qm (va_up x0Mo 5 (nI (539 * (31 * j + 0)))) y0Mo))], [(qm 3, .inl (kA 0, 4, .inl (fun _ => 0)))]]) H := hP
  have hD : va_D A (cat [[(qm 2, .inl (kA 0, 66836, .inl all0))], [(qm 56, .inl (kA 0, 161, .inl f0))], [(a0, .inr (13, mF qm (va_up x0Mo 5 (nI (539 * (31 * j + 0)))) y0Mo))], [(qm 3, .inl (kA 0, 4, .inl (fun _ => 0)))]]) := hD
  refine lv_aload_n (pc := 23) hx hb d_Mo_turn_23 rfl (lv_at hl 0 rfl) ?_
  refine k_goI (gr := [[(qm 56, .inl (kA 0, 161, .inl f0))], [(qm 3, .inl (kA 0, 4, .inl (fun _ => 0)))]]) (k_rV (pc := 24) (As := []) (rest := []) X (c_Mo_isPlanar_z1 l D kA a0 qm j hj H.size) rfl wm_3251 wm_9 wm_3248 wm_3250 wv_16_5 0 (by decide +kernel) ⟨Nat.le_of_ble_eq_true rfl, Nat.le_of_ble_eq_true rfl⟩ rfl rfl (va_recv hK hP (ci := 13) (q0 := 2) rfl rfl) (k_pre hN hK hP hD [2, 0] [1, 3] 4 rfl (by decide) rfl) rfl hl.1 rfl (Nat.le_of_ble_eq_true rfl) d_Mo_turn_24 ⟨Nat.le_of_ble_eq_true rfl, Nat.le_of_ble_eq_true rfl⟩) hP hD hS hA [2, 0] [1, 3] 4 rfl (by decide) rfl rfl (fun r6 u7 H locs hu7 hP hD hS => ?_)
  subst hu7
  have hP : va_P D classes (cat [[(qm 56, .inl (kA 0, 161, .inl f0))], [(qm 3, .inl (kA 0, 4, .inl (fun _ => 0)))], [(a0, .inr (13, mF qm (va_up (va_up x0Mo 5 (nI (539 * (31 * j + 0)))) 49 (-1)) y0Mo))], [(qm 2, .inl (kA 0, 66836, .inl all0))]]) H := hP
  have hD : va_D A (cat [[(qm 56, .inl (kA 0, 161, .inl f0))], [(qm 3, .inl (kA 0, 4, .inl (fun _ => 0)))], [(a0, .inr (13, mF qm (va_up (va_up x0Mo 5 (nI (539 * (31 * j + 0)))) 49 (-1)) y0Mo))], [(qm 2, .inl (kA 0, 66836, .inl all0))]]) := hD
  refine lv_istore (pc := 27) (lv' := [(5, .int 1), (0, .ref a0), (1, .int (nI j)), (2, .int 1), (3, .int v3), (4, .int v4)]) hx hb d_Mo_turn_27 hl (by decide) rfl (fun ls hl => ?_)
  refine lv_iload (pc := 29) hx hb d_Mo_turn_29 (lv_at hl 0 rfl) ?_
  refine lv_iload_n (pc := 31) hx hb d_Mo_turn_31 rfl (lv_at hl 3 rfl) ?_
  refine lv_iconst (pc := 32) (v := 2) hx hb d_Mo_turn_32 (by decide) ?_
  refine lv_icmp_ne (pc := 33) (tgt := 40) hx hb d_Mo_turn_33 (by decide) (fun _ => ?_) (fun c1 => absurd c1 (by decide))
  refine lv_iconst (pc := 40) (v := 0) hx hb d_Mo_turn_40 (by decide) ?_
  refine lv_icmp_ne (pc := 41) (tgt := 46) hx hb d_Mo_turn_41 (by decide) (fun _ => ?_) (fun c1 => absurd c1 (by decide))
  refine lv_iload_n (pc := 46) hx hb d_Mo_turn_46 rfl (lv_at hl 3 rfl) ?_
  refine lv_iconst (pc := 47) (v := 2) hx hb d_Mo_turn_47 (by decide) ?_
  refine lv_icmp_ne (pc := 48) (tgt := 80) hx hb d_Mo_turn_48 (by decide) (fun _ => ?_) (fun c1 => absurd c1 (by decide))
  refine lv_iload_n (pc := 80) hx hb d_Mo_turn_80 rfl (lv_at hl 3 rfl) ?_
  refine lv_if_ne (pc := 81) (tgt := 132) hx hb d_Mo_turn_81 (by decide) (fun c1 => ?_) (fun c1 => absurd c1 (by decide))
  refine lv_aload_n (pc := 132) hx hb d_Mo_turn_132 rfl (lv_at hl 1 rfl) ?_
  refine k_goV (gr := [[(qm 3, .inl (kA 0, 4, .inl (fun _ => 0)))], [(qm 2, .inl (kA 0, 66836, .inl all0))]]) (k_rV (pc := 133) (As := []) (rest := []) X (c_Mo_goRound_z1 l D kA a0 qm j f0 hj H.size) rfl wm_3255 wm_9 wm_3252 wm_3254 wv_16_6 0 (by decide +kernel) ⟨Nat.le_of_ble_eq_true rfl, Nat.le_of_ble_eq_true rfl⟩ rfl rfl (va_recv hK hP (ci := 13) (q0 := 2) rfl rfl) (k_pre hN hK hP hD [2, 0] [1, 3] 4 rfl (by decide) rfl) rfl hl.1 rfl (Nat.le_of_ble_eq_true rfl) d_Mo_turn_133 ⟨Nat.le_of_ble_eq_true rfl, Nat.le_of_ble_eq_true rfl⟩) hP hD hS hA [2, 0] [1, 3] 4 rfl (by decide) rfl rfl (fun u8 H locs hu8 hP hD hS => ?_)
  have hP : va_P D classes (cat [[(qm 3, .inl (kA 0, 4, .inl (fun _ => 0)))], [(qm 2, .inl (kA 0, 66836, .inl all0))], [(a0, .inr (13, mF qm (va_up (va_up x0Mo 5 (nI (539 * (31 * j + 0)))) 49 (-1)) y0Mo))], [(qm 56, .inl (kA 0, 161, .inl (upd (f0) 0 0)))]]) H := hP
  have hD : va_D A (cat [[(qm 3, .inl (kA 0, 4, .inl (fun _ => 0)))], [(qm 2, .inl (kA 0, 66836, .inl all0))], [(a0, .inr (13, mF qm (va_up (va_up x0Mo 5 (nI (539 * (31 * j + 0)))) 49 (-1)) y0Mo))], [(qm 56, .inl (kA 0, 161, .inl (upd (f0) 0 0)))]]) := hD
  refine lv_iload_n (pc := 136) hx hb d_Mo_turn_136 rfl (lv_at hl 4 rfl) ?_
  refine lv_iconst (pc := 137) (v := 0) hx hb d_Mo_turn_137 (by decide) ?_
  refine lv_aload_n (pc := 138) hx hb d_Mo_turn_138 rfl (lv_at hl 1 rfl) ?_
  refine k_get (pc := 139) (v := .int 0) X hK hP 2 rfl rfl i_Mo 53 (by decide) wm_2485 rfl rfl d_Mo_turn_139 ?_
  refine lv_iconst (pc := 142) (v := 1) hx hb d_Mo_turn_142 (by decide) ?_
  refine lv_isub (pc := 143) hx hb d_Mo_turn_143 ?_
  refine k_cst (v := (-1)) (by decide) ?_
  refine k_goI (gr := [[(qm 3, .inl (kA 0, 4, .inl (fun _ => 0)))], [(qm 2, .inl (kA 0, 66836, .inl all0))], [(a0, .inr (13, mF qm (va_up (va_up x0Mo 5 (nI (539 * (31 * j + 0)))) 49 (-1)) y0Mo))], [(qm 56, .inl (kA 0, 161, .inl (upd (f0) 0 0)))]]) (k_rS (pc := 144) (As := [.int v3, .int 0, .int ((-1))]) (rest := []) X (c_Mo_in_z27 l D kA v3 hn3 H.size) rfl wm_2971 wm_9 wm_2969 wm_2970 3 (by decide +kernel) ⟨Nat.le_of_ble_eq_true rfl, Nat.le_of_ble_eq_true rfl⟩ rfl rfl (k_pre hN hK hP hD [] [0, 1, 2, 3] 4 rfl (by decide) rfl) rfl hl.1 rfl (Nat.le_of_ble_eq_true rfl) d_Mo_turn_144 ⟨Nat.le_of_ble_eq_true rfl, Nat.le_of_ble_eq_true rfl⟩) hP hD hS hA [] [0, 1, 2, 3] 4 rfl (by decide) rfl rfl (fun r9 u10 H locs hu10 hP hD hS => ?_)
  subst hu10
  have hP : va_P D classes (cat [[(qm 3, .inl (kA 0, 4, .inl (fun _ => 0)))], [(qm 2, .inl (kA 0, 66836, .inl all0))], [(a0, .inr (13, mF qm (va_up (va_up x0Mo 5 (nI (539 * (31 * j + 0)))) 49 (-1)) y0Mo))], [(qm 56, .inl (kA 0, 161, .inl (upd (f0) 0 0)))]]) H := hP
  have hD : va_D A (cat [[(qm 3, .inl (kA 0, 4, .inl (fun _ => 0)))], [(qm 2, .inl (kA 0, 66836, .inl all0))], [(a0, .inr (13, mF qm (va_up (va_up x0Mo 5 (nI (539 * (31 * j + 0)))) 49 (-1)) y0Mo))], [(qm 56, .inl (kA 0, 161, .inl (upd (f0) 0 0)))]]) := hD
  refine lv_if_eq (pc := 147) (tgt := 176) hx hb d_Mo_turn_147 (by decide) (fun c1 => ?_) (fun c1 => absurd (by decide) c1)
  refine lv_iconst (pc := 176) (v := -1) hx hb d_Mo_turn_176 (by decide) ?_
  refine W.widen (k := 0) (n := 0) (Nat.le_of_ble_eq_true rfl) (Nat.le_of_ble_eq_true rfl) ?_
  exact W.iret (v := (-1)) hx hb hr (fun t ht hW => ⟨⟨(-1), [[(qm 3, .inl (kA 0, 4, .inl (fun _ => 0)))], [(qm 2, .inl (kA 0, 66836, .inl all0))], [(a0, .inr (13, mF qm (va_up (va_up x0Mo 5 (nI (539 * (31 * j + 0)))) 49 (-1)) y0Mo))], [(qm 56, .inl (kA 0, 161, .inl (upd (f0) 0 0)))]], rfl, rfl, by rw [ht]; exact hP, va_K.moved hW.alike hK, hD⟩, hS.F ht⟩) hS.2.2 d_Mo_turn_177
set_option maxRecDepth 100000 in
set_option maxHeartbeats 4000000 in
/-- turn, a fresh house -/
theorem lf_turn_7 {p : Program} {e : Env} {s : State} {m : MethodId} {below : List Frame} {meth : Method} {c : Code} (l : Launch) {b : Nat} {xs : Nat → Int32} (C0 : lw_At p s m meth c b 6 xs) {D : va_G} {kA : Nat → ClassId} (h : Nat) (h2 : Nat) (q : Nat → Nat) (qg : Nat → Nat) (qn : Nat → Nat) (qe : Nat → Nat) (qm : Nat → Nat) (g : Nat → Nat → Nat) (j : Nat) (v3 : Int32) (v4 : Int32) (hj : j < 4) (hn3 : ¬ v3 < 0) (hv1 : xs 1 = nI j) (hv2 : xs 2 = 1) (hv3 : xs 3 = v3) (hv4 : xs 4 = v4) {H : Heap} {locs : List Loc} {ls : Array Slot} (hK : va_K D classes (TY kA) s) (hN : nst s) (hP : va_P D classes (cat [[(h, .inr (12, [.ref (q 0), .ref (q 1), .ref (q 2), .ref (q 3), .ref (q 4), .ref (q 5), .ref (q 6), .int 0, .int ((-1)), .ref (q 9), .ref (q 10), .int 0, .int 0, .ref (q 13), .int 0, .int 0, .null, .null, .null, .null, .null]))], [(q 2, .inl (kA 6, 4, .inr (.inr (.inr (.inr (rr (g 2)))))))], [(g 2 j, .inr (5, [.int ((-1)), .int ((-1)), .int ((-1)), .int 0, .ref (qn 4), .int 0, .int 0, .ref (qn 7), .ref (qn 8), .ref (qn 9), .ref (qn 10), .ref (qn 11), .ref (qn 12), .int 0, .ref (qn 14), .ref (qn 15), .ref (qn 16)]))], [(q 0, .inl (kA 4, 4, .inr (.inr (.inr (.inr (rr (g 0)))))))], [(g 0 j, .inr (3, [.int 0, .int 0, .int 1, .ref (qg 3), .ref (qg 4), .ref (qg 5), .ref (qg 6), .ref (qg 7), .ref (qg 8), .ref (qg 9), .ref (qg 10), .ref (qg 11), .ref (qg 12), .ref (qg 13), .ref (qg 14), .ref (qg 15), .null, .int 0, .int 0]))], [(qn 9, .inl (kA 0, 25, .inl (fun _ => 0)))], [(qn 10, .inl (kA 0, 625, .inl (fun _ => 0)))], [(qn 12, .inl (kA 0, 25, .inl (fun _ => 0)))], [(q 5, .inr (1, [.null, .ref (qe 1), .ref (qe 2), .ref (qe 3), .ref (qe 4), .int 0, .int 0, .int 0, .ref (qe 8), .ref (qe 9), .ref (qe 10), .ref (qe 11), .ref (qe 12), .ref (qe 13), .ref (qe 14), .int 0, .int 0, .int 0, .int 0, .ref (qe 19)]))], [(qn 16, .inl (kA 0, 144, .inl (fun _ => 0)))], [(qn 14, .inl (kA 0, 145, .inl (fun _ => 0)))], [(h2, .inr (13, mF qm x0Mo y0Mo))], [(qm 3, .inl (kA 0, 4, .inl (fun _ => 0)))], [(qm 2, .inl (kA 0, 66836, .inl all0))], [(qm 56, .inl (kA 0, 161, .inl (fun _ => 0)))]]) H) (hD : va_D (fun q : Nat => s.heap.size ≤ q) (cat [[(h, .inr (12, [.ref (q 0), .ref (q 1), .ref (q 2), .ref (q 3), .ref (q 4), .ref (q 5), .ref (q 6), .int 0, .int ((-1)), .ref (q 9), .ref (q 10), .int 0, .int 0, .ref (q 13), .int 0, .int 0, .null, .null, .null, .null, .null]))], [(q 2, .inl (kA 6, 4, .inr (.inr (.inr (.inr (rr (g 2)))))))], [(g 2 j, .inr (5, [.int ((-1)), .int ((-1)), .int ((-1)), .int 0, .ref (qn 4), .int 0, .int 0, .ref (qn 7), .ref (qn 8), .ref (qn 9), .ref (qn 10), .ref (qn 11), .ref (qn 12), .int 0, .ref (qn 14), .ref (qn 15), .ref (qn 16)]))], [(q 0, .inl (kA 4, 4, .inr (.inr (.inr (.inr (rr (g 0)))))))], [(g 0 j, .inr (3, [.int 0, .int 0, .int 1, .ref (qg 3), .ref (qg 4), .ref (qg 5), .ref (qg 6), .ref (qg 7), .ref (qg 8), .ref (qg 9), .ref (qg 10), .ref (qg 11), .ref (qg 12), .ref (qg 13), .ref (qg 14), .ref (qg 15), .null, .int 0, .int 0]))], [(qn 9, .inl (kA 0, 25, .inl (fun _ => 0)))], [(qn 10, .inl (kA 0, 625, .inl (fun _ => 0)))], [(qn 12, .inl (kA 0, 25, .inl (fun _ => 0)))], [(q 5, .inr (1, [.null, .ref (qe 1), .ref (qe 2), .ref (qe 3), .ref (qe 4), .int 0, .int 0, .int 0, .ref (qe 8), .ref (qe 9), .ref (qe 10), .ref (qe 11), .ref (qe 12), .ref (qe 13), .ref (qe 14), .int 0, .int 0, .int 0, .int 0, .ref (qe 19)]))], [(qn 16, .inl (kA 0, 144, .inl (fun _ => 0)))], [(qn 14, .inl (kA 0, 145, .inl (fun _ => 0)))], [(h2, .inr (13, mF qm x0Mo y0Mo))], [(qm 3, .inl (kA 0, 4, .inl (fun _ => 0)))], [(qm 2, .inl (kA 0, 66836, .inl all0))], [(qm 56, .inl (kA 0, 161, .inl (fun _ => 0)))]])) (hS : va_S (fun q : Nat => s.heap.size ≤ q) s.heap H locs) (hl : lv_has ls 4 [(3, .int 0), (2, .ref h2), (1, .ref h), (0, .ref b)]) : W p l e room_1 s m #[Value.ref b] below meth c H locs 368 365796 (lw_Z below #[Value.ref b] s) (F0 m 712 ls []) := by
  obtain ⟨hx, hb, hr, hml, hown, hts0, hX, hbl, hlocks, hgv⟩ := id C0
  have hts : ∀ w ∈ lw_g, w.before #[Value.ref b] s = true := fun w h => hts0 w (lw_gt h)
  have X : cx p s m #[Value.ref b] meth c b_law_law 4 ret "DrawingHouseLaw" meth.name := ⟨hx, hb, hml, hown, hts, hr, hlocks, rfl⟩
  obtain ⟨A, hAe⟩ : ∃ A : Nat → Prop, A = fun q : Nat => s.heap.size ≤ q := ⟨_, rfl⟩
  have hA : ∀ q : Nat, s.heap.size ≤ q → A q := fun q h => by rw [hAe]; exact h
  have hbA : ¬ A b := by rw [hAe]; exact Nat.not_le.mpr hbl
  rw [← hAe] at hD hS
  refine lv_aload_n (pc := 712) hx hb d_law_law_712 rfl (lv_at hl 2 rfl) ?_
  refine lv_aload_n (pc := 713) hx hb d_law_law_713 rfl (lv_at hl 3 rfl) ?_
  refine lv_iload_n (pc := 714) hx hb d_law_law_714 rfl (lv_at hl 0 rfl) ?_
  refine lv_iconst (pc := 715) (v := 1) hx hb d_law_law_715 (by decide) ?_
  refine lv_iadd (pc := 716) hx hb d_law_law_716 ?_
  refine k_cst (v := 1) (by decide) ?_
  refine va_sld (pc := 717) hx hb hX hbl hbA hS (by unfold vp_in; decide) d_law_law_717 ?_
  refine k_cst (v := nI j) hv1 ?_
  refine lv_aload_n (pc := 718) hx hb d_law_law_718 rfl (lv_at hl 3 rfl) ?_
  refine lv_iload_n (pc := 719) hx hb d_law_law_719 rfl (lv_at hl 0 rfl) ?_
  refine lv_iconst (pc := 720) (v := 2) hx hb d_law_law_720 (by decide) ?_
  refine lv_iadd (pc := 721) hx hb d_law_law_721 ?_
  refine k_cst (v := 2) (by decide) ?_
  refine va_sld (pc := 722) hx hb hX hbl hbA hS (by unfold vp_in; decide) d_law_law_722 ?_
  refine k_cst (v := 1) hv2 ?_
  refine lv_aload_n (pc := 723) hx hb d_law_law_723 rfl (lv_at hl 3 rfl) ?_
  refine lv_iload_n (pc := 724) hx hb d_law_law_724 rfl (lv_at hl 0 rfl) ?_
  refine lv_iconst (pc := 725) (v := 3) hx hb d_law_law_725 (by decide) ?_
  refine lv_iadd (pc := 726) hx hb d_law_law_726 ?_
  refine k_cst (v := 3) (by decide) ?_
  refine va_sld (pc := 727) hx hb hX hbl hbA hS (by unfold vp_in; decide) d_law_law_727 ?_
  refine k_cst (v := v3) hv3 ?_
  refine lv_aload_n (pc := 728) hx hb d_law_law_728 rfl (lv_at hl 3 rfl) ?_
  refine lv_iload_n (pc := 729) hx hb d_law_law_729 rfl (lv_at hl 0 rfl) ?_
  refine lv_iconst (pc := 730) (v := 4) hx hb d_law_law_730 (by decide) ?_
  refine lv_iadd (pc := 731) hx hb d_law_law_731 ?_
  refine k_cst (v := 4) (by decide) ?_
  refine va_sld (pc := 732) hx hb hX hbl hbA hS (by unfold vp_in; decide) d_law_law_732 ?_
  refine k_cst (v := v4) hv4 ?_
  refine k_goI (gr := [[(h2, .inr (13, mF qm x0Mo y0Mo))], [(qm 3, .inl (kA 0, 4, .inl (fun _ => 0)))], [(qm 2, .inl (kA 0, 66836, .inl all0))], [(qm 56, .inl (kA 0, 161, .inl (fun _ => 0)))]]) (k_rV (pc := 733) (As := [.int (nI j), .int 1, .int v3, .int v4]) (rest := []) X (c_Ho_turn_z7 l D kA h j v3 v4 (q 0) (q 1) (q 2) (q 3) (q 4) (q 5) (q 6) (q 9) (q 10) (q 13) g (qn 4) (qn 7) (qn 8) (qn 9) (qn 10) (qn 11) (qn 12) (qn 14) (qn 15) (qn 16) (qg 3) (qg 4) (qg 5) (qg 6) (qg 7) (qg 8) (qg 9) (qg 10) (qg 11) (qg 12) (qg 13) (qg 14) (qg 15) (fun _ => 0) (fun _ => 0) (fun _ => 0) (qe 1) (qe 2) (qe 3) (qe 4) (qe 8) (qe 9) (qe 10) (qe 11) (qe 12) (qe 13) (qe 14) (qe 19) (fun _ => 0) (fun _ => 0) hj hn3 H.size) rfl wm_1172 wm_1 wm_1169 wm_1170 wm_1171 4 (by decide +kernel) ⟨Nat.le_of_ble_eq_true rfl, Nat.le_of_ble_eq_true rfl⟩ rfl rfl (va_recv hK hP (ci := 12) (q0 := 0) rfl rfl) (k_pre hN hK hP hD [0, 1, 2, 3, 4, 5, 6, 7, 8, 9, 10] [11, 12, 13, 14] 15 rfl (by decide) rfl) rfl hl.1 rfl (Nat.le_of_ble_eq_true rfl) d_law_law_733 ⟨Nat.le_of_ble_eq_true rfl, Nat.le_of_ble_eq_true rfl⟩) hP hD hS hA [0, 1, 2, 3, 4, 5, 6, 7, 8, 9, 10] [11, 12, 13, 14] 15 rfl (by decide) rfl rfl (fun r1 u2 H locs hu2 hP hD hS => ?_)
  obtain ⟨hP, hD⟩ := k_left hP hD
  subst hu2
  have hP : va_P D classes (cat [[(h2, .inr (13, mF qm x0Mo y0Mo))], [(qm 3, .inl (kA 0, 4, .inl (fun _ => 0)))], [(qm 2, .inl (kA 0, 66836, .inl all0))], [(qm 56, .inl (kA 0, 161, .inl (fun _ => 0)))]]) H := hP
  have hD : va_D A (cat [[(h2, .inr (13, mF qm x0Mo y0Mo))], [(qm 3, .inl (kA 0, 4, .inl (fun _ => 0)))], [(qm 2, .inl (kA 0, 66836, .inl all0))], [(qm 56, .inl (kA 0, 161, .inl (fun _ => 0)))]]) := hD
  refine lv_aload_n (pc := 736) hx hb d_law_law_736 rfl (lv_at hl 1 rfl) ?_
  refine lv_aload_n (pc := 737) hx hb d_law_law_737 rfl (lv_at hl 3 rfl) ?_
  refine lv_iload_n (pc := 738) hx hb d_law_law_738 rfl (lv_at hl 0 rfl) ?_
  refine lv_iconst (pc := 739) (v := 1) hx hb d_law_law_739 (by decide) ?_
  refine lv_iadd (pc := 740) hx hb d_law_law_740 ?_
  refine k_cst (v := 1) (by decide) ?_
  refine va_sld (pc := 741) hx hb hX hbl hbA hS (by unfold vp_in; decide) d_law_law_741 ?_
  refine k_cst (v := nI j) hv1 ?_
  refine lv_aload_n (pc := 742) hx hb d_law_law_742 rfl (lv_at hl 3 rfl) ?_
  refine lv_iload_n (pc := 743) hx hb d_law_law_743 rfl (lv_at hl 0 rfl) ?_
  refine lv_iconst (pc := 744) (v := 2) hx hb d_law_law_744 (by decide) ?_
  refine lv_iadd (pc := 745) hx hb d_law_law_745 ?_
  refine k_cst (v := 2) (by decide) ?_
  refine va_sld (pc := 746) hx hb hX hbl hbA hS (by unfold vp_in; decide) d_law_law_746 ?_
  refine k_cst (v := 1) hv2 ?_
  refine lv_aload_n (pc := 747) hx hb d_law_law_747 rfl (lv_at hl 3 rfl) ?_
  refine lv_iload_n (pc := 748) hx hb d_law_law_748 rfl (lv_at hl 0 rfl) ?_
  refine lv_iconst (pc := 749) (v := 3) hx hb d_law_law_749 (by decide) ?_
  refine lv_iadd (pc := 750) hx hb d_law_law_750 ?_
  refine k_cst (v := 3) (by decide) ?_
  refine va_sld (pc := 751) hx hb hX hbl hbA hS (by unfold vp_in; decide) d_law_law_751 ?_
  refine k_cst (v := v3) hv3 ?_
  refine lv_aload_n (pc := 752) hx hb d_law_law_752 rfl (lv_at hl 3 rfl) ?_
  refine lv_iload_n (pc := 753) hx hb d_law_law_753 rfl (lv_at hl 0 rfl) ?_
  refine lv_iconst (pc := 754) (v := 4) hx hb d_law_law_754 (by decide) ?_
  refine lv_iadd (pc := 755) hx hb d_law_law_755 ?_
  refine k_cst (v := 4) (by decide) ?_
  refine va_sld (pc := 756) hx hb hX hbl hbA hS (by unfold vp_in; decide) d_law_law_756 ?_
  refine k_cst (v := v4) hv4 ?_
  refine k_goI (gr := []) (k_rV (pc := 757) (As := [.int (nI j), .int 1, .int v3, .int v4]) (rest := [.int ((-1))]) X (c_Mo_turn_z7 l D kA h2 j v3 v4 qm (fun _ => 0) hj hn3 H.size) rfl wm_3271 wm_9 wm_3268 wm_3269 wm_3270 4 (by decide +kernel) ⟨Nat.le_of_ble_eq_true rfl, Nat.le_of_ble_eq_true rfl⟩ rfl rfl (va_recv hK hP (ci := 13) (q0 := 0) rfl rfl) (k_pre hN hK hP hD [0, 1, 2, 3] [] 4 rfl (by decide) rfl) rfl hl.1 rfl (Nat.le_of_ble_eq_true rfl) d_law_law_757 ⟨Nat.le_of_ble_eq_true rfl, Nat.le_of_ble_eq_true rfl⟩) hP hD hS hA [0, 1, 2, 3] [] 4 rfl (by decide) rfl rfl (fun r3 u4 H locs hu4 hP hD hS => ?_)
  obtain ⟨hP, hD⟩ := k_left hP hD
  subst hu4
  have hP : va_P D classes (cat []) H := hP
  have hD : va_D A (cat []) := hD
  refine lv_icmp_eq (pc := 760) (tgt := 1295) hx hb d_law_law_760 (by decide) (fun _ => ?_) (fun c1 => absurd (by decide) c1)
  rw [hAe] at hS
  exact law_exit l C0 (Nat.le_of_ble_eq_true rfl) (Nat.le_of_ble_eq_true rfl) hS hl
set_option maxRecDepth 100000 in
set_option maxHeartbeats 4000000 in
/-- DrawingHouse.turn(IIII)I -/
theorem c_Ho_turn_z8 (l : Launch) (D : va_G) (kA : Nat → ClassId) (a0 : Nat) (j : Nat) (v3 : Int32) (v4 : Int32) (hj : j < 4) (hn3 : v3 < 0) : Ci l y_Ho_turn z_Ho_turn { frames := 1, cells := 0, slots := 0, locals := 20 } D classes (TY kA) [.ref a0, .int (nI j), .int 2, .int v3, .int v4] [] (fun r (_ : List va_W) => r = (-1)) (fun u => u) 0 0 := by
  intro sz
  refine k_met (cc := b_Ho_turn) (maxL := 6) (ret := (some .int)) (by decide) rfl (Nat.le_of_ble_eq_true rfl) (fun p e s m below meth c ls X hl hB => ?_)
  obtain ⟨hsz, hP, hK, hD0, hN⟩ := hB
  subst hsz
  have hD := hD0.self (sz := s.heap.size)
  generalize hAe : va_A (cat []) s.heap.size = A at hD ⊢
  have hA : ∀ q : Nat, s.heap.size ≤ q → A q := fun q h => by rw [← hAe]; exact Or.inr h
  have hS : va_S A s.heap s.heap [] := va_S.rf
  obtain ⟨hx, hb, hml, hown, hts, hr, hlk, hnm⟩ := id X
  have hl : lv_has ls 6 [(0, .ref a0), (1, .int (nI j)), (2, .int 2), (3, .int v3), (4, .int v4)] := hl
  have hP : va_P D classes (cat []) s.heap := hP
  have hK : va_K D classes (TY kA) s := hK
  refine lv_iload_n (pc := 0) hx hb d_Ho_turn_0 rfl (lv_at hl 1 rfl) ?_
  refine k_goI (gr := []) (k_rS (pc := 1) (As := [.int (nI j)]) (rest := []) X (c_Ho_isPlace l D kA (nI j) s.heap.size) rfl wm_633 wm_1 wm_631 wm_632 1 (by decide +kernel) ⟨Nat.le_of_ble_eq_true rfl, Nat.le_of_ble_eq_true rfl⟩ rfl rfl (k_pre hN hK hP hD [] [] 0 rfl (by decide) rfl) rfl hl.1 rfl (Nat.le_of_ble_eq_true rfl) d_Ho_turn_1 ⟨Nat.le_of_ble_eq_true rfl, Nat.le_of_ble_eq_true rfl⟩) hP hD hS hA [] [] 0 rfl (by decide) rfl rfl (fun r1 u2 H locs hu2 hP hD hS => ?_)
  subst hu2
  refine k_cst (v := 1) (place_ok hj) ?_
  have hP : va_P D classes (cat []) H := hP
  have hD : va_D A (cat []) := hD
  refine lv_if_eq (pc := 4) (tgt := 11) hx hb d_Ho_turn_4 (by decide) (fun c1 => absurd c1 (by decide)) (fun c1 => ?_)
  refine lv_iload_n (pc := 7) hx hb d_Ho_turn_7 rfl (lv_at hl 3 rfl) ?_
  refine lv_if_ge (pc := 8) (tgt := 13) hx hb d_Ho_turn_8 (by decide) (fun c1 => absurd c1 (Int32.not_le.mpr hn3)) (fun c1 => ?_)
  refine lv_iconst (pc := 11) (v := -1) hx hb d_Ho_turn_11 (by decide) ?_
  refine W.widen (k := 0) (n := 0) (Nat.le_of_ble_eq_true rfl) (Nat.le_of_ble_eq_true rfl) ?_
  exact W.iret (v := (-1)) hx hb hr (fun t ht hW => ⟨⟨(-1), [], rfl, rfl, by rw [ht]; exact hP, va_K.moved hW.alike hK, hD⟩, hS.F ht⟩) hS.2.2 d_Ho_turn_12
set_option maxRecDepth 100000 in
set_option maxHeartbeats 4000000 in
/-- DrawingHouseModel.in(III)Z -/
theorem c_Mo_in_z30 (l : Launch) (D : va_G) (kA : Nat → ClassId) : Ci l y_Mo_in z_Mo_in { frames := 0, cells := 0, slots := 0, locals := 0 } D classes (TY kA) [.int 2, .int 0, .int 2] [] (fun r (_ : Unit) => r = 1) (fun u => []) 0 0 := by
  intro sz
  refine k_met (cc := b_Mo_in) (maxL := 3) (ret := (some .boolean)) (by decide) rfl (Nat.le_of_ble_eq_true rfl) (fun p e s m below meth c ls X hl hB => ?_)
  obtain ⟨hsz, hP, hK, hD0, hN⟩ := hB
  subst hsz
  have hD := hD0.self (sz := s.heap.size)
  generalize hAe : va_A (cat []) s.heap.size = A at hD ⊢
  have hA : ∀ q : Nat, s.heap.size ≤ q → A q := fun q h => by rw [← hAe]; exact Or.inr h
  have hS : va_S A s.heap s.heap [] := va_S.rf
  obtain ⟨hx, hb, hml, hown, hts, hr, hlk, hnm⟩ := id X
  have hl : lv_has ls 3 [(0, .int 2), (1, .int 0), (2, .int 2)] := hl
  have hP : va_P D classes (cat []) s.heap := hP
  have hK : va_K D classes (TY kA) s := hK
  refine lv_iload_n (pc := 0) hx hb d_Mo_in_0 rfl (lv_at hl 0 rfl) ?_
  refine lv_iload_n (pc := 1) hx hb d_Mo_in_1 rfl (lv_at hl 1 rfl) ?_
  refine lv_icmp_lt (pc := 2) (tgt := 14) hx hb d_Mo_in_2 (by decide) (fun c1 => absurd c1 (by decide)) (fun _ => ?_)
  refine lv_iload_n (pc := 5) hx hb d_Mo_in_5 rfl (lv_at hl 0 rfl) ?_
  refine lv_iload_n (pc := 6) hx hb d_Mo_in_6 rfl (lv_at hl 2 rfl) ?_
  refine lv_icmp_gt (pc := 7) (tgt := 14) hx hb d_Mo_in_7 (by decide) (fun c1 => absurd c1 (by decide)) (fun _ => ?_)
  refine lv_iconst (pc := 10) (v := 1) hx hb d_Mo_in_10 (by decide) ?_
  refine lv_goto (pc := 11) (tgt := 15) hx hb d_Mo_in_11 (by decide) ?_
  refine W.widen (k := 0) (n := 0) (Nat.le_of_ble_eq_true rfl) (Nat.le_of_ble_eq_true rfl) ?_
  exact W.zret (v := 1) hx hb hr rfl (fun t ht hW => ⟨⟨1, (), rfl, rfl, by rw [ht]; exact hP, va_K.moved hW.alike hK, hD⟩, hS.F ht⟩) hS.2.2 d_Mo_in_15
set_option maxRecDepth 100000 in
set_option maxHeartbeats 4000000 in
/-- DrawingHouseModel.turn(IIII)I -/
theorem c_Mo_turn_z8 (l : Launch) (D : va_G) (kA : Nat → ClassId) (a0 : Nat) (j : Nat) (v3 : Int32) (v4 : Int32) (qm : Nat → Nat) (hj : j < 4) (hn3 : v3 < 0) : Ci l y_Mo_turn z_Mo_turn { frames := 3, cells := 0, slots := 0, locals := 66 } D classes (TY kA) [.ref a0, .int (nI j), .int 2, .int v3, .int v4] [[(a0, .inr (13, mF qm x0Mo y0Mo))], [(qm 3, .inl (kA 0, 4, .inl (fun _ => 0)))], [(qm 2, .inl (kA 0, 66836, .inl all0))]] (fun r (_ : List va_W) => r = (-1)) (fun u => u) 0 0 := by
  intro sz
  refine k_met (cc := b_Mo_turn) (maxL := 6) (ret := (some .int)) (by decide) rfl (Nat.le_of_ble_eq_true rfl) (fun p e s m below meth c ls X hl hB => ?_)
  obtain ⟨hsz, hP, hK, hD0, hN⟩ := hB
  subst hsz
  have hD := hD0.self (sz := s.heap.size)
  generalize hAe : va_A (cat [[(a0, .inr (13, mF qm x0Mo y0Mo))], [(qm 3, .inl (kA 0, 4, .inl (fun _ => 0)))], [(qm 2, .inl (kA 0, 66836, .inl all0))]]) s.heap.size = A at hD ⊢
  have hA : ∀ q : Nat, s.heap.size ≤ q → A q := fun q h => by rw [← hAe]; exact Or.inr h
  have hS : va_S A s.heap s.heap [] := va_S.rf
  obtain ⟨hx, hb, hml, hown, hts, hr, hlk, hnm⟩ := id X
  have hl : lv_has ls 6 [(0, .ref a0), (1, .int (nI j)), (2, .int 2), (3, .int v3), (4, .int v4)] := hl
  have hP : va_P D classes (cat [[(a0, .inr (13, mF qm x0Mo y0Mo))], [(qm 3, .inl (kA 0, 4, .inl (fun _ => 0)))], [(qm 2, .inl (kA 0, 66836, .inl all0))]]) s.heap := hP
  have hK : va_K D classes (TY kA) s := hK
  refine lv_iload_n (pc := 0) hx hb d_Mo_turn_0 rfl (lv_at hl 1 rfl) ?_
  refine k_goI (gr := [[(a0, .inr (13, mF qm x0Mo y0Mo))], [(qm 3, .inl (kA 0, 4, .inl (fun _ => 0)))], [(qm 2, .inl (kA 0, 66836, .inl all0))]]) (k_rS (pc := 1) (As := [.int (nI j)]) (rest := []) X (c_Mo_isPlace l D kA (nI j) s.heap.size) rfl wm_2978 wm_9 wm_2976 wm_2977 1 (by decide +kernel) ⟨Nat.le_of_ble_eq_true rfl, Nat.le_of_ble_eq_true rfl⟩ rfl rfl (k_pre hN hK hP hD [] [0, 1, 2] 3 rfl (by decide) rfl) rfl hl.1 rfl (Nat.le_of_ble_eq_true rfl) d_Mo_turn_1 ⟨Nat.le_of_ble_eq_true rfl, Nat.le_of_ble_eq_true rfl⟩) hP hD hS hA [] [0, 1, 2] 3 rfl (by decide) rfl rfl (fun r1 u2 H locs hu2 hP hD hS => ?_)
  subst hu2
  refine k_cst (v := 1) (placeM_ok hj) ?_
  have hP : va_P D classes (cat [[(a0, .inr (13, mF qm x0Mo y0Mo))], [(qm 3, .inl (kA 0, 4, .inl (fun _ => 0)))], [(qm 2, .inl (kA 0, 66836, .inl all0))]]) H := hP
  have hD : va_D A (cat [[(a0, .inr (13, mF qm x0Mo y0Mo))], [(qm 3, .inl (kA 0, 4, .inl (fun _ => 0)))], [(qm 2, .inl (kA 0, 66836, .inl all0))]]) := hD
  refine lv_if_eq (pc := 4) (tgt := 16) hx hb d_Mo_turn_4 (by decide) (fun c1 => absurd c1 (by decide)) (fun c1 => ?_)
  refine lv_iload_n (pc := 7) hx hb d_Mo_turn_7 rfl (lv_at hl 2 rfl) ?_
  refine lv_iconst (pc := 8) (v := 0) hx hb d_Mo_turn_8 (by decide) ?_
  refine lv_iconst (pc := 9) (v := 2) hx hb d_Mo_turn_9 (by decide) ?_
  refine k_goI (gr := [[(a0, .inr (13, mF qm x0Mo y0Mo))], [(qm 3, .inl (kA 0, 4, .inl (fun _ => 0)))], [(qm 2, .inl (kA 0, 66836, .inl all0))]]) (k_rS (pc := 10) (As := [.int 2, .int 0, .int 2]) (rest := []) X (c_Mo_in_z30 l D kA  H.size) rfl wm_2971 wm_9 wm_2969 wm_2970 3 (by decide +kernel) ⟨Nat.le_of_ble_eq_true rfl, Nat.le_of_ble_eq_true rfl⟩ rfl rfl (k_pre hN hK hP hD [] [0, 1, 2] 3 rfl (by decide) rfl) rfl hl.1 rfl (Nat.le_of_ble_eq_true rfl) d_Mo_turn_10 ⟨Nat.le_of_ble_eq_true rfl, Nat.le_of_ble_eq_true rfl⟩) hP hD hS hA [] [0, 1, 2] 3 rfl (by decide) rfl rfl (fun r3 u4 H locs hu4 hP hD hS => ?_)
  subst hu4
  have hP : va_P D classes (cat [[(a0, .inr (13, mF qm x0Mo y0Mo))], [(qm 3, .inl (kA 0, 4, .inl (fun _ => 0)))], [(qm 2, .inl (kA 0, 66836, .inl all0))]]) H := hP
  have hD : va_D A (cat [[(a0, .inr (13, mF qm x0Mo y0Mo))], [(qm 3, .inl (kA 0, 4, .inl (fun _ => 0)))], [(qm 2, .inl (kA 0, 66836, .inl all0))]]) := hD
  refine lv_if_ne (pc := 13) (tgt := 18) hx hb d_Mo_turn_13 (by decide) (fun c1 => ?_) (fun c1 => absurd c1 (by decide))
  refine lv_aload_n (pc := 18) hx hb d_Mo_turn_18 rfl (lv_at hl 0 rfl) ?_
  refine lv_iload_n (pc := 19) hx hb d_Mo_turn_19 rfl (lv_at hl 1 rfl) ?_
  refine k_goV (gr := [[(qm 2, .inl (kA 0, 66836, .inl all0))]]) (k_rV (pc := 20) (As := [.int (nI j)]) (rest := []) X (c_Mo_take_z1 l D kA a0 j qm hj H.size) rfl wm_3091 wm_9 wm_3088 wm_3090 wv_14_2 1 (by decide +kernel) ⟨Nat.le_of_ble_eq_true rfl, Nat.le_of_ble_eq_true rfl⟩ rfl rfl (va_recv hK hP (ci := 13) (q0 := 0) rfl rfl) (k_pre hN hK hP hD [0, 1] [2] 3 rfl (by decide) rfl) rfl hl.1 rfl (Nat.le_of_ble_eq_true rfl) d_Mo_turn_20 ⟨Nat.le_of_ble_eq_true rfl, Nat.le_of_ble_eq_true rfl⟩) hP hD hS hA [0, 1] [2] 3 rfl (by decide) rfl rfl (fun u5 H locs hu5 hP hD hS => ?_)
  have hP : va_P D classes (cat [[(qm 2, .inl (kA 0, 66836, .inl all0))], [(a0, .inr (13, mF qm (va_up x0Mo 5 (nI (539 * (31 * j + 0)))) y0Mo))], [(qm 3, .inl (kA 0, 4, .inl (fun _ => 0)))]]) H := hP
  have hD : va_D A (cat [[(qm 2, .inl (kA 0, 66836, .inl all0))], [(a0, .inr (13, mF qm (va_up x0Mo 5 (nI (539 * (31 * j + 0)))) y0Mo))], [(qm 3, .inl (kA 0, 4, .inl (fun _ => 0)))]]) := hD
  refine lv_aload_n (pc := 23) hx hb d_Mo_turn_23 rfl (lv_at hl 0 rfl) ?_
  refine k_goI (gr := [[(qm 3, .inl (kA 0, 4, .inl (fun _ => 0)))]]) (k_rV (pc := 24) (As := []) (rest := []) X (c_Mo_isPlanar_z1 l D kA a0 qm j hj H.size) rfl wm_3251 wm_9 wm_3248 wm_3250 wv_16_5 0 (by decide +kernel) ⟨Nat.le_of_ble_eq_true rfl, Nat.le_of_ble_eq_true rfl⟩ rfl rfl (va_recv hK hP (ci := 13) (q0 := 1) rfl rfl) (k_pre hN hK hP hD [1, 0] [2] 3 rfl (by decide) rfl) rfl hl.1 rfl (Nat.le_of_ble_eq_true rfl) d_Mo_turn_24 ⟨Nat.le_of_ble_eq_true rfl, Nat.le_of_ble_eq_true rfl⟩) hP hD hS hA [1, 0] [2] 3 rfl (by decide) rfl rfl (fun r6 u7 H locs hu7 hP hD hS => ?_)
  subst hu7
  have hP : va_P D classes (cat [[(qm 3, .inl (kA 0, 4, .inl (fun _ => 0)))], [(a0, .inr (13, mF qm (va_up (va_up x0Mo 5 (nI (539 * (31 * j + 0)))) 49 (-1)) y0Mo))], [(qm 2, .inl (kA 0, 66836, .inl all0))]]) H := hP
  have hD : va_D A (cat [[(qm 3, .inl (kA 0, 4, .inl (fun _ => 0)))], [(a0, .inr (13, mF qm (va_up (va_up x0Mo 5 (nI (539 * (31 * j + 0)))) 49 (-1)) y0Mo))], [(qm 2, .inl (kA 0, 66836, .inl all0))]]) := hD
  refine lv_istore (pc := 27) (lv' := [(5, .int 1), (0, .ref a0), (1, .int (nI j)), (2, .int 2), (3, .int v3), (4, .int v4)]) hx hb d_Mo_turn_27 hl (by decide) rfl (fun ls hl => ?_)
  refine lv_iload (pc := 29) hx hb d_Mo_turn_29 (lv_at hl 0 rfl) ?_
  refine lv_iload_n (pc := 31) hx hb d_Mo_turn_31 rfl (lv_at hl 3 rfl) ?_
  refine lv_iconst (pc := 32) (v := 2) hx hb d_Mo_turn_32 (by decide) ?_
  refine lv_icmp_ne (pc := 33) (tgt := 40) hx hb d_Mo_turn_33 (by decide) (fun c1 => absurd (by decide) c1) (fun _ => ?_)
  refine lv_iconst (pc := 36) (v := 1) hx hb d_Mo_turn_36 (by decide) ?_
  refine lv_goto (pc := 37) (tgt := 41) hx hb d_Mo_turn_37 (by decide) ?_
  refine lv_icmp_ne (pc := 41) (tgt := 46) hx hb d_Mo_turn_41 (by decide) (fun c1 => absurd (by decide) c1) (fun _ => ?_)
  refine lv_iconst (pc := 44) (v := -1) hx hb d_Mo_turn_44 (by decide) ?_
  refine W.widen (k := 0) (n := 0) (Nat.le_of_ble_eq_true rfl) (Nat.le_of_ble_eq_true rfl) ?_
  exact W.iret (v := (-1)) hx hb hr (fun t ht hW => ⟨⟨(-1), [[(qm 3, .inl (kA 0, 4, .inl (fun _ => 0)))], [(a0, .inr (13, mF qm (va_up (va_up x0Mo 5 (nI (539 * (31 * j + 0)))) 49 (-1)) y0Mo))], [(qm 2, .inl (kA 0, 66836, .inl all0))]], rfl, rfl, by rw [ht]; exact hP, va_K.moved hW.alike hK, hD⟩, hS.F ht⟩) hS.2.2 d_Mo_turn_45
set_option maxRecDepth 100000 in
set_option maxHeartbeats 4000000 in
/-- turn, a fresh house -/
theorem lf_turn_8 {p : Program} {e : Env} {s : State} {m : MethodId} {below : List Frame} {meth : Method} {c : Code} (l : Launch) {b : Nat} {xs : Nat → Int32} (C0 : lw_At p s m meth c b 6 xs) {D : va_G} {kA : Nat → ClassId} (h : Nat) (h2 : Nat) (q : Nat → Nat) (qm : Nat → Nat) (j : Nat) (v3 : Int32) (v4 : Int32) (hj : j < 4) (hn3 : v3 < 0) (hv1 : xs 1 = nI j) (hv2 : xs 2 = 2) (hv3 : xs 3 = v3) (hv4 : xs 4 = v4) {H : Heap} {locs : List Loc} {ls : Array Slot} (hK : va_K D classes (TY kA) s) (hN : nst s) (hP : va_P D classes (cat [[(h, .inr (12, [.ref (q 0), .ref (q 1), .ref (q 2), .ref (q 3), .ref (q 4), .ref (q 5), .ref (q 6), .int 0, .int ((-1)), .ref (q 9), .ref (q 10), .int 0, .int 0, .ref (q 13), .int 0, .int 0, .null, .null, .null, .null, .null]))], [(h2, .inr (13, mF qm x0Mo y0Mo))], [(qm 3, .inl (kA 0, 4, .inl (fun _ => 0)))], [(qm 2, .inl (kA 0, 66836, .inl all0))]]) H) (hD : va_D (fun q : Nat => s.heap.size ≤ q) (cat [[(h, .inr (12, [.ref (q 0), .ref (q 1), .ref (q 2), .ref (q 3), .ref (q 4), .ref (q 5), .ref (q 6), .int 0, .int ((-1)), .ref (q 9), .ref (q 10), .int 0, .int 0, .ref (q 13), .int 0, .int 0, .null, .null, .null, .null, .null]))], [(h2, .inr (13, mF qm x0Mo y0Mo))], [(qm 3, .inl (kA 0, 4, .inl (fun _ => 0)))], [(qm 2, .inl (kA 0, 66836, .inl all0))]])) (hS : va_S (fun q : Nat => s.heap.size ≤ q) s.heap H locs) (hl : lv_has ls 4 [(3, .int 0), (2, .ref h2), (1, .ref h), (0, .ref b)]) : W p l e room_1 s m #[Value.ref b] below meth c H locs 368 365796 (lw_Z below #[Value.ref b] s) (F0 m 712 ls []) := by
  obtain ⟨hx, hb, hr, hml, hown, hts0, hX, hbl, hlocks, hgv⟩ := id C0
  have hts : ∀ w ∈ lw_g, w.before #[Value.ref b] s = true := fun w h => hts0 w (lw_gt h)
  have X : cx p s m #[Value.ref b] meth c b_law_law 4 ret "DrawingHouseLaw" meth.name := ⟨hx, hb, hml, hown, hts, hr, hlocks, rfl⟩
  obtain ⟨A, hAe⟩ : ∃ A : Nat → Prop, A = fun q : Nat => s.heap.size ≤ q := ⟨_, rfl⟩
  have hA : ∀ q : Nat, s.heap.size ≤ q → A q := fun q h => by rw [hAe]; exact h
  have hbA : ¬ A b := by rw [hAe]; exact Nat.not_le.mpr hbl
  rw [← hAe] at hD hS
  refine lv_aload_n (pc := 712) hx hb d_law_law_712 rfl (lv_at hl 2 rfl) ?_
  refine lv_aload_n (pc := 713) hx hb d_law_law_713 rfl (lv_at hl 3 rfl) ?_
  refine lv_iload_n (pc := 714) hx hb d_law_law_714 rfl (lv_at hl 0 rfl) ?_
  refine lv_iconst (pc := 715) (v := 1) hx hb d_law_law_715 (by decide) ?_
  refine lv_iadd (pc := 716) hx hb d_law_law_716 ?_
  refine k_cst (v := 1) (by decide) ?_
  refine va_sld (pc := 717) hx hb hX hbl hbA hS (by unfold vp_in; decide) d_law_law_717 ?_
  refine k_cst (v := nI j) hv1 ?_
  refine lv_aload_n (pc := 718) hx hb d_law_law_718 rfl (lv_at hl 3 rfl) ?_
  refine lv_iload_n (pc := 719) hx hb d_law_law_719 rfl (lv_at hl 0 rfl) ?_
  refine lv_iconst (pc := 720) (v := 2) hx hb d_law_law_720 (by decide) ?_
  refine lv_iadd (pc := 721) hx hb d_law_law_721 ?_
  refine k_cst (v := 2) (by decide) ?_
  refine va_sld (pc := 722) hx hb hX hbl hbA hS (by unfold vp_in; decide) d_law_law_722 ?_
  refine k_cst (v := 2) hv2 ?_
  refine lv_aload_n (pc := 723) hx hb d_law_law_723 rfl (lv_at hl 3 rfl) ?_
  refine lv_iload_n (pc := 724) hx hb d_law_law_724 rfl (lv_at hl 0 rfl) ?_
  refine lv_iconst (pc := 725) (v := 3) hx hb d_law_law_725 (by decide) ?_
  refine lv_iadd (pc := 726) hx hb d_law_law_726 ?_
  refine k_cst (v := 3) (by decide) ?_
  refine va_sld (pc := 727) hx hb hX hbl hbA hS (by unfold vp_in; decide) d_law_law_727 ?_
  refine k_cst (v := v3) hv3 ?_
  refine lv_aload_n (pc := 728) hx hb d_law_law_728 rfl (lv_at hl 3 rfl) ?_
  refine lv_iload_n (pc := 729) hx hb d_law_law_729 rfl (lv_at hl 0 rfl) ?_
  refine lv_iconst (pc := 730) (v := 4) hx hb d_law_law_730 (by decide) ?_
  refine lv_iadd (pc := 731) hx hb d_law_law_731 ?_
  refine k_cst (v := 4) (by decide) ?_
  refine va_sld (pc := 732) hx hb hX hbl hbA hS (by unfold vp_in; decide) d_law_law_732 ?_
  refine k_cst (v := v4) hv4 ?_
  refine k_goI (gr := [[(h, .inr (12, [.ref (q 0), .ref (q 1), .ref (q 2), .ref (q 3), .ref (q 4), .ref (q 5), .ref (q 6), .int 0, .int ((-1)), .ref (q 9), .ref (q 10), .int 0, .int 0, .ref (q 13), .int 0, .int 0, .null, .null, .null, .null, .null]))], [(h2, .inr (13, mF qm x0Mo y0Mo))], [(qm 3, .inl (kA 0, 4, .inl (fun _ => 0)))], [(qm 2, .inl (kA 0, 66836, .inl all0))]]) (k_rV (pc := 733) (As := [.int (nI j), .int 2, .int v3, .int v4]) (rest := []) X (c_Ho_turn_z8 l D kA h j v3 v4 hj hn3 H.size) rfl wm_1172 wm_1 wm_1169 wm_1170 wm_1171 4 (by decide +kernel) ⟨Nat.le_of_ble_eq_true rfl, Nat.le_of_ble_eq_true rfl⟩ rfl rfl (va_recv hK hP (ci := 12) (q0 := 0) rfl rfl) (k_pre hN hK hP hD [] [0, 1, 2, 3] 4 rfl (by decide) rfl) rfl hl.1 rfl (Nat.le_of_ble_eq_true rfl) d_law_law_733 ⟨Nat.le_of_ble_eq_true rfl, Nat.le_of_ble_eq_true rfl⟩) hP hD hS hA [] [0, 1, 2, 3] 4 rfl (by decide) rfl rfl (fun r1 u2 H locs hu2 hP hD hS => ?_)
  obtain ⟨hP, hD⟩ := k_left hP hD
  subst hu2
  have hP : va_P D classes (cat [[(h, .inr (12, [.ref (q 0), .ref (q 1), .ref (q 2), .ref (q 3), .ref (q 4), .ref (q 5), .ref (q 6), .int 0, .int ((-1)), .ref (q 9), .ref (q 10), .int 0, .int 0, .ref (q 13), .int 0, .int 0, .null, .null, .null, .null, .null]))], [(h2, .inr (13, mF qm x0Mo y0Mo))], [(qm 3, .inl (kA 0, 4, .inl (fun _ => 0)))], [(qm 2, .inl (kA 0, 66836, .inl all0))]]) H := hP
  have hD : va_D A (cat [[(h, .inr (12, [.ref (q 0), .ref (q 1), .ref (q 2), .ref (q 3), .ref (q 4), .ref (q 5), .ref (q 6), .int 0, .int ((-1)), .ref (q 9), .ref (q 10), .int 0, .int 0, .ref (q 13), .int 0, .int 0, .null, .null, .null, .null, .null]))], [(h2, .inr (13, mF qm x0Mo y0Mo))], [(qm 3, .inl (kA 0, 4, .inl (fun _ => 0)))], [(qm 2, .inl (kA 0, 66836, .inl all0))]]) := hD
  refine lv_aload_n (pc := 736) hx hb d_law_law_736 rfl (lv_at hl 1 rfl) ?_
  refine lv_aload_n (pc := 737) hx hb d_law_law_737 rfl (lv_at hl 3 rfl) ?_
  refine lv_iload_n (pc := 738) hx hb d_law_law_738 rfl (lv_at hl 0 rfl) ?_
  refine lv_iconst (pc := 739) (v := 1) hx hb d_law_law_739 (by decide) ?_
  refine lv_iadd (pc := 740) hx hb d_law_law_740 ?_
  refine k_cst (v := 1) (by decide) ?_
  refine va_sld (pc := 741) hx hb hX hbl hbA hS (by unfold vp_in; decide) d_law_law_741 ?_
  refine k_cst (v := nI j) hv1 ?_
  refine lv_aload_n (pc := 742) hx hb d_law_law_742 rfl (lv_at hl 3 rfl) ?_
  refine lv_iload_n (pc := 743) hx hb d_law_law_743 rfl (lv_at hl 0 rfl) ?_
  refine lv_iconst (pc := 744) (v := 2) hx hb d_law_law_744 (by decide) ?_
  refine lv_iadd (pc := 745) hx hb d_law_law_745 ?_
  refine k_cst (v := 2) (by decide) ?_
  refine va_sld (pc := 746) hx hb hX hbl hbA hS (by unfold vp_in; decide) d_law_law_746 ?_
  refine k_cst (v := 2) hv2 ?_
  refine lv_aload_n (pc := 747) hx hb d_law_law_747 rfl (lv_at hl 3 rfl) ?_
  refine lv_iload_n (pc := 748) hx hb d_law_law_748 rfl (lv_at hl 0 rfl) ?_
  refine lv_iconst (pc := 749) (v := 3) hx hb d_law_law_749 (by decide) ?_
  refine lv_iadd (pc := 750) hx hb d_law_law_750 ?_
  refine k_cst (v := 3) (by decide) ?_
  refine va_sld (pc := 751) hx hb hX hbl hbA hS (by unfold vp_in; decide) d_law_law_751 ?_
  refine k_cst (v := v3) hv3 ?_
  refine lv_aload_n (pc := 752) hx hb d_law_law_752 rfl (lv_at hl 3 rfl) ?_
  refine lv_iload_n (pc := 753) hx hb d_law_law_753 rfl (lv_at hl 0 rfl) ?_
  refine lv_iconst (pc := 754) (v := 4) hx hb d_law_law_754 (by decide) ?_
  refine lv_iadd (pc := 755) hx hb d_law_law_755 ?_
  refine k_cst (v := 4) (by decide) ?_
  refine va_sld (pc := 756) hx hb hX hbl hbA hS (by unfold vp_in; decide) d_law_law_756 ?_
  refine k_cst (v := v4) hv4 ?_
  refine k_goI (gr := [[(h, .inr (12, [.ref (q 0), .ref (q 1), .ref (q 2), .ref (q 3), .ref (q 4), .ref (q 5), .ref (q 6), .int 0, .int ((-1)), .ref (q 9), .ref (q 10), .int 0, .int 0, .ref (q 13), .int 0, .int 0, .null, .null, .null, .null, .null]))]]) (k_rV (pc := 757) (As := [.int (nI j), .int 2, .int v3, .int v4]) (rest := [.int ((-1))]) X (c_Mo_turn_z8 l D kA h2 j v3 v4 qm hj hn3 H.size) rfl wm_3271 wm_9 wm_3268 wm_3269 wm_3270 4 (by decide +kernel) ⟨Nat.le_of_ble_eq_true rfl, Nat.le_of_ble_eq_true rfl⟩ rfl rfl (va_recv hK hP (ci := 13) (q0 := 1) rfl rfl) (k_pre hN hK hP hD [1, 2, 3] [0] 4 rfl (by decide) rfl) rfl hl.1 rfl (Nat.le_of_ble_eq_true rfl) d_law_law_757 ⟨Nat.le_of_ble_eq_true rfl, Nat.le_of_ble_eq_true rfl⟩) hP hD hS hA [1, 2, 3] [0] 4 rfl (by decide) rfl rfl (fun r3 u4 H locs hu4 hP hD hS => ?_)
  obtain ⟨hP, hD⟩ := k_left hP hD
  subst hu4
  have hP : va_P D classes (cat [[(h, .inr (12, [.ref (q 0), .ref (q 1), .ref (q 2), .ref (q 3), .ref (q 4), .ref (q 5), .ref (q 6), .int 0, .int ((-1)), .ref (q 9), .ref (q 10), .int 0, .int 0, .ref (q 13), .int 0, .int 0, .null, .null, .null, .null, .null]))]]) H := hP
  have hD : va_D A (cat [[(h, .inr (12, [.ref (q 0), .ref (q 1), .ref (q 2), .ref (q 3), .ref (q 4), .ref (q 5), .ref (q 6), .int 0, .int ((-1)), .ref (q 9), .ref (q 10), .int 0, .int 0, .ref (q 13), .int 0, .int 0, .null, .null, .null, .null, .null]))]]) := hD
  refine lv_icmp_eq (pc := 760) (tgt := 1295) hx hb d_law_law_760 (by decide) (fun _ => ?_) (fun c1 => absurd (by decide) c1)
  rw [hAe] at hS
  exact law_exit l C0 (Nat.le_of_ble_eq_true rfl) (Nat.le_of_ble_eq_true rfl) hS hl
set_option maxRecDepth 100000 in
set_option maxHeartbeats 4000000 in
/-- DrawingHouse.turn(IIII)I -/
theorem c_Ho_turn_z9 (l : Launch) (D : va_G) (kA : Nat → ClassId) (a0 : Nat) (j : Nat) (v3 : Int32) (v4 : Int32) (a1 : Nat) (a2 : Nat) (a3 : Nat) (a4 : Nat) (a5 : Nat) (a6 : Nat) (a7 : Nat) (a8 : Nat) (a9 : Nat) (a10 : Nat) (g : Nat → Nat → Nat) (a11 : Nat) (a12 : Nat) (a13 : Nat) (a14 : Nat) (a15 : Nat) (a16 : Nat) (a17 : Nat) (a18 : Nat) (a19 : Nat) (a20 : Nat) (a21 : Nat) (a22 : Nat) (a23 : Nat) (a24 : Nat) (a25 : Nat) (a26 : Nat) (a27 : Nat) (a28 : Nat) (a29 : Nat) (a30 : Nat) (a31 : Nat) (a32 : Nat) (a33 : Nat) (f0 : Nat → Int32) (f1 : Nat → Int32) (f2 : Nat → Int32) (a34 : Nat) (a35 : Nat) (a36 : Nat) (a37 : Nat) (a38 : Nat) (a39 : Nat) (a40 : Nat) (a41 : Nat) (a42 : Nat) (a43 : Nat) (a44 : Nat) (a45 : Nat) (f3 : Nat → Int32) (f4 : Nat → Int32) (hj : j < 4) (hn3 : ¬ v3 < 0) : Ci l y_Ho_turn z_Ho_turn { frames := 4, cells := 0, slots := 0, locals := 95 } D classes (TY kA) [.ref a0, .int (nI j), .int 2, .int v3, .int v4] [[(a0, .inr (12, [.ref a1, .ref a2, .ref a3, .ref a4, .ref a5, .ref a6, .ref a7, .int 0, .int ((-1)), .ref a8, .ref a9, .int 0, .int 0, .ref a10, .int 0, .int 0, .null, .null, .null, .null, .null]))], [(a3, .inl (kA 6, 4, .inr (.inr (.inr (.inr (rr (g 2)))))))], [(g 2 j, .inr (5, [.int ((-1)), .int ((-1)), .int ((-1)), .int 0, .ref a11, .int 0, .int 0, .ref a12, .ref a13, .ref a14, .ref a15, .ref a16, .ref a17, .int 0, .ref a18, .ref a19, .ref a20]))], [(a1, .inl (kA 4, 4, .inr (.inr (.inr (.inr (rr (g 0)))))))], [(g 0 j, .inr (3, [.int 0, .int 0, .int 1, .ref a21, .ref a22, .ref a23, .ref a24, .ref a25, .ref a26, .ref a27, .ref a28, .ref a29, .ref a30, .ref a31, .ref a32, .ref a33, .null, .int 0, .int 0]))], [(a14, .inl (kA 0, 25, .inl f0))], [(a15, .inl (kA 0, 625, .inl f1))], [(a17, .inl (kA 0, 25, .inl f2))], [(a6, .inr (1, [.null, .ref a34, .ref a35, .ref a36, .ref a37, .int 0, .int 0, .int 0, .ref a38, .ref a39, .ref a40, .ref a41, .ref a42, .ref a43, .ref a44, .int 0, .int 0, .int 0, .int 0, .ref a45]))], [(a20, .inl (kA 0, 144, .inl f3))], [(a18, .inl (kA 0, 145, .inl f4))]] (fun r (_ : List va_W) => r = (-1)) (fun u => u) 0 0 := by
  intro sz
  refine k_met (cc := b_Ho_turn) (maxL := 6) (ret := (some .int)) (by decide) rfl (Nat.le_of_ble_eq_true rfl) (fun p e s m below meth c ls X hl hB => ?_)
  obtain ⟨hsz, hP, hK, hD0, hN⟩ := hB
  subst hsz
  have hD := hD0.self (sz := s.heap.size)
  generalize hAe : va_A (cat [[(a0, .inr (12, [.ref a1, .ref a2, .ref a3, .ref a4, .ref a5, .ref a6, .ref a7, .int 0, .int ((-1)), .ref a8, .ref a9, .int 0, .int 0, .ref a10, .int 0, .int 0, .null, .null, .null, .null, .null]))], [(a3, .inl (kA 6, 4, .inr (.inr (.inr (.inr (rr (g 2)))))))], [(g 2 j, .inr (5, [.int ((-1)), .int ((-1)), .int ((-1)), .int 0, .ref a11, .int 0, .int 0, .ref a12, .ref a13, .ref a14, .ref a15, .ref a16, .ref a17, .int 0, .ref a18, .ref a19, .ref a20]))], [(a1, .inl (kA 4, 4, .inr (.inr (.inr (.inr (rr (g 0)))))))], [(g 0 j, .inr (3, [.int 0, .int 0, .int 1, .ref a21, .ref a22, .ref a23, .ref a24, .ref a25, .ref a26, .ref a27, .ref a28, .ref a29, .ref a30, .ref a31, .ref a32, .ref a33, .null, .int 0, .int 0]))], [(a14, .inl (kA 0, 25, .inl f0))], [(a15, .inl (kA 0, 625, .inl f1))], [(a17, .inl (kA 0, 25, .inl f2))], [(a6, .inr (1, [.null, .ref a34, .ref a35, .ref a36, .ref a37, .int 0, .int 0, .int 0, .ref a38, .ref a39, .ref a40, .ref a41, .ref a42, .ref a43, .ref a44, .int 0, .int 0, .int 0, .int 0, .ref a45]))], [(a20, .inl (kA 0, 144, .inl f3))], [(a18, .inl (kA 0, 145, .inl f4))]]) s.heap.size = A at hD ⊢
  have hA : ∀ q : Nat, s.heap.size ≤ q → A q := fun q h => by rw [← hAe]; exact Or.inr h
  have hS : va_S A s.heap s.heap [] := va_S.rf
  obtain ⟨hx, hb, hml, hown, hts, hr, hlk, hnm⟩ := id X
  have hl : lv_has ls 6 [(0, .ref a0), (1, .int (nI j)), (2, .int 2), (3, .int v3), (4, .int v4)] := hl
  have hP : va_P D classes (cat [[(a0, .inr (12, [.ref a1, .ref a2, .ref a3, .ref a4, .ref a5, .ref a6, .ref a7, .int 0, .int ((-1)), .ref a8, .ref a9, .int 0, .int 0, .ref a10, .int 0, .int 0, .null, .null, .null, .null, .null]))], [(a3, .inl (kA 6, 4, .inr (.inr (.inr (.inr (rr (g 2)))))))], [(g 2 j, .inr (5, [.int ((-1)), .int ((-1)), .int ((-1)), .int 0, .ref a11, .int 0, .int 0, .ref a12, .ref a13, .ref a14, .ref a15, .ref a16, .ref a17, .int 0, .ref a18, .ref a19, .ref a20]))], [(a1, .inl (kA 4, 4, .inr (.inr (.inr (.inr (rr (g 0)))))))], [(g 0 j, .inr (3, [.int 0, .int 0, .int 1, .ref a21, .ref a22, .ref a23, .ref a24, .ref a25, .ref a26, .ref a27, .ref a28, .ref a29, .ref a30, .ref a31, .ref a32, .ref a33, .null, .int 0, .int 0]))], [(a14, .inl (kA 0, 25, .inl f0))], [(a15, .inl (kA 0, 625, .inl f1))], [(a17, .inl (kA 0, 25, .inl f2))], [(a6, .inr (1, [.null, .ref a34, .ref a35, .ref a36, .ref a37, .int 0, .int 0, .int 0, .ref a38, .ref a39, .ref a40, .ref a41, .ref a42, .ref a43, .ref a44, .int 0, .int 0, .int 0, .int 0, .ref a45]))], [(a20, .inl (kA 0, 144, .inl f3))], [(a18, .inl (kA 0, 145, .inl f4))]]) s.heap := hP
  have hK : va_K D classes (TY kA) s := hK
  refine lv_iload_n (pc := 0) hx hb d_Ho_turn_0 rfl (lv_at hl 1 rfl) ?_
  refine k_goI (gr := [[(a0, .inr (12, [.ref a1, .ref a2, .ref a3, .ref a4, .ref a5, .ref a6, .ref a7, .int 0, .int ((-1)), .ref a8, .ref a9, .int 0, .int 0, .ref a10, .int 0, .int 0, .null, .null, .null, .null, .null]))], [(a3, .inl (kA 6, 4, .inr (.inr (.inr (.inr (rr (g 2)))))))], [(g 2 j, .inr (5, [.int ((-1)), .int ((-1)), .int ((-1)), .int 0, .ref a11, .int 0, .int 0, .ref a12, .ref a13, .ref a14, .ref a15, .ref a16, .ref a17, .int 0, .ref a18, .ref a19, .ref a20]))], [(a1, .inl (kA 4, 4, .inr (.inr (.inr (.inr (rr (g 0)))))))], [(g 0 j, .inr (3, [.int 0, .int 0, .int 1, .ref a21, .ref a22, .ref a23, .ref a24, .ref a25, .ref a26, .ref a27, .ref a28, .ref a29, .ref a30, .ref a31, .ref a32, .ref a33, .null, .int 0, .int 0]))], [(a14, .inl (kA 0, 25, .inl f0))], [(a15, .inl (kA 0, 625, .inl f1))], [(a17, .inl (kA 0, 25, .inl f2))], [(a6, .inr (1, [.null, .ref a34, .ref a35, .ref a36, .ref a37, .int 0, .int 0, .int 0, .ref a38, .ref a39, .ref a40, .ref a41, .ref a42, .ref a43, .ref a44, .int 0, .int 0, .int 0, .int 0, .ref a45]))], [(a20, .inl (kA 0, 144, .inl f3))], [(a18, .inl (kA 0, 145, .inl f4))]]) (k_rS (pc := 1) (As := [.int (nI j)]) (rest := []) X (c_Ho_isPlace l D kA (nI j) s.heap.size) rfl wm_633 wm_1 wm_631 wm_632 1 (by decide +kernel) ⟨Nat.le_of_ble_eq_true rfl, Nat.le_of_ble_eq_true rfl⟩ rfl rfl (k_pre hN hK hP hD [] [0, 1, 2, 3, 4, 5, 6, 7, 8, 9, 10] 11 rfl (by decide) rfl) rfl hl.1 rfl (Nat.le_of_ble_eq_true rfl) d_Ho_turn_1 ⟨Nat.le_of_ble_eq_true rfl, Nat.le_of_ble_eq_true rfl⟩) hP hD hS hA [] [0, 1, 2, 3, 4, 5, 6, 7, 8, 9, 10] 11 rfl (by decide) rfl rfl (fun r1 u2 H locs hu2 hP hD hS => ?_)
  subst hu2
  refine k_cst (v := 1) (place_ok hj) ?_
  have hP : va_P D classes (cat [[(a0, .inr (12, [.ref a1, .ref a2, .ref a3, .ref a4, .ref a5, .ref a6, .ref a7, .int 0, .int ((-1)), .ref a8, .ref a9, .int 0, .int 0, .ref a10, .int 0, .int 0, .null, .null, .null, .null, .null]))], [(a3, .inl (kA 6, 4, .inr (.inr (.inr (.inr (rr (g 2)))))))], [(g 2 j, .inr (5, [.int ((-1)), .int ((-1)), .int ((-1)), .int 0, .ref a11, .int 0, .int 0, .ref a12, .ref a13, .ref a14, .ref a15, .ref a16, .ref a17, .int 0, .ref a18, .ref a19, .ref a20]))], [(a1, .inl (kA 4, 4, .inr (.inr (.inr (.inr (rr (g 0)))))))], [(g 0 j, .inr (3, [.int 0, .int 0, .int 1, .ref a21, .ref a22, .ref a23, .ref a24, .ref a25, .ref a26, .ref a27, .ref a28, .ref a29, .ref a30, .ref a31, .ref a32, .ref a33, .null, .int 0, .int 0]))], [(a14, .inl (kA 0, 25, .inl f0))], [(a15, .inl (kA 0, 625, .inl f1))], [(a17, .inl (kA 0, 25, .inl f2))], [(a6, .inr (1, [.null, .ref a34, .ref a35, .ref a36, .ref a37, .int 0, .int 0, .int 0, .ref a38, .ref a39, .ref a40, .ref a41, .ref a42, .ref a43, .ref a44, .int 0, .int 0, .int 0, .int 0, .ref a45]))], [(a20, .inl (kA 0, 144, .inl f3))], [(a18, .inl (kA 0, 145, .inl f4))]]) H := hP
  have hD : va_D A (cat [[(a0, .inr (12, [.ref a1, .ref a2, .ref a3, .ref a4, .ref a5, .ref a6, .ref a7, .int 0, .int ((-1)), .ref a8, .ref a9, .int 0, .int 0, .ref a10, .int 0, .int 0, .null, .null, .null, .null, .null]))], [(a3, .inl (kA 6, 4, .inr (.inr (.inr (.inr (rr (g 2)))))))], [(g 2 j, .inr (5, [.int ((-1)), .int ((-1)), .int ((-1)), .int 0, .ref a11, .int 0, .int 0, .ref a12, .ref a13, .ref a14, .ref a15, .ref a16, .ref a17, .int 0, .ref a18, .ref a19, .ref a20]))], [(a1, .inl (kA 4, 4, .inr (.inr (.inr (.inr (rr (g 0)))))))], [(g 0 j, .inr (3, [.int 0, .int 0, .int 1, .ref a21, .ref a22, .ref a23, .ref a24, .ref a25, .ref a26, .ref a27, .ref a28, .ref a29, .ref a30, .ref a31, .ref a32, .ref a33, .null, .int 0, .int 0]))], [(a14, .inl (kA 0, 25, .inl f0))], [(a15, .inl (kA 0, 625, .inl f1))], [(a17, .inl (kA 0, 25, .inl f2))], [(a6, .inr (1, [.null, .ref a34, .ref a35, .ref a36, .ref a37, .int 0, .int 0, .int 0, .ref a38, .ref a39, .ref a40, .ref a41, .ref a42, .ref a43, .ref a44, .int 0, .int 0, .int 0, .int 0, .ref a45]))], [(a20, .inl (kA 0, 144, .inl f3))], [(a18, .inl (kA 0, 145, .inl f4))]]) := hD
  refine lv_if_eq (pc := 4) (tgt := 11) hx hb d_Ho_turn_4 (by decide) (fun c1 => absurd c1 (by decide)) (fun c1 => ?_)
  refine lv_iload_n (pc := 7) hx hb d_Ho_turn_7 rfl (lv_at hl 3 rfl) ?_
  refine lv_if_ge (pc := 8) (tgt := 13) hx hb d_Ho_turn_8 (by decide) (fun c1 => ?_) (fun c1 => absurd (Int32.not_lt.mp hn3) c1)
  refine lv_aload_n (pc := 13) hx hb d_Ho_turn_13 rfl (lv_at hl 0 rfl) ?_
  refine lv_iload_n (pc := 14) hx hb d_Ho_turn_14 rfl (lv_at hl 1 rfl) ?_
  refine k_goR (gr := []) (k_rV (pc := 15) (As := [.int (nI j)]) (rest := []) X (c_Ho_embedded_z1 l D kA a0 j a1 a2 a3 a4 a5 a6 a7 a8 a9 a10 g a11 a12 a13 a14 a15 a16 a17 a18 a19 a20 a21 a22 a23 a24 a25 a26 a27 a28 a29 a30 a31 a32 a33 f0 f1 f2 a34 a35 a36 a37 a38 a39 a40 a41 a42 a43 a44 a45 f3 f4 hj H.size) rfl wm_1052 wm_1 wm_1049 wm_1051 wv_3_6 1 (by decide +kernel) ⟨Nat.le_of_ble_eq_true rfl, Nat.le_of_ble_eq_true rfl⟩ rfl rfl (va_recv hK hP (ci := 12) (q0 := 0) rfl rfl) (k_pre hN hK hP hD [0, 1, 2, 3, 4, 5, 6, 7, 8, 9, 10] [] 11 rfl (by decide) rfl) rfl hl.1 rfl (Nat.le_of_ble_eq_true rfl) d_Ho_turn_15 ⟨Nat.le_of_ble_eq_true rfl, Nat.le_of_ble_eq_true rfl⟩) hP hD hS hA [0, 1, 2, 3, 4, 5, 6, 7, 8, 9, 10] [] 11 rfl (by decide) rfl rfl (fun u4 H locs hu4 hP hD hS => ?_)
  have hP : va_P D classes (cat [[(a0, .inr (12, [.ref a1, .ref a2, .ref a3, .ref a4, .ref a5, .ref a6, .ref a7, .int 0, .int ((-1)), .ref a8, .ref a9, .int 0, .int 0, .ref a10, .int 0, .int 0, .null, .null, .null, .null, .null]))], [(a3, .inl (kA 6, 4, .inr (.inr (.inr (.inr (rr (g 2)))))))], [(g 2 j, .inr (5, [.int 1, .int ((-1)), .int ((-1)), .int 0, .ref a11, .int 0, .int 0, .ref a12, .ref a13, .ref a14, .ref a15, .ref a16, .ref a17, .int 0, .ref a18, .ref a19, .ref a20]))], [(a1, .inl (kA 4, 4, .inr (.inr (.inr (.inr (rr (g 0)))))))], [(g 0 j, .inr (3, [.int 0, .int 0, .int 1, .ref a21, .ref a22, .ref a23, .ref a24, .ref a25, .ref a26, .ref a27, .ref a28, .ref a29, .ref a30, .ref a31, .ref a32, .ref a33, .null, .int 0, .int 0]))], [(a14, .inl (kA 0, 25, .inl (fl f0 25 0)))], [(a15, .inl (kA 0, 625, .inl (fl f1 625 (-1))))], [(a17, .inl (kA 0, 25, .inl (fl f2 25 (-1))))], [(a6, .inr (1, [.ref (g 2 j), .ref a34, .ref a35, .ref a36, .ref a37, .int 0, .int 0, .int 0, .ref a38, .ref a39, .ref a40, .ref a41, .ref a42, .ref a43, .ref a44, .int 0, .int 0, .int 0, .int 0, .ref a45]))], [(a20, .inl (kA 0, 144, .inl (fl f3 144 (-1))))], [(a18, .inl (kA 0, 145, .inl (upd (f4) 0 0)))]]) H := hP
  have hD : va_D A (cat [[(a0, .inr (12, [.ref a1, .ref a2, .ref a3, .ref a4, .ref a5, .ref a6, .ref a7, .int 0, .int ((-1)), .ref a8, .ref a9, .int 0, .int 0, .ref a10, .int 0, .int 0, .null, .null, .null, .null, .null]))], [(a3, .inl (kA 6, 4, .inr (.inr (.inr (.inr (rr (g 2)))))))], [(g 2 j, .inr (5, [.int 1, .int ((-1)), .int ((-1)), .int 0, .ref a11, .int 0, .int 0, .ref a12, .ref a13, .ref a14, .ref a15, .ref a16, .ref a17, .int 0, .ref a18, .ref a19, .ref a20]))], [(a1, .inl (kA 4, 4, .inr (.inr (.inr (.inr (rr (g 0)))))))], [(g 0 j, .inr (3, [.int 0, .int 0, .int 1, .ref a21, .ref a22, .ref a23, .ref a24, .ref a25, .ref a26, .ref a27, .ref a28, .ref a29, .ref a30, .ref a31, .ref a32, .ref a33, .null, .int 0, .int 0]))], [(a14, .inl (kA 0, 25, .inl (fl f0 25 0)))], [(a15, .inl (kA 0, 625, .inl (fl f1 625 (-1))))], [(a17, .inl (kA 0, 25, .inl (fl f2 25 (-1))))], [(a6, .inr (1, [.ref (g 2 j), .ref a34, .ref a35, .ref a36, .ref a37, .int 0, .int 0, .int 0, .ref a38, .ref a39, .ref a40, .ref a41, .ref a42, .ref a43, .ref a44, .int 0, .int 0, .int 0, .int 0, .ref a45]))], [(a20, .inl (kA 0, 144, .inl (fl f3 144 (-1))))], [(a18, .inl (kA 0, 145, .inl (upd (f4) 0 0)))]]) := hD
  refine lv_astore (pc := 18) (lv' := [(5, .ref (g 2 j)), (0, .ref a0), (1, .int (nI j)), (2, .int 2), (3, .int v3), (4, .int v4)]) hx hb d_Ho_turn_18 hl (by decide) rfl (fun ls hl => ?_)
  refine lv_iload_n (pc := 20) hx hb d_Ho_turn_20 rfl (lv_at hl 3 rfl) ?_
  refine lv_iconst (pc := 21) (v := 2) hx hb d_Ho_turn_21 (by decide) ?_
  refine lv_icmp_ne (pc := 22) (tgt := 54) hx hb d_Ho_turn_22 (by decide) (fun c1 => absurd (by decide) c1) (fun _ => ?_)
  refine lv_aload (pc := 25) hx hb d_Ho_turn_25 (lv_at hl 0 rfl) ?_
  refine k_get (pc := 27) X hK hP 2 rfl rfl i_Ne 0 (by decide) wm_250 rfl rfl d_Ho_turn_27 ?_
  refine lv_if_ne (pc := 30) (tgt := 52) hx hb d_Ho_turn_30 (by decide) (fun c1 => ?_) (fun c1 => absurd c1 (by decide))
  refine lv_iconst (pc := 52) (v := -1) hx hb d_Ho_turn_52 (by decide) ?_
  refine W.widen (k := 0) (n := 0) (Nat.le_of_ble_eq_true rfl) (Nat.le_of_ble_eq_true rfl) ?_
  exact W.iret (v := (-1)) hx hb hr (fun t ht hW => ⟨⟨(-1), [[(a0, .inr (12, [.ref a1, .ref a2, .ref a3, .ref a4, .ref a5, .ref a6, .ref a7, .int 0, .int ((-1)), .ref a8, .ref a9, .int 0, .int 0, .ref a10, .int 0, .int 0, .null, .null, .null, .null, .null]))], [(a3, .inl (kA 6, 4, .inr (.inr (.inr (.inr (rr (g 2)))))))], [(g 2 j, .inr (5, [.int 1, .int ((-1)), .int ((-1)), .int 0, .ref a11, .int 0, .int 0, .ref a12, .ref a13, .ref a14, .ref a15, .ref a16, .ref a17, .int 0, .ref a18, .ref a19, .ref a20]))], [(a1, .inl (kA 4, 4, .inr (.inr (.inr (.inr (rr (g 0)))))))], [(g 0 j, .inr (3, [.int 0, .int 0, .int 1, .ref a21, .ref a22, .ref a23, .ref a24, .ref a25, .ref a26, .ref a27, .ref a28, .ref a29, .ref a30, .ref a31, .ref a32, .ref a33, .null, .int 0, .int 0]))], [(a14, .inl (kA 0, 25, .inl (fl f0 25 0)))], [(a15, .inl (kA 0, 625, .inl (fl f1 625 (-1))))], [(a17, .inl (kA 0, 25, .inl (fl f2 25 (-1))))], [(a6, .inr (1, [.ref (g 2 j), .ref a34, .ref a35, .ref a36, .ref a37, .int 0, .int 0, .int 0, .ref a38, .ref a39, .ref a40, .ref a41, .ref a42, .ref a43, .ref a44, .int 0, .int 0, .int 0, .int 0, .ref a45]))], [(a20, .inl (kA 0, 144, .inl (fl f3 144 (-1))))], [(a18, .inl (kA 0, 145, .inl (upd (f4) 0 0)))]], rfl, rfl, by rw [ht]; exact hP, va_K.moved hW.alike hK, hD⟩, hS.F ht⟩) hS.2.2 d_Ho_turn_53
set_option maxRecDepth 100000 in
set_option maxHeartbeats 4000000 in
/-- DrawingHouseModel.turn(IIII)I -/
theorem c_Mo_turn_z9 (l : Launch) (D : va_G) (kA : Nat → ClassId) (a0 : Nat) (j : Nat) (v3 : Int32) (v4 : Int32) (qm : Nat → Nat) (hj : j < 4) (hn3 : ¬ v3 < 0) : Ci l y_Mo_turn z_Mo_turn { frames := 3, cells := 0, slots := 0, locals := 66 } D classes (TY kA) [.ref a0, .int (nI j), .int 2, .int v3, .int v4] [[(a0, .inr (13, mF qm x0Mo y0Mo))], [(qm 3, .inl (kA 0, 4, .inl (fun _ => 0)))], [(qm 2, .inl (kA 0, 66836, .inl all0))]] (fun r (_ : List va_W) => r = (-1)) (fun u => u) 0 0 := by
  intro sz
  refine k_met (cc := b_Mo_turn) (maxL := 6) (ret := (some .int)) (by decide) rfl (Nat.le_of_ble_eq_true rfl) (fun p e s m below meth c ls X hl hB => ?_)
  obtain ⟨hsz, hP, hK, hD0, hN⟩ := hB
  subst hsz
  have hD := hD0.self (sz := s.heap.size)
  generalize hAe : va_A (cat [[(a0, .inr (13, mF qm x0Mo y0Mo))], [(qm 3, .inl (kA 0, 4, .inl (fun _ => 0)))], [(qm 2, .inl (kA 0, 66836, .inl all0))]]) s.heap.size = A at hD ⊢
  have hA : ∀ q : Nat, s.heap.size ≤ q → A q := fun q h => by rw [← hAe]; exact Or.inr h
  have hS : va_S A s.heap s.heap [] := va_S.rf
  obtain ⟨hx, hb, hml, hown, hts, hr, hlk, hnm⟩ := id X
  have hl : lv_has ls 6 [(0, .ref a0), (1, .int (nI j)), (2, .int 2), (3, .int v3), (4, .int v4)] := hl
  have hP : va_P D classes (cat [[(a0, .inr (13, mF qm x0Mo y0Mo))], [(qm 3, .inl (kA 0, 4, .inl (fun _ => 0)))], [(qm 2, .inl (kA 0, 66836, .inl all0))]]) s.heap := hP
  have hK : va_K D classes (TY kA) s := hK
  refine lv_iload_n (pc := 0) hx hb d_Mo_turn_0 rfl (lv_at hl 1 rfl) ?_
  refine k_goI (gr := [[(a0, .inr (13, mF qm x0Mo y0Mo))], [(qm 3, .inl (kA 0, 4, .inl (fun _ => 0)))], [(qm 2, .inl (kA 0, 66836, .inl all0))]]) (k_rS (pc := 1) (As := [.int (nI j)]) (rest := []) X (c_Mo_isPlace l D kA (nI j) s.heap.size) rfl wm_2978 wm_9 wm_2976 wm_2977 1 (by decide +kernel) ⟨Nat.le_of_ble_eq_true rfl, Nat.le_of_ble_eq_true rfl⟩ rfl rfl (k_pre hN hK hP hD [] [0, 1, 2] 3 rfl (by decide) rfl) rfl hl.1 rfl (Nat.le_of_ble_eq_true rfl) d_Mo_turn_1 ⟨Nat.le_of_ble_eq_true rfl, Nat.le_of_ble_eq_true rfl⟩) hP hD hS hA [] [0, 1, 2] 3 rfl (by decide) rfl rfl (fun r1 u2 H locs hu2 hP hD hS => ?_)
  subst hu2
  refine k_cst (v := 1) (placeM_ok hj) ?_
  have hP : va_P D classes (cat [[(a0, .inr (13, mF qm x0Mo y0Mo))], [(qm 3, .inl (kA 0, 4, .inl (fun _ => 0)))], [(qm 2, .inl (kA 0, 66836, .inl all0))]]) H := hP
  have hD : va_D A (cat [[(a0, .inr (13, mF qm x0Mo y0Mo))], [(qm 3, .inl (kA 0, 4, .inl (fun _ => 0)))], [(qm 2, .inl (kA 0, 66836, .inl all0))]]) := hD
  refine lv_if_eq (pc := 4) (tgt := 16) hx hb d_Mo_turn_4 (by decide) (fun c1 => absurd c1 (by decide)) (fun c1 => ?_)
  refine lv_iload_n (pc := 7) hx hb d_Mo_turn_7 rfl (lv_at hl 2 rfl) ?_
  refine lv_iconst (pc := 8) (v := 0) hx hb d_Mo_turn_8 (by decide) ?_
  refine lv_iconst (pc := 9) (v := 2) hx hb d_Mo_turn_9 (by decide) ?_
  refine k_goI (gr := [[(a0, .inr (13, mF qm x0Mo y0Mo))], [(qm 3, .inl (kA 0, 4, .inl (fun _ => 0)))], [(qm 2, .inl (kA 0, 66836, .inl all0))]]) (k_rS (pc := 10) (As := [.int 2, .int 0, .int 2]) (rest := []) X (c_Mo_in_z30 l D kA  H.size) rfl wm_2971 wm_9 wm_2969 wm_2970 3 (by decide +kernel) ⟨Nat.le_of_ble_eq_true rfl, Nat.le_of_ble_eq_true rfl⟩ rfl rfl (k_pre hN hK hP hD [] [0, 1, 2] 3 rfl (by decide) rfl) rfl hl.1 rfl (Nat.le_of_ble_eq_true rfl) d_Mo_turn_10 ⟨Nat.le_of_ble_eq_true rfl, Nat.le_of_ble_eq_true rfl⟩) hP hD hS hA [] [0, 1, 2] 3 rfl (by decide) rfl rfl (fun r3 u4 H locs hu4 hP hD hS => ?_)
  subst hu4
  have hP : va_P D classes (cat [[(a0, .inr (13, mF qm x0Mo y0Mo))], [(qm 3, .inl (kA 0, 4, .inl (fun _ => 0)))], [(qm 2, .inl (kA 0, 66836, .inl all0))]]) H := hP
  have hD : va_D A (cat [[(a0, .inr (13, mF qm x0Mo y0Mo))], [(qm 3, .inl (kA 0, 4, .inl (fun _ => 0)))], [(qm 2, .inl (kA 0, 66836, .inl all0))]]) := hD
  refine lv_if_ne (pc := 13) (tgt := 18) hx hb d_Mo_turn_13 (by decide) (fun c1 => ?_) (fun c1 => absurd c1 (by decide))
  refine lv_aload_n (pc := 18) hx hb d_Mo_turn_18 rfl (lv_at hl 0 rfl) ?_
  refine lv_iload_n (pc := 19) hx hb d_Mo_turn_19 rfl (lv_at hl 1 rfl) ?_
  refine k_goV (gr := [[(qm 2, .inl (kA 0, 66836, .inl all0))]]) (k_rV (pc := 20) (As := [.int (nI j)]) (rest := []) X (c_Mo_take_z1 l D kA a0 j qm hj H.size) rfl wm_3091 wm_9 wm_3088 wm_3090 wv_14_2 1 (by decide +kernel) ⟨Nat.le_of_ble_eq_true rfl, Nat.le_of_ble_eq_true rfl⟩ rfl rfl (va_recv hK hP (ci := 13) (q0 := 0) rfl rfl) (k_pre hN hK hP hD [0, 1] [2] 3 rfl (by decide) rfl) rfl hl.1 rfl (Nat.le_of_ble_eq_true rfl) d_Mo_turn_20 ⟨Nat.le_of_ble_eq_true rfl, Nat.le_of_ble_eq_true rfl⟩) hP hD hS hA [0, 1] [2] 3 rfl (by decide) rfl rfl (fun u5 H locs hu5 hP hD hS => ?_)
  have hP : va_P D classes (cat [[(qm 2, .inl (kA 0, 66836, .inl all0))], [(a0, .inr (13, mF qm (va_up x0Mo 5 (nI (539 * (31 * j + 0)))) y0Mo))], [(qm 3, .inl (kA 0, 4, .inl (fun _ => 0)))]]) H := hP
  have hD : va_D A (cat [[(qm 2, .inl (kA 0, 66836, .inl all0))], [(a0, .inr (13, mF qm (va_up x0Mo 5 (nI (539 * (31 * j + 0)))) y0Mo))], [(qm 3, .inl (kA 0, 4, .inl (fun _ => 0)))]]) := hD
  refine lv_aload_n (pc := 23) hx hb d_Mo_turn_23 rfl (lv_at hl 0 rfl) ?_
  refine k_goI (gr := [[(qm 3, .inl (kA 0, 4, .inl (fun _ => 0)))]]) (k_rV (pc := 24) (As := []) (rest := []) X (c_Mo_isPlanar_z1 l D kA a0 qm j hj H.size) rfl wm_3251 wm_9 wm_3248 wm_3250 wv_16_5 0 (by decide +kernel) ⟨Nat.le_of_ble_eq_true rfl, Nat.le_of_ble_eq_true rfl⟩ rfl rfl (va_recv hK hP (ci := 13) (q0 := 1) rfl rfl) (k_pre hN hK hP hD [1, 0] [2] 3 rfl (by decide) rfl) rfl hl.1 rfl (Nat.le_of_ble_eq_true rfl) d_Mo_turn_24 ⟨Nat.le_of_ble_eq_true rfl, Nat.le_of_ble_eq_true rfl⟩) hP hD hS hA [1, 0] [2] 3 rfl (by decide) rfl rfl (fun r6 u7 H locs hu7 hP hD hS => ?_)
  subst hu7
  have hP : va_P D classes (cat [[(qm 3, .inl (kA 0, 4, .inl (fun _ => 0)))], [(a0, .inr (13, mF qm (va_up (va_up x0Mo 5 (nI (539 * (31 * j + 0)))) 49 (-1)) y0Mo))], [(qm 2, .inl (kA 0, 66836, .inl all0))]]) H := hP
  have hD : va_D A (cat [[(qm 3, .inl (kA 0, 4, .inl (fun _ => 0)))], [(a0, .inr (13, mF qm (va_up (va_up x0Mo 5 (nI (539 * (31 * j + 0)))) 49 (-1)) y0Mo))], [(qm 2, .inl (kA 0, 66836, .inl all0))]]) := hD
  refine lv_istore (pc := 27) (lv' := [(5, .int 1), (0, .ref a0), (1, .int (nI j)), (2, .int 2), (3, .int v3), (4, .int v4)]) hx hb d_Mo_turn_27 hl (by decide) rfl (fun ls hl => ?_)
  refine lv_iload (pc := 29) hx hb d_Mo_turn_29 (lv_at hl 0 rfl) ?_
  refine lv_iload_n (pc := 31) hx hb d_Mo_turn_31 rfl (lv_at hl 3 rfl) ?_
  refine lv_iconst (pc := 32) (v := 2) hx hb d_Mo_turn_32 (by decide) ?_
  refine lv_icmp_ne (pc := 33) (tgt := 40) hx hb d_Mo_turn_33 (by decide) (fun c1 => absurd (by decide) c1) (fun _ => ?_)
  refine lv_iconst (pc := 36) (v := 1) hx hb d_Mo_turn_36 (by decide) ?_
  refine lv_goto (pc := 37) (tgt := 41) hx hb d_Mo_turn_37 (by decide) ?_
  refine lv_icmp_ne (pc := 41) (tgt := 46) hx hb d_Mo_turn_41 (by decide) (fun c1 => absurd (by decide) c1) (fun _ => ?_)
  refine lv_iconst (pc := 44) (v := -1) hx hb d_Mo_turn_44 (by decide) ?_
  refine W.widen (k := 0) (n := 0) (Nat.le_of_ble_eq_true rfl) (Nat.le_of_ble_eq_true rfl) ?_
  exact W.iret (v := (-1)) hx hb hr (fun t ht hW => ⟨⟨(-1), [[(qm 3, .inl (kA 0, 4, .inl (fun _ => 0)))], [(a0, .inr (13, mF qm (va_up (va_up x0Mo 5 (nI (539 * (31 * j + 0)))) 49 (-1)) y0Mo))], [(qm 2, .inl (kA 0, 66836, .inl all0))]], rfl, rfl, by rw [ht]; exact hP, va_K.moved hW.alike hK, hD⟩, hS.F ht⟩) hS.2.2 d_Mo_turn_45
set_option maxRecDepth 100000 in
set_option maxHeartbeats 4000000 in
/-- turn, a fresh house -/
theorem lf_turn_9 {p : Program} {e : Env} {s : State} {m : MethodId} {below : List Frame} {meth : Method} {c : Code} (l : Launch) {b : Nat} {xs : Nat → Int32} (C0 : lw_At p s m meth c b 6 xs) {D : va_G} {kA : Nat → ClassId} (h : Nat) (h2 : Nat) (q : Nat → Nat) (qg : Nat → Nat) (qn : Nat → Nat) (qe : Nat → Nat) (qm : Nat → Nat) (g : Nat → Nat → Nat) (j : Nat) (v3 : Int32) (v4 : Int32) (hj : j < 4) (hn3 : ¬ v3 < 0) (hv1 : xs 1 = nI j) (hv2 : xs 2 = 2) (hv3 : xs 3 = v3) (hv4 : xs 4 = v4) {H : Heap} {locs : List Loc} {ls : Array Slot} (hK : va_K D classes (TY kA) s) (hN : nst s) (hP : va_P D classes (cat [[(h, .inr (12, [.ref (q 0), .ref (q 1), .ref (q 2), .ref (q 3), .ref (q 4), .ref (q 5), .ref (q 6), .int 0, .int ((-1)), .ref (q 9), .ref (q 10), .int 0, .int 0, .ref (q 13), .int 0, .int 0, .null, .null, .null, .null, .null]))], [(q 2, .inl (kA 6, 4, .inr (.inr (.inr (.inr (rr (g 2)))))))], [(g 2 j, .inr (5, [.int ((-1)), .int ((-1)), .int ((-1)), .int 0, .ref (qn 4), .int 0, .int 0, .ref (qn 7), .ref (qn 8), .ref (qn 9), .ref (qn 10), .ref (qn 11), .ref (qn 12), .int 0, .ref (qn 14), .ref (qn 15), .ref (qn 16)]))], [(q 0, .inl (kA 4, 4, .inr (.inr (.inr (.inr (rr (g 0)))))))], [(g 0 j, .inr (3, [.int 0, .int 0, .int 1, .ref (qg 3), .ref (qg 4), .ref (qg 5), .ref (qg 6), .ref (qg 7), .ref (qg 8), .ref (qg 9), .ref (qg 10), .ref (qg 11), .ref (qg 12), .ref (qg 13), .ref (qg 14), .ref (qg 15), .null, .int 0, .int 0]))], [(qn 9, .inl (kA 0, 25, .inl (fun _ => 0)))], [(qn 10, .inl (kA 0, 625, .inl (fun _ => 0)))], [(qn 12, .inl (kA 0, 25, .inl (fun _ => 0)))], [(q 5, .inr (1, [.null, .ref (qe 1), .ref (qe 2), .ref (qe 3), .ref (qe 4), .int 0, .int 0, .int 0, .ref (qe 8), .ref (qe 9), .ref (qe 10), .ref (qe 11), .ref (qe 12), .ref (qe 13), .ref (qe 14), .int 0, .int 0, .int 0, .int 0, .ref (qe 19)]))], [(qn 16, .inl (kA 0, 144, .inl (fun _ => 0)))], [(qn 14, .inl (kA 0, 145, .inl (fun _ => 0)))], [(h2, .inr (13, mF qm x0Mo y0Mo))], [(qm 3, .inl (kA 0, 4, .inl (fun _ => 0)))], [(qm 2, .inl (kA 0, 66836, .inl all0))]]) H) (hD : va_D (fun q : Nat => s.heap.size ≤ q) (cat [[(h, .inr (12, [.ref (q 0), .ref (q 1), .ref (q 2), .ref (q 3), .ref (q 4), .ref (q 5), .ref (q 6), .int 0, .int ((-1)), .ref (q 9), .ref (q 10), .int 0, .int 0, .ref (q 13), .int 0, .int 0, .null, .null, .null, .null, .null]))], [(q 2, .inl (kA 6, 4, .inr (.inr (.inr (.inr (rr (g 2)))))))], [(g 2 j, .inr (5, [.int ((-1)), .int ((-1)), .int ((-1)), .int 0, .ref (qn 4), .int 0, .int 0, .ref (qn 7), .ref (qn 8), .ref (qn 9), .ref (qn 10), .ref (qn 11), .ref (qn 12), .int 0, .ref (qn 14), .ref (qn 15), .ref (qn 16)]))], [(q 0, .inl (kA 4, 4, .inr (.inr (.inr (.inr (rr (g 0)))))))], [(g 0 j, .inr (3, [.int 0, .int 0, .int 1, .ref (qg 3), .ref (qg 4), .ref (qg 5), .ref (qg 6), .ref (qg 7), .ref (qg 8), .ref (qg 9), .ref (qg 10), .ref (qg 11), .ref (qg 12), .ref (qg 13), .ref (qg 14), .ref (qg 15), .null, .int 0, .int 0]))], [(qn 9, .inl (kA 0, 25, .inl (fun _ => 0)))], [(qn 10, .inl (kA 0, 625, .inl (fun _ => 0)))], [(qn 12, .inl (kA 0, 25, .inl (fun _ => 0)))], [(q 5, .inr (1, [.null, .ref (qe 1), .ref (qe 2), .ref (qe 3), .ref (qe 4), .int 0, .int 0, .int 0, .ref (qe 8), .ref (qe 9), .ref (qe 10), .ref (qe 11), .ref (qe 12), .ref (qe 13), .ref (qe 14), .int 0, .int 0, .int 0, .int 0, .ref (qe 19)]))], [(qn 16, .inl (kA 0, 144, .inl (fun _ => 0)))], [(qn 14, .inl (kA 0, 145, .inl (fun _ => 0)))], [(h2, .inr (13, mF qm x0Mo y0Mo))], [(qm 3, .inl (kA 0, 4, .inl (fun _ => 0)))], [(qm 2, .inl (kA 0, 66836, .inl all0))]])) (hS : va_S (fun q : Nat => s.heap.size ≤ q) s.heap H locs) (hl : lv_has ls 4 [(3, .int 0), (2, .ref h2), (1, .ref h), (0, .ref b)]) : W p l e room_1 s m #[Value.ref b] below meth c H locs 368 365796 (lw_Z below #[Value.ref b] s) (F0 m 712 ls []) := by
  obtain ⟨hx, hb, hr, hml, hown, hts0, hX, hbl, hlocks, hgv⟩ := id C0
  have hts : ∀ w ∈ lw_g, w.before #[Value.ref b] s = true := fun w h => hts0 w (lw_gt h)
  have X : cx p s m #[Value.ref b] meth c b_law_law 4 ret "DrawingHouseLaw" meth.name := ⟨hx, hb, hml, hown, hts, hr, hlocks, rfl⟩
  obtain ⟨A, hAe⟩ : ∃ A : Nat → Prop, A = fun q : Nat => s.heap.size ≤ q := ⟨_, rfl⟩
  have hA : ∀ q : Nat, s.heap.size ≤ q → A q := fun q h => by rw [hAe]; exact h
  have hbA : ¬ A b := by rw [hAe]; exact Nat.not_le.mpr hbl
  rw [← hAe] at hD hS
  refine lv_aload_n (pc := 712) hx hb d_law_law_712 rfl (lv_at hl 2 rfl) ?_
  refine lv_aload_n (pc := 713) hx hb d_law_law_713 rfl (lv_at hl 3 rfl) ?_
  refine lv_iload_n (pc := 714) hx hb d_law_law_714 rfl (lv_at hl 0 rfl) ?_
  refine lv_iconst (pc := 715) (v := 1) hx hb d_law_law_715 (by decide) ?_
  refine lv_iadd (pc := 716) hx hb d_law_law_716 ?_
  refine k_cst (v := 1) (by decide) ?_
  refine va_sld (pc := 717) hx hb hX hbl hbA hS (by unfold vp_in; decide) d_law_law_717 ?_
  refine k_cst (v := nI j) hv1 ?_
  refine lv_aload_n (pc := 718) hx hb d_law_law_718 rfl (lv_at hl 3 rfl) ?_
  refine lv_iload_n (pc := 719) hx hb d_law_law_719 rfl (lv_at hl 0 rfl) ?_
  refine lv_iconst (pc := 720) (v := 2) hx hb d_law_law_720 (by decide) ?_
  refine lv_iadd (pc := 721) hx hb d_law_law_721 ?_
  refine k_cst (v := 2) (by decide) ?_
  refine va_sld (pc := 722) hx hb hX hbl hbA hS (by unfold vp_in; decide) d_law_law_722 ?_
  refine k_cst (v := 2) hv2 ?_
  refine lv_aload_n (pc := 723) hx hb d_law_law_723 rfl (lv_at hl 3 rfl) ?_
  refine lv_iload_n (pc := 724) hx hb d_law_law_724 rfl (lv_at hl 0 rfl) ?_
  refine lv_iconst (pc := 725) (v := 3) hx hb d_law_law_725 (by decide) ?_
  refine lv_iadd (pc := 726) hx hb d_law_law_726 ?_
  refine k_cst (v := 3) (by decide) ?_
  refine va_sld (pc := 727) hx hb hX hbl hbA hS (by unfold vp_in; decide) d_law_law_727 ?_
  refine k_cst (v := v3) hv3 ?_
  refine lv_aload_n (pc := 728) hx hb d_law_law_728 rfl (lv_at hl 3 rfl) ?_
  refine lv_iload_n (pc := 729) hx hb d_law_law_729 rfl (lv_at hl 0 rfl) ?_
  refine lv_iconst (pc := 730) (v := 4) hx hb d_law_law_730 (by decide) ?_
  refine lv_iadd (pc := 731) hx hb d_law_law_731 ?_
  refine k_cst (v := 4) (by decide) ?_
  refine va_sld (pc := 732) hx hb hX hbl hbA hS (by unfold vp_in; decide) d_law_law_732 ?_
  refine k_cst (v := v4) hv4 ?_
  refine k_goI (gr := [[(h2, .inr (13, mF qm x0Mo y0Mo))], [(qm 3, .inl (kA 0, 4, .inl (fun _ => 0)))], [(qm 2, .inl (kA 0, 66836, .inl all0))]]) (k_rV (pc := 733) (As := [.int (nI j), .int 2, .int v3, .int v4]) (rest := []) X (c_Ho_turn_z9 l D kA h j v3 v4 (q 0) (q 1) (q 2) (q 3) (q 4) (q 5) (q 6) (q 9) (q 10) (q 13) g (qn 4) (qn 7) (qn 8) (qn 9) (qn 10) (qn 11) (qn 12) (qn 14) (qn 15) (qn 16) (qg 3) (qg 4) (qg 5) (qg 6) (qg 7) (qg 8) (qg 9) (qg 10) (qg 11) (qg 12) (qg 13) (qg 14) (qg 15) (fun _ => 0) (fun _ => 0) (fun _ => 0) (qe 1) (qe 2) (qe 3) (qe 4) (qe 8) (qe 9) (qe 10) (qe 11) (qe 12) (qe 13) (qe 14) (qe 19) (fun _ => 0) (fun _ => 0) hj hn3 H.size) rfl wm_1172 wm_1 wm_1169 wm_1170 wm_1171 4 (by decide +kernel) ⟨Nat.le_of_ble_eq_true rfl, Nat.le_of_ble_eq_true rfl⟩ rfl rfl (va_recv hK hP (ci := 12) (q0 := 0) rfl rfl) (k_pre hN hK hP hD [0, 1, 2, 3, 4, 5, 6, 7, 8, 9, 10] [11, 12, 13] 14 rfl (by decide) rfl) rfl hl.1 rfl (Nat.le_of_ble_eq_true rfl) d_law_law_733 ⟨Nat.le_of_ble_eq_true rfl, Nat.le_of_ble_eq_true rfl⟩) hP hD hS hA [0, 1, 2, 3, 4, 5, 6, 7, 8, 9, 10] [11, 12, 13] 14 rfl (by decide) rfl rfl (fun r1 u2 H locs hu2 hP hD hS => ?_)
  obtain ⟨hP, hD⟩ := k_left hP hD
  subst hu2
  have hP : va_P D classes (cat [[(h2, .inr (13, mF qm x0Mo y0Mo))], [(qm 3, .inl (kA 0, 4, .inl (fun _ => 0)))], [(qm 2, .inl (kA 0, 66836, .inl all0))]]) H := hP
  have hD : va_D A (cat [[(h2, .inr (13, mF qm x0Mo y0Mo))], [(qm 3, .inl (kA 0, 4, .inl (fun _ => 0)))], [(qm 2, .inl (kA 0, 66836, .inl all0))]]) := hD
  refine lv_aload_n (pc := 736) hx hb d_law_law_736 rfl (lv_at hl 1 rfl) ?_
  refine lv_aload_n (pc := 737) hx hb d_law_law_737 rfl (lv_at hl 3 rfl) ?_
  refine lv_iload_n (pc := 738) hx hb d_law_law_738 rfl (lv_at hl 0 rfl) ?_
  refine lv_iconst (pc := 739) (v := 1) hx hb d_law_law_739 (by decide) ?_
  refine lv_iadd (pc := 740) hx hb d_law_law_740 ?_
  refine k_cst (v := 1) (by decide) ?_
  refine va_sld (pc := 741) hx hb hX hbl hbA hS (by unfold vp_in; decide) d_law_law_741 ?_
  refine k_cst (v := nI j) hv1 ?_
  refine lv_aload_n (pc := 742) hx hb d_law_law_742 rfl (lv_at hl 3 rfl) ?_
  refine lv_iload_n (pc := 743) hx hb d_law_law_743 rfl (lv_at hl 0 rfl) ?_
  refine lv_iconst (pc := 744) (v := 2) hx hb d_law_law_744 (by decide) ?_
  refine lv_iadd (pc := 745) hx hb d_law_law_745 ?_
  refine k_cst (v := 2) (by decide) ?_
  refine va_sld (pc := 746) hx hb hX hbl hbA hS (by unfold vp_in; decide) d_law_law_746 ?_
  refine k_cst (v := 2) hv2 ?_
  refine lv_aload_n (pc := 747) hx hb d_law_law_747 rfl (lv_at hl 3 rfl) ?_
  refine lv_iload_n (pc := 748) hx hb d_law_law_748 rfl (lv_at hl 0 rfl) ?_
  refine lv_iconst (pc := 749) (v := 3) hx hb d_law_law_749 (by decide) ?_
  refine lv_iadd (pc := 750) hx hb d_law_law_750 ?_
  refine k_cst (v := 3) (by decide) ?_
  refine va_sld (pc := 751) hx hb hX hbl hbA hS (by unfold vp_in; decide) d_law_law_751 ?_
  refine k_cst (v := v3) hv3 ?_
  refine lv_aload_n (pc := 752) hx hb d_law_law_752 rfl (lv_at hl 3 rfl) ?_
  refine lv_iload_n (pc := 753) hx hb d_law_law_753 rfl (lv_at hl 0 rfl) ?_
  refine lv_iconst (pc := 754) (v := 4) hx hb d_law_law_754 (by decide) ?_
  refine lv_iadd (pc := 755) hx hb d_law_law_755 ?_
  refine k_cst (v := 4) (by decide) ?_
  refine va_sld (pc := 756) hx hb hX hbl hbA hS (by unfold vp_in; decide) d_law_law_756 ?_
  refine k_cst (v := v4) hv4 ?_
  refine k_goI (gr := []) (k_rV (pc := 757) (As := [.int (nI j), .int 2, .int v3, .int v4]) (rest := [.int ((-1))]) X (c_Mo_turn_z9 l D kA h2 j v3 v4 qm hj hn3 H.size) rfl wm_3271 wm_9 wm_3268 wm_3269 wm_3270 4 (by decide +kernel) ⟨Nat.le_of_ble_eq_true rfl, Nat.le_of_ble_eq_true rfl⟩ rfl rfl (va_recv hK hP (ci := 13) (q0 := 0) rfl rfl) (k_pre hN hK hP hD [0, 1, 2] [] 3 rfl (by decide) rfl) rfl hl.1 rfl (Nat.le_of_ble_eq_true rfl) d_law_law_757 ⟨Nat.le_of_ble_eq_true rfl, Nat.le_of_ble_eq_true rfl⟩) hP hD hS hA [0, 1, 2] [] 3 rfl (by decide) rfl rfl (fun r3 u4 H locs hu4 hP hD hS => ?_)
  obtain ⟨hP, hD⟩ := k_left hP hD
  subst hu4
  have hP : va_P D classes (cat []) H := hP
  have hD : va_D A (cat []) := hD
  refine lv_icmp_eq (pc := 760) (tgt := 1295) hx hb d_law_law_760 (by decide) (fun _ => ?_) (fun c1 => absurd (by decide) c1)
  rw [hAe] at hS
  exact law_exit l C0 (Nat.le_of_ble_eq_true rfl) (Nat.le_of_ble_eq_true rfl) hS hl
set_option maxRecDepth 100000 in
set_option maxHeartbeats 8000000 in
/-- turn: the case of the law -/
theorem op_turn {p : Program} {e : Env} {s : State} {m : MethodId} {below : List Frame} {meth : Method} {c : Code} (l : Launch) {b : Nat} {xs : Nat → Int32} (C0 : lw_At p s m meth c b 6 xs) {D : va_G} {kA : Nat → ClassId} (h h2 : Nat) (u1 : Nat → Nat → Nat) (qm : Nat → Nat) (v1 : Int32) (v2 : Int32) (v3 : Int32) (v4 : Int32) (hv1 : xs 1 = v1) (hv2 : xs 2 = v2) (hv3 : xs 3 = v3) (hv4 : xs 4 = v4) {H : Heap} {locs : List Loc} {ls : Array Slot} (hK : va_K D classes (TY kA) s) (hN : nst s) (hpost : u1 50 1 = u1 0 4 ∧ u1 50 3 = u1 0 5 ∧ u1 50 2 = u1 1 4 ∧ u1 50 4 = u1 3 1 ∧ u1 8 0 = u1 50 5 ∧ u1 12 0 = u1 50 9 ∧ u1 16 0 = u1 50 13 ∧ u1 20 0 = u1 50 17) (hP : va_P D classes (cat [cat (sHo kA h u1), cat (sMo kA h2 qm)]) H) (hD : va_D (fun q : Nat => s.heap.size ≤ q) (cat [cat (sHo kA h u1), cat (sMo kA h2 qm)])) (hS : va_S (fun q : Nat => s.heap.size ≤ q) s.heap H locs) (hl : lv_has ls 4 [(3, .int 0), (2, .ref h2), (1, .ref h), (0, .ref b)]) : W p l e room_1 s m #[Value.ref b] below meth c H locs 368 365796 (lw_Z below #[Value.ref b] s) (F0 m 712 ls []) := by
  rcases place_no v1 with hg | ⟨j, hj, ej⟩
  · have hgM : sp_Mo_isPlace v1 = 0 := by rw [← place_iff]; exact hg
    obtain ⟨q, qg, qf, qn, qd, qr, qs, qe, qp, g, hP, hD⟩ := big (j := 0) (by decide) hpost hP hD
    obtain ⟨hP, hD⟩ := k_drop (sg := bH kA h q qg qf qn qd qr qs qe qp g 0 ++ bM kA h2 qm) (gc := [[(h, .inr (12, [.ref (q 0), .ref (q 1), .ref (q 2), .ref (q 3), .ref (q 4), .ref (q 5), .ref (q 6), .int 0, .int ((-1)), .ref (q 9), .ref (q 10), .int 0, .int 0, .ref (q 13), .int 0, .int 0, .null, .null, .null, .null, .null]))], [(h2, .inr (13, mF qm x0Mo y0Mo))]]) hP hD [1, 2, 3, 4, 5, 6, 7, 8, 9, 10, 11, 12, 13, 14, 15, 16, 17, 18, 19, 20, 21, 22, 23, 24, 25, 26, 27, 28, 29, 30, 31, 32, 33, 34, 35, 36, 37, 38, 39, 40, 41, 42, 43, 44, 45, 46, 47, 48, 49, 50, 51, 52, 53, 54, 55, 56, 57, 58, 59, 60, 61, 62, 63, 64, 65, 66, 67, 68, 69, 70, 71, 72, 73, 74, 75, 76, 77, 78, 79, 80, 81, 82, 83, 84, 85, 86, 87, 88, 89, 90, 91, 92, 93, 94, 95, 96, 97, 98, 100, 101, 102, 103, 104, 105, 106, 107, 108, 109, 110, 111, 112, 113, 114, 115, 116, 117, 118, 119, 120, 121, 122, 123, 124, 125, 126, 127, 128, 129, 130, 131, 132, 133, 134, 135, 136, 137, 138, 139, 140, 141, 142, 143, 144, 145, 146, 147, 148, 149, 150, 151, 152, 153, 154, 155, 156, 157, 158, 159, 160, 161, 162, 163, 164, 165, 166, 167, 168, 169, 170, 171, 172, 173, 174, 175, 176, 177, 178, 179, 180, 181, 182, 183, 184, 185, 186, 187, 188, 189, 190, 191, 192, 193, 194, 195, 196, 197, 198, 199, 200, 201, 202, 203, 204, 205, 206, 207, 208, 209, 210, 211, 212, 213, 214, 215, 216, 217] [0, 99] 218 rfl (by decide +kernel) rfl
    exact lf_turn_1 l C0 h h2 q qm v1 v2 v3 v4 hg hgM hv1 hv2 hv3 hv4 hK hN hP hD hS hl
  · subst ej
    rcases k_tsw v2 3 (by decide) with hs2 | ⟨jw, hjw, ew⟩
    · by_cases hn3 : v3 < 0
      · obtain ⟨q, qg, qf, qn, qd, qr, qs, qe, qp, g, hP, hD⟩ := big (j := j) hj hpost hP hD
        obtain ⟨hP, hD⟩ := k_drop (sg := bH kA h q qg qf qn qd qr qs qe qp g j ++ bM kA h2 qm) (gc := [[(h, .inr (12, [.ref (q 0), .ref (q 1), .ref (q 2), .ref (q 3), .ref (q 4), .ref (q 5), .ref (q 6), .int 0, .int ((-1)), .ref (q 9), .ref (q 10), .int 0, .int 0, .ref (q 13), .int 0, .int 0, .null, .null, .null, .null, .null]))], [(h2, .inr (13, mF qm x0Mo y0Mo))], [(qm 3, .inl (kA 0, 4, .inl (fun _ => 0)))], [(qm 2, .inl (kA 0, 66836, .inl all0))], [(qm 56, .inl (kA 0, 161, .inl (fun _ => 0)))]]) hP hD [1, 2, 3, 4, 5, 6, 7, 8, 9, 10, 11, 12, 13, 14, 15, 16, 17, 18, 19, 20, 21, 22, 23, 24, 25, 26, 27, 28, 29, 30, 31, 32, 33, 34, 35, 36, 37, 38, 39, 40, 41, 42, 43, 44, 45, 46, 47, 48, 49, 50, 51, 52, 53, 54, 55, 56, 57, 58, 59, 60, 61, 62, 63, 64, 65, 66, 67, 68, 69, 70, 71, 72, 73, 74, 75, 76, 77, 78, 79, 80, 81, 82, 83, 84, 85, 86, 87, 88, 89, 90, 91, 92, 93, 94, 95, 96, 97, 98, 101, 102, 103, 104, 105, 107, 108, 109, 110, 111, 112, 113, 114, 115, 116, 117, 118, 119, 120, 121, 122, 123, 124, 125, 126, 127, 128, 129, 130, 131, 132, 133, 134, 135, 137, 138, 139, 140, 141, 142, 143, 144, 145, 146, 147, 148, 149, 150, 151, 152, 153, 154, 155, 156, 157, 158, 159, 160, 161, 162, 163, 164, 165, 166, 167, 168, 169, 170, 171, 172, 173, 174, 175, 176, 177, 178, 179, 180, 181, 182, 183, 184, 185, 186, 187, 188, 189, 190, 191, 192, 193, 194, 195, 196, 197, 198, 199, 200, 201, 202, 203, 204, 205, 206, 207, 208, 209, 210, 211, 212, 213, 214, 215, 216, 217] [0, 99, 106, 100, 136] 218 rfl (by decide +kernel) rfl
        exact lf_turn_2 l C0 h h2 q qm j v2 v3 v4 hj hs2 hn3 hv1 hv2 hv3 hv4 hK hN hP hD hS hl
      · obtain ⟨q, qg, qf, qn, qd, qr, qs, qe, qp, g, hP, hD⟩ := big (j := j) hj hpost hP hD
        obtain ⟨hP, hD⟩ := k_drop (sg := bH kA h q qg qf qn qd qr qs qe qp g j ++ bM kA h2 qm) (gc := [[(h, .inr (12, [.ref (q 0), .ref (q 1), .ref (q 2), .ref (q 3), .ref (q 4), .ref (q 5), .ref (q 6), .int 0, .int ((-1)), .ref (q 9), .ref (q 10), .int 0, .int 0, .ref (q 13), .int 0, .int 0, .null, .null, .null, .null, .null]))], [(q 2, .inl (kA 6, 4, .inr (.inr (.inr (.inr (rr (g 2)))))))], [(g 2 j, .inr (5, [.int ((-1)), .int ((-1)), .int ((-1)), .int 0, .ref (qn 4), .int 0, .int 0, .ref (qn 7), .ref (qn 8), .ref (qn 9), .ref (qn 10), .ref (qn 11), .ref (qn 12), .int 0, .ref (qn 14), .ref (qn 15), .ref (qn 16)]))], [(q 0, .inl (kA 4, 4, .inr (.inr (.inr (.inr (rr (g 0)))))))], [(g 0 j, .inr (3, [.int 0, .int 0, .int 1, .ref (qg 3), .ref (qg 4), .ref (qg 5), .ref (qg 6), .ref (qg 7), .ref (qg 8), .ref (qg 9), .ref (qg 10), .ref (qg 11), .ref (qg 12), .ref (qg 13), .ref (qg 14), .ref (qg 15), .null, .int 0, .int 0]))], [(qn 9, .inl (kA 0, 25, .inl (fun _ => 0)))], [(qn 10, .inl (kA 0, 625, .inl (fun _ => 0)))], [(qn 12, .inl (kA 0, 25, .inl (fun _ => 0)))], [(q 5, .inr (1, [.null, .ref (qe 1), .ref (qe 2), .ref (qe 3), .ref (qe 4), .int 0, .int 0, .int 0, .ref (qe 8), .ref (qe 9), .ref (qe 10), .ref (qe 11), .ref (qe 12), .ref (qe 13), .ref (qe 14), .int 0, .int 0, .int 0, .int 0, .ref (qe 19)]))], [(qn 16, .inl (kA 0, 144, .inl (fun _ => 0)))], [(qn 14, .inl (kA 0, 145, .inl (fun _ => 0)))], [(h2, .inr (13, mF qm x0Mo y0Mo))], [(qm 3, .inl (kA 0, 4, .inl (fun _ => 0)))], [(qm 2, .inl (kA 0, 66836, .inl all0))], [(qm 56, .inl (kA 0, 161, .inl (fun _ => 0)))]]) hP hD [2, 4, 5, 6, 7, 8, 10, 11, 12, 13, 14, 15, 16, 17, 18, 19, 20, 21, 22, 23, 24, 25, 26, 27, 28, 29, 30, 31, 32, 33, 34, 36, 37, 38, 41, 44, 46, 47, 48, 49, 50, 51, 52, 53, 54, 55, 56, 57, 58, 59, 60, 61, 62, 63, 64, 65, 66, 67, 68, 69, 70, 71, 72, 73, 74, 75, 77, 78, 79, 80, 81, 82, 83, 84, 85, 86, 87, 88, 89, 90, 91, 92, 93, 94, 95, 96, 97, 98, 101, 102, 103, 104, 105, 107, 108, 109, 110, 111, 112, 113, 114, 115, 116, 117, 118, 119, 120, 121, 122, 123, 124, 125, 126, 127, 128, 129, 130, 131, 132, 133, 134, 135, 137, 138, 139, 140, 141, 142, 143, 144, 145, 146, 147, 148, 149, 150, 151, 152, 153, 154, 155, 156, 157, 158, 159, 160, 161, 162, 163, 164, 165, 166, 167, 168, 169, 170, 171, 172, 173, 174, 175, 176, 177, 178, 179, 180, 181, 182, 183, 184, 185, 186, 187, 188, 189, 190, 191, 192, 193, 194, 195, 196, 197, 198, 199, 200, 201, 202, 203, 204, 205, 206, 207, 208, 209, 210, 211, 212, 213, 214, 215, 216, 217] [0, 3, 35, 1, 9, 39, 40, 42, 76, 45, 43, 99, 106, 100, 136] 218 rfl (by decide +kernel) rfl
        exact lf_turn_3 l C0 h h2 q qg qn qe qm g j v2 v3 v4 hj hs2 hn3 hv1 hv2 hv3 hv4 hK hN hP hD hS hl
    · match jw, hjw, ew with
      | 0, _, ew =>
        subst ew
        by_cases hn3 : v3 < 0
        · obtain ⟨q, qg, qf, qn, qd, qr, qs, qe, qp, g, hP, hD⟩ := big (j := j) hj hpost hP hD
          obtain ⟨hP, hD⟩ := k_drop (sg := bH kA h q qg qf qn qd qr qs qe qp g j ++ bM kA h2 qm) (gc := [[(h, .inr (12, [.ref (q 0), .ref (q 1), .ref (q 2), .ref (q 3), .ref (q 4), .ref (q 5), .ref (q 6), .int 0, .int ((-1)), .ref (q 9), .ref (q 10), .int 0, .int 0, .ref (q 13), .int 0, .int 0, .null, .null, .null, .null, .null]))], [(h2, .inr (13, mF qm x0Mo y0Mo))], [(qm 3, .inl (kA 0, 4, .inl (fun _ => 0)))], [(qm 2, .inl (kA 0, 66836, .inl all0))]]) hP hD [1, 2, 3, 4, 5, 6, 7, 8, 9, 10, 11, 12, 13, 14, 15, 16, 17, 18, 19, 20, 21, 22, 23, 24, 25, 26, 27, 28, 29, 30, 31, 32, 33, 34, 35, 36, 37, 38, 39, 40, 41, 42, 43, 44, 45, 46, 47, 48, 49, 50, 51, 52, 53, 54, 55, 56, 57, 58, 59, 60, 61, 62, 63, 64, 65, 66, 67, 68, 69, 70, 71, 72, 73, 74, 75, 76, 77, 78, 79, 80, 81, 82, 83, 84, 85, 86, 87, 88, 89, 90, 91, 92, 93, 94, 95, 96, 97, 98, 101, 102, 103, 104, 105, 107, 108, 109, 110, 111, 112, 113, 114, 115, 116, 117, 118, 119, 120, 121, 122, 123, 124, 125, 126, 127, 128, 129, 130, 131, 132, 133, 134, 135, 136, 137, 138, 139, 140, 141, 142, 143, 144, 145, 146, 147, 148, 149, 150, 151, 152, 153, 154, 155, 156, 157, 158, 159, 160, 161, 162, 163, 164, 165, 166, 167, 168, 169, 170, 171, 172, 173, 174, 175, 176, 177, 178, 179, 180, 181, 182, 183, 184, 185, 186, 187, 188, 189, 190, 191, 192, 193, 194, 195, 196, 197, 198, 199, 200, 201, 202, 203, 204, 205, 206, 207, 208, 209, 210, 211, 212, 213, 214, 215, 216, 217] [0, 99, 106, 100] 218 rfl (by decide +kernel) rfl
          exact lf_turn_4 l C0 h h2 q qm j v3 v4 hj hn3 hv1 hv2 hv3 hv4 hK hN hP hD hS hl
        · obtain ⟨q, qg, qf, qn, qd, qr, qs, qe, qp, g, hP, hD⟩ := big (j := j) hj hpost hP hD
          obtain ⟨hP, hD⟩ := k_drop (sg := bH kA h q qg qf qn qd qr qs qe qp g j ++ bM kA h2 qm) (gc := [[(h, .inr (12, [.ref (q 0), .ref (q 1), .ref (q 2), .ref (q 3), .ref (q 4), .ref (q 5), .ref (q 6), .int 0, .int ((-1)), .ref (q 9), .ref (q 10), .int 0, .int 0, .ref (q 13), .int 0, .int 0, .null, .null, .null, .null, .null]))], [(q 2, .inl (kA 6, 4, .inr (.inr (.inr (.inr (rr (g 2)))))))], [(g 2 j, .inr (5, [.int ((-1)), .int ((-1)), .int ((-1)), .int 0, .ref (qn 4), .int 0, .int 0, .ref (qn 7), .ref (qn 8), .ref (qn 9), .ref (qn 10), .ref (qn 11), .ref (qn 12), .int 0, .ref (qn 14), .ref (qn 15), .ref (qn 16)]))], [(q 0, .inl (kA 4, 4, .inr (.inr (.inr (.inr (rr (g 0)))))))], [(g 0 j, .inr (3, [.int 0, .int 0, .int 1, .ref (qg 3), .ref (qg 4), .ref (qg 5), .ref (qg 6), .ref (qg 7), .ref (qg 8), .ref (qg 9), .ref (qg 10), .ref (qg 11), .ref (qg 12), .ref (qg 13), .ref (qg 14), .ref (qg 15), .null, .int 0, .int 0]))], [(qn 9, .inl (kA 0, 25, .inl (fun _ => 0)))], [(qn 10, .inl (kA 0, 625, .inl (fun _ => 0)))], [(qn 12, .inl (kA 0, 25, .inl (fun _ => 0)))], [(q 5, .inr (1, [.null, .ref (qe 1), .ref (qe 2), .ref (qe 3), .ref (qe 4), .int 0, .int 0, .int 0, .ref (qe 8), .ref (qe 9), .ref (qe 10), .ref (qe 11), .ref (qe 12), .ref (qe 13), .ref (qe 14), .int 0, .int 0, .int 0, .int 0, .ref (qe 19)]))], [(qn 16, .inl (kA 0, 144, .inl (fun _ => 0)))], [(qn 14, .inl (kA 0, 145, .inl (fun _ => 0)))], [(h2, .inr (13, mF qm x0Mo y0Mo))], [(qm 3, .inl (kA 0, 4, .inl (fun _ => 0)))], [(qm 2, .inl (kA 0, 66836, .inl all0))]]) hP hD [2, 4, 5, 6, 7, 8, 10, 11, 12, 13, 14, 15, 16, 17, 18, 19, 20, 21, 22, 23, 24, 25, 26, 27, 28, 29, 30, 31, 32, 33, 34, 36, 37, 38, 41, 44, 46, 47, 48, 49, 50, 51, 52, 53, 54, 55, 56, 57, 58, 59, 60, 61, 62, 63, 64, 65, 66, 67, 68, 69, 70, 71, 72, 73, 74, 75, 77, 78, 79, 80, 81, 82, 83, 84, 85, 86, 87, 88, 89, 90, 91, 92, 93, 94, 95, 96, 97, 98, 101, 102, 103, 104, 105, 107, 108, 109, 110, 111, 112, 113, 114, 115, 116, 117, 118, 119, 120, 121, 122, 123, 124, 125, 126, 127, 128, 129, 130, 131, 132, 133, 134, 135, 136, 137, 138, 139, 140, 141, 142, 143, 144, 145, 146, 147, 148, 149, 150, 151, 152, 153, 154, 155, 156, 157, 158, 159, 160, 161, 162, 163, 164, 165, 166, 167, 168, 169, 170, 171, 172, 173, 174, 175, 176, 177, 178, 179, 180, 181, 182, 183, 184, 185, 186, 187, 188, 189, 190, 191, 192, 193, 194, 195, 196, 197, 198, 199, 200, 201, 202, 203, 204, 205, 206, 207, 208, 209, 210, 211, 212, 213, 214, 215, 216, 217] [0, 3, 35, 1, 9, 39, 40, 42, 76, 45, 43, 99, 106, 100] 218 rfl (by decide +kernel) rfl
          exact lf_turn_5 l C0 h h2 q qg qn qe qm g j v3 v4 hj hn3 hv1 hv2 hv3 hv4 hK hN hP hD hS hl
      | 1, _, ew =>
        subst ew
        by_cases hn3 : v3 < 0
        · obtain ⟨q, qg, qf, qn, qd, qr, qs, qe, qp, g, hP, hD⟩ := big (j := j) hj hpost hP hD
          obtain ⟨hP, hD⟩ := k_drop (sg := bH kA h q qg qf qn qd qr qs qe qp g j ++ bM kA h2 qm) (gc := [[(h, .inr (12, [.ref (q 0), .ref (q 1), .ref (q 2), .ref (q 3), .ref (q 4), .ref (q 5), .ref (q 6), .int 0, .int ((-1)), .ref (q 9), .ref (q 10), .int 0, .int 0, .ref (q 13), .int 0, .int 0, .null, .null, .null, .null, .null]))], [(h2, .inr (13, mF qm x0Mo y0Mo))], [(qm 3, .inl (kA 0, 4, .inl (fun _ => 0)))], [(qm 2, .inl (kA 0, 66836, .inl all0))], [(qm 56, .inl (kA 0, 161, .inl (fun _ => 0)))]]) hP hD [1, 2, 3, 4, 5, 6, 7, 8, 9, 10, 11, 12, 13, 14, 15, 16, 17, 18, 19, 20, 21, 22, 23, 24, 25, 26, 27, 28, 29, 30, 31, 32, 33, 34, 35, 36, 37, 38, 39, 40, 41, 42, 43, 44, 45, 46, 47, 48, 49, 50, 51, 52, 53, 54, 55, 56, 57, 58, 59, 60, 61, 62, 63, 64, 65, 66, 67, 68, 69, 70, 71, 72, 73, 74, 75, 76, 77, 78, 79, 80, 81, 82, 83, 84, 85, 86, 87, 88, 89, 90, 91, 92, 93, 94, 95, 96, 97, 98, 101, 102, 103, 104, 105, 107, 108, 109, 110, 111, 112, 113, 114, 115, 116, 117, 118, 119, 120, 121, 122, 123, 124, 125, 126, 127, 128, 129, 130, 131, 132, 133, 134, 135, 137, 138, 139, 140, 141, 142, 143, 144, 145, 146, 147, 148, 149, 150, 151, 152, 153, 154, 155, 156, 157, 158, 159, 160, 161, 162, 163, 164, 165, 166, 167, 168, 169, 170, 171, 172, 173, 174, 175, 176, 177, 178, 179, 180, 181, 182, 183, 184, 185, 186, 187, 188, 189, 190, 191, 192, 193, 194, 195, 196, 197, 198, 199, 200, 201, 202, 203, 204, 205, 206, 207, 208, 209, 210, 211, 212, 213, 214, 215, 216, 217] [0, 99, 106, 100, 136] 218 rfl (by decide +kernel) rfl
          exact lf_turn_6 l C0 h h2 q qm j v3 v4 hj hn3 hv1 hv2 hv3 hv4 hK hN hP hD hS hl
        · obtain ⟨q, qg, qf, qn, qd, qr, qs, qe, qp, g, hP, hD⟩ := big (j := j) hj hpost hP hD
          obtain ⟨hP, hD⟩ := k_drop (sg := bH kA h q qg qf qn qd qr qs qe qp g j ++ bM kA h2 qm) (gc := [[(h, .inr (12, [.ref (q 0), .ref (q 1), .ref (q 2), .ref (q 3), .ref (q 4), .ref (q 5), .ref (q 6), .int 0, .int ((-1)), .ref (q 9), .ref (q 10), .int 0, .int 0, .ref (q 13), .int 0, .int 0, .null, .null, .null, .null, .null]))], [(q 2, .inl (kA 6, 4, .inr (.inr (.inr (.inr (rr (g 2)))))))], [(g 2 j, .inr (5, [.int ((-1)), .int ((-1)), .int ((-1)), .int 0, .ref (qn 4), .int 0, .int 0, .ref (qn 7), .ref (qn 8), .ref (qn 9), .ref (qn 10), .ref (qn 11), .ref (qn 12), .int 0, .ref (qn 14), .ref (qn 15), .ref (qn 16)]))], [(q 0, .inl (kA 4, 4, .inr (.inr (.inr (.inr (rr (g 0)))))))], [(g 0 j, .inr (3, [.int 0, .int 0, .int 1, .ref (qg 3), .ref (qg 4), .ref (qg 5), .ref (qg 6), .ref (qg 7), .ref (qg 8), .ref (qg 9), .ref (qg 10), .ref (qg 11), .ref (qg 12), .ref (qg 13), .ref (qg 14), .ref (qg 15), .null, .int 0, .int 0]))], [(qn 9, .inl (kA 0, 25, .inl (fun _ => 0)))], [(qn 10, .inl (kA 0, 625, .inl (fun _ => 0)))], [(qn 12, .inl (kA 0, 25, .inl (fun _ => 0)))], [(q 5, .inr (1, [.null, .ref (qe 1), .ref (qe 2), .ref (qe 3), .ref (qe 4), .int 0, .int 0, .int 0, .ref (qe 8), .ref (qe 9), .ref (qe 10), .ref (qe 11), .ref (qe 12), .ref (qe 13), .ref (qe 14), .int 0, .int 0, .int 0, .int 0, .ref (qe 19)]))], [(qn 16, .inl (kA 0, 144, .inl (fun _ => 0)))], [(qn 14, .inl (kA 0, 145, .inl (fun _ => 0)))], [(h2, .inr (13, mF qm x0Mo y0Mo))], [(qm 3, .inl (kA 0, 4, .inl (fun _ => 0)))], [(qm 2, .inl (kA 0, 66836, .inl all0))], [(qm 56, .inl (kA 0, 161, .inl (fun _ => 0)))]]) hP hD [2, 4, 5, 6, 7, 8, 10, 11, 12, 13, 14, 15, 16, 17, 18, 19, 20, 21, 22, 23, 24, 25, 26, 27, 28, 29, 30, 31, 32, 33, 34, 36, 37, 38, 41, 44, 46, 47, 48, 49, 50, 51, 52, 53, 54, 55, 56, 57, 58, 59, 60, 61, 62, 63, 64, 65, 66, 67, 68, 69, 70, 71, 72, 73, 74, 75, 77, 78, 79, 80, 81, 82, 83, 84, 85, 86, 87, 88, 89, 90, 91, 92, 93, 94, 95, 96, 97, 98, 101, 102, 103, 104, 105, 107, 108, 109, 110, 111, 112, 113, 114, 115, 116, 117, 118, 119, 120, 121, 122, 123, 124, 125, 126, 127, 128, 129, 130, 131, 132, 133, 134, 135, 137, 138, 139, 140, 141, 142, 143, 144, 145, 146, 147, 148, 149, 150, 151, 152, 153, 154, 155, 156, 157, 158, 159, 160, 161, 162, 163, 164, 165, 166, 167, 168, 169, 170, 171, 172, 173, 174, 175, 176, 177, 178, 179, 180, 181, 182, 183, 184, 185, 186, 187, 188, 189, 190, 191, 192, 193, 194, 195, 196, 197, 198, 199, 200, 201, 202, 203, 204, 205, 206, 207, 208, 209, 210, 211, 212, 213, 214, 215, 216, 217] [0, 3, 35, 1, 9, 39, 40, 42, 76, 45, 43, 99, 106, 100, 136] 218 rfl (by decide +kernel) rfl
          exact lf_turn_7 l C0 h h2 q qg qn qe qm g j v3 v4 hj hn3 hv1 hv2 hv3 hv4 hK hN hP hD hS hl
      | 2, _, ew =>
        subst ew
        by_cases hn3 : v3 < 0
        · obtain ⟨q, qg, qf, qn, qd, qr, qs, qe, qp, g, hP, hD⟩ := big (j := j) hj hpost hP hD
          obtain ⟨hP, hD⟩ := k_drop (sg := bH kA h q qg qf qn qd qr qs qe qp g j ++ bM kA h2 qm) (gc := [[(h, .inr (12, [.ref (q 0), .ref (q 1), .ref (q 2), .ref (q 3), .ref (q 4), .ref (q 5), .ref (q 6), .int 0, .int ((-1)), .ref (q 9), .ref (q 10), .int 0, .int 0, .ref (q 13), .int 0, .int 0, .null, .null, .null, .null, .null]))], [(h2, .inr (13, mF qm x0Mo y0Mo))], [(qm 3, .inl (kA 0, 4, .inl (fun _ => 0)))], [(qm 2, .inl (kA 0, 66836, .inl all0))]]) hP hD [1, 2, 3, 4, 5, 6, 7, 8, 9, 10, 11, 12, 13, 14, 15, 16, 17, 18, 19, 20, 21, 22, 23, 24, 25, 26, 27, 28, 29, 30, 31, 32, 33, 34, 35, 36, 37, 38, 39, 40, 41, 42, 43, 44, 45, 46, 47, 48, 49, 50, 51, 52, 53, 54, 55, 56, 57, 58, 59, 60, 61, 62, 63, 64, 65, 66, 67, 68, 69, 70, 71, 72, 73, 74, 75, 76, 77, 78, 79, 80, 81, 82, 83, 84, 85, 86, 87, 88, 89, 90, 91, 92, 93, 94, 95, 96, 97, 98, 101, 102, 103, 104, 105, 107, 108, 109, 110, 111, 112, 113, 114, 115, 116, 117, 118, 119, 120, 121, 122, 123, 124, 125, 126, 127, 128, 129, 130, 131, 132, 133, 134, 135, 136, 137, 138, 139, 140, 141, 142, 143, 144, 145, 146, 147, 148, 149, 150, 151, 152, 153, 154, 155, 156, 157, 158, 159, 160, 161, 162, 163, 164, 165, 166, 167, 168, 169, 170, 171, 172, 173, 174, 175, 176, 177, 178, 179, 180, 181, 182, 183, 184, 185, 186, 187, 188, 189, 190, 191, 192, 193, 194, 195, 196, 197, 198, 199, 200, 201, 202, 203, 204, 205, 206, 207, 208, 209, 210, 211, 212, 213, 214, 215, 216, 217] [0, 99, 106, 100] 218 rfl (by decide +kernel) rfl
          exact lf_turn_8 l C0 h h2 q qm j v3 v4 hj hn3 hv1 hv2 hv3 hv4 hK hN hP hD hS hl
        · obtain ⟨q, qg, qf, qn, qd, qr, qs, qe, qp, g, hP, hD⟩ := big (j := j) hj hpost hP hD
          obtain ⟨hP, hD⟩ := k_drop (sg := bH kA h q qg qf qn qd qr qs qe qp g j ++ bM kA h2 qm) (gc := [[(h, .inr (12, [.ref (q 0), .ref (q 1), .ref (q 2), .ref (q 3), .ref (q 4), .ref (q 5), .ref (q 6), .int 0, .int ((-1)), .ref (q 9), .ref (q 10), .int 0, .int 0, .ref (q 13), .int 0, .int 0, .null, .null, .null, .null, .null]))], [(q 2, .inl (kA 6, 4, .inr (.inr (.inr (.inr (rr (g 2)))))))], [(g 2 j, .inr (5, [.int ((-1)), .int ((-1)), .int ((-1)), .int 0, .ref (qn 4), .int 0, .int 0, .ref (qn 7), .ref (qn 8), .ref (qn 9), .ref (qn 10), .ref (qn 11), .ref (qn 12), .int 0, .ref (qn 14), .ref (qn 15), .ref (qn 16)]))], [(q 0, .inl (kA 4, 4, .inr (.inr (.inr (.inr (rr (g 0)))))))], [(g 0 j, .inr (3, [.int 0, .int 0, .int 1, .ref (qg 3), .ref (qg 4), .ref (qg 5), .ref (qg 6), .ref (qg 7), .ref (qg 8), .ref (qg 9), .ref (qg 10), .ref (qg 11), .ref (qg 12), .ref (qg 13), .ref (qg 14), .ref (qg 15), .null, .int 0, .int 0]))], [(qn 9, .inl (kA 0, 25, .inl (fun _ => 0)))], [(qn 10, .inl (kA 0, 625, .inl (fun _ => 0)))], [(qn 12, .inl (kA 0, 25, .inl (fun _ => 0)))], [(q 5, .inr (1, [.null, .ref (qe 1), .ref (qe 2), .ref (qe 3), .ref (qe 4), .int 0, .int 0, .int 0, .ref (qe 8), .ref (qe 9), .ref (qe 10), .ref (qe 11), .ref (qe 12), .ref (qe 13), .ref (qe 14), .int 0, .int 0, .int 0, .int 0, .ref (qe 19)]))], [(qn 16, .inl (kA 0, 144, .inl (fun _ => 0)))], [(qn 14, .inl (kA 0, 145, .inl (fun _ => 0)))], [(h2, .inr (13, mF qm x0Mo y0Mo))], [(qm 3, .inl (kA 0, 4, .inl (fun _ => 0)))], [(qm 2, .inl (kA 0, 66836, .inl all0))]]) hP hD [2, 4, 5, 6, 7, 8, 10, 11, 12, 13, 14, 15, 16, 17, 18, 19, 20, 21, 22, 23, 24, 25, 26, 27, 28, 29, 30, 31, 32, 33, 34, 36, 37, 38, 41, 44, 46, 47, 48, 49, 50, 51, 52, 53, 54, 55, 56, 57, 58, 59, 60, 61, 62, 63, 64, 65, 66, 67, 68, 69, 70, 71, 72, 73, 74, 75, 77, 78, 79, 80, 81, 82, 83, 84, 85, 86, 87, 88, 89, 90, 91, 92, 93, 94, 95, 96, 97, 98, 101, 102, 103, 104, 105, 107, 108, 109, 110, 111, 112, 113, 114, 115, 116, 117, 118, 119, 120, 121, 122, 123, 124, 125, 126, 127, 128, 129, 130, 131, 132, 133, 134, 135, 136, 137, 138, 139, 140, 141, 142, 143, 144, 145, 146, 147, 148, 149, 150, 151, 152, 153, 154, 155, 156, 157, 158, 159, 160, 161, 162, 163, 164, 165, 166, 167, 168, 169, 170, 171, 172, 173, 174, 175, 176, 177, 178, 179, 180, 181, 182, 183, 184, 185, 186, 187, 188, 189, 190, 191, 192, 193, 194, 195, 196, 197, 198, 199, 200, 201, 202, 203, 204, 205, 206, 207, 208, 209, 210, 211, 212, 213, 214, 215, 216, 217] [0, 3, 35, 1, 9, 39, 40, 42, 76, 45, 43, 99, 106, 100] 218 rfl (by decide +kernel) rfl
          exact lf_turn_9 l C0 h h2 q qg qn qe qm g j v3 v4 hj hn3 hv1 hv2 hv3 hv4 hK hN hP hD hS hl
      | jw + 3, hjw, _ => exact absurd hjw (by omega)
