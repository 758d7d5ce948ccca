theorem wm_799 : (Cond.methodLink "DrawingHouseLaw" (23 : Nat) ({ cls := "DrawingHouse", name := "fault", desc := "(I)I" } : MethodName) : Cond) ∈ lw_g := lw_gi (lw_c4 (List.mem_of_getElem? (i := 79) rfl)) rfl
theorem wm_800 : (Cond.instanceMethod ({ cls := "DrawingHouse", name := "fault", desc := "(I)I" } : MethodName) : Cond) ∈ lw_g := lw_gi (lw_c4 (List.mem_of_getElem? (i := 80) rfl)) rfl
theorem wm_801 : (Cond.selects "DrawingHouse" ({ cls := "DrawingHouse", name := "fault", desc := "(I)I" } : MethodName) ({ cls := "DrawingHouse", name := "fault", desc := "(I)I" } : MethodName) : Cond) ∈ lw_g := lw_gi (lw_c4 (List.mem_of_getElem? (i := 81) rfl)) rfl
theorem wm_914 : (Cond.methodLink "DrawingHouseLaw" (32 : Nat) ({ cls := "DrawingHouse", name := "node", desc := "(III)I" } : MethodName) : Cond) ∈ lw_g := lw_gi (lw_c4 (List.mem_of_getElem? (i := 194) rfl)) rfl
theorem wm_915 : (Cond.instanceMethod ({ cls := "DrawingHouse", name := "node", desc := "(III)I" } : MethodName) : Cond) ∈ lw_g := lw_gi (lw_c4 (List.mem_of_getElem? (i := 195) rfl)) rfl
theorem wm_916 : (Cond.selects "DrawingHouse" ({ cls := "DrawingHouse", name := "node", desc := "(III)I" } : MethodName) ({ cls := "DrawingHouse", name := "node", desc := "(III)I" } : MethodName) : Cond) ∈ lw_g := lw_gi (lw_c4 (List.mem_of_getElem? (i := 196) rfl)) rfl
theorem wm_923 : (Cond.methodLink "DrawingHouseLaw" (37 : Nat) ({ cls := "DrawingHouse", name := "edge", desc := "(III)I" } : MethodName) : Cond) ∈ lw_g := lw_gi (lw_c4 (List.mem_of_getElem? (i := 203) rfl)) rfl
theorem wm_924 : (Cond.instanceMethod ({ cls := "DrawingHouse", name := "edge", desc := "(III)I" } : MethodName) : Cond) ∈ lw_g := lw_gi (lw_c4 (List.mem_of_getElem? (i := 204) rfl)) rfl
theorem wm_925 : (Cond.selects "DrawingHouse" ({ cls := "DrawingHouse", name := "edge", desc := "(III)I" } : MethodName) ({ cls := "DrawingHouse", name := "edge", desc := "(III)I" } : MethodName) : Cond) ∈ lw_g := lw_gi (lw_c4 (List.mem_of_getElem? (i := 205) rfl)) rfl
theorem wm_998 : (Cond.methodLink "DrawingHouseLaw" (54 : Nat) ({ cls := "DrawingHouse", name := "back", desc := "(II)Z" } : MethodName) : Cond) ∈ lw_g := lw_gi (lw_c5 (List.mem_of_getElem? (i := 38) rfl)) rfl
theorem wm_999 : (Cond.instanceMethod ({ cls := "DrawingHouse", name := "back", desc := "(II)Z" } : MethodName) : Cond) ∈ lw_g := lw_gi (lw_c5 (List.mem_of_getElem? (i := 39) rfl)) rfl
theorem wm_1000 : (Cond.selects "DrawingHouse" ({ cls := "DrawingHouse", name := "back", desc := "(II)Z" } : MethodName) ({ cls := "DrawingHouse", name := "back", desc := "(II)Z" } : MethodName) : Cond) ∈ lw_g := lw_gi (lw_c5 (List.mem_of_getElem? (i := 40) rfl)) rfl
theorem wm_1014 : (Cond.methodLink "DrawingHouseLaw" (59 : Nat) ({ cls := "DrawingHouse", name := "far", desc := "(III)I" } : MethodName) : Cond) ∈ lw_g := lw_gi (lw_c5 (List.mem_of_getElem? (i := 54) rfl)) rfl
theorem wm_1015 : (Cond.instanceMethod ({ cls := "DrawingHouse", name := "far", desc := "(III)I" } : MethodName) : Cond) ∈ lw_g := lw_gi (lw_c5 (List.mem_of_getElem? (i := 55) rfl)) rfl
theorem wm_1016 : (Cond.selects "DrawingHouse" ({ cls := "DrawingHouse", name := "far", desc := "(III)I" } : MethodName) ({ cls := "DrawingHouse", name := "far", desc := "(III)I" } : MethodName) : Cond) ∈ lw_g := lw_gi (lw_c5 (List.mem_of_getElem? (i := 56) rfl)) rfl
theorem wm_1041 : (Cond.methodLink "DrawingHouseLaw" (67 : Nat) ({ cls := "DrawingHouse", name := "map", desc := "(I)I" } : MethodName) : Cond) ∈ lw_g := lw_gi (lw_c5 (List.mem_of_getElem? (i := 81) rfl)) rfl
theorem wm_1042 : (Cond.instanceMethod ({ cls := "DrawingHouse", name := "map", desc := "(I)I" } : MethodName) : Cond) ∈ lw_g := lw_gi (lw_c5 (List.mem_of_getElem? (i := 82) rfl)) rfl
theorem wm_1043 : (Cond.selects "DrawingHouse" ({ cls := "DrawingHouse", name := "map", desc := "(I)I" } : MethodName) ({ cls := "DrawingHouse", name := "map", desc := "(I)I" } : MethodName) : Cond) ∈ lw_g := lw_gi (lw_c5 (List.mem_of_getElem? (i := 83) rfl)) rfl
theorem wm_1182 : (Cond.methodLink "DrawingHouseLaw" (79 : Nat) ({ cls := "DrawingHouse", name := "draw", desc := "(III)I" } : MethodName) : Cond) ∈ lw_g := lw_gi (lw_c5 (List.mem_of_getElem? (i := 222) rfl)) rfl
theorem wm_1183 : (Cond.instanceMethod ({ cls := "DrawingHouse", name := "draw", desc := "(III)I" } : MethodName) : Cond) ∈ lw_g := lw_gi (lw_c5 (List.mem_of_getElem? (i := 223) rfl)) rfl
theorem wm_1184 : (Cond.selects "DrawingHouse" ({ cls := "DrawingHouse", name := "draw", desc := "(III)I" } : MethodName) ({ cls := "DrawingHouse", name := "draw", desc := "(III)I" } : MethodName) : Cond) ∈ lw_g := lw_gi (lw_c5 (List.mem_of_getElem? (i := 224) rfl)) rfl
theorem wm_2965 : (Cond.methodLink "DrawingHouseLaw" (27 : Nat) ({ cls := "DrawingHouseModel", name := "fault", desc := "(I)I" } : MethodName) : Cond) ∈ lw_g := lw_gi (lw_c13 (List.mem_of_getElem? (i := 85) rfl)) rfl
theorem wm_2966 : (Cond.instanceMethod ({ cls := "DrawingHouseModel", name := "fault", desc := "(I)I" } : MethodName) : Cond) ∈ lw_g := lw_gi (lw_c13 (List.mem_of_getElem? (i := 86) rfl)) rfl
theorem wm_2967 : (Cond.selects "DrawingHouseModel" ({ cls := "DrawingHouseModel", name := "fault", desc := "(I)I" } : MethodName) ({ cls := "DrawingHouseModel", name := "fault", desc := "(I)I" } : MethodName) : Cond) ∈ lw_g := lw_gi (lw_c13 (List.mem_of_getElem? (i := 87) rfl)) rfl
theorem wm_3112 : (Cond.methodLink "DrawingHouseLaw" (58 : Nat) ({ cls := "DrawingHouseModel", name := "back", desc := "(II)Z" } : MethodName) : Cond) ∈ lw_g := lw_gi (lw_c13 (List.mem_of_getElem? (i := 232) rfl)) rfl
theorem wm_3113 : (Cond.instanceMethod ({ cls := "DrawingHouseModel", name := "back", desc := "(II)Z" } : MethodName) : Cond) ∈ lw_g := lw_gi (lw_c13 (List.mem_of_getElem? (i := 233) rfl)) rfl
theorem wm_3114 : (Cond.selects "DrawingHouseModel" ({ cls := "DrawingHouseModel", name := "back", desc := "(II)Z" } : MethodName) ({ cls := "DrawingHouseModel", name := "back", desc := "(II)Z" } : MethodName) : Cond) ∈ lw_g := lw_gi (lw_c13 (List.mem_of_getElem? (i := 234) rfl)) rfl
theorem wm_3132 : (Cond.methodLink "DrawingHouseLaw" (70 : Nat) ({ cls := "DrawingHouseModel", name := "map", desc := "(I)I" } : MethodName) : Cond) ∈ lw_g := lw_gi (lw_c14 (List.mem_of_getElem? (i := 12) rfl)) rfl
theorem wm_3133 : (Cond.instanceMethod ({ cls := "DrawingHouseModel", name := "map", desc := "(I)I" } : MethodName) : Cond) ∈ lw_g := lw_gi (lw_c14 (List.mem_of_getElem? (i := 13) rfl)) rfl
theorem wm_3134 : (Cond.selects "DrawingHouseModel" ({ cls := "DrawingHouseModel", name := "map", desc := "(I)I" } : MethodName) ({ cls := "DrawingHouseModel", name := "map", desc := "(I)I" } : MethodName) : Cond) ∈ lw_g := lw_gi (lw_c14 (List.mem_of_getElem? (i := 14) rfl)) rfl
theorem wm_3300 : (Cond.methodLink "DrawingHouseLaw" (36 : Nat) ({ cls := "DrawingHouseModel", name := "node", desc := "(III)I" } : MethodName) : Cond) ∈ lw_g := lw_gi (lw_c14 (List.mem_of_getElem? (i := 180) rfl)) rfl
theorem wm_3301 : (Cond.instanceMethod ({ cls := "DrawingHouseModel", name := "node", desc := "(III)I" } : MethodName) : Cond) ∈ lw_g := lw_gi (lw_c14 (List.mem_of_getElem? (i := 181) rfl)) rfl
theorem wm_3302 : (Cond.selects "DrawingHouseModel" ({ cls := "DrawingHouseModel", name := "node", desc := "(III)I" } : MethodName) ({ cls := "DrawingHouseModel", name := "node", desc := "(III)I" } : MethodName) : Cond) ∈ lw_g := lw_gi (lw_c14 (List.mem_of_getElem? (i := 182) rfl)) rfl
theorem wm_3332 : (Cond.methodLink "DrawingHouseLaw" (40 : Nat) ({ cls := "DrawingHouseModel", name := "edge", desc := "(III)I" } : MethodName) : Cond) ∈ lw_g := lw_gi (lw_c14 (List.mem_of_getElem? (i := 212) rfl)) rfl
theorem wm_3333 : (Cond.instanceMethod ({ cls := "DrawingHouseModel", name := "edge", desc := "(III)I" } : MethodName) : Cond) ∈ lw_g := lw_gi (lw_c14 (List.mem_of_getElem? (i := 213) rfl)) rfl
theorem wm_3334 : (Cond.selects "DrawingHouseModel" ({ cls := "DrawingHouseModel", name := "edge", desc := "(III)I" } : MethodName) ({ cls := "DrawingHouseModel", name := "edge", desc := "(III)I" } : MethodName) : Cond) ∈ lw_g := lw_gi (lw_c14 (List.mem_of_getElem? (i := 214) rfl)) rfl
theorem wm_3360 : (Cond.methodLink "DrawingHouseLaw" (62 : Nat) ({ cls := "DrawingHouseModel", name := "far", desc := "(III)I" } : MethodName) : Cond) ∈ lw_g := lw_gi (lw_c15 (List.mem_of_getElem? (i := 0) rfl)) rfl
theorem wm_3361 : (Cond.instanceMethod ({ cls := "DrawingHouseModel", name := "far", desc := "(III)I" } : MethodName) : Cond) ∈ lw_g := lw_gi (lw_c15 (List.mem_of_getElem? (i := 1) rfl)) rfl
theorem wm_3362 : (Cond.selects "DrawingHouseModel" ({ cls := "DrawingHouseModel", name := "far", desc := "(III)I" } : MethodName) ({ cls := "DrawingHouseModel", name := "far", desc := "(III)I" } : MethodName) : Cond) ∈ lw_g := lw_gi (lw_c15 (List.mem_of_getElem? (i := 2) rfl)) rfl
theorem wm_3364 : (Cond.methodLink "DrawingHouseLaw" (82 : Nat) ({ cls := "DrawingHouseModel", name := "draw", desc := "(III)I" } : MethodName) : Cond) ∈ lw_g := lw_gi (lw_c15 (List.mem_of_getElem? (i := 4) rfl)) rfl
theorem wm_3365 : (Cond.instanceMethod ({ cls := "DrawingHouseModel", name := "draw", desc := "(III)I" } : MethodName) : Cond) ∈ lw_g := lw_gi (lw_c15 (List.mem_of_getElem? (i := 5) rfl)) rfl
theorem wm_3366 : (Cond.selects "DrawingHouseModel" ({ cls := "DrawingHouseModel", name := "draw", desc := "(III)I" } : MethodName) ({ cls := "DrawingHouseModel", name := "draw", desc := "(III)I" } : MethodName) : Cond) ∈ lw_g := lw_gi (lw_c15 (List.mem_of_getElem? (i := 6) rfl)) rfl
abbrev b_Ho_node : ByteArray := prog_1_method_6_code
def y_Ho_node : MethodName := ⟨"DrawingHouse", "node", "(III)I"⟩
abbrev z_Ho_node : List Cond := Cond.code y_Ho_node b_Ho_node 4 (some .int) :: lw_g
theorem d_Ho_node_0 : decode b_Ho_node 0 = .ok (.iload_n 1, 1) := by decide +kernel
theorem d_Ho_node_1 : decode b_Ho_node 1 = .ok (.invokestatic 115, 3) := by decide +kernel
theorem d_Ho_node_4 : decode b_Ho_node 4 = .ok (.ifCond .eq 16, 3) := by decide +kernel
theorem d_Ho_node_7 : decode b_Ho_node 7 = .ok (.aload_n 0, 1) := by decide +kernel
theorem d_Ho_node_8 : decode b_Ho_node 8 = .ok (.getfield 13, 3) := by decide +kernel
theorem d_Ho_node_11 : decode b_Ho_node 11 = .ok (.iload_n 1, 1) := by decide +kernel
theorem d_Ho_node_12 : decode b_Ho_node 12 = .ok (.aaload, 1) := by decide +kernel
theorem d_Ho_node_13 : decode b_Ho_node 13 = .ok (.iload_n 2, 1) := by decide +kernel
theorem d_Ho_node_14 : decode b_Ho_node 14 = .ok (.invokevirtual 166, 3) := by decide +kernel
theorem d_Ho_node_17 : decode b_Ho_node 17 = .ok (.ifCond .ne 5, 3) := by decide +kernel
theorem d_Ho_node_20 : decode b_Ho_node 20 = .ok (.iconst (-1), 1) := by decide +kernel
theorem d_Ho_node_21 : decode b_Ho_node 21 = .ok (.ireturn, 1) := by decide +kernel
abbrev b_Mo_node : ByteArray := prog_15_method_99_code
def y_Mo_node : MethodName := ⟨"DrawingHouseModel", "node", "(III)I"⟩
abbrev z_Mo_node : List Cond := Cond.code y_Mo_node b_Mo_node 7 (some .int) :: lw_g
theorem d_Mo_node_0 : decode b_Mo_node 0 = .ok (.iload_n 1, 1) := by decide +kernel
theorem d_Mo_node_1 : decode b_Mo_node 1 = .ok (.invokestatic 521, 3) := by decide +kernel
theorem d_Mo_node_4 : decode b_Mo_node 4 = .ok (.ifCond .ne 5, 3) := by decide +kernel
theorem d_Mo_node_7 : decode b_Mo_node 7 = .ok (.iconst (-1), 1) := by decide +kernel
theorem d_Mo_node_8 : decode b_Mo_node 8 = .ok (.ireturn, 1) := by decide +kernel
theorem d_Mo_node_9 : decode b_Mo_node 9 = .ok (.aload_n 0, 1) := by decide +kernel
theorem d_Mo_node_10 : decode b_Mo_node 10 = .ok (.iload_n 1, 1) := by decide +kernel
theorem d_Mo_node_11 : decode b_Mo_node 11 = .ok (.invokevirtual 527, 3) := by decide +kernel
theorem d_Mo_node_14 : decode b_Mo_node 14 = .ok (.iload_n 2, 1) := by decide +kernel
theorem d_Mo_node_15 : decode b_Mo_node 15 = .ok (.iconst 0, 1) := by decide +kernel
theorem d_Mo_node_16 : decode b_Mo_node 16 = .ok (.aload_n 0, 1) := by decide +kernel
theorem d_Mo_node_17 : decode b_Mo_node 17 = .ok (.invokevirtual 475, 3) := by decide +kernel
theorem d_Mo_node_20 : decode b_Mo_node 20 = .ok (.iconst 1, 1) := by decide +kernel
theorem d_Mo_node_21 : decode b_Mo_node 21 = .ok (.isub, 1) := by decide +kernel
theorem d_Mo_node_22 : decode b_Mo_node 22 = .ok (.invokestatic 387, 3) := by decide +kernel
theorem d_Mo_node_25 : decode b_Mo_node 25 = .ok (.ifCond .ne 5, 3) := by decide +kernel
theorem d_Mo_node_28 : decode b_Mo_node 28 = .ok (.iconst (-1), 1) := by decide +kernel
theorem d_Mo_node_29 : decode b_Mo_node 29 = .ok (.ireturn, 1) := by decide +kernel
abbrev b_Mo_take : ByteArray := prog_15_method_10_code
def y_Mo_take : MethodName := ⟨"DrawingHouseModel", "take", "(I)V"⟩
abbrev z_Mo_take : List Cond := Cond.code y_Mo_take b_Mo_take 2 none :: lw_g
theorem d_Mo_take_0 : decode b_Mo_take 0 = .ok (.aload_n 0, 1) := by decide +kernel
theorem d_Mo_take_1 : decode b_Mo_take 1 = .ok (.iload_n 1, 1) := by decide +kernel
theorem d_Mo_take_2 : decode b_Mo_take 2 = .ok (.aload_n 0, 1) := by decide +kernel
theorem d_Mo_take_3 : decode b_Mo_take 3 = .ok (.getfield 20, 3) := by decide +kernel
theorem d_Mo_take_6 : decode b_Mo_take 6 = .ok (.iload_n 1, 1) := by decide +kernel
theorem d_Mo_take_7 : decode b_Mo_take 7 = .ok (.iaload, 1) := by decide +kernel
theorem d_Mo_take_8 : decode b_Mo_take 8 = .ok (.invokestatic 372, 3) := by decide +kernel
theorem d_Mo_take_11 : decode b_Mo_take 11 = .ok (.putfield 391, 3) := by decide +kernel
theorem d_Mo_take_14 : decode b_Mo_take 14 = .ok (.return_, 1) := by decide +kernel
abbrev b_Mo_nodes : ByteArray := prog_15_method_11_code
def y_Mo_nodes : MethodName := ⟨"DrawingHouseModel", "nodes", "()I"⟩
abbrev z_Mo_nodes : List Cond := Cond.code y_Mo_nodes b_Mo_nodes 1 (some .int) :: lw_g
theorem d_Mo_nodes_0 : decode b_Mo_nodes 0 = .ok (.aload_n 0, 1) := by decide +kernel
theorem d_Mo_nodes_1 : decode b_Mo_nodes 1 = .ok (.getfield 16, 3) := by decide +kernel
theorem d_Mo_nodes_4 : decode b_Mo_nodes 4 = .ok (.aload_n 0, 1) := by decide +kernel
theorem d_Mo_nodes_5 : decode b_Mo_nodes 5 = .ok (.getfield 391, 3) := by decide +kernel
theorem d_Mo_nodes_8 : decode b_Mo_nodes 8 = .ok (.iaload, 1) := by decide +kernel
theorem d_Mo_nodes_9 : decode b_Mo_nodes 9 = .ok (.ireturn, 1) := by decide +kernel
abbrev b_Ho_edge : ByteArray := prog_1_method_7_code
def y_Ho_edge : MethodName := ⟨"DrawingHouse", "edge", "(III)I"⟩
abbrev z_Ho_edge : List Cond := Cond.code y_Ho_edge b_Ho_edge 4 (some .int) :: lw_g
theorem d_Ho_edge_0 : decode b_Ho_edge 0 = .ok (.iload_n 1, 1) := by decide +kernel
theorem d_Ho_edge_1 : decode b_Ho_edge 1 = .ok (.invokestatic 115, 3) := by decide +kernel
theorem d_Ho_edge_4 : decode b_Ho_edge 4 = .ok (.ifCond .eq 16, 3) := by decide +kernel
theorem d_Ho_edge_7 : decode b_Ho_edge 7 = .ok (.aload_n 0, 1) := by decide +kernel
theorem d_Ho_edge_8 : decode b_Ho_edge 8 = .ok (.getfield 13, 3) := by decide +kernel
theorem d_Ho_edge_11 : decode b_Ho_edge 11 = .ok (.iload_n 1, 1) := by decide +kernel
theorem d_Ho_edge_12 : decode b_Ho_edge 12 = .ok (.aaload, 1) := by decide +kernel
theorem d_Ho_edge_13 : decode b_Ho_edge 13 = .ok (.iload_n 2, 1) := by decide +kernel
theorem d_Ho_edge_14 : decode b_Ho_edge 14 = .ok (.invokevirtual 197, 3) := by decide +kernel
theorem d_Ho_edge_17 : decode b_Ho_edge 17 = .ok (.ifCond .ne 5, 3) := by decide +kernel
theorem d_Ho_edge_20 : decode b_Ho_edge 20 = .ok (.iconst (-1), 1) := by decide +kernel
theorem d_Ho_edge_21 : decode b_Ho_edge 21 = .ok (.ireturn, 1) := by decide +kernel
abbrev b_Mo_edge : ByteArray := prog_15_method_100_code
def y_Mo_edge : MethodName := ⟨"DrawingHouseModel", "edge", "(III)I"⟩
abbrev z_Mo_edge : List Cond := Cond.code y_Mo_edge b_Mo_edge 5 (some .int) :: lw_g
theorem d_Mo_edge_0 : decode b_Mo_edge 0 = .ok (.iload_n 1, 1) := by decide +kernel
theorem d_Mo_edge_1 : decode b_Mo_edge 1 = .ok (.invokestatic 521, 3) := by decide +kernel
theorem d_Mo_edge_4 : decode b_Mo_edge 4 = .ok (.ifCond .ne 5, 3) := by decide +kernel
theorem d_Mo_edge_7 : decode b_Mo_edge 7 = .ok (.iconst (-1), 1) := by decide +kernel
theorem d_Mo_edge_8 : decode b_Mo_edge 8 = .ok (.ireturn, 1) := by decide +kernel
theorem d_Mo_edge_9 : decode b_Mo_edge 9 = .ok (.aload_n 0, 1) := by decide +kernel
theorem d_Mo_edge_10 : decode b_Mo_edge 10 = .ok (.iload_n 1, 1) := by decide +kernel
theorem d_Mo_edge_11 : decode b_Mo_edge 11 = .ok (.invokevirtual 527, 3) := by decide +kernel
theorem d_Mo_edge_14 : decode b_Mo_edge 14 = .ok (.iload_n 2, 1) := by decide +kernel
theorem d_Mo_edge_15 : decode b_Mo_edge 15 = .ok (.iconst 0, 1) := by decide +kernel
theorem d_Mo_edge_16 : decode b_Mo_edge 16 = .ok (.aload_n 0, 1) := by decide +kernel
theorem d_Mo_edge_17 : decode b_Mo_edge 17 = .ok (.invokevirtual 401, 3) := by decide +kernel
theorem d_Mo_edge_20 : decode b_Mo_edge 20 = .ok (.iconst 1, 1) := by decide +kernel
theorem d_Mo_edge_21 : decode b_Mo_edge 21 = .ok (.isub, 1) := by decide +kernel
theorem d_Mo_edge_22 : decode b_Mo_edge 22 = .ok (.invokestatic 387, 3) := by decide +kernel
theorem d_Mo_edge_25 : decode b_Mo_edge 25 = .ok (.ifCond .ne 5, 3) := by decide +kernel
theorem d_Mo_edge_28 : decode b_Mo_edge 28 = .ok (.iconst (-1), 1) := by decide +kernel
theorem d_Mo_edge_29 : decode b_Mo_edge 29 = .ok (.ireturn, 1) := by decide +kernel
abbrev b_Mo_edges : ByteArray := prog_15_method_12_code
def y_Mo_edges : MethodName := ⟨"DrawingHouseModel", "edges", "()I"⟩
abbrev z_Mo_edges : List Cond := Cond.code y_Mo_edges b_Mo_edges 1 (some .int) :: lw_g
theorem d_Mo_edges_0 : decode b_Mo_edges 0 = .ok (.aload_n 0, 1) := by decide +kernel
theorem d_Mo_edges_1 : decode b_Mo_edges 1 = .ok (.getfield 16, 3) := by decide +kernel
theorem d_Mo_edges_4 : decode b_Mo_edges 4 = .ok (.aload_n 0, 1) := by decide +kernel
theorem d_Mo_edges_5 : decode b_Mo_edges 5 = .ok (.getfield 391, 3) := by decide +kernel
theorem d_Mo_edges_8 : decode b_Mo_edges 8 = .ok (.iconst 1, 1) := by decide +kernel
theorem d_Mo_edges_9 : decode b_Mo_edges 9 = .ok (.iadd, 1) := by decide +kernel
theorem d_Mo_edges_10 : decode b_Mo_edges 10 = .ok (.iaload, 1) := by decide +kernel
theorem d_Mo_edges_11 : decode b_Mo_edges 11 = .ok (.ireturn, 1) := by decide +kernel
abbrev b_Ho_back : ByteArray := prog_1_method_11_code
def y_Ho_back : MethodName := ⟨"DrawingHouse", "back", "(II)Z"⟩
abbrev z_Ho_back : List Cond := Cond.code y_Ho_back b_Ho_back 3 (some .boolean) :: lw_g
theorem d_Ho_back_0 : decode b_Ho_back 0 = .ok (.iload_n 1, 1) := by decide +kernel
theorem d_Ho_back_1 : decode b_Ho_back 1 = .ok (.invokestatic 115, 3) := by decide +kernel
theorem d_Ho_back_4 : decode b_Ho_back 4 = .ok (.ifCond .eq 16, 3) := by decide +kernel
theorem d_Ho_back_7 : decode b_Ho_back 7 = .ok (.aload_n 0, 1) := by decide +kernel
theorem d_Ho_back_8 : decode b_Ho_back 8 = .ok (.getfield 13, 3) := by decide +kernel
theorem d_Ho_back_11 : decode b_Ho_back 11 = .ok (.iload_n 1, 1) := by decide +kernel
theorem d_Ho_back_12 : decode b_Ho_back 12 = .ok (.aaload, 1) := by decide +kernel
theorem d_Ho_back_13 : decode b_Ho_back 13 = .ok (.iload_n 2, 1) := by decide +kernel
theorem d_Ho_back_14 : decode b_Ho_back 14 = .ok (.invokevirtual 244, 3) := by decide +kernel
theorem d_Ho_back_17 : decode b_Ho_back 17 = .ok (.ifCond .ne 5, 3) := by decide +kernel
theorem d_Ho_back_20 : decode b_Ho_back 20 = .ok (.iconst 0, 1) := by decide +kernel
theorem d_Ho_back_21 : decode b_Ho_back 21 = .ok (.ireturn, 1) := by decide +kernel
abbrev b_Mo_back : ByteArray := prog_15_method_49_code
def y_Mo_back : MethodName := ⟨"DrawingHouseModel", "back", "(II)Z"⟩
abbrev z_Mo_back : List Cond := Cond.code y_Mo_back b_Mo_back 3 (some .boolean) :: lw_g
theorem d_Mo_back_0 : decode b_Mo_back 0 = .ok (.iload_n 1, 1) := by decide +kernel
theorem d_Mo_back_1 : decode b_Mo_back 1 = .ok (.invokestatic 521, 3) := by decide +kernel
theorem d_Mo_back_4 : decode b_Mo_back 4 = .ok (.ifCond .eq 43, 3) := by decide +kernel
theorem d_Mo_back_7 : decode b_Mo_back 7 = .ok (.iload_n 2, 1) := by decide +kernel
theorem d_Mo_back_8 : decode b_Mo_back 8 = .ok (.iconst 0, 1) := by decide +kernel
theorem d_Mo_back_9 : decode b_Mo_back 9 = .ok (.iconst 1, 1) := by decide +kernel
theorem d_Mo_back_10 : decode b_Mo_back 10 = .ok (.invokestatic 387, 3) := by decide +kernel
theorem d_Mo_back_13 : decode b_Mo_back 13 = .ok (.ifCond .eq 34, 3) := by decide +kernel
theorem d_Mo_back_16 : decode b_Mo_back 16 = .ok (.iload_n 2, 1) := by decide +kernel
theorem d_Mo_back_17 : decode b_Mo_back 17 = .ok (.ifCond .ne 15, 3) := by decide +kernel
theorem d_Mo_back_20 : decode b_Mo_back 20 = .ok (.aload_n 0, 1) := by decide +kernel
theorem d_Mo_back_21 : decode b_Mo_back 21 = .ok (.getfield 20, 3) := by decide +kernel
theorem d_Mo_back_24 : decode b_Mo_back 24 = .ok (.iload_n 1, 1) := by decide +kernel
theorem d_Mo_back_25 : decode b_Mo_back 25 = .ok (.iaload, 1) := by decide +kernel
theorem d_Mo_back_26 : decode b_Mo_back 26 = .ok (.ifCond .ne 23, 3) := by decide +kernel
theorem d_Mo_back_29 : decode b_Mo_back 29 = .ok (.goto 18, 3) := by decide +kernel
theorem d_Mo_back_32 : decode b_Mo_back 32 = .ok (.aload_n 0, 1) := by decide +kernel
theorem d_Mo_back_33 : decode b_Mo_back 33 = .ok (.getfield 20, 3) := by decide +kernel
theorem d_Mo_back_36 : decode b_Mo_back 36 = .ok (.iload_n 1, 1) := by decide +kernel
theorem d_Mo_back_37 : decode b_Mo_back 37 = .ok (.iaload, 1) := by decide +kernel
theorem d_Mo_back_38 : decode b_Mo_back 38 = .ok (.aload_n 0, 1) := by decide +kernel
theorem d_Mo_back_39 : decode b_Mo_back 39 = .ok (.getfield 23, 3) := by decide +kernel
theorem d_Mo_back_42 : decode b_Mo_back 42 = .ok (.iload_n 1, 1) := by decide +kernel
theorem d_Mo_back_43 : decode b_Mo_back 43 = .ok (.iaload, 1) := by decide +kernel
theorem d_Mo_back_44 : decode b_Mo_back 44 = .ok (.if_icmp .ne 5, 3) := by decide +kernel
theorem d_Mo_back_47 : decode b_Mo_back 47 = .ok (.iconst 0, 1) := by decide +kernel
theorem d_Mo_back_48 : decode b_Mo_back 48 = .ok (.ireturn, 1) := by decide +kernel
abbrev b_Gr_step : ByteArray := prog_5_method_25_code
def y_Gr_step : MethodName := ⟨"DrawingHouse$Graph", "step", "(I)Z"⟩
abbrev z_Gr_step : List Cond := Cond.code y_Gr_step b_Gr_step 2 (some .boolean) :: lw_g
theorem d_Gr_step_0 : decode b_Gr_step 0 = .ok (.aload_n 0, 1) := by decide +kernel
theorem d_Gr_step_1 : decode b_Gr_step 1 = .ok (.getfield 62, 3) := by decide +kernel
theorem d_Gr_step_4 : decode b_Gr_step 4 = .ok (.ifnonnull 5, 3) := by decide +kernel
theorem d_Gr_step_7 : decode b_Gr_step 7 = .ok (.iconst 0, 1) := by decide +kernel
theorem d_Gr_step_8 : decode b_Gr_step 8 = .ok (.ireturn, 1) := by decide +kernel
abbrev b_Ho_far : ByteArray := prog_1_method_12_code
def y_Ho_far : MethodName := ⟨"DrawingHouse", "far", "(III)I"⟩
abbrev z_Ho_far : List Cond := Cond.code y_Ho_far b_Ho_far 4 (some .int) :: lw_g
theorem d_Ho_far_0 : decode b_Ho_far 0 = .ok (.iload_n 1, 1) := by decide +kernel
theorem d_Ho_far_1 : decode b_Ho_far 1 = .ok (.invokestatic 115, 3) := by decide +kernel
theorem d_Ho_far_4 : decode b_Ho_far 4 = .ok (.ifCond .eq 29, 3) := by decide +kernel
theorem d_Ho_far_7 : decode b_Ho_far 7 = .ok (.aload_n 0, 1) := by decide +kernel
theorem d_Ho_far_8 : decode b_Ho_far 8 = .ok (.getfield 13, 3) := by decide +kernel
theorem d_Ho_far_11 : decode b_Ho_far 11 = .ok (.iload_n 1, 1) := by decide +kernel
theorem d_Ho_far_12 : decode b_Ho_far 12 = .ok (.aaload, 1) := by decide +kernel
theorem d_Ho_far_13 : decode b_Ho_far 13 = .ok (.iload_n 2, 1) := by decide +kernel
theorem d_Ho_far_14 : decode b_Ho_far 14 = .ok (.invokevirtual 166, 3) := by decide +kernel
theorem d_Ho_far_17 : decode b_Ho_far 17 = .ok (.ifCond .eq 16, 3) := by decide +kernel
theorem d_Ho_far_33 : decode b_Ho_far 33 = .ok (.iconst (-1), 1) := by decide +kernel
theorem d_Ho_far_34 : decode b_Ho_far 34 = .ok (.ireturn, 1) := by decide +kernel
abbrev b_Mo_far : ByteArray := prog_15_method_105_code
def y_Mo_far : MethodName := ⟨"DrawingHouseModel", "far", "(III)I"⟩
abbrev z_Mo_far : List Cond := Cond.code y_Mo_far b_Mo_far 4 (some .int) :: lw_g
theorem d_Mo_far_0 : decode b_Mo_far 0 = .ok (.iload_n 1, 1) := by decide +kernel
theorem d_Mo_far_1 : decode b_Mo_far 1 = .ok (.invokestatic 521, 3) := by decide +kernel
theorem d_Mo_far_4 : decode b_Mo_far 4 = .ok (.ifCond .ne 5, 3) := by decide +kernel
theorem d_Mo_far_7 : decode b_Mo_far 7 = .ok (.iconst (-1), 1) := by decide +kernel
theorem d_Mo_far_8 : decode b_Mo_far 8 = .ok (.ireturn, 1) := by decide +kernel
theorem d_Mo_far_9 : decode b_Mo_far 9 = .ok (.aload_n 0, 1) := by decide +kernel
theorem d_Mo_far_10 : decode b_Mo_far 10 = .ok (.iload_n 1, 1) := by decide +kernel
theorem d_Mo_far_11 : decode b_Mo_far 11 = .ok (.invokevirtual 527, 3) := by decide +kernel
theorem d_Mo_far_14 : decode b_Mo_far 14 = .ok (.iload_n 2, 1) := by decide +kernel
theorem d_Mo_far_15 : decode b_Mo_far 15 = .ok (.iconst 0, 1) := by decide +kernel
theorem d_Mo_far_16 : decode b_Mo_far 16 = .ok (.aload_n 0, 1) := by decide +kernel
theorem d_Mo_far_17 : decode b_Mo_far 17 = .ok (.invokevirtual 475, 3) := by decide +kernel
theorem d_Mo_far_20 : decode b_Mo_far 20 = .ok (.iconst 1, 1) := by decide +kernel
theorem d_Mo_far_21 : decode b_Mo_far 21 = .ok (.isub, 1) := by decide +kernel
theorem d_Mo_far_22 : decode b_Mo_far 22 = .ok (.invokestatic 387, 3) := by decide +kernel
theorem d_Mo_far_25 : decode b_Mo_far 25 = .ok (.ifCond .eq 17, 3) := by decide +kernel
theorem d_Mo_far_42 : decode b_Mo_far 42 = .ok (.iconst (-1), 1) := by decide +kernel
theorem d_Mo_far_43 : decode b_Mo_far 43 = .ok (.ireturn, 1) := by decide +kernel
abbrev b_Ho_map : ByteArray := prog_1_method_14_code
def y_Ho_map : MethodName := ⟨"DrawingHouse", "map", "(I)I"⟩
abbrev z_Ho_map : List Cond := Cond.code y_Ho_map b_Ho_map 2 (some .int) :: lw_g
theorem d_Ho_map_0 : decode b_Ho_map 0 = .ok (.iload_n 1, 1) := by decide +kernel
theorem d_Ho_map_1 : decode b_Ho_map 1 = .ok (.iconst (-1), 1) := by decide +kernel
theorem d_Ho_map_2 : decode b_Ho_map 2 = .ok (.if_icmp .ne 8, 3) := by decide +kernel
theorem d_Ho_map_5 : decode b_Ho_map 5 = .ok (.aload_n 0, 1) := by decide +kernel
theorem d_Ho_map_6 : decode b_Ho_map 6 = .ok (.getfield 57, 3) := by decide +kernel
theorem d_Ho_map_9 : decode b_Ho_map 9 = .ok (.ireturn, 1) := by decide +kernel
theorem d_Ho_map_10 : decode b_Ho_map 10 = .ok (.iload_n 1, 1) := by decide +kernel
theorem d_Ho_map_11 : decode b_Ho_map 11 = .ok (.ifCond .lt 20, 3) := by decide +kernel
theorem d_Ho_map_14 : decode b_Ho_map 14 = .ok (.iload_n 1, 1) := by decide +kernel
theorem d_Ho_map_15 : decode b_Ho_map 15 = .ok (.aload_n 0, 1) := by decide +kernel
theorem d_Ho_map_16 : decode b_Ho_map 16 = .ok (.getfield 53, 3) := by decide +kernel
theorem d_Ho_map_19 : decode b_Ho_map 19 = .ok (.if_icmp .ge 12, 3) := by decide +kernel
theorem d_Ho_map_31 : decode b_Ho_map 31 = .ok (.iconst (-1), 1) := by decide +kernel
theorem d_Ho_map_32 : decode b_Ho_map 32 = .ok (.ireturn, 1) := by decide +kernel
abbrev b_Mo_map : ByteArray := prog_15_method_61_code
def y_Mo_map : MethodName := ⟨"DrawingHouseModel", "map", "(I)I"⟩
abbrev z_Mo_map : List Cond := Cond.code y_Mo_map b_Mo_map 2 (some .int) :: lw_g
theorem d_Mo_map_0 : decode b_Mo_map 0 = .ok (.iload_n 1, 1) := by decide +kernel
theorem d_Mo_map_1 : decode b_Mo_map 1 = .ok (.iconst (-1), 1) := by decide +kernel
theorem d_Mo_map_2 : decode b_Mo_map 2 = .ok (.if_icmp .ne 19, 3) := by decide +kernel
theorem d_Mo_map_5 : decode b_Mo_map 5 = .ok (.aload_n 0, 1) := by decide +kernel
theorem d_Mo_map_6 : decode b_Mo_map 6 = .ok (.getfield 575, 3) := by decide +kernel
theorem d_Mo_map_9 : decode b_Mo_map 9 = .ok (.ifCond .eq 10, 3) := by decide +kernel
theorem d_Mo_map_19 : decode b_Mo_map 19 = .ok (.iconst (-1), 1) := by decide +kernel
theorem d_Mo_map_20 : decode b_Mo_map 20 = .ok (.ireturn, 1) := by decide +kernel
theorem d_Mo_map_21 : decode b_Mo_map 21 = .ok (.aload_n 0, 1) := by decide +kernel
theorem d_Mo_map_22 : decode b_Mo_map 22 = .ok (.getfield 581, 3) := by decide +kernel
theorem d_Mo_map_25 : decode b_Mo_map 25 = .ok (.ifCond .eq 26, 3) := by decide +kernel
theorem d_Mo_map_51 : decode b_Mo_map 51 = .ok (.iconst (-1), 1) := by decide +kernel
theorem d_Mo_map_52 : decode b_Mo_map 52 = .ok (.ireturn, 1) := by decide +kernel
abbrev b_Ho_draw : ByteArray := prog_1_method_17_code
def y_Ho_draw : MethodName := ⟨"DrawingHouse", "draw", "(III)I"⟩
abbrev z_Ho_draw : List Cond := Cond.code y_Ho_draw b_Ho_draw 5 (some .int) :: lw_g
theorem d_Ho_draw_0 : decode b_Ho_draw 0 = .ok (.iload_n 1, 1) := by decide +kernel
theorem d_Ho_draw_1 : decode b_Ho_draw 1 = .ok (.invokestatic 115, 3) := by decide +kernel
theorem d_Ho_draw_4 : decode b_Ho_draw 4 = .ok (.ifCond .eq 25, 3) := by decide +kernel
theorem d_Ho_draw_7 : decode b_Ho_draw 7 = .ok (.iload_n 2, 1) := by decide +kernel
theorem d_Ho_draw_8 : decode b_Ho_draw 8 = .ok (.ifCond .lt 21, 3) := by decide +kernel
theorem d_Ho_draw_11 : decode b_Ho_draw 11 = .ok (.iload_n 2, 1) := by decide +kernel
theorem d_Ho_draw_12 : decode b_Ho_draw 12 = .ok (.bipush 7, 2) := by decide +kernel
theorem d_Ho_draw_14 : decode b_Ho_draw 14 = .ok (.if_icmp .gt 15, 3) := by decide +kernel
theorem d_Ho_draw_17 : decode b_Ho_draw 17 = .ok (.aload_n 0, 1) := by decide +kernel
theorem d_Ho_draw_18 : decode b_Ho_draw 18 = .ok (.getfield 13, 3) := by decide +kernel
theorem d_Ho_draw_21 : decode b_Ho_draw 21 = .ok (.iload_n 1, 1) := by decide +kernel
theorem d_Ho_draw_22 : decode b_Ho_draw 22 = .ok (.aaload, 1) := by decide +kernel
theorem d_Ho_draw_23 : decode b_Ho_draw 23 = .ok (.getfield 132, 3) := by decide +kernel
theorem d_Ho_draw_26 : decode b_Ho_draw 26 = .ok (.ifCond .ne 5, 3) := by decide +kernel
theorem d_Ho_draw_29 : decode b_Ho_draw 29 = .ok (.iconst (-1), 1) := by decide +kernel
theorem d_Ho_draw_30 : decode b_Ho_draw 30 = .ok (.ireturn, 1) := by decide +kernel
abbrev b_Mo_draw : ByteArray := prog_15_method_107_code
def y_Mo_draw : MethodName := ⟨"DrawingHouseModel", "draw", "(III)I"⟩
abbrev z_Mo_draw : List Cond := Cond.code y_Mo_draw b_Mo_draw 5 (some .int) :: lw_g
theorem d_Mo_draw_0 : decode b_Mo_draw 0 = .ok (.iload_n 1, 1) := by decide +kernel
theorem d_Mo_draw_1 : decode b_Mo_draw 1 = .ok (.invokestatic 521, 3) := by decide +kernel
theorem d_Mo_draw_4 : decode b_Mo_draw 4 = .ok (.ifCond .eq 13, 3) := by decide +kernel
theorem d_Mo_draw_7 : decode b_Mo_draw 7 = .ok (.iload_n 2, 1) := by decide +kernel
theorem d_Mo_draw_8 : decode b_Mo_draw 8 = .ok (.iconst 0, 1) := by decide +kernel
theorem d_Mo_draw_9 : decode b_Mo_draw 9 = .ok (.bipush 7, 2) := by decide +kernel
theorem d_Mo_draw_11 : decode b_Mo_draw 11 = .ok (.invokestatic 387, 3) := by decide +kernel
theorem d_Mo_draw_14 : decode b_Mo_draw 14 = .ok (.ifCond .ne 5, 3) := by decide +kernel
theorem d_Mo_draw_17 : decode b_Mo_draw 17 = .ok (.iconst (-1), 1) := by decide +kernel
theorem d_Mo_draw_18 : decode b_Mo_draw 18 = .ok (.ireturn, 1) := by decide +kernel
theorem d_Mo_draw_19 : decode b_Mo_draw 19 = .ok (.aload_n 0, 1) := by decide +kernel
theorem d_Mo_draw_20 : decode b_Mo_draw 20 = .ok (.iload_n 1, 1) := by decide +kernel
theorem d_Mo_draw_21 : decode b_Mo_draw 21 = .ok (.invokevirtual 527, 3) := by decide +kernel
theorem d_Mo_draw_24 : decode b_Mo_draw 24 = .ok (.aload_n 0, 1) := by decide +kernel
theorem d_Mo_draw_25 : decode b_Mo_draw 25 = .ok (.invokevirtual 475, 3) := by decide +kernel
theorem d_Mo_draw_28 : decode b_Mo_draw 28 = .ok (.ifCond .ne 5, 3) := by decide +kernel
theorem d_Mo_draw_31 : decode b_Mo_draw 31 = .ok (.iconst (-1), 1) := by decide +kernel
theorem d_Mo_draw_32 : decode b_Mo_draw 32 = .ok (.ireturn, 1) := by decide +kernel
theorem d_law_law_256 : decode b_law_law 256 = .ok (.aload_n 1, 1) := by decide +kernel
theorem d_law_law_257 : decode b_law_law 257 = .ok (.aload_n 0, 1) := by decide +kernel
theorem d_law_law_258 : decode b_law_law 258 = .ok (.iload_n 3, 1) := by decide +kernel
theorem d_law_law_259 : decode b_law_law 259 = .ok (.iconst 1, 1) := by decide +kernel
theorem d_law_law_260 : decode b_law_law 260 = .ok (.iadd, 1) := by decide +kernel
theorem d_law_law_261 : decode b_law_law 261 = .ok (.iaload, 1) := by decide +kernel
theorem d_law_law_262 : decode b_law_law 262 = .ok (.invokevirtual 23, 3) := by decide +kernel
theorem d_law_law_265 : decode b_law_law 265 = .ok (.aload_n 2, 1) := by decide +kernel
theorem d_law_law_266 : decode b_law_law 266 = .ok (.aload_n 0, 1) := by decide +kernel
theorem d_law_law_267 : decode b_law_law 267 = .ok (.iload_n 3, 1) := by decide +kernel
theorem d_law_law_268 : decode b_law_law 268 = .ok (.iconst 1, 1) := by decide +kernel
theorem d_law_law_269 : decode b_law_law 269 = .ok (.iadd, 1) := by decide +kernel
theorem d_law_law_270 : decode b_law_law 270 = .ok (.iaload, 1) := by decide +kernel
theorem d_law_law_271 : decode b_law_law 271 = .ok (.invokevirtual 27, 3) := by decide +kernel
theorem d_law_law_274 : decode b_law_law 274 = .ok (.if_icmp .eq 1021, 3) := by decide +kernel
theorem d_law_law_312 : decode b_law_law 312 = .ok (.aload_n 1, 1) := by decide +kernel
theorem d_law_law_313 : decode b_law_law 313 = .ok (.aload_n 0, 1) := by decide +kernel
theorem d_law_law_314 : decode b_law_law 314 = .ok (.iload_n 3, 1) := by decide +kernel
theorem d_law_law_315 : decode b_law_law 315 = .ok (.iconst 1, 1) := by decide +kernel
theorem d_law_law_316 : decode b_law_law 316 = .ok (.iadd, 1) := by decide +kernel
theorem d_law_law_317 : decode b_law_law 317 = .ok (.iaload, 1) := by decide +kernel
theorem d_law_law_318 : decode b_law_law 318 = .ok (.aload_n 0, 1) := by decide +kernel
theorem d_law_law_319 : decode b_law_law 319 = .ok (.iload_n 3, 1) := by decide +kernel
theorem d_law_law_320 : decode b_law_law 320 = .ok (.iconst 2, 1) := by decide +kernel
theorem d_law_law_321 : decode b_law_law 321 = .ok (.iadd, 1) := by decide +kernel
theorem d_law_law_322 : decode b_law_law 322 = .ok (.iaload, 1) := by decide +kernel
theorem d_law_law_323 : decode b_law_law 323 = .ok (.aload_n 0, 1) := by decide +kernel
theorem d_law_law_324 : decode b_law_law 324 = .ok (.iload_n 3, 1) := by decide +kernel
theorem d_law_law_325 : decode b_law_law 325 = .ok (.iconst 3, 1) := by decide +kernel
theorem d_law_law_326 : decode b_law_law 326 = .ok (.iadd, 1) := by decide +kernel
theorem d_law_law_327 : decode b_law_law 327 = .ok (.iaload, 1) := by decide +kernel
theorem d_law_law_328 : decode b_law_law 328 = .ok (.invokevirtual 32, 3) := by decide +kernel
theorem d_law_law_331 : decode b_law_law 331 = .ok (.aload_n 2, 1) := by decide +kernel
theorem d_law_law_332 : decode b_law_law 332 = .ok (.aload_n 0, 1) := by decide +kernel
theorem d_law_law_333 : decode b_law_law 333 = .ok (.iload_n 3, 1) := by decide +kernel
theorem d_law_law_334 : decode b_law_law 334 = .ok (.iconst 1, 1) := by decide +kernel
theorem d_law_law_335 : decode b_law_law 335 = .ok (.iadd, 1) := by decide +kernel
theorem d_law_law_336 : decode b_law_law 336 = .ok (.iaload, 1) := by decide +kernel
theorem d_law_law_337 : decode b_law_law 337 = .ok (.aload_n 0, 1) := by decide +kernel
theorem d_law_law_338 : decode b_law_law 338 = .ok (.iload_n 3, 1) := by decide +kernel
theorem d_law_law_339 : decode b_law_law 339 = .ok (.iconst 2, 1) := by decide +kernel
theorem d_law_law_340 : decode b_law_law 340 = .ok (.iadd, 1) := by decide +kernel
theorem d_law_law_341 : decode b_law_law 341 = .ok (.iaload, 1) := by decide +kernel
theorem d_law_law_342 : decode b_law_law 342 = .ok (.aload_n 0, 1) := by decide +kernel
theorem d_law_law_343 : decode b_law_law 343 = .ok (.iload_n 3, 1) := by decide +kernel
theorem d_law_law_344 : decode b_law_law 344 = .ok (.iconst 3, 1) := by decide +kernel
theorem d_law_law_345 : decode b_law_law 345 = .ok (.iadd, 1) := by decide +kernel
theorem d_law_law_346 : decode b_law_law 346 = .ok (.iaload, 1) := by decide +kernel
theorem d_law_law_347 : decode b_law_law 347 = .ok (.invokevirtual 36, 3) := by decide +kernel
theorem d_law_law_350 : decode b_law_law 350 = .ok (.if_icmp .eq 945, 3) := by decide +kernel
theorem d_law_law_355 : decode b_law_law 355 = .ok (.aload_n 1, 1) := by decide +kernel
theorem d_law_law_356 : decode b_law_law 356 = .ok (.aload_n 0, 1) := by decide +kernel
theorem d_law_law_357 : decode b_law_law 357 = .ok (.iload_n 3, 1) := by decide +kernel
theorem d_law_law_358 : decode b_law_law 358 = .ok (.iconst 1, 1) := by decide +kernel
theorem d_law_law_359 : decode b_law_law 359 = .ok (.iadd, 1) := by decide +kernel
theorem d_law_law_360 : decode b_law_law 360 = .ok (.iaload, 1) := by decide +kernel
theorem d_law_law_361 : decode b_law_law 361 = .ok (.aload_n 0, 1) := by decide +kernel
theorem d_law_law_362 : decode b_law_law 362 = .ok (.iload_n 3, 1) := by decide +kernel
theorem d_law_law_363 : decode b_law_law 363 = .ok (.iconst 2, 1) := by decide +kernel
theorem d_law_law_364 : decode b_law_law 364 = .ok (.iadd, 1) := by decide +kernel
theorem d_law_law_365 : decode b_law_law 365 = .ok (.iaload, 1) := by decide +kernel
theorem d_law_law_366 : decode b_law_law 366 = .ok (.aload_n 0, 1) := by decide +kernel
theorem d_law_law_367 : decode b_law_law 367 = .ok (.iload_n 3, 1) := by decide +kernel
theorem d_law_law_368 : decode b_law_law 368 = .ok (.iconst 3, 1) := by decide +kernel
theorem d_law_law_369 : decode b_law_law 369 = .ok (.iadd, 1) := by decide +kernel
theorem d_law_law_370 : decode b_law_law 370 = .ok (.iaload, 1) := by decide +kernel
theorem d_law_law_371 : decode b_law_law 371 = .ok (.invokevirtual 37, 3) := by decide +kernel
theorem d_law_law_374 : decode b_law_law 374 = .ok (.aload_n 2, 1) := by decide +kernel
theorem d_law_law_375 : decode b_law_law 375 = .ok (.aload_n 0, 1) := by decide +kernel
theorem d_law_law_376 : decode b_law_law 376 = .ok (.iload_n 3, 1) := by decide +kernel
theorem d_law_law_377 : decode b_law_law 377 = .ok (.iconst 1, 1) := by decide +kernel
theorem d_law_law_378 : decode b_law_law 378 = .ok (.iadd, 1) := by decide +kernel
theorem d_law_law_379 : decode b_law_law 379 = .ok (.iaload, 1) := by decide +kernel
theorem d_law_law_380 : decode b_law_law 380 = .ok (.aload_n 0, 1) := by decide +kernel
theorem d_law_law_381 : decode b_law_law 381 = .ok (.iload_n 3, 1) := by decide +kernel
theorem d_law_law_382 : decode b_law_law 382 = .ok (.iconst 2, 1) := by decide +kernel
theorem d_law_law_383 : decode b_law_law 383 = .ok (.iadd, 1) := by decide +kernel
theorem d_law_law_384 : decode b_law_law 384 = .ok (.iaload, 1) := by decide +kernel
theorem d_law_law_385 : decode b_law_law 385 = .ok (.aload_n 0, 1) := by decide +kernel
theorem d_law_law_386 : decode b_law_law 386 = .ok (.iload_n 3, 1) := by decide +kernel
theorem d_law_law_387 : decode b_law_law 387 = .ok (.iconst 3, 1) := by decide +kernel
theorem d_law_law_388 : decode b_law_law 388 = .ok (.iadd, 1) := by decide +kernel
theorem d_law_law_389 : decode b_law_law 389 = .ok (.iaload, 1) := by decide +kernel
theorem d_law_law_390 : decode b_law_law 390 = .ok (.invokevirtual 40, 3) := by decide +kernel
theorem d_law_law_393 : decode b_law_law 393 = .ok (.if_icmp .eq 902, 3) := by decide +kernel
theorem d_law_law_547 : decode b_law_law 547 = .ok (.aload_n 1, 1) := by decide +kernel
theorem d_law_law_548 : decode b_law_law 548 = .ok (.aload_n 0, 1) := by decide +kernel
theorem d_law_law_549 : decode b_law_law 549 = .ok (.iload_n 3, 1) := by decide +kernel
theorem d_law_law_550 : decode b_law_law 550 = .ok (.iconst 1, 1) := by decide +kernel
theorem d_law_law_551 : decode b_law_law 551 = .ok (.iadd, 1) := by decide +kernel
theorem d_law_law_552 : decode b_law_law 552 = .ok (.iaload, 1) := by decide +kernel
theorem d_law_law_553 : decode b_law_law 553 = .ok (.aload_n 0, 1) := by decide +kernel
theorem d_law_law_554 : decode b_law_law 554 = .ok (.iload_n 3, 1) := by decide +kernel
theorem d_law_law_555 : decode b_law_law 555 = .ok (.iconst 2, 1) := by decide +kernel
theorem d_law_law_556 : decode b_law_law 556 = .ok (.iadd, 1) := by decide +kernel
theorem d_law_law_557 : decode b_law_law 557 = .ok (.iaload, 1) := by decide +kernel
theorem d_law_law_558 : decode b_law_law 558 = .ok (.invokevirtual 54, 3) := by decide +kernel
theorem d_law_law_561 : decode b_law_law 561 = .ok (.aload_n 2, 1) := by decide +kernel
theorem d_law_law_562 : decode b_law_law 562 = .ok (.aload_n 0, 1) := by decide +kernel
theorem d_law_law_563 : decode b_law_law 563 = .ok (.iload_n 3, 1) := by decide +kernel
theorem d_law_law_564 : decode b_law_law 564 = .ok (.iconst 1, 1) := by decide +kernel
theorem d_law_law_565 : decode b_law_law 565 = .ok (.iadd, 1) := by decide +kernel
theorem d_law_law_566 : decode b_law_law 566 = .ok (.iaload, 1) := by decide +kernel
theorem d_law_law_567 : decode b_law_law 567 = .ok (.aload_n 0, 1) := by decide +kernel
theorem d_law_law_568 : decode b_law_law 568 = .ok (.iload_n 3, 1) := by decide +kernel
theorem d_law_law_569 : decode b_law_law 569 = .ok (.iconst 2, 1) := by decide +kernel
theorem d_law_law_570 : decode b_law_law 570 = .ok (.iadd, 1) := by decide +kernel
theorem d_law_law_571 : decode b_law_law 571 = .ok (.iaload, 1) := by decide +kernel
theorem d_law_law_572 : decode b_law_law 572 = .ok (.invokevirtual 58, 3) := by decide +kernel
theorem d_law_law_575 : decode b_law_law 575 = .ok (.if_icmp .eq 720, 3) := by decide +kernel
theorem d_law_law_580 : decode b_law_law 580 = .ok (.aload_n 1, 1) := by decide +kernel
theorem d_law_law_581 : decode b_law_law 581 = .ok (.aload_n 0, 1) := by decide +kernel
theorem d_law_law_582 : decode b_law_law 582 = .ok (.iload_n 3, 1) := by decide +kernel
theorem d_law_law_583 : decode b_law_law 583 = .ok (.iconst 1, 1) := by decide +kernel
theorem d_law_law_584 : decode b_law_law 584 = .ok (.iadd, 1) := by decide +kernel
theorem d_law_law_585 : decode b_law_law 585 = .ok (.iaload, 1) := by decide +kernel
theorem d_law_law_586 : decode b_law_law 586 = .ok (.aload_n 0, 1) := by decide +kernel
theorem d_law_law_587 : decode b_law_law 587 = .ok (.iload_n 3, 1) := by decide +kernel
theorem d_law_law_588 : decode b_law_law 588 = .ok (.iconst 2, 1) := by decide +kernel
theorem d_law_law_589 : decode b_law_law 589 = .ok (.iadd, 1) := by decide +kernel
theorem d_law_law_590 : decode b_law_law 590 = .ok (.iaload, 1) := by decide +kernel
theorem d_law_law_591 : decode b_law_law 591 = .ok (.aload_n 0, 1) := by decide +kernel
theorem d_law_law_592 : decode b_law_law 592 = .ok (.iload_n 3, 1) := by decide +kernel
theorem d_law_law_593 : decode b_law_law 593 = .ok (.iconst 3, 1) := by decide +kernel
theorem d_law_law_594 : decode b_law_law 594 = .ok (.iadd, 1) := by decide +kernel
theorem d_law_law_595 : decode b_law_law 595 = .ok (.iaload, 1) := by decide +kernel
theorem d_law_law_596 : decode b_law_law 596 = .ok (.invokevirtual 59, 3) := by decide +kernel
theorem d_law_law_599 : decode b_law_law 599 = .ok (.aload_n 2, 1) := by decide +kernel
theorem d_law_law_600 : decode b_law_law 600 = .ok (.aload_n 0, 1) := by decide +kernel
theorem d_law_law_601 : decode b_law_law 601 = .ok (.iload_n 3, 1) := by decide +kernel
theorem d_law_law_602 : decode b_law_law 602 = .ok (.iconst 1, 1) := by decide +kernel
theorem d_law_law_603 : decode b_law_law 603 = .ok (.iadd, 1) := by decide +kernel
theorem d_law_law_604 : decode b_law_law 604 = .ok (.iaload, 1) := by decide +kernel
theorem d_law_law_605 : decode b_law_law 605 = .ok (.aload_n 0, 1) := by decide +kernel
theorem d_law_law_606 : decode b_law_law 606 = .ok (.iload_n 3, 1) := by decide +kernel
theorem d_law_law_607 : decode b_law_law 607 = .ok (.iconst 2, 1) := by decide +kernel
theorem d_law_law_608 : decode b_law_law 608 = .ok (.iadd, 1) := by decide +kernel
theorem d_law_law_609 : decode b_law_law 609 = .ok (.iaload, 1) := by decide +kernel
theorem d_law_law_610 : decode b_law_law 610 = .ok (.aload_n 0, 1) := by decide +kernel
theorem d_law_law_611 : decode b_law_law 611 = .ok (.iload_n 3, 1) := by decide +kernel
theorem d_law_law_612 : decode b_law_law 612 = .ok (.iconst 3, 1) := by decide +kernel
theorem d_law_law_613 : decode b_law_law 613 = .ok (.iadd, 1) := by decide +kernel
theorem d_law_law_614 : decode b_law_law 614 = .ok (.iaload, 1) := by decide +kernel
theorem d_law_law_615 : decode b_law_law 615 = .ok (.invokevirtual 62, 3) := by decide +kernel
theorem d_law_law_618 : decode b_law_law 618 = .ok (.if_icmp .eq 677, 3) := by decide +kernel
theorem d_law_law_656 : decode b_law_law 656 = .ok (.aload_n 1, 1) := by decide +kernel
theorem d_law_law_657 : decode b_law_law 657 = .ok (.aload_n 0, 1) := by decide +kernel
theorem d_law_law_658 : decode b_law_law 658 = .ok (.iload_n 3, 1) := by decide +kernel
theorem d_law_law_659 : decode b_law_law 659 = .ok (.iconst 1, 1) := by decide +kernel
theorem d_law_law_660 : decode b_law_law 660 = .ok (.iadd, 1) := by decide +kernel
theorem d_law_law_661 : decode b_law_law 661 = .ok (.iaload, 1) := by decide +kernel
theorem d_law_law_662 : decode b_law_law 662 = .ok (.invokevirtual 67, 3) := by decide +kernel
theorem d_law_law_665 : decode b_law_law 665 = .ok (.aload_n 2, 1) := by decide +kernel
theorem d_law_law_666 : decode b_law_law 666 = .ok (.aload_n 0, 1) := by decide +kernel
theorem d_law_law_667 : decode b_law_law 667 = .ok (.iload_n 3, 1) := by decide +kernel
theorem d_law_law_668 : decode b_law_law 668 = .ok (.iconst 1, 1) := by decide +kernel
theorem d_law_law_669 : decode b_law_law 669 = .ok (.iadd, 1) := by decide +kernel
theorem d_law_law_670 : decode b_law_law 670 = .ok (.iaload, 1) := by decide +kernel
theorem d_law_law_671 : decode b_law_law 671 = .ok (.invokevirtual 70, 3) := by decide +kernel
theorem d_law_law_674 : decode b_law_law 674 = .ok (.if_icmp .eq 621, 3) := by decide +kernel
theorem d_law_law_765 : decode b_law_law 765 = .ok (.aload_n 1, 1) := by decide +kernel
theorem d_law_law_766 : decode b_law_law 766 = .ok (.aload_n 0, 1) := by decide +kernel
theorem d_law_law_767 : decode b_law_law 767 = .ok (.iload_n 3, 1) := by decide +kernel
theorem d_law_law_768 : decode b_law_law 768 = .ok (.iconst 1, 1) := by decide +kernel
theorem d_law_law_769 : decode b_law_law 769 = .ok (.iadd, 1) := by decide +kernel
theorem d_law_law_770 : decode b_law_law 770 = .ok (.iaload, 1) := by decide +kernel
theorem d_law_law_771 : decode b_law_law 771 = .ok (.aload_n 0, 1) := by decide +kernel
theorem d_law_law_772 : decode b_law_law 772 = .ok (.iload_n 3, 1) := by decide +kernel
theorem d_law_law_773 : decode b_law_law 773 = .ok (.iconst 2, 1) := by decide +kernel
theorem d_law_law_774 : decode b_law_law 774 = .ok (.iadd, 1) := by decide +kernel
theorem d_law_law_775 : decode b_law_law 775 = .ok (.iaload, 1) := by decide +kernel
theorem d_law_law_776 : decode b_law_law 776 = .ok (.aload_n 0, 1) := by decide +kernel
theorem d_law_law_777 : decode b_law_law 777 = .ok (.iload_n 3, 1) := by decide +kernel
theorem d_law_law_778 : decode b_law_law 778 = .ok (.iconst 3, 1) := by decide +kernel
theorem d_law_law_779 : decode b_law_law 779 = .ok (.iadd, 1) := by decide +kernel
theorem d_law_law_780 : decode b_law_law 780 = .ok (.iaload, 1) := by decide +kernel
theorem d_law_law_781 : decode b_law_law 781 = .ok (.invokevirtual 79, 3) := by decide +kernel
theorem d_law_law_784 : decode b_law_law 784 = .ok (.aload_n 2, 1) := by decide +kernel
theorem d_law_law_785 : decode b_law_law 785 = .ok (.aload_n 0, 1) := by decide +kernel
theorem d_law_law_786 : decode b_law_law 786 = .ok (.iload_n 3, 1) := by decide +kernel
theorem d_law_law_787 : decode b_law_law 787 = .ok (.iconst 1, 1) := by decide +kernel
theorem d_law_law_788 : decode b_law_law 788 = .ok (.iadd, 1) := by decide +kernel
theorem d_law_law_789 : decode b_law_law 789 = .ok (.iaload, 1) := by decide +kernel
theorem d_law_law_790 : decode b_law_law 790 = .ok (.aload_n 0, 1) := by decide +kernel
theorem d_law_law_791 : decode b_law_law 791 = .ok (.iload_n 3, 1) := by decide +kernel
theorem d_law_law_792 : decode b_law_law 792 = .ok (.iconst 2, 1) := by decide +kernel
theorem d_law_law_793 : decode b_law_law 793 = .ok (.iadd, 1) := by decide +kernel
theorem d_law_law_794 : decode b_law_law 794 = .ok (.iaload, 1) := by decide +kernel
theorem d_law_law_795 : decode b_law_law 795 = .ok (.aload_n 0, 1) := by decide +kernel
theorem d_law_law_796 : decode b_law_law 796 = .ok (.iload_n 3, 1) := by decide +kernel
theorem d_law_law_797 : decode b_law_law 797 = .ok (.iconst 3, 1) := by decide +kernel
theorem d_law_law_798 : decode b_law_law 798 = .ok (.iadd, 1) := by decide +kernel
theorem d_law_law_799 : decode b_law_law 799 = .ok (.iaload, 1) := by decide +kernel
theorem d_law_law_800 : decode b_law_law 800 = .ok (.invokevirtual 82, 3) := by decide +kernel
theorem d_law_law_803 : decode b_law_law 803 = .ok (.if_icmp .eq 492, 3) := by decide +kernel
set_option maxRecDepth 100000 in
set_option maxHeartbeats 4000000 in
/-- DrawingHouse.fault(I)I -/
theorem c_Ho_fault_z1 (l : Launch) (D : va_G) (kA : Nat → ClassId) (a0 : Nat) (v1 : Int32) (a1 : Nat) (a2 : Nat) (a3 : Nat) (a4 : Nat) (a5 : Nat) (a6 : Nat) (a7 : Nat) (a8 : Nat) (a9 : Nat) (a10 : Nat) (a11 : Nat) (a12 : Nat) (a13 : Nat) : Ci l y_Ho_fault z_Ho_fault { frames := 0, cells := 0, slots := 0, locals := 0 } D classes (TY kA) [.ref a0, .int v1] [[(a0, .inr (12, [.ref a1, .ref a2, .ref a3, .ref a4, .ref a5, .ref a6, .ref a7, .int 0, .int ((-1)), .ref a8, .ref a9, .int 0, .int 0, .ref a10, .int 0, .int 0, .null, .null, .null, .null, .null]))], [(a5, .inr (8, [.ref a11, .int 0, .int ((-1)), .int ((-1)), .ref a12, .int 0, .int 0, .int 0, .int 0, .int 0, .ref a13, .int 0]))]] (fun r (_ : List va_W) => r = (-1)) (fun u => u) 0 0 := by
  intro sz
  refine k_met (cc := b_Ho_fault) (maxL := 2) (ret := (some .int)) (by decide) rfl (Nat.le_of_ble_eq_true rfl) (fun p e s m below meth c ls X hl hB => ?_)
  obtain ⟨hsz, hP, hK, hD0, hN⟩ := hB
  subst hsz
  have hD := hD0.self (sz := s.heap.size)
  generalize hAe : va_A (cat [[(a0, .inr (12, [.ref a1, .ref a2, .ref a3, .ref a4, .ref a5, .ref a6, .ref a7, .int 0, .int ((-1)), .ref a8, .ref a9, .int 0, .int 0, .ref a10, .int 0, .int 0, .null, .null, .null, .null, .null]))], [(a5, .inr (8, [.ref a11, .int 0, .int ((-1)), .int ((-1)), .ref a12, .int 0, .int 0, .int 0, .int 0, .int 0, .ref a13, .int 0]))]]) s.heap.size = A at hD ⊢
  have hA : ∀ q : Nat, s.heap.size ≤ q → A q := fun q h => by rw [← hAe]; exact Or.inr h
  have hS : va_S A s.heap s.heap [] := va_S.rf
  obtain ⟨hx, hb, hml, hown, hts, hr, hlk, hnm⟩ := id X
  have hl : lv_has ls 2 [(0, .ref a0), (1, .int v1)] := hl
  have hP : va_P D classes (cat [[(a0, .inr (12, [.ref a1, .ref a2, .ref a3, .ref a4, .ref a5, .ref a6, .ref a7, .int 0, .int ((-1)), .ref a8, .ref a9, .int 0, .int 0, .ref a10, .int 0, .int 0, .null, .null, .null, .null, .null]))], [(a5, .inr (8, [.ref a11, .int 0, .int ((-1)), .int ((-1)), .ref a12, .int 0, .int 0, .int 0, .int 0, .int 0, .ref a13, .int 0]))]]) s.heap := hP
  have hK : va_K D classes (TY kA) s := hK
  refine lv_iload_n (pc := 0) hx hb d_Ho_fault_0 rfl (lv_at hl 1 rfl) ?_
  refine lv_if_ne (pc := 1) (tgt := 12) hx hb d_Ho_fault_1 (by decide) (fun ck1 => ?_) (fun ck1 => ?_)
  · refine lv_iload_n (pc := 12) hx hb d_Ho_fault_12 rfl (lv_at hl 1 rfl) ?_
    refine lv_iconst (pc := 13) (v := 1) hx hb d_Ho_fault_13 (by decide) ?_
    refine lv_icmp_ne (pc := 14) (tgt := 27) hx hb d_Ho_fault_14 (by decide) (fun ck2 => ?_) (fun ck2 => ?_)
    · refine lv_iconst (pc := 27) (v := -1) hx hb d_Ho_fault_27 (by decide) ?_
      refine W.widen (k := 0) (n := 0) (Nat.le_of_ble_eq_true rfl) (Nat.le_of_ble_eq_true rfl) ?_
      exact W.iret (v := (-1)) hx hb hr (fun t ht hW => ⟨⟨(-1), [[(a0, .inr (12, [.ref a1, .ref a2, .ref a3, .ref a4, .ref a5, .ref a6, .ref a7, .int 0, .int ((-1)), .ref a8, .ref a9, .int 0, .int 0, .ref a10, .int 0, .int 0, .null, .null, .null, .null, .null]))], [(a5, .inr (8, [.ref a11, .int 0, .int ((-1)), .int ((-1)), .ref a12, .int 0, .int 0, .int 0, .int 0, .int 0, .ref a13, .int 0]))]], rfl, rfl, by rw [ht]; exact hP, va_K.moved hW.alike hK, hD⟩, hS.F ht⟩) hS.2.2 d_Ho_fault_28
    · refine lv_aload_n (pc := 17) hx hb d_Ho_fault_17 rfl (lv_at hl 0 rfl) ?_
      refine k_get (pc := 18) X hK hP 0 rfl rfl i_Ho 4 (by decide) wm_559 rfl rfl d_Ho_fault_18 ?_
      refine k_get (pc := 21) X hK hP 1 rfl rfl i_Re 3 (by decide) wm_201 rfl rfl d_Ho_fault_21 ?_
      refine lv_goto (pc := 24) (tgt := 28) hx hb d_Ho_fault_24 (by decide) ?_
      refine W.widen (k := 0) (n := 0) (Nat.le_of_ble_eq_true rfl) (Nat.le_of_ble_eq_true rfl) ?_
      exact W.iret (v := (-1)) hx hb hr (fun t ht hW => ⟨⟨(-1), [[(a0, .inr (12, [.ref a1, .ref a2, .ref a3, .ref a4, .ref a5, .ref a6, .ref a7, .int 0, .int ((-1)), .ref a8, .ref a9, .int 0, .int 0, .ref a10, .int 0, .int 0, .null, .null, .null, .null, .null]))], [(a5, .inr (8, [.ref a11, .int 0, .int ((-1)), .int ((-1)), .ref a12, .int 0, .int 0, .int 0, .int 0, .int 0, .ref a13, .int 0]))]], rfl, rfl, by rw [ht]; exact hP, va_K.moved hW.alike hK, hD⟩, hS.F ht⟩) hS.2.2 d_Ho_fault_28
  · refine lv_aload_n (pc := 4) hx hb d_Ho_fault_4 rfl (lv_at hl 0 rfl) ?_
    refine k_get (pc := 5) X hK hP 0 rfl rfl i_Ho 4 (by decide) wm_559 rfl rfl d_Ho_fault_5 ?_
    refine k_get (pc := 8) X hK hP 1 rfl rfl i_Re 2 (by decide) wm_199 rfl rfl d_Ho_fault_8 ?_
    refine W.widen (k := 0) (n := 0) (Nat.le_of_ble_eq_true rfl) (Nat.le_of_ble_eq_true rfl) ?_
    exact W.iret (v := (-1)) hx hb hr (fun t ht hW => ⟨⟨(-1), [[(a0, .inr (12, [.ref a1, .ref a2, .ref a3, .ref a4, .ref a5, .ref a6, .ref a7, .int 0, .int ((-1)), .ref a8, .ref a9, .int 0, .int 0, .ref a10, .int 0, .int 0, .null, .null, .null, .null, .null]))], [(a5, .inr (8, [.ref a11, .int 0, .int ((-1)), .int ((-1)), .ref a12, .int 0, .int 0, .int 0, .int 0, .int 0, .ref a13, .int 0]))]], rfl, rfl, by rw [ht]; exact hP, va_K.moved hW.alike hK, hD⟩, hS.F ht⟩) hS.2.2 d_Ho_fault_11
set_option maxRecDepth 100000 in
set_option maxHeartbeats 4000000 in
/-- DrawingHouseModel.fault(I)I -/
theorem c_Mo_fault_z1 (l : Launch) (D : va_G) (kA : Nat → ClassId) (a0 : Nat) (v1 : Int32) (qm : Nat → Nat) : Ci l y_Mo_fault z_Mo_fault { frames := 0, cells := 0, slots := 0, locals := 0 } D classes (TY kA) [.ref a0, .int v1] [[(a0, .inr (13, mF qm x0Mo y0Mo))]] (fun r (_ : List va_W) => r = (-1)) (fun u => u) 0 0 := by
  intro sz
  refine k_met (cc := b_Mo_fault) (maxL := 2) (ret := (some .int)) (by decide) rfl (Nat.le_of_ble_eq_true rfl) (fun p e s m below meth c ls X hl hB => ?_)
  obtain ⟨hsz, hP, hK, hD0, hN⟩ := hB
  subst hsz
  have hD := hD0.self (sz := s.heap.size)
  generalize hAe : va_A (cat [[(a0, .inr (13, mF qm x0Mo y0Mo))]]) s.heap.size = A at hD ⊢
  have hA : ∀ q : Nat, s.heap.size ≤ q → A q := fun q h => by rw [← hAe]; exact Or.inr h
  have hS : va_S A s.heap s.heap [] := va_S.rf
  obtain ⟨hx, hb, hml, hown, hts, hr, hlk, hnm⟩ := id X
  have hl : lv_has ls 2 [(0, .ref a0), (1, .int v1)] := hl
  have hP : va_P D classes (cat [[(a0, .inr (13, mF qm x0Mo y0Mo))]]) s.heap := hP
  have hK : va_K D classes (TY kA) s := hK
  refine lv_aload_n (pc := 0) hx hb d_Mo_fault_0 rfl (lv_at hl 0 rfl) ?_
  refine k_get (pc := 1) (v := .int 0) X hK hP 0 rfl rfl i_Mo 7 (by decide) wm_2440 rfl rfl d_Mo_fault_1 ?_
  refine lv_if_eq (pc := 4) (tgt := 16) hx hb d_Mo_fault_4 (by decide) (fun c1 => ?_) (fun c1 => absurd (by decide) c1)
  refine lv_iconst (pc := 16) (v := -1) hx hb d_Mo_fault_16 (by decide) ?_
  refine lv_goto (pc := 17) (tgt := 46) hx hb d_Mo_fault_17 (by decide) ?_
  refine W.widen (k := 0) (n := 0) (Nat.le_of_ble_eq_true rfl) (Nat.le_of_ble_eq_true rfl) ?_
  exact W.iret (v := (-1)) hx hb hr (fun t ht hW => ⟨⟨(-1), [[(a0, .inr (13, mF qm x0Mo y0Mo))]], rfl, rfl, by rw [ht]; exact hP, va_K.moved hW.alike hK, hD⟩, hS.F ht⟩) hS.2.2 d_Mo_fault_46
set_option maxRecDepth 100000 in
set_option maxHeartbeats 4000000 in
/-- fault, a fresh house -/
theorem lf_fault_1 {p : Program} {e : Env} {s : State} {m : MethodId} {below : List Frame} {meth : Method} {c : Code} (l : Launch) {b : Nat} {xs : Nat → Int32} (C0 : lw_At p s m meth c b 6 xs) {D : va_G} {kA : Nat → ClassId} (h : Nat) (h2 : Nat) (q : Nat → Nat) (qr : Nat → Nat) (qm : Nat → Nat) (v1 : Int32) (hv1 : xs 1 = v1) {H : Heap} {locs : List Loc} {ls : Array Slot} (hK : va_K D classes (TY kA) s) (hN : nst s) (hP : va_P D classes (cat [[(h, .inr (12, [.ref (q 0), .ref (q 1), .ref (q 2), .ref (q 3), .ref (q 4), .ref (q 5), .ref (q 6), .int 0, .int ((-1)), .ref (q 9), .ref (q 10), .int 0, .int 0, .ref (q 13), .int 0, .int 0, .null, .null, .null, .null, .null]))], [(q 4, .inr (8, [.ref (qr 0), .int 0, .int ((-1)), .int ((-1)), .ref (qr 4), .int 0, .int 0, .int 0, .int 0, .int 0, .ref (qr 10), .int 0]))], [(h2, .inr (13, mF qm x0Mo y0Mo))]]) H) (hD : va_D (fun q : Nat => s.heap.size ≤ q) (cat [[(h, .inr (12, [.ref (q 0), .ref (q 1), .ref (q 2), .ref (q 3), .ref (q 4), .ref (q 5), .ref (q 6), .int 0, .int ((-1)), .ref (q 9), .ref (q 10), .int 0, .int 0, .ref (q 13), .int 0, .int 0, .null, .null, .null, .null, .null]))], [(q 4, .inr (8, [.ref (qr 0), .int 0, .int ((-1)), .int ((-1)), .ref (qr 4), .int 0, .int 0, .int 0, .int 0, .int 0, .ref (qr 10), .int 0]))], [(h2, .inr (13, mF qm x0Mo y0Mo))]])) (hS : va_S (fun q : Nat => s.heap.size ≤ q) s.heap H locs) (hl : lv_has ls 4 [(3, .int 0), (2, .ref h2), (1, .ref h), (0, .ref b)]) : W p l e room_1 s m #[Value.ref b] below meth c H locs 368 365796 (lw_Z below #[Value.ref b] s) (F0 m 256 ls []) := by
  obtain ⟨hx, hb, hr, hml, hown, hts0, hX, hbl, hlocks, hgv⟩ := id C0
  have hts : ∀ w ∈ lw_g, w.before #[Value.ref b] s = true := fun w h => hts0 w (lw_gt h)
  have X : cx p s m #[Value.ref b] meth c b_law_law 4 ret "DrawingHouseLaw" meth.name := ⟨hx, hb, hml, hown, hts, hr, hlocks, rfl⟩
  obtain ⟨A, hAe⟩ : ∃ A : Nat → Prop, A = fun q : Nat => s.heap.size ≤ q := ⟨_, rfl⟩
  have hA : ∀ q : Nat, s.heap.size ≤ q → A q := fun q h => by rw [hAe]; exact h
  have hbA : ¬ A b := by rw [hAe]; exact Nat.not_le.mpr hbl
  rw [← hAe] at hD hS
  refine lv_aload_n (pc := 256) hx hb d_law_law_256 rfl (lv_at hl 2 rfl) ?_
  refine lv_aload_n (pc := 257) hx hb d_law_law_257 rfl (lv_at hl 3 rfl) ?_
  refine lv_iload_n (pc := 258) hx hb d_law_law_258 rfl (lv_at hl 0 rfl) ?_
  refine lv_iconst (pc := 259) (v := 1) hx hb d_law_law_259 (by decide) ?_
  refine lv_iadd (pc := 260) hx hb d_law_law_260 ?_
  refine k_cst (v := 1) (by decide) ?_
  refine va_sld (pc := 261) hx hb hX hbl hbA hS (by unfold vp_in; decide) d_law_law_261 ?_
  refine k_cst (v := v1) hv1 ?_
  refine k_goI (gr := [[(h2, .inr (13, mF qm x0Mo y0Mo))]]) (k_rV (pc := 262) (As := [.int v1]) (rest := []) X (c_Ho_fault_z1 l D kA h v1 (q 0) (q 1) (q 2) (q 3) (q 4) (q 5) (q 6) (q 9) (q 10) (q 13) (qr 0) (qr 4) (qr 10) H.size) rfl wm_802 wm_1 wm_799 wm_800 wm_801 1 (by decide +kernel) ⟨Nat.le_of_ble_eq_true rfl, Nat.le_of_ble_eq_true rfl⟩ rfl rfl (va_recv hK hP (ci := 12) (q0 := 0) rfl rfl) (k_pre hN hK hP hD [0, 1] [2] 3 rfl (by decide) rfl) rfl hl.1 rfl (Nat.le_of_ble_eq_true rfl) d_law_law_262 ⟨Nat.le_of_ble_eq_true rfl, Nat.le_of_ble_eq_true rfl⟩) hP hD hS hA [0, 1] [2] 3 rfl (by decide) rfl rfl (fun r1 u2 H locs hu2 hP hD hS => ?_)
  obtain ⟨hP, hD⟩ := k_left hP hD
  subst hu2
  have hP : va_P D classes (cat [[(h2, .inr (13, mF qm x0Mo y0Mo))]]) H := hP
  have hD : va_D A (cat [[(h2, .inr (13, mF qm x0Mo y0Mo))]]) := hD
  refine lv_aload_n (pc := 265) hx hb d_law_law_265 rfl (lv_at hl 1 rfl) ?_
  refine lv_aload_n (pc := 266) hx hb d_law_law_266 rfl (lv_at hl 3 rfl) ?_
  refine lv_iload_n (pc := 267) hx hb d_law_law_267 rfl (lv_at hl 0 rfl) ?_
  refine lv_iconst (pc := 268) (v := 1) hx hb d_law_law_268 (by decide) ?_
  refine lv_iadd (pc := 269) hx hb d_law_law_269 ?_
  refine k_cst (v := 1) (by decide) ?_
  refine va_sld (pc := 270) hx hb hX hbl hbA hS (by unfold vp_in; decide) d_law_law_270 ?_
  refine k_cst (v := v1) hv1 ?_
  refine k_goI (gr := []) (k_rV (pc := 271) (As := [.int v1]) (rest := [.int ((-1))]) X (c_Mo_fault_z1 l D kA h2 v1 qm H.size) rfl wm_2968 wm_9 wm_2965 wm_2966 wm_2967 1 (by decide +kernel) ⟨Nat.le_of_ble_eq_true rfl, Nat.le_of_ble_eq_true rfl⟩ rfl rfl (va_recv hK hP (ci := 13) (q0 := 0) rfl rfl) (k_pre hN hK hP hD [0] [] 1 rfl (by decide) rfl) rfl hl.1 rfl (Nat.le_of_ble_eq_true rfl) d_law_law_271 ⟨Nat.le_of_ble_eq_true rfl, Nat.le_of_ble_eq_true rfl⟩) hP hD hS hA [0] [] 1 rfl (by decide) rfl rfl (fun r3 u4 H locs hu4 hP hD hS => ?_)
  obtain ⟨hP, hD⟩ := k_left hP hD
  subst hu4
  have hP : va_P D classes (cat []) H := hP
  have hD : va_D A (cat []) := hD
  refine lv_icmp_eq (pc := 274) (tgt := 1295) hx hb d_law_law_274 (by decide) (fun _ => ?_) (fun c1 => absurd (by decide) c1)
  rw [hAe] at hS
  exact law_exit l C0 (Nat.le_of_ble_eq_true rfl) (Nat.le_of_ble_eq_true rfl) hS hl
set_option maxRecDepth 100000 in
set_option maxHeartbeats 4000000 in
/-- DrawingHouse.node(III)I -/
theorem c_Ho_node_z1 (l : Launch) (D : va_G) (kA : Nat → ClassId) (a0 : Nat) (v1 : Int32) (v2 : Int32) (v3 : Int32) (hg : sp_Ho_isPlace v1 = 0) (hgM : sp_Mo_isPlace v1 = 0) : Ci l y_Ho_node z_Ho_node { frames := 1, cells := 0, slots := 0, locals := 20 } D classes (TY kA) [.ref a0, .int v1, .int v2, .int v3] [] (fun r (_ : List va_W) => r = (-1)) (fun u => u) 0 0 := by
  intro sz
  refine k_met (cc := b_Ho_node) (maxL := 4) (ret := (some .int)) (by decide) rfl (Nat.le_of_ble_eq_true rfl) (fun p e s m below meth c ls X hl hB => ?_)
  obtain ⟨hsz, hP, hK, hD0, hN⟩ := hB
  subst hsz
  have hD := hD0.self (sz := s.heap.size)
  generalize hAe : va_A (cat []) s.heap.size = A at hD ⊢
  have hA : ∀ q : Nat, s.heap.size ≤ q → A q := fun q h => by rw [← hAe]; exact Or.inr h
  have hS : va_S A s.heap s.heap [] := va_S.rf
  obtain ⟨hx, hb, hml, hown, hts, hr, hlk, hnm⟩ := id X
  have hl : lv_has ls 4 [(0, .ref a0), (1, .int v1), (2, .int v2), (3, .int v3)] := hl
  have hP : va_P D classes (cat []) s.heap := hP
  have hK : va_K D classes (TY kA) s := hK
  refine lv_iload_n (pc := 0) hx hb d_Ho_node_0 rfl (lv_at hl 1 rfl) ?_
  refine k_goI (gr := []) (k_rS (pc := 1) (As := [.int v1]) (rest := []) X (c_Ho_isPlace l D kA v1 s.heap.size) rfl wm_633 wm_1 wm_631 wm_632 1 (by decide +kernel) ⟨Nat.le_of_ble_eq_true rfl, Nat.le_of_ble_eq_true rfl⟩ rfl rfl (k_pre hN hK hP hD [] [] 0 rfl (by decide) rfl) rfl hl.1 rfl (Nat.le_of_ble_eq_true rfl) d_Ho_node_1 ⟨Nat.le_of_ble_eq_true rfl, Nat.le_of_ble_eq_true rfl⟩) hP hD hS hA [] [] 0 rfl (by decide) rfl rfl (fun r1 u2 H locs hu2 hP hD hS => ?_)
  subst hu2
  have hP : va_P D classes (cat []) H := hP
  have hD : va_D A (cat []) := hD
  refine lv_if_eq (pc := 4) (tgt := 20) hx hb d_Ho_node_4 (by decide) (fun c1 => ?_) (fun c1 => absurd (hg) c1)
  refine lv_iconst (pc := 20) (v := -1) hx hb d_Ho_node_20 (by decide) ?_
  refine W.widen (k := 0) (n := 0) (Nat.le_of_ble_eq_true rfl) (Nat.le_of_ble_eq_true rfl) ?_
  exact W.iret (v := (-1)) hx hb hr (fun t ht hW => ⟨⟨(-1), [], rfl, rfl, by rw [ht]; exact hP, va_K.moved hW.alike hK, hD⟩, hS.F ht⟩) hS.2.2 d_Ho_node_21
set_option maxRecDepth 100000 in
set_option maxHeartbeats 4000000 in
/-- DrawingHouseModel.node(III)I -/
theorem c_Mo_node_z1 (l : Launch) (D : va_G) (kA : Nat → ClassId) (a0 : Nat) (v1 : Int32) (v2 : Int32) (v3 : Int32) (hg : sp_Ho_isPlace v1 = 0) (hgM : sp_Mo_isPlace v1 = 0) : Ci l y_Mo_node z_Mo_node { frames := 2, cells := 0, slots := 0, locals := 42 } D classes (TY kA) [.ref a0, .int v1, .int v2, .int v3] [] (fun r (_ : List va_W) => r = (-1)) (fun u => u) 0 0 := by
  intro sz
  refine k_met (cc := b_Mo_node) (maxL := 7) (ret := (some .int)) (by decide) rfl (Nat.le_of_ble_eq_true rfl) (fun p e s m below meth c ls X hl hB => ?_)
  obtain ⟨hsz, hP, hK, hD0, hN⟩ := hB
  subst hsz
  have hD := hD0.self (sz := s.heap.size)
  generalize hAe : va_A (cat []) s.heap.size = A at hD ⊢
  have hA : ∀ q : Nat, s.heap.size ≤ q → A q := fun q h => by rw [← hAe]; exact Or.inr h
  have hS : va_S A s.heap s.heap [] := va_S.rf
  obtain ⟨hx, hb, hml, hown, hts, hr, hlk, hnm⟩ := id X
  have hl : lv_has ls 7 [(0, .ref a0), (1, .int v1), (2, .int v2), (3, .int v3)] := hl
  have hP : va_P D classes (cat []) s.heap := hP
  have hK : va_K D classes (TY kA) s := hK
  refine lv_iload_n (pc := 0) hx hb d_Mo_node_0 rfl (lv_at hl 1 rfl) ?_
  refine k_goI (gr := []) (k_rS (pc := 1) (As := [.int v1]) (rest := []) X (c_Mo_isPlace l D kA v1 s.heap.size) rfl wm_2978 wm_9 wm_2976 wm_2977 1 (by decide +kernel) ⟨Nat.le_of_ble_eq_true rfl, Nat.le_of_ble_eq_true rfl⟩ rfl rfl (k_pre hN hK hP hD [] [] 0 rfl (by decide) rfl) rfl hl.1 rfl (Nat.le_of_ble_eq_true rfl) d_Mo_node_1 ⟨Nat.le_of_ble_eq_true rfl, Nat.le_of_ble_eq_true rfl⟩) hP hD hS hA [] [] 0 rfl (by decide) rfl rfl (fun r1 u2 H locs hu2 hP hD hS => ?_)
  subst hu2
  have hP : va_P D classes (cat []) H := hP
  have hD : va_D A (cat []) := hD
  refine lv_if_ne (pc := 4) (tgt := 9) hx hb d_Mo_node_4 (by decide) (fun c1 => absurd (hgM) c1) (fun c1 => ?_)
  refine lv_iconst (pc := 7) (v := -1) hx hb d_Mo_node_7 (by decide) ?_
  refine W.widen (k := 0) (n := 0) (Nat.le_of_ble_eq_true rfl) (Nat.le_of_ble_eq_true rfl) ?_
  exact W.iret (v := (-1)) hx hb hr (fun t ht hW => ⟨⟨(-1), [], rfl, rfl, by rw [ht]; exact hP, va_K.moved hW.alike hK, hD⟩, hS.F ht⟩) hS.2.2 d_Mo_node_8
set_option maxRecDepth 100000 in
set_option maxHeartbeats 4000000 in
/-- node, a fresh house -/
theorem lf_node_1 {p : Program} {e : Env} {s : State} {m : MethodId} {below : List Frame} {meth : Method} {c : Code} (l : Launch) {b : Nat} {xs : Nat → Int32} (C0 : lw_At p s m meth c b 6 xs) {D : va_G} {kA : Nat → ClassId} (h : Nat) (h2 : Nat) (q : Nat → Nat) (qm : Nat → Nat) (v1 : Int32) (v2 : Int32) (v3 : Int32) (hg : sp_Ho_isPlace v1 = 0) (hgM : sp_Mo_isPlace v1 = 0) (hv1 : xs 1 = v1) (hv2 : xs 2 = v2) (hv3 : xs 3 = v3) {H : Heap} {locs : List Loc} {ls : Array Slot} (hK : va_K D classes (TY kA) s) (hN : nst s) (hP : va_P D classes (cat [[(h, .inr (12, [.ref (q 0), .ref (q 1), .ref (q 2), .ref (q 3), .ref (q 4), .ref (q 5), .ref (q 6), .int 0, .int ((-1)), .ref (q 9), .ref (q 10), .int 0, .int 0, .ref (q 13), .int 0, .int 0, .null, .null, .null, .null, .null]))], [(h2, .inr (13, mF qm x0Mo y0Mo))]]) H) (hD : va_D (fun q : Nat => s.heap.size ≤ q) (cat [[(h, .inr (12, [.ref (q 0), .ref (q 1), .ref (q 2), .ref (q 3), .ref (q 4), .ref (q 5), .ref (q 6), .int 0, .int ((-1)), .ref (q 9), .ref (q 10), .int 0, .int 0, .ref (q 13), .int 0, .int 0, .null, .null, .null, .null, .null]))], [(h2, .inr (13, mF qm x0Mo y0Mo))]])) (hS : va_S (fun q : Nat => s.heap.size ≤ q) s.heap H locs) (hl : lv_has ls 4 [(3, .int 0), (2, .ref h2), (1, .ref h), (0, .ref b)]) : W p l e room_1 s m #[Value.ref b] below meth c H locs 368 365796 (lw_Z below #[Value.ref b] s) (F0 m 312 ls []) := by
  obtain ⟨hx, hb, hr, hml, hown, hts0, hX, hbl, hlocks, hgv⟩ := id C0
  have hts : ∀ w ∈ lw_g, w.before #[Value.ref b] s = true := fun w h => hts0 w (lw_gt h)
  have X : cx p s m #[Value.ref b] meth c b_law_law 4 ret "DrawingHouseLaw" meth.name := ⟨hx, hb, hml, hown, hts, hr, hlocks, rfl⟩
  obtain ⟨A, hAe⟩ : ∃ A : Nat → Prop, A = fun q : Nat => s.heap.size ≤ q := ⟨_, rfl⟩
  have hA : ∀ q : Nat, s.heap.size ≤ q → A q := fun q h => by rw [hAe]; exact h
  have hbA : ¬ A b := by rw [hAe]; exact Nat.not_le.mpr hbl
  rw [← hAe] at hD hS
  refine lv_aload_n (pc := 312) hx hb d_law_law_312 rfl (lv_at hl 2 rfl) ?_
  refine lv_aload_n (pc := 313) hx hb d_law_law_313 rfl (lv_at hl 3 rfl) ?_
  refine lv_iload_n (pc := 314) hx hb d_law_law_314 rfl (lv_at hl 0 rfl) ?_
  refine lv_iconst (pc := 315) (v := 1) hx hb d_law_law_315 (by decide) ?_
  refine lv_iadd (pc := 316) hx hb d_law_law_316 ?_
  refine k_cst (v := 1) (by decide) ?_
  refine va_sld (pc := 317) hx hb hX hbl hbA hS (by unfold vp_in; decide) d_law_law_317 ?_
  refine k_cst (v := v1) hv1 ?_
  refine lv_aload_n (pc := 318) hx hb d_law_law_318 rfl (lv_at hl 3 rfl) ?_
  refine lv_iload_n (pc := 319) hx hb d_law_law_319 rfl (lv_at hl 0 rfl) ?_
  refine lv_iconst (pc := 320) (v := 2) hx hb d_law_law_320 (by decide) ?_
  refine lv_iadd (pc := 321) hx hb d_law_law_321 ?_
  refine k_cst (v := 2) (by decide) ?_
  refine va_sld (pc := 322) hx hb hX hbl hbA hS (by unfold vp_in; decide) d_law_law_322 ?_
  refine k_cst (v := v2) hv2 ?_
  refine lv_aload_n (pc := 323) hx hb d_law_law_323 rfl (lv_at hl 3 rfl) ?_
  refine lv_iload_n (pc := 324) hx hb d_law_law_324 rfl (lv_at hl 0 rfl) ?_
  refine lv_iconst (pc := 325) (v := 3) hx hb d_law_law_325 (by decide) ?_
  refine lv_iadd (pc := 326) hx hb d_law_law_326 ?_
  refine k_cst (v := 3) (by decide) ?_
  refine va_sld (pc := 327) hx hb hX hbl hbA hS (by unfold vp_in; decide) d_law_law_327 ?_
  refine k_cst (v := v3) hv3 ?_
  refine k_goI (gr := [[(h, .inr (12, [.ref (q 0), .ref (q 1), .ref (q 2), .ref (q 3), .ref (q 4), .ref (q 5), .ref (q 6), .int 0, .int ((-1)), .ref (q 9), .ref (q 10), .int 0, .int 0, .ref (q 13), .int 0, .int 0, .null, .null, .null, .null, .null]))], [(h2, .inr (13, mF qm x0Mo y0Mo))]]) (k_rV (pc := 328) (As := [.int v1, .int v2, .int v3]) (rest := []) X (c_Ho_node_z1 l D kA h v1 v2 v3 hg hgM H.size) rfl wm_917 wm_1 wm_914 wm_915 wm_916 3 (by decide +kernel) ⟨Nat.le_of_ble_eq_true rfl, Nat.le_of_ble_eq_true rfl⟩ rfl rfl (va_recv hK hP (ci := 12) (q0 := 0) rfl rfl) (k_pre hN hK hP hD [] [0, 1] 2 rfl (by decide) rfl) rfl hl.1 rfl (Nat.le_of_ble_eq_true rfl) d_law_law_328 ⟨Nat.le_of_ble_eq_true rfl, Nat.le_of_ble_eq_true rfl⟩) hP hD hS hA [] [0, 1] 2 rfl (by decide) rfl rfl (fun r1 u2 H locs hu2 hP hD hS => ?_)
  obtain ⟨hP, hD⟩ := k_left hP hD
  subst hu2
  have hP : va_P D classes (cat [[(h, .inr (12, [.ref (q 0), .ref (q 1), .ref (q 2), .ref (q 3), .ref (q 4), .ref (q 5), .ref (q 6), .int 0, .int ((-1)), .ref (q 9), .ref (q 10), .int 0, .int 0, .ref (q 13), .int 0, .int 0, .null, .null, .null, .null, .null]))], [(h2, .inr (13, mF qm x0Mo y0Mo))]]) H := hP
  have hD : va_D A (cat [[(h, .inr (12, [.ref (q 0), .ref (q 1), .ref (q 2), .ref (q 3), .ref (q 4), .ref (q 5), .ref (q 6), .int 0, .int ((-1)), .ref (q 9), .ref (q 10), .int 0, .int 0, .ref (q 13), .int 0, .int 0, .null, .null, .null, .null, .null]))], [(h2, .inr (13, mF qm x0Mo y0Mo))]]) := hD
  refine lv_aload_n (pc := 331) hx hb d_law_law_331 rfl (lv_at hl 1 rfl) ?_
  refine lv_aload_n (pc := 332) hx hb d_law_law_332 rfl (lv_at hl 3 rfl) ?_
  refine lv_iload_n (pc := 333) hx hb d_law_law_333 rfl (lv_at hl 0 rfl) ?_
  refine lv_iconst (pc := 334) (v := 1) hx hb d_law_law_334 (by decide) ?_
  refine lv_iadd (pc := 335) hx hb d_law_law_335 ?_
  refine k_cst (v := 1) (by decide) ?_
  refine va_sld (pc := 336) hx hb hX hbl hbA hS (by unfold vp_in; decide) d_law_law_336 ?_
  refine k_cst (v := v1) hv1 ?_
  refine lv_aload_n (pc := 337) hx hb d_law_law_337 rfl (lv_at hl 3 rfl) ?_
  refine lv_iload_n (pc := 338) hx hb d_law_law_338 rfl (lv_at hl 0 rfl) ?_
  refine lv_iconst (pc := 339) (v := 2) hx hb d_law_law_339 (by decide) ?_
  refine lv_iadd (pc := 340) hx hb d_law_law_340 ?_
  refine k_cst (v := 2) (by decide) ?_
  refine va_sld (pc := 341) hx hb hX hbl hbA hS (by unfold vp_in; decide) d_law_law_341 ?_
  refine k_cst (v := v2) hv2 ?_
  refine lv_aload_n (pc := 342) hx hb d_law_law_342 rfl (lv_at hl 3 rfl) ?_
  refine lv_iload_n (pc := 343) hx hb d_law_law_343 rfl (lv_at hl 0 rfl) ?_
  refine lv_iconst (pc := 344) (v := 3) hx hb d_law_law_344 (by decide) ?_
  refine lv_iadd (pc := 345) hx hb d_law_law_345 ?_
  refine k_cst (v := 3) (by decide) ?_
  refine va_sld (pc := 346) hx hb hX hbl hbA hS (by unfold vp_in; decide) d_law_law_346 ?_
  refine k_cst (v := v3) hv3 ?_
  refine k_goI (gr := [[(h, .inr (12, [.ref (q 0), .ref (q 1), .ref (q 2), .ref (q 3), .ref (q 4), .ref (q 5), .ref (q 6), .int 0, .int ((-1)), .ref (q 9), .ref (q 10), .int 0, .int 0, .ref (q 13), .int 0, .int 0, .null, .null, .null, .null, .null]))], [(h2, .inr (13, mF qm x0Mo y0Mo))]]) (k_rV (pc := 347) (As := [.int v1, .int v2, .int v3]) (rest := [.int ((-1))]) X (c_Mo_node_z1 l D kA h2 v1 v2 v3 hg hgM H.size) rfl wm_3303 wm_9 wm_3300 wm_3301 wm_3302 3 (by decide +kernel) ⟨Nat.le_of_ble_eq_true rfl, Nat.le_of_ble_eq_true rfl⟩ rfl rfl (va_recv hK hP (ci := 13) (q0 := 1) rfl rfl) (k_pre hN hK hP hD [] [0, 1] 2 rfl (by decide) rfl) rfl hl.1 rfl (Nat.le_of_ble_eq_true rfl) d_law_law_347 ⟨Nat.le_of_ble_eq_true rfl, Nat.le_of_ble_eq_true rfl⟩) hP hD hS hA [] [0, 1] 2 rfl (by decide) rfl rfl (fun r3 u4 H locs hu4 hP hD hS => ?_)
  obtain ⟨hP, hD⟩ := k_left hP hD
  subst hu4
  have hP : va_P D classes (cat [[(h, .inr (12, [.ref (q 0), .ref (q 1), .ref (q 2), .ref (q 3), .ref (q 4), .ref (q 5), .ref (q 6), .int 0, .int ((-1)), .ref (q 9), .ref (q 10), .int 0, .int 0, .ref (q 13), .int 0, .int 0, .null, .null, .null, .null, .null]))], [(h2, .inr (13, mF qm x0Mo y0Mo))]]) H := hP
  have hD : va_D A (cat [[(h, .inr (12, [.ref (q 0), .ref (q 1), .ref (q 2), .ref (q 3), .ref (q 4), .ref (q 5), .ref (q 6), .int 0, .int ((-1)), .ref (q 9), .ref (q 10), .int 0, .int 0, .ref (q 13), .int 0, .int 0, .null, .null, .null, .null, .null]))], [(h2, .inr (13, mF qm x0Mo y0Mo))]]) := hD
  refine lv_icmp_eq (pc := 350) (tgt := 1295) hx hb d_law_law_350 (by decide) (fun _ => ?_) (fun c1 => absurd (by decide) c1)
  rw [hAe] at hS
  exact law_exit l C0 (Nat.le_of_ble_eq_true rfl) (Nat.le_of_ble_eq_true rfl) hS hl
set_option maxRecDepth 100000 in
set_option maxHeartbeats 4000000 in
/-- DrawingHouse$Graph.hasNode(I)Z -/
theorem c_Gr_hasNode_z1 (l : Launch) (D : va_G) (kA : Nat → ClassId) (g : Nat → Nat → Nat) (j : Nat) (v2 : Int32) (a0 : Nat) (a1 : Nat) (a2 : Nat) (a3 : Nat) (a4 : Nat) (a5 : Nat) (a6 : Nat) (a7 : Nat) (a8 : Nat) (a9 : Nat) (a10 : Nat) (a11 : Nat) (a12 : Nat) (hj : j < 4) : Ci l y_Gr_hasNode z_Gr_hasNode { frames := 0, cells := 0, slots := 0, locals := 0 } D classes (TY kA) [.ref (g 0 j), .int v2] [[(g 0 j, .inr (3, [.int 0, .int 0, .int 1, .ref a0, .ref a1, .ref a2, .ref a3, .ref a4, .ref a5, .ref a6, .ref a7, .ref a8, .ref a9, .ref a10, .ref a11, .ref a12, .null, .int 0, .int 0]))]] (fun r (_ : Unit) => r = 0) (fun u => [[(g 0 j, .inr (3, [.int 0, .int 0, .int 1, .ref a0, .ref a1, .ref a2, .ref a3, .ref a4, .ref a5, .ref a6, .ref a7, .ref a8, .ref a9, .ref a10, .ref a11, .ref a12, .null, .int 0, .int 0]))]]) 0 0 := by
  intro sz
  refine k_met (cc := b_Gr_hasNode) (maxL := 2) (ret := (some .boolean)) (by decide) rfl (Nat.le_of_ble_eq_true rfl) (fun p e s m below meth c ls X hl hB => ?_)
  obtain ⟨hsz, hP, hK, hD0, hN⟩ := hB
  subst hsz
  have hD := hD0.self (sz := s.heap.size)
  generalize hAe : va_A (cat [[(g 0 j, .inr (3, [.int 0, .int 0, .int 1, .ref a0, .ref a1, .ref a2, .ref a3, .ref a4, .ref a5, .ref a6, .ref a7, .ref a8, .ref a9, .ref a10, .ref a11, .ref a12, .null, .int 0, .int 0]))]]) s.heap.size = A at hD ⊢
  have hA : ∀ q : Nat, s.heap.size ≤ q → A q := fun q h => by rw [← hAe]; exact Or.inr h
  have hS : va_S A s.heap s.heap [] := va_S.rf
  obtain ⟨hx, hb, hml, hown, hts, hr, hlk, hnm⟩ := id X
  have hl : lv_has ls 2 [(0, .ref (g 0 j)), (1, .int v2)] := hl
  have hP : va_P D classes (cat [[(g 0 j, .inr (3, [.int 0, .int 0, .int 1, .ref a0, .ref a1, .ref a2, .ref a3, .ref a4, .ref a5, .ref a6, .ref a7, .ref a8, .ref a9, .ref a10, .ref a11, .ref a12, .null, .int 0, .int 0]))]]) s.heap := hP
  have hK : va_K D classes (TY kA) s := hK
  refine lv_iload_n (pc := 0) hx hb d_Gr_hasNode_0 rfl (lv_at hl 1 rfl) ?_
  refine lv_if_lt (pc := 1) (tgt := 16) hx hb d_Gr_hasNode_1 (by decide) (fun ck1 => ?_) (fun ck1 => ?_)
  · refine lv_iconst (pc := 16) (v := 0) hx hb d_Gr_hasNode_16 (by decide) ?_
    refine W.widen (k := 0) (n := 0) (Nat.le_of_ble_eq_true rfl) (Nat.le_of_ble_eq_true rfl) ?_
    exact W.zret (v := 0) hx hb hr rfl (fun t ht hW => ⟨⟨0, (), rfl, rfl, by rw [ht]; exact hP, va_K.moved hW.alike hK, hD⟩, hS.F ht⟩) hS.2.2 d_Gr_hasNode_17
  · refine lv_iload_n (pc := 4) hx hb d_Gr_hasNode_4 rfl (lv_at hl 1 rfl) ?_
    refine lv_aload_n (pc := 5) hx hb d_Gr_hasNode_5 rfl (lv_at hl 0 rfl) ?_
    refine k_get (pc := 6) X hK hP 0 rfl rfl i_Gr 0 (by decide) wm_56 rfl rfl d_Gr_hasNode_6 ?_
    refine lv_icmp_ge (pc := 9) (tgt := 16) hx hb d_Gr_hasNode_9 (by decide) (fun c1 => ?_) (fun c1 => absurd (Int32.not_lt.mp ck1) c1)
    refine lv_iconst (pc := 16) (v := 0) hx hb d_Gr_hasNode_16 (by decide) ?_
    refine W.widen (k := 0) (n := 0) (Nat.le_of_ble_eq_true rfl) (Nat.le_of_ble_eq_true rfl) ?_
    exact W.zret (v := 0) hx hb hr rfl (fun t ht hW => ⟨⟨0, (), rfl, rfl, by rw [ht]; exact hP, va_K.moved hW.alike hK, hD⟩, hS.F ht⟩) hS.2.2 d_Gr_hasNode_17
set_option maxRecDepth 100000 in
set_option maxHeartbeats 4000000 in
/-- DrawingHouse.node(III)I -/
theorem c_Ho_node_z2 (l : Launch) (D : va_G) (kA : Nat → ClassId) (a0 : Nat) (j : Nat) (v2 : Int32) (v3 : Int32) (a1 : Nat) (a2 : Nat) (a3 : Nat) (a4 : Nat) (a5 : Nat) (a6 : Nat) (a7 : Nat) (a8 : Nat) (a9 : Nat) (a10 : Nat) (g : Nat → Nat → Nat) (a11 : Nat) (a12 : Nat) (a13 : Nat) (a14 : Nat) (a15 : Nat) (a16 : Nat) (a17 : Nat) (a18 : Nat) (a19 : Nat) (a20 : Nat) (a21 : Nat) (a22 : Nat) (a23 : Nat) (hj : j < 4) : Ci l y_Ho_node z_Ho_node { frames := 1, cells := 0, slots := 0, locals := 21 } D classes (TY kA) [.ref a0, .int (nI j), .int v2, .int v3] [[(a0, .inr (12, [.ref a1, .ref a2, .ref a3, .ref a4, .ref a5, .ref a6, .ref a7, .int 0, .int ((-1)), .ref a8, .ref a9, .int 0, .int 0, .ref a10, .int 0, .int 0, .null, .null, .null, .null, .null]))], [(a1, .inl (kA 4, 4, .inr (.inr (.inr (.inr (rr (g 0)))))))], [(g 0 j, .inr (3, [.int 0, .int 0, .int 1, .ref a11, .ref a12, .ref a13, .ref a14, .ref a15, .ref a16, .ref a17, .ref a18, .ref a19, .ref a20, .ref a21, .ref a22, .ref a23, .null, .int 0, .int 0]))]] (fun r (_ : List va_W) => r = (-1)) (fun u => u) 0 0 := by
  intro sz
  refine k_met (cc := b_Ho_node) (maxL := 4) (ret := (some .int)) (by decide) rfl (Nat.le_of_ble_eq_true rfl) (fun p e s m below meth c ls X hl hB => ?_)
  obtain ⟨hsz, hP, hK, hD0, hN⟩ := hB
  subst hsz
  have hD := hD0.self (sz := s.heap.size)
  generalize hAe : va_A (cat [[(a0, .inr (12, [.ref a1, .ref a2, .ref a3, .ref a4, .ref a5, .ref a6, .ref a7, .int 0, .int ((-1)), .ref a8, .ref a9, .int 0, .int 0, .ref a10, .int 0, .int 0, .null, .null, .null, .null, .null]))], [(a1, .inl (kA 4, 4, .inr (.inr (.inr (.inr (rr (g 0)))))))], [(g 0 j, .inr (3, [.int 0, .int 0, .int 1, .ref a11, .ref a12, .ref a13, .ref a14, .ref a15, .ref a16, .ref a17, .ref a18, .ref a19, .ref a20, .ref a21, .ref a22, .ref a23, .null, .int 0, .int 0]))]]) s.heap.size = A at hD ⊢
  have hA : ∀ q : Nat, s.heap.size ≤ q → A q := fun q h => by rw [← hAe]; exact Or.inr h
  have hS : va_S A s.heap s.heap [] := va_S.rf
  obtain ⟨hx, hb, hml, hown, hts, hr, hlk, hnm⟩ := id X
  have hl : lv_has ls 4 [(0, .ref a0), (1, .int (nI j)), (2, .int v2), (3, .int v3)] := hl
  have hP : va_P D classes (cat [[(a0, .inr (12, [.ref a1, .ref a2, .ref a3, .ref a4, .ref a5, .ref a6, .ref a7, .int 0, .int ((-1)), .ref a8, .ref a9, .int 0, .int 0, .ref a10, .int 0, .int 0, .null, .null, .null, .null, .null]))], [(a1, .inl (kA 4, 4, .inr (.inr (.inr (.inr (rr (g 0)))))))], [(g 0 j, .inr (3, [.int 0, .int 0, .int 1, .ref a11, .ref a12, .ref a13, .ref a14, .ref a15, .ref a16, .ref a17, .ref a18, .ref a19, .ref a20, .ref a21, .ref a22, .ref a23, .null, .int 0, .int 0]))]]) s.heap := hP
  have hK : va_K D classes (TY kA) s := hK
  refine lv_iload_n (pc := 0) hx hb d_Ho_node_0 rfl (lv_at hl 1 rfl) ?_
  refine k_goI (gr := [[(a0, .inr (12, [.ref a1, .ref a2, .ref a3, .ref a4, .ref a5, .ref a6, .ref a7, .int 0, .int ((-1)), .ref a8, .ref a9, .int 0, .int 0, .ref a10, .int 0, .int 0, .null, .null, .null, .null, .null]))], [(a1, .inl (kA 4, 4, .inr (.inr (.inr (.inr (rr (g 0)))))))], [(g 0 j, .inr (3, [.int 0, .int 0, .int 1, .ref a11, .ref a12, .ref a13, .ref a14, .ref a15, .ref a16, .ref a17, .ref a18, .ref a19, .ref a20, .ref a21, .ref a22, .ref a23, .null, .int 0, .int 0]))]]) (k_rS (pc := 1) (As := [.int (nI j)]) (rest := []) X (c_Ho_isPlace l D kA (nI j) s.heap.size) rfl wm_633 wm_1 wm_631 wm_632 1 (by decide +kernel) ⟨Nat.le_of_ble_eq_true rfl, Nat.le_of_ble_eq_true rfl⟩ rfl rfl (k_pre hN hK hP hD [] [0, 1, 2] 3 rfl (by decide) rfl) rfl hl.1 rfl (Nat.le_of_ble_eq_true rfl) d_Ho_node_1 ⟨Nat.le_of_ble_eq_true rfl, Nat.le_of_ble_eq_true rfl⟩) hP hD hS hA [] [0, 1, 2] 3 rfl (by decide) rfl rfl (fun r1 u2 H locs hu2 hP hD hS => ?_)
  subst hu2
  refine k_cst (v := 1) (place_ok hj) ?_
  have hP : va_P D classes (cat [[(a0, .inr (12, [.ref a1, .ref a2, .ref a3, .ref a4, .ref a5, .ref a6, .ref a7, .int 0, .int ((-1)), .ref a8, .ref a9, .int 0, .int 0, .ref a10, .int 0, .int 0, .null, .null, .null, .null, .null]))], [(a1, .inl (kA 4, 4, .inr (.inr (.inr (.inr (rr (g 0)))))))], [(g 0 j, .inr (3, [.int 0, .int 0, .int 1, .ref a11, .ref a12, .ref a13, .ref a14, .ref a15, .ref a16, .ref a17, .ref a18, .ref a19, .ref a20, .ref a21, .ref a22, .ref a23, .null, .int 0, .int 0]))]]) H := hP
  have hD : va_D A (cat [[(a0, .inr (12, [.ref a1, .ref a2, .ref a3, .ref a4, .ref a5, .ref a6, .ref a7, .int 0, .int ((-1)), .ref a8, .ref a9, .int 0, .int 0, .ref a10, .int 0, .int 0, .null, .null, .null, .null, .null]))], [(a1, .inl (kA 4, 4, .inr (.inr (.inr (.inr (rr (g 0)))))))], [(g 0 j, .inr (3, [.int 0, .int 0, .int 1, .ref a11, .ref a12, .ref a13, .ref a14, .ref a15, .ref a16, .ref a17, .ref a18, .ref a19, .ref a20, .ref a21, .ref a22, .ref a23, .null, .int 0, .int 0]))]]) := hD
  refine lv_if_eq (pc := 4) (tgt := 20) hx hb d_Ho_node_4 (by decide) (fun c1 => absurd c1 (by decide)) (fun c1 => ?_)
  refine lv_aload_n (pc := 7) hx hb d_Ho_node_7 rfl (lv_at hl 0 rfl) ?_
  refine k_get (pc := 8) X hK hP 0 rfl rfl i_Ho 0 (by decide) wm_555 rfl rfl d_Ho_node_8 ?_
  refine lv_iload_n (pc := 11) hx hb d_Ho_node_11 rfl (lv_at hl 1 rfl) ?_
  refine k_ald (pc := 12) hx hb hK hP 1 4 rfl rfl (j) rfl (by omega) (by decide) (rr_at (by omega)) d_Ho_node_12 ?_
  refine lv_iload_n (pc := 13) hx hb d_Ho_node_13 rfl (lv_at hl 2 rfl) ?_
  refine k_goI (gr := [[(a0, .inr (12, [.ref a1, .ref a2, .ref a3, .ref a4, .ref a5, .ref a6, .ref a7, .int 0, .int ((-1)), .ref a8, .ref a9, .int 0, .int 0, .ref a10, .int 0, .int 0, .null, .null, .null, .null, .null]))], [(a1, .inl (kA 4, 4, .inr (.inr (.inr (.inr (rr (g 0)))))))]]) (k_rV (pc := 14) (As := [.int v2]) (rest := []) X (c_Gr_hasNode_z1 l D kA g j v2 a11 a12 a13 a14 a15 a16 a17 a18 a19 a20 a21 a22 a23 hj H.size) rfl wm_921 wm_3 wm_918 wm_919 wm_920 1 (by decide +kernel) ⟨Nat.le_of_ble_eq_true rfl, Nat.le_of_ble_eq_true rfl⟩ rfl rfl (va_recv hK hP (ci := 3) (q0 := 2) rfl rfl) (k_pre hN hK hP hD [2] [0, 1] 3 rfl (by decide) rfl) rfl hl.1 rfl (Nat.le_of_ble_eq_true rfl) d_Ho_node_14 ⟨Nat.le_of_ble_eq_true rfl, Nat.le_of_ble_eq_true rfl⟩) hP hD hS hA [2] [0, 1] 3 rfl (by decide) rfl rfl (fun r3 u4 H locs hu4 hP hD hS => ?_)
  subst hu4
  have hP : va_P D classes (cat [[(a0, .inr (12, [.ref a1, .ref a2, .ref a3, .ref a4, .ref a5, .ref a6, .ref a7, .int 0, .int ((-1)), .ref a8, .ref a9, .int 0, .int 0, .ref a10, .int 0, .int 0, .null, .null, .null, .null, .null]))], [(a1, .inl (kA 4, 4, .inr (.inr (.inr (.inr (rr (g 0)))))))], [(g 0 j, .inr (3, [.int 0, .int 0, .int 1, .ref a11, .ref a12, .ref a13, .ref a14, .ref a15, .ref a16, .ref a17, .ref a18, .ref a19, .ref a20, .ref a21, .ref a22, .ref a23, .null, .int 0, .int 0]))]]) H := hP
  have hD : va_D A (cat [[(a0, .inr (12, [.ref a1, .ref a2, .ref a3, .ref a4, .ref a5, .ref a6, .ref a7, .int 0, .int ((-1)), .ref a8, .ref a9, .int 0, .int 0, .ref a10, .int 0, .int 0, .null, .null, .null, .null, .null]))], [(a1, .inl (kA 4, 4, .inr (.inr (.inr (.inr (rr (g 0)))))))], [(g 0 j, .inr (3, [.int 0, .int 0, .int 1, .ref a11, .ref a12, .ref a13, .ref a14, .ref a15, .ref a16, .ref a17, .ref a18, .ref a19, .ref a20, .ref a21, .ref a22, .ref a23, .null, .int 0, .int 0]))]]) := hD
  refine lv_if_ne (pc := 17) (tgt := 22) hx hb d_Ho_node_17 (by decide) (fun c1 => absurd (by decide) c1) (fun c1 => ?_)
  refine lv_iconst (pc := 20) (v := -1) hx hb d_Ho_node_20 (by decide) ?_
  refine W.widen (k := 0) (n := 0) (Nat.le_of_ble_eq_true rfl) (Nat.le_of_ble_eq_true rfl) ?_
  exact W.iret (v := (-1)) hx hb hr (fun t ht hW => ⟨⟨(-1), [[(a0, .inr (12, [.ref a1, .ref a2, .ref a3, .ref a4, .ref a5, .ref a6, .ref a7, .int 0, .int ((-1)), .ref a8, .ref a9, .int 0, .int 0, .ref a10, .int 0, .int 0, .null, .null, .null, .null, .null]))], [(a1, .inl (kA 4, 4, .inr (.inr (.inr (.inr (rr (g 0)))))))], [(g 0 j, .inr (3, [.int 0, .int 0, .int 1, .ref a11, .ref a12, .ref a13, .ref a14, .ref a15, .ref a16, .ref a17, .ref a18, .ref a19, .ref a20, .ref a21, .ref a22, .ref a23, .null, .int 0, .int 0]))]], rfl, rfl, by rw [ht]; exact hP, va_K.moved hW.alike hK, hD⟩, hS.F ht⟩) hS.2.2 d_Ho_node_21
set_option maxRecDepth 100000 in
set_option maxHeartbeats 4000000 in
/-- DrawingHouseModel.take(I)V -/
theorem c_Mo_take_z1 (l : Launch) (D : va_G) (kA : Nat → ClassId) (a0 : Nat) (j : Nat) (qm : Nat → Nat) (hj : j < 4) : Cv l y_Mo_take z_Mo_take { frames := 1, cells := 0, slots := 0, locals := 21 } D classes (TY kA) [.ref a0, .int (nI j)] [[(a0, .inr (13, mF qm x0Mo y0Mo))], [(qm 3, .inl (kA 0, 4, .inl (fun _ => 0)))]] (fun _ : Unit => True) (fun u => [[(a0, .inr (13, mF qm (va_up x0Mo 5 (nI (539 * (31 * j + 0)))) y0Mo))], [(qm 3, .inl (kA 0, 4, .inl (fun _ => 0)))]]) 0 0 := by
  intro sz
  refine k_met (cc := b_Mo_take) (maxL := 2) (ret := none) (by decide) rfl (Nat.le_of_ble_eq_true rfl) (fun p e s m below meth c ls X hl hB => ?_)
  obtain ⟨hsz, hP, hK, hD0, hN⟩ := hB
  subst hsz
  have hD := hD0.self (sz := s.heap.size)
  generalize hAe : va_A (cat [[(a0, .inr (13, mF qm x0Mo y0Mo))], [(qm 3, .inl (kA 0, 4, .inl (fun _ => 0)))]]) s.heap.size = A at hD ⊢
  have hA : ∀ q : Nat, s.heap.size ≤ q → A q := fun q h => by rw [← hAe]; exact Or.inr h
  have hS : va_S A s.heap s.heap [] := va_S.rf
  obtain ⟨hx, hb, hml, hown, hts, hr, hlk, hnm⟩ := id X
  have hl : lv_has ls 2 [(0, .ref a0), (1, .int (nI j))] := hl
  have hP : va_P D classes (cat [[(a0, .inr (13, mF qm x0Mo y0Mo))], [(qm 3, .inl (kA 0, 4, .inl (fun _ => 0)))]]) s.heap := hP
  have hK : va_K D classes (TY kA) s := hK
  refine lv_aload_n (pc := 0) hx hb d_Mo_take_0 rfl (lv_at hl 0 rfl) ?_
  refine lv_iload_n (pc := 1) hx hb d_Mo_take_1 rfl (lv_at hl 1 rfl) ?_
  refine lv_aload_n (pc := 2) hx hb d_Mo_take_2 rfl (lv_at hl 0 rfl) ?_
  refine k_get (pc := 3) (v := .ref (qm 3)) X hK hP 0 rfl rfl i_Mo 3 (by decide) wm_2436 rfl rfl d_Mo_take_3 ?_
  refine lv_iload_n (pc := 6) hx hb d_Mo_take_6 rfl (lv_at hl 1 rfl) ?_
  refine k_ild (pc := 7) hx hb hK hP 1 0 rfl rfl (j) rfl (by omega) (by decide) d_Mo_take_7 ?_
  refine k_cst (v := 0) (by rfl) ?_
  refine k_goI (gr := [[(a0, .inr (13, mF qm x0Mo y0Mo))], [(qm 3, .inl (kA 0, 4, .inl (fun _ => 0)))]]) (k_rS (pc := 8) (As := [.int (nI j), .int 0]) (rest := [.ref a0]) X (c_Mo_rowOf l D kA j 0 s.heap.size) rfl wm_2420 wm_9 wm_2418 wm_2419 2 (by decide +kernel) ⟨Nat.le_of_ble_eq_true rfl, Nat.le_of_ble_eq_true rfl⟩ rfl rfl (k_pre hN hK hP hD [] [0, 1] 2 rfl (by decide) rfl) rfl hl.1 rfl (Nat.le_of_ble_eq_true rfl) d_Mo_take_8 ⟨Nat.le_of_ble_eq_true rfl, Nat.le_of_ble_eq_true rfl⟩) hP hD hS hA [] [0, 1] 2 rfl (by decide) rfl rfl (fun r1 u2 H locs hu2 hP hD hS => ?_)
  subst hu2
  have hP : va_P D classes (cat [[(a0, .inr (13, mF qm x0Mo y0Mo))], [(qm 3, .inl (kA 0, 4, .inl (fun _ => 0)))]]) H := hP
  have hD : va_D A (cat [[(a0, .inr (13, mF qm x0Mo y0Mo))], [(qm 3, .inl (kA 0, 4, .inl (fun _ => 0)))]]) := hD
  refine k_put (pc := 11) X hK hP hD hS 0 rfl rfl i_Mo t_Mo t_Mo_ok n_Mo 5 (by decide) wm_2438 rfl (Or.inl rfl) rfl rfl (Nat.le_of_ble_eq_true rfl) d_Mo_take_11 (fun H locs hP hD hS => ?_)
  have hP : va_P D classes (cat [[(a0, .inr (13, mF qm (va_up x0Mo 5 (nI (539 * (31 * j + 0)))) y0Mo))], [(qm 3, .inl (kA 0, 4, .inl (fun _ => 0)))]]) H := hP
  have hD : va_D A (cat [[(a0, .inr (13, mF qm (va_up x0Mo 5 (nI (539 * (31 * j + 0)))) y0Mo))], [(qm 3, .inl (kA 0, 4, .inl (fun _ => 0)))]]) := hD
  refine W.widen (k := 0) (n := 0) (Nat.le_of_ble_eq_true rfl) (Nat.le_of_ble_eq_true rfl) ?_
  exact W.vret hx hb hr (fun t ht hW => ⟨⟨(), rfl, trivial, by rw [ht]; exact hP, va_K.moved hW.alike hK, hD⟩, hS.F ht⟩) hS.2.2 d_Mo_take_14
set_option maxRecDepth 100000 in
set_option maxHeartbeats 4000000 in
/-- DrawingHouseModel.nodes()I -/
theorem c_Mo_nodes_z1 (l : Launch) (D : va_G) (kA : Nat → ClassId) (a0 : Nat) (qm : Nat → Nat) (j : Nat) (hj : j < 4) : Ci l y_Mo_nodes z_Mo_nodes { frames := 0, cells := 0, slots := 0, locals := 0 } D classes (TY kA) [.ref a0] [[(a0, .inr (13, mF qm (va_up x0Mo 5 (nI (539 * (31 * j + 0)))) y0Mo))], [(qm 2, .inl (kA 0, 66836, .inl all0))]] (fun r (_ : Unit) => r = 0) (fun u => [[(a0, .inr (13, mF qm (va_up x0Mo 5 (nI (539 * (31 * j + 0)))) y0Mo))], [(qm 2, .inl (kA 0, 66836, .inl all0))]]) 0 0 := by
  intro sz
  refine k_met (cc := b_Mo_nodes) (maxL := 1) (ret := (some .int)) (by decide) rfl (Nat.le_of_ble_eq_true rfl) (fun p e s m below meth c ls X hl hB => ?_)
  obtain ⟨hsz, hP, hK, hD0, hN⟩ := hB
  subst hsz
  have hD := hD0.self (sz := s.heap.size)
  generalize hAe : va_A (cat [[(a0, .inr (13, mF qm (va_up x0Mo 5 (nI (539 * (31 * j + 0)))) y0Mo))], [(qm 2, .inl (kA 0, 66836, .inl all0))]]) s.heap.size = A at hD ⊢
  have hA : ∀ q : Nat, s.heap.size ≤ q → A q := fun q h => by rw [← hAe]; exact Or.inr h
  have hS : va_S A s.heap s.heap [] := va_S.rf
  obtain ⟨hx, hb, hml, hown, hts, hr, hlk, hnm⟩ := id X
  have hl : lv_has ls 1 [(0, .ref a0)] := hl
  have hP : va_P D classes (cat [[(a0, .inr (13, mF qm (va_up x0Mo 5 (nI (539 * (31 * j + 0)))) y0Mo))], [(qm 2, .inl (kA 0, 66836, .inl all0))]]) s.heap := hP
  have hK : va_K D classes (TY kA) s := hK
  refine lv_aload_n (pc := 0) hx hb d_Mo_nodes_0 rfl (lv_at hl 0 rfl) ?_
  refine k_get (pc := 1) (v := .ref (qm 2)) X hK hP 0 rfl rfl i_Mo 2 (by decide) wm_2435 rfl rfl d_Mo_nodes_1 ?_
  refine lv_aload_n (pc := 4) hx hb d_Mo_nodes_4 rfl (lv_at hl 0 rfl) ?_
  refine k_get (pc := 5) (v := .int (nI (539 * (31 * j + 0)))) X hK hP 0 rfl rfl i_Mo 5 (by decide) wm_2438 rfl rfl d_Mo_nodes_5 ?_
  refine k_ild (pc := 8) hx hb hK hP 1 0 rfl rfl (539 * (31 * j + 0)) rfl (by omega) (by decide) d_Mo_nodes_8 ?_
  refine k_cst (v := 0) (all0_e hj (o := 0) (by omega) (by decide) rfl) ?_
  refine W.widen (k := 0) (n := 0) (Nat.le_of_ble_eq_true rfl) (Nat.le_of_ble_eq_true rfl) ?_
  exact W.iret (v := 0) hx hb hr (fun t ht hW => ⟨⟨0, (), rfl, rfl, by rw [ht]; exact hP, va_K.moved hW.alike hK, hD⟩, hS.F ht⟩) hS.2.2 d_Mo_nodes_9
set_option maxRecDepth 100000 in
set_option maxHeartbeats 4000000 in
/-- DrawingHouseModel.in(III)Z -/
theorem c_Mo_in_z1 (l : Launch) (D : va_G) (kA : Nat → ClassId) (v2 : Int32) : Ci l y_Mo_in z_Mo_in { frames := 0, cells := 0, slots := 0, locals := 0 } D classes (TY kA) [.int v2, .int 0, .int ((-1))] [] (fun r (_ : Unit) => r = 0) (fun u => []) 0 0 := by
  intro sz
  refine k_met (cc := b_Mo_in) (maxL := 3) (ret := (some .boolean)) (by decide) rfl (Nat.le_of_ble_eq_true rfl) (fun p e s m below meth c ls X hl hB => ?_)
  obtain ⟨hsz, hP, hK, hD0, hN⟩ := hB
  subst hsz
  have hD := hD0.self (sz := s.heap.size)
  generalize hAe : va_A (cat []) s.heap.size = A at hD ⊢
  have hA : ∀ q : Nat, s.heap.size ≤ q → A q := fun q h => by rw [← hAe]; exact Or.inr h
  have hS : va_S A s.heap s.heap [] := va_S.rf
  obtain ⟨hx, hb, hml, hown, hts, hr, hlk, hnm⟩ := id X
  have hl : lv_has ls 3 [(0, .int v2), (1, .int 0), (2, .int ((-1)))] := hl
  have hP : va_P D classes (cat []) s.heap := hP
  have hK : va_K D classes (TY kA) s := hK
  refine lv_iload_n (pc := 0) hx hb d_Mo_in_0 rfl (lv_at hl 0 rfl) ?_
  refine lv_iload_n (pc := 1) hx hb d_Mo_in_1 rfl (lv_at hl 1 rfl) ?_
  refine lv_icmp_lt (pc := 2) (tgt := 14) hx hb d_Mo_in_2 (by decide) (fun ck1 => ?_) (fun ck1 => ?_)
  · refine lv_iconst (pc := 14) (v := 0) hx hb d_Mo_in_14 (by decide) ?_
    refine W.widen (k := 0) (n := 0) (Nat.le_of_ble_eq_true rfl) (Nat.le_of_ble_eq_true rfl) ?_
    exact W.zret (v := 0) hx hb hr rfl (fun t ht hW => ⟨⟨0, (), rfl, rfl, by rw [ht]; exact hP, va_K.moved hW.alike hK, hD⟩, hS.F ht⟩) hS.2.2 d_Mo_in_15
  · refine lv_iload_n (pc := 5) hx hb d_Mo_in_5 rfl (lv_at hl 0 rfl) ?_
    refine lv_iload_n (pc := 6) hx hb d_Mo_in_6 rfl (lv_at hl 2 rfl) ?_
    refine lv_icmp_gt (pc := 7) (tgt := 14) hx hb d_Mo_in_7 (by decide) (fun c1 => ?_) (fun c1 => absurd (m1_lt ck1) c1)
    refine lv_iconst (pc := 14) (v := 0) hx hb d_Mo_in_14 (by decide) ?_
    refine W.widen (k := 0) (n := 0) (Nat.le_of_ble_eq_true rfl) (Nat.le_of_ble_eq_true rfl) ?_
    exact W.zret (v := 0) hx hb hr rfl (fun t ht hW => ⟨⟨0, (), rfl, rfl, by rw [ht]; exact hP, va_K.moved hW.alike hK, hD⟩, hS.F ht⟩) hS.2.2 d_Mo_in_15
set_option maxRecDepth 100000 in
set_option maxHeartbeats 4000000 in
/-- DrawingHouseModel.node(III)I -/
theorem c_Mo_node_z2 (l : Launch) (D : va_G) (kA : Nat → ClassId) (a0 : Nat) (j : Nat) (v2 : Int32) (v3 : Int32) (qm : Nat → Nat) (hj : j < 4) : Ci l y_Mo_node z_Mo_node { frames := 2, cells := 0, slots := 0, locals := 42 } D classes (TY kA) [.ref a0, .int (nI j), .int v2, .int v3] [[(a0, .inr (13, mF qm x0Mo y0Mo))], [(qm 3, .inl (kA 0, 4, .inl (fun _ => 0)))], [(qm 2, .inl (kA 0, 66836, .inl all0))]] (fun r (_ : List va_W) => r = (-1)) (fun u => u) 0 0 := by
  intro sz
  refine k_met (cc := b_Mo_node) (maxL := 7) (ret := (some .int)) (by decide) rfl (Nat.le_of_ble_eq_true rfl) (fun p e s m below meth c ls X hl hB => ?_)
  obtain ⟨hsz, hP, hK, hD0, hN⟩ := hB
  subst hsz
  have hD := hD0.self (sz := s.heap.size)
  generalize hAe : va_A (cat [[(a0, .inr (13, mF qm x0Mo y0Mo))], [(qm 3, .inl (kA 0, 4, .inl (fun _ => 0)))], [(qm 2, .inl (kA 0, 66836, .inl all0))]]) s.heap.size = A at hD ⊢
  have hA : ∀ q : Nat, s.heap.size ≤ q → A q := fun q h => by rw [← hAe]; exact Or.inr h
  have hS : va_S A s.heap s.heap [] := va_S.rf
  obtain ⟨hx, hb, hml, hown, hts, hr, hlk, hnm⟩ := id X
  have hl : lv_has ls 7 [(0, .ref a0), (1, .int (nI j)), (2, .int v2), (3, .int v3)] := hl
  have hP : va_P D classes (cat [[(a0, .inr (13, mF qm x0Mo y0Mo))], [(qm 3, .inl (kA 0, 4, .inl (fun _ => 0)))], [(qm 2, .inl (kA 0, 66836, .inl all0))]]) s.heap := hP
  have hK : va_K D classes (TY kA) s := hK
  refine lv_iload_n (pc := 0) hx hb d_Mo_node_0 rfl (lv_at hl 1 rfl) ?_
  refine k_goI (gr := [[(a0, .inr (13, mF qm x0Mo y0Mo))], [(qm 3, .inl (kA 0, 4, .inl (fun _ => 0)))], [(qm 2, .inl (kA 0, 66836, .inl all0))]]) (k_rS (pc := 1) (As := [.int (nI j)]) (rest := []) X (c_Mo_isPlace l D kA (nI j) s.heap.size) rfl wm_2978 wm_9 wm_2976 wm_2977 1 (by decide +kernel) ⟨Nat.le_of_ble_eq_true rfl, Nat.le_of_ble_eq_true rfl⟩ rfl rfl (k_pre hN hK hP hD [] [0, 1, 2] 3 rfl (by decide) rfl) rfl hl.1 rfl (Nat.le_of_ble_eq_true rfl) d_Mo_node_1 ⟨Nat.le_of_ble_eq_true rfl, Nat.le_of_ble_eq_true rfl⟩) hP hD hS hA [] [0, 1, 2] 3 rfl (by decide) rfl rfl (fun r1 u2 H locs hu2 hP hD hS => ?_)
  subst hu2
  refine k_cst (v := 1) (placeM_ok hj) ?_
  have hP : va_P D classes (cat [[(a0, .inr (13, mF qm x0Mo y0Mo))], [(qm 3, .inl (kA 0, 4, .inl (fun _ => 0)))], [(qm 2, .inl (kA 0, 66836, .inl all0))]]) H := hP
  have hD : va_D A (cat [[(a0, .inr (13, mF qm x0Mo y0Mo))], [(qm 3, .inl (kA 0, 4, .inl (fun _ => 0)))], [(qm 2, .inl (kA 0, 66836, .inl all0))]]) := hD
  refine lv_if_ne (pc := 4) (tgt := 9) hx hb d_Mo_node_4 (by decide) (fun c1 => ?_) (fun c1 => absurd c1 (by decide))
  refine lv_aload_n (pc := 9) hx hb d_Mo_node_9 rfl (lv_at hl 0 rfl) ?_
  refine lv_iload_n (pc := 10) hx hb d_Mo_node_10 rfl (lv_at hl 1 rfl) ?_
  refine k_goV (gr := [[(qm 2, .inl (kA 0, 66836, .inl all0))]]) (k_rV (pc := 11) (As := [.int (nI j)]) (rest := []) X (c_Mo_take_z1 l D kA a0 j qm hj H.size) rfl wm_3091 wm_9 wm_3088 wm_3090 wv_14_2 1 (by decide +kernel) ⟨Nat.le_of_ble_eq_true rfl, Nat.le_of_ble_eq_true rfl⟩ rfl rfl (va_recv hK hP (ci := 13) (q0 := 0) rfl rfl) (k_pre hN hK hP hD [0, 1] [2] 3 rfl (by decide) rfl) rfl hl.1 rfl (Nat.le_of_ble_eq_true rfl) d_Mo_node_11 ⟨Nat.le_of_ble_eq_true rfl, Nat.le_of_ble_eq_true rfl⟩) hP hD hS hA [0, 1] [2] 3 rfl (by decide) rfl rfl (fun u3 H locs hu3 hP hD hS => ?_)
  have hP : va_P D classes (cat [[(qm 2, .inl (kA 0, 66836, .inl all0))], [(a0, .inr (13, mF qm (va_up x0Mo 5 (nI (539 * (31 * j + 0)))) y0Mo))], [(qm 3, .inl (kA 0, 4, .inl (fun _ => 0)))]]) H := hP
  have hD : va_D A (cat [[(qm 2, .inl (kA 0, 66836, .inl all0))], [(a0, .inr (13, mF qm (va_up x0Mo 5 (nI (539 * (31 * j + 0)))) y0Mo))], [(qm 3, .inl (kA 0, 4, .inl (fun _ => 0)))]]) := hD
  refine lv_iload_n (pc := 14) hx hb d_Mo_node_14 rfl (lv_at hl 2 rfl) ?_
  refine lv_iconst (pc := 15) (v := 0) hx hb d_Mo_node_15 (by decide) ?_
  refine lv_aload_n (pc := 16) hx hb d_Mo_node_16 rfl (lv_at hl 0 rfl) ?_
  refine k_goI (gr := [[(qm 3, .inl (kA 0, 4, .inl (fun _ => 0)))]]) (k_rV (pc := 17) (As := []) (rest := [.int 0, .int v2]) X (c_Mo_nodes_z1 l D kA a0 qm j hj H.size) rfl wm_3025 wm_9 wm_3022 wm_3024 wv_13_3 0 (by decide +kernel) ⟨Nat.le_of_ble_eq_true rfl, Nat.le_of_ble_eq_true rfl⟩ rfl rfl (va_recv hK hP (ci := 13) (q0 := 1) rfl rfl) (k_pre hN hK hP hD [1, 0] [2] 3 rfl (by decide) rfl) rfl hl.1 rfl (Nat.le_of_ble_eq_true rfl) d_Mo_node_17 ⟨Nat.le_of_ble_eq_true rfl, Nat.le_of_ble_eq_true rfl⟩) hP hD hS hA [1, 0] [2] 3 rfl (by decide) rfl rfl (fun r4 u5 H locs hu5 hP hD hS => ?_)
  subst hu5
  have hP : va_P D classes (cat [[(qm 3, .inl (kA 0, 4, .inl (fun _ => 0)))], [(a0, .inr (13, mF qm (va_up x0Mo 5 (nI (539 * (31 * j + 0)))) y0Mo))], [(qm 2, .inl (kA 0, 66836, .inl all0))]]) H := hP
  have hD : va_D A (cat [[(qm 3, .inl (kA 0, 4, .inl (fun _ => 0)))], [(a0, .inr (13, mF qm (va_up x0Mo 5 (nI (539 * (31 * j + 0)))) y0Mo))], [(qm 2, .inl (kA 0, 66836, .inl all0))]]) := hD
  refine lv_iconst (pc := 20) (v := 1) hx hb d_Mo_node_20 (by decide) ?_
  refine lv_isub (pc := 21) hx hb d_Mo_node_21 ?_
  refine k_cst (v := (-1)) (by decide) ?_
  refine k_goI (gr := [[(qm 3, .inl (kA 0, 4, .inl (fun _ => 0)))], [(a0, .inr (13, mF qm (va_up x0Mo 5 (nI (539 * (31 * j + 0)))) y0Mo))], [(qm 2, .inl (kA 0, 66836, .inl all0))]]) (k_rS (pc := 22) (As := [.int v2, .int 0, .int ((-1))]) (rest := []) X (c_Mo_in_z1 l D kA v2 H.size) rfl wm_2971 wm_9 wm_2969 wm_2970 3 (by decide +kernel) ⟨Nat.le_of_ble_eq_true rfl, Nat.le_of_ble_eq_true rfl⟩ rfl rfl (k_pre hN hK hP hD [] [0, 1, 2] 3 rfl (by decide) rfl) rfl hl.1 rfl (Nat.le_of_ble_eq_true rfl) d_Mo_node_22 ⟨Nat.le_of_ble_eq_true rfl, Nat.le_of_ble_eq_true rfl⟩) hP hD hS hA [] [0, 1, 2] 3 rfl (by decide) rfl rfl (fun r6 u7 H locs hu7 hP hD hS => ?_)
  subst hu7
  have hP : va_P D classes (cat [[(qm 3, .inl (kA 0, 4, .inl (fun _ => 0)))], [(a0, .inr (13, mF qm (va_up x0Mo 5 (nI (539 * (31 * j + 0)))) y0Mo))], [(qm 2, .inl (kA 0, 66836, .inl all0))]]) H := hP
  have hD : va_D A (cat [[(qm 3, .inl (kA 0, 4, .inl (fun _ => 0)))], [(a0, .inr (13, mF qm (va_up x0Mo 5 (nI (539 * (31 * j + 0)))) y0Mo))], [(qm 2, .inl (kA 0, 66836, .inl all0))]]) := hD
  refine lv_if_ne (pc := 25) (tgt := 30) hx hb d_Mo_node_25 (by decide) (fun c1 => absurd (by decide) c1) (fun c1 => ?_)
  refine lv_iconst (pc := 28) (v := -1) hx hb d_Mo_node_28 (by decide) ?_
  refine W.widen (k := 0) (n := 0) (Nat.le_of_ble_eq_true rfl) (Nat.le_of_ble_eq_true rfl) ?_
  exact W.iret (v := (-1)) hx hb hr (fun t ht hW => ⟨⟨(-1), [[(qm 3, .inl (kA 0, 4, .inl (fun _ => 0)))], [(a0, .inr (13, mF qm (va_up x0Mo 5 (nI (539 * (31 * j + 0)))) y0Mo))], [(qm 2, .inl (kA 0, 66836, .inl all0))]], rfl, rfl, by rw [ht]; exact hP, va_K.moved hW.alike hK, hD⟩, hS.F ht⟩) hS.2.2 d_Mo_node_29
set_option maxRecDepth 100000 in
set_option maxHeartbeats 4000000 in
/-- node, a fresh house -/
theorem lf_node_2 {p : Program} {e : Env} {s : State} {m : MethodId} {below : List Frame} {meth : Method} {c : Code} (l : Launch) {b : Nat} {xs : Nat → Int32} (C0 : lw_At p s m meth c b 6 xs) {D : va_G} {kA : Nat → ClassId} (h : Nat) (h2 : Nat) (q : Nat → Nat) (qg : Nat → Nat) (qm : Nat → Nat) (g : Nat → Nat → Nat) (j : Nat) (v2 : Int32) (v3 : Int32) (hj : j < 4) (hv1 : xs 1 = nI j) (hv2 : xs 2 = v2) (hv3 : xs 3 = v3) {H : Heap} {locs : List Loc} {ls : Array Slot} (hK : va_K D classes (TY kA) s) (hN : nst s) (hP : va_P D classes (cat [[(h, .inr (12, [.ref (q 0), .ref (q 1), .ref (q 2), .ref (q 3), .ref (q 4), .ref (q 5), .ref (q 6), .int 0, .int ((-1)), .ref (q 9), .ref (q 10), .int 0, .int 0, .ref (q 13), .int 0, .int 0, .null, .null, .null, .null, .null]))], [(q 0, .inl (kA 4, 4, .inr (.inr (.inr (.inr (rr (g 0)))))))], [(g 0 j, .inr (3, [.int 0, .int 0, .int 1, .ref (qg 3), .ref (qg 4), .ref (qg 5), .ref (qg 6), .ref (qg 7), .ref (qg 8), .ref (qg 9), .ref (qg 10), .ref (qg 11), .ref (qg 12), .ref (qg 13), .ref (qg 14), .ref (qg 15), .null, .int 0, .int 0]))], [(h2, .inr (13, mF qm x0Mo y0Mo))], [(qm 3, .inl (kA 0, 4, .inl (fun _ => 0)))], [(qm 2, .inl (kA 0, 66836, .inl all0))]]) H) (hD : va_D (fun q : Nat => s.heap.size ≤ q) (cat [[(h, .inr (12, [.ref (q 0), .ref (q 1), .ref (q 2), .ref (q 3), .ref (q 4), .ref (q 5), .ref (q 6), .int 0, .int ((-1)), .ref (q 9), .ref (q 10), .int 0, .int 0, .ref (q 13), .int 0, .int 0, .null, .null, .null, .null, .null]))], [(q 0, .inl (kA 4, 4, .inr (.inr (.inr (.inr (rr (g 0)))))))], [(g 0 j, .inr (3, [.int 0, .int 0, .int 1, .ref (qg 3), .ref (qg 4), .ref (qg 5), .ref (qg 6), .ref (qg 7), .ref (qg 8), .ref (qg 9), .ref (qg 10), .ref (qg 11), .ref (qg 12), .ref (qg 13), .ref (qg 14), .ref (qg 15), .null, .int 0, .int 0]))], [(h2, .inr (13, mF qm x0Mo y0Mo))], [(qm 3, .inl (kA 0, 4, .inl (fun _ => 0)))], [(qm 2, .inl (kA 0, 66836, .inl all0))]])) (hS : va_S (fun q : Nat => s.heap.size ≤ q) s.heap H locs) (hl : lv_has ls 4 [(3, .int 0), (2, .ref h2), (1, .ref h), (0, .ref b)]) : W p l e room_1 s m #[Value.ref b] below meth c H locs 368 365796 (lw_Z below #[Value.ref b] s) (F0 m 312 ls []) := by
  obtain ⟨hx, hb, hr, hml, hown, hts0, hX, hbl, hlocks, hgv⟩ := id C0
  have hts : ∀ w ∈ lw_g, w.before #[Value.ref b] s = true := fun w h => hts0 w (lw_gt h)
  have X : cx p s m #[Value.ref b] meth c b_law_law 4 ret "DrawingHouseLaw" meth.name := ⟨hx, hb, hml, hown, hts, hr, hlocks, rfl⟩
  obtain ⟨A, hAe⟩ : ∃ A : Nat → Prop, A = fun q : Nat => s.heap.size ≤ q := ⟨_, rfl⟩
  have hA : ∀ q : Nat, s.heap.size ≤ q → A q := fun q h => by rw [hAe]; exact h
  have hbA : ¬ A b := by rw [hAe]; exact Nat.not_le.mpr hbl
  rw [← hAe] at hD hS
  refine lv_aload_n (pc := 312) hx hb d_law_law_312 rfl (lv_at hl 2 rfl) ?_
  refine lv_aload_n (pc := 313) hx hb d_law_law_313 rfl (lv_at hl 3 rfl) ?_
  refine lv_iload_n (pc := 314) hx hb d_law_law_314 rfl (lv_at hl 0 rfl) ?_
  refine lv_iconst (pc := 315) (v := 1) hx hb d_law_law_315 (by decide) ?_
  refine lv_iadd (pc := 316) hx hb d_law_law_316 ?_
  refine k_cst (v := 1) (by decide) ?_
  refine va_sld (pc := 317) hx hb hX hbl hbA hS (by unfold vp_in; decide) d_law_law_317 ?_
  refine k_cst (v := nI j) hv1 ?_
  refine lv_aload_n (pc := 318) hx hb d_law_law_318 rfl (lv_at hl 3 rfl) ?_
  refine lv_iload_n (pc := 319) hx hb d_law_law_319 rfl (lv_at hl 0 rfl) ?_
  refine lv_iconst (pc := 320) (v := 2) hx hb d_law_law_320 (by decide) ?_
  refine lv_iadd (pc := 321) hx hb d_law_law_321 ?_
  refine k_cst (v := 2) (by decide) ?_
  refine va_sld (pc := 322) hx hb hX hbl hbA hS (by unfold vp_in; decide) d_law_law_322 ?_
  refine k_cst (v := v2) hv2 ?_
  refine lv_aload_n (pc := 323) hx hb d_law_law_323 rfl (lv_at hl 3 rfl) ?_
  refine lv_iload_n (pc := 324) hx hb d_law_law_324 rfl (lv_at hl 0 rfl) ?_
  refine lv_iconst (pc := 325) (v := 3) hx hb d_law_law_325 (by decide) ?_
  refine lv_iadd (pc := 326) hx hb d_law_law_326 ?_
  refine k_cst (v := 3) (by decide) ?_
  refine va_sld (pc := 327) hx hb hX hbl hbA hS (by unfold vp_in; decide) d_law_law_327 ?_
  refine k_cst (v := v3) hv3 ?_
  refine k_goI (gr := [[(h2, .inr (13, mF qm x0Mo y0Mo))], [(qm 3, .inl (kA 0, 4, .inl (fun _ => 0)))], [(qm 2, .inl (kA 0, 66836, .inl all0))]]) (k_rV (pc := 328) (As := [.int (nI j), .int v2, .int v3]) (rest := []) X (c_Ho_node_z2 l D kA h j v2 v3 (q 0) (q 1) (q 2) (q 3) (q 4) (q 5) (q 6) (q 9) (q 10) (q 13) g (qg 3) (qg 4) (qg 5) (qg 6) (qg 7) (qg 8) (qg 9) (qg 10) (qg 11) (qg 12) (qg 13) (qg 14) (qg 15) hj H.size) rfl wm_917 wm_1 wm_914 wm_915 wm_916 3 (by decide +kernel) ⟨Nat.le_of_ble_eq_true rfl, Nat.le_of_ble_eq_true rfl⟩ rfl rfl (va_recv hK hP (ci := 12) (q0 := 0) rfl rfl) (k_pre hN hK hP hD [0, 1, 2] [3, 4, 5] 6 rfl (by decide) rfl) rfl hl.1 rfl (Nat.le_of_ble_eq_true rfl) d_law_law_328 ⟨Nat.le_of_ble_eq_true rfl, Nat.le_of_ble_eq_true rfl⟩) hP hD hS hA [0, 1, 2] [3, 4, 5] 6 rfl (by decide) rfl rfl (fun r1 u2 H locs hu2 hP hD hS => ?_)
  obtain ⟨hP, hD⟩ := k_left hP hD
  subst hu2
  have hP : va_P D classes (cat [[(h2, .inr (13, mF qm x0Mo y0Mo))], [(qm 3, .inl (kA 0, 4, .inl (fun _ => 0)))], [(qm 2, .inl (kA 0, 66836, .inl all0))]]) H := hP
  have hD : va_D A (cat [[(h2, .inr (13, mF qm x0Mo y0Mo))], [(qm 3, .inl (kA 0, 4, .inl (fun _ => 0)))], [(qm 2, .inl (kA 0, 66836, .inl all0))]]) := hD
  refine lv_aload_n (pc := 331) hx hb d_law_law_331 rfl (lv_at hl 1 rfl) ?_
  refine lv_aload_n (pc := 332) hx hb d_law_law_332 rfl (lv_at hl 3 rfl) ?_
  refine lv_iload_n (pc := 333) hx hb d_law_law_333 rfl (lv_at hl 0 rfl) ?_
  refine lv_iconst (pc := 334) (v := 1) hx hb d_law_law_334 (by decide) ?_
  refine lv_iadd (pc := 335) hx hb d_law_law_335 ?_
  refine k_cst (v := 1) (by decide) ?_
  refine va_sld (pc := 336) hx hb hX hbl hbA hS (by unfold vp_in; decide) d_law_law_336 ?_
  refine k_cst (v := nI j) hv1 ?_
  refine lv_aload_n (pc := 337) hx hb d_law_law_337 rfl (lv_at hl 3 rfl) ?_
  refine lv_iload_n (pc := 338) hx hb d_law_law_338 rfl (lv_at hl 0 rfl) ?_
  refine lv_iconst (pc := 339) (v := 2) hx hb d_law_law_339 (by decide) ?_
  refine lv_iadd (pc := 340) hx hb d_law_law_340 ?_
  refine k_cst (v := 2) (by decide) ?_
  refine va_sld (pc := 341) hx hb hX hbl hbA hS (by unfold vp_in; decide) d_law_law_341 ?_
  refine k_cst (v := v2) hv2 ?_
  refine lv_aload_n (pc := 342) hx hb d_law_law_342 rfl (lv_at hl 3 rfl) ?_
  refine lv_iload_n (pc := 343) hx hb d_law_law_343 rfl (lv_at hl 0 rfl) ?_
  refine lv_iconst (pc := 344) (v := 3) hx hb d_law_law_344 (by decide) ?_
  refine lv_iadd (pc := 345) hx hb d_law_law_345 ?_
  refine k_cst (v := 3) (by decide) ?_
  refine va_sld (pc := 346) hx hb hX hbl hbA hS (by unfold vp_in; decide) d_law_law_346 ?_
  refine k_cst (v := v3) hv3 ?_
  refine k_goI (gr := []) (k_rV (pc := 347) (As := [.int (nI j), .int v2, .int v3]) (rest := [.int ((-1))]) X (c_Mo_node_z2 l D kA h2 j v2 v3 qm hj H.size) rfl wm_3303 wm_9 wm_3300 wm_3301 wm_3302 3 (by decide +kernel) ⟨Nat.le_of_ble_eq_true rfl, Nat.le_of_ble_eq_true rfl⟩ rfl rfl (va_recv hK hP (ci := 13) (q0 := 0) rfl rfl) (k_pre hN hK hP hD [0, 1, 2] [] 3 rfl (by decide) rfl) rfl hl.1 rfl (Nat.le_of_ble_eq_true rfl) d_law_law_347 ⟨Nat.le_of_ble_eq_true rfl, Nat.le_of_ble_eq_true rfl⟩) hP hD hS hA [0, 1, 2] [] 3 rfl (by decide) rfl rfl (fun r3 u4 H locs hu4 hP hD hS => ?_)
  obtain ⟨hP, hD⟩ := k_left hP hD
  subst hu4
  have hP : va_P D classes (cat []) H := hP
  have hD : va_D A (cat []) := hD
  refine lv_icmp_eq (pc := 350) (tgt := 1295) hx hb d_law_law_350 (by decide) (fun _ => ?_) (fun c1 => absurd (by decide) c1)
  rw [hAe] at hS
  exact law_exit l C0 (Nat.le_of_ble_eq_true rfl) (Nat.le_of_ble_eq_true rfl) hS hl
set_option maxRecDepth 100000 in
set_option maxHeartbeats 4000000 in
/-- DrawingHouse.edge(III)I -/
theorem c_Ho_edge_z1 (l : Launch) (D : va_G) (kA : Nat → ClassId) (a0 : Nat) (v1 : Int32) (v2 : Int32) (v3 : Int32) (hg : sp_Ho_isPlace v1 = 0) (hgM : sp_Mo_isPlace v1 = 0) : Ci l y_Ho_edge z_Ho_edge { frames := 1, cells := 0, slots := 0, locals := 20 } D classes (TY kA) [.ref a0, .int v1, .int v2, .int v3] [] (fun r (_ : List va_W) => r = (-1)) (fun u => u) 0 0 := by
  intro sz
  refine k_met (cc := b_Ho_edge) (maxL := 4) (ret := (some .int)) (by decide) rfl (Nat.le_of_ble_eq_true rfl) (fun p e s m below meth c ls X hl hB => ?_)
  obtain ⟨hsz, hP, hK, hD0, hN⟩ := hB
  subst hsz
  have hD := hD0.self (sz := s.heap.size)
  generalize hAe : va_A (cat []) s.heap.size = A at hD ⊢
  have hA : ∀ q : Nat, s.heap.size ≤ q → A q := fun q h => by rw [← hAe]; exact Or.inr h
  have hS : va_S A s.heap s.heap [] := va_S.rf
  obtain ⟨hx, hb, hml, hown, hts, hr, hlk, hnm⟩ := id X
  have hl : lv_has ls 4 [(0, .ref a0), (1, .int v1), (2, .int v2), (3, .int v3)] := hl
  have hP : va_P D classes (cat []) s.heap := hP
  have hK : va_K D classes (TY kA) s := hK
  refine lv_iload_n (pc := 0) hx hb d_Ho_edge_0 rfl (lv_at hl 1 rfl) ?_
  refine k_goI (gr := []) (k_rS (pc := 1) (As := [.int v1]) (rest := []) X (c_Ho_isPlace l D kA v1 s.heap.size) rfl wm_633 wm_1 wm_631 wm_632 1 (by decide +kernel) ⟨Nat.le_of_ble_eq_true rfl, Nat.le_of_ble_eq_true rfl⟩ rfl rfl (k_pre hN hK hP hD [] [] 0 rfl (by decide) rfl) rfl hl.1 rfl (Nat.le_of_ble_eq_true rfl) d_Ho_edge_1 ⟨Nat.le_of_ble_eq_true rfl, Nat.le_of_ble_eq_true rfl⟩) hP hD hS hA [] [] 0 rfl (by decide) rfl rfl (fun r1 u2 H locs hu2 hP hD hS => ?_)
  subst hu2
  have hP : va_P D classes (cat []) H := hP
  have hD : va_D A (cat []) := hD
  refine lv_if_eq (pc := 4) (tgt := 20) hx hb d_Ho_edge_4 (by decide) (fun c1 => ?_) (fun c1 => absurd (hg) c1)
  refine lv_iconst (pc := 20) (v := -1) hx hb d_Ho_edge_20 (by decide) ?_
  refine W.widen (k := 0) (n := 0) (Nat.le_of_ble_eq_true rfl) (Nat.le_of_ble_eq_true rfl) ?_
  exact W.iret (v := (-1)) hx hb hr (fun t ht hW => ⟨⟨(-1), [], rfl, rfl, by rw [ht]; exact hP, va_K.moved hW.alike hK, hD⟩, hS.F ht⟩) hS.2.2 d_Ho_edge_21
set_option maxRecDepth 100000 in
set_option maxHeartbeats 4000000 in
/-- DrawingHouseModel.edge(III)I -/
theorem c_Mo_edge_z1 (l : Launch) (D : va_G) (kA : Nat → ClassId) (a0 : Nat) (v1 : Int32) (v2 : Int32) (v3 : Int32) (hg : sp_Ho_isPlace v1 = 0) (hgM : sp_Mo_isPlace v1 = 0) : Ci l y_Mo_edge z_Mo_edge { frames := 2, cells := 0, slots := 0, locals := 42 } D classes (TY kA) [.ref a0, .int v1, .int v2, .int v3] [] (fun r (_ : List va_W) => r = (-1)) (fun u => u) 0 0 := by
  intro sz
  refine k_met (cc := b_Mo_edge) (maxL := 5) (ret := (some .int)) (by decide) rfl (Nat.le_of_ble_eq_true rfl) (fun p e s m below meth c ls X hl hB => ?_)
  obtain ⟨hsz, hP, hK, hD0, hN⟩ := hB
  subst hsz
  have hD := hD0.self (sz := s.heap.size)
  generalize hAe : va_A (cat []) s.heap.size = A at hD ⊢
  have hA : ∀ q : Nat, s.heap.size ≤ q → A q := fun q h => by rw [← hAe]; exact Or.inr h
  have hS : va_S A s.heap s.heap [] := va_S.rf
  obtain ⟨hx, hb, hml, hown, hts, hr, hlk, hnm⟩ := id X
  have hl : lv_has ls 5 [(0, .ref a0), (1, .int v1), (2, .int v2), (3, .int v3)] := hl
  have hP : va_P D classes (cat []) s.heap := hP
  have hK : va_K D classes (TY kA) s := hK
  refine lv_iload_n (pc := 0) hx hb d_Mo_edge_0 rfl (lv_at hl 1 rfl) ?_
  refine k_goI (gr := []) (k_rS (pc := 1) (As := [.int v1]) (rest := []) X (c_Mo_isPlace l D kA v1 s.heap.size) rfl wm_2978 wm_9 wm_2976 wm_2977 1 (by decide +kernel) ⟨Nat.le_of_ble_eq_true rfl, Nat.le_of_ble_eq_true rfl⟩ rfl rfl (k_pre hN hK hP hD [] [] 0 rfl (by decide) rfl) rfl hl.1 rfl (Nat.le_of_ble_eq_true rfl) d_Mo_edge_1 ⟨Nat.le_of_ble_eq_true rfl, Nat.le_of_ble_eq_true rfl⟩) hP hD hS hA [] [] 0 rfl (by decide) rfl rfl (fun r1 u2 H locs hu2 hP hD hS => ?_)
  subst hu2
  have hP : va_P D classes (cat []) H := hP
  have hD : va_D A (cat []) := hD
  refine lv_if_ne (pc := 4) (tgt := 9) hx hb d_Mo_edge_4 (by decide) (fun c1 => absurd (hgM) c1) (fun c1 => ?_)
  refine lv_iconst (pc := 7) (v := -1) hx hb d_Mo_edge_7 (by decide) ?_
  refine W.widen (k := 0) (n := 0) (Nat.le_of_ble_eq_true rfl) (Nat.le_of_ble_eq_true rfl) ?_
  exact W.iret (v := (-1)) hx hb hr (fun t ht hW => ⟨⟨(-1), [], rfl, rfl, by rw [ht]; exact hP, va_K.moved hW.alike hK, hD⟩, hS.F ht⟩) hS.2.2 d_Mo_edge_8
set_option maxRecDepth 100000 in
set_option maxHeartbeats 4000000 in
/-- edge, a fresh house -/
theorem lf_edge_1 {p : Program} {e : Env} {s : State} {m : MethodId} {below : List Frame} {meth : Method} {c : Code} (l : Launch) {b : Nat} {xs : Nat → Int32} (C0 : lw_At p s m meth c b 6 xs) {D : va_G} {kA : Nat → ClassId} (h : Nat) (h2 : Nat) (q : Nat → Nat) (qm : Nat → Nat) (v1 : Int32) (v2 : Int32) (v3 : Int32) (hg : sp_Ho_isPlace v1 = 0) (hgM : sp_Mo_isPlace v1 = 0) (hv1 : xs 1 = v1) (hv2 : xs 2 = v2) (hv3 : xs 3 = v3) {H : Heap} {locs : List Loc} {ls : Array Slot} (hK : va_K D classes (TY kA) s) (hN : nst s) (hP : va_P D classes (cat [[(h, .inr (12, [.ref (q 0), .ref (q 1), .ref (q 2), .ref (q 3), .ref (q 4), .ref (q 5), .ref (q 6), .int 0, .int ((-1)), .ref (q 9), .ref (q 10), .int 0, .int 0, .ref (q 13), .int 0, .int 0, .null, .null, .null, .null, .null]))], [(h2, .inr (13, mF qm x0Mo y0Mo))]]) H) (hD : va_D (fun q : Nat => s.heap.size ≤ q) (cat [[(h, .inr (12, [.ref (q 0), .ref (q 1), .ref (q 2), .ref (q 3), .ref (q 4), .ref (q 5), .ref (q 6), .int 0, .int ((-1)), .ref (q 9), .ref (q 10), .int 0, .int 0, .ref (q 13), .int 0, .int 0, .null, .null, .null, .null, .null]))], [(h2, .inr (13, mF qm x0Mo y0Mo))]])) (hS : va_S (fun q : Nat => s.heap.size ≤ q) s.heap H locs) (hl : lv_has ls 4 [(3, .int 0), (2, .ref h2), (1, .ref h), (0, .ref b)]) : W p l e room_1 s m #[Value.ref b] below meth c H locs 368 365796 (lw_Z below #[Value.ref b] s) (F0 m 355 ls []) := by
  obtain ⟨hx, hb, hr, hml, hown, hts0, hX, hbl, hlocks, hgv⟩ := id C0
  have hts : ∀ w ∈ lw_g, w.before #[Value.ref b] s = true := fun w h => hts0 w (lw_gt h)
  have X : cx p s m #[Value.ref b] meth c b_law_law 4 ret "DrawingHouseLaw" meth.name := ⟨hx, hb, hml, hown, hts, hr, hlocks, rfl⟩
  obtain ⟨A, hAe⟩ : ∃ A : Nat → Prop, A = fun q : Nat => s.heap.size ≤ q := ⟨_, rfl⟩
  have hA : ∀ q : Nat, s.heap.size ≤ q → A q := fun q h => by rw [hAe]; exact h
  have hbA : ¬ A b := by rw [hAe]; exact Nat.not_le.mpr hbl
  rw [← hAe] at hD hS
  refine lv_aload_n (pc := 355) hx hb d_law_law_355 rfl (lv_at hl 2 rfl) ?_
  refine lv_aload_n (pc := 356) hx hb d_law_law_356 rfl (lv_at hl 3 rfl) ?_
  refine lv_iload_n (pc := 357) hx hb d_law_law_357 rfl (lv_at hl 0 rfl) ?_
  refine lv_iconst (pc := 358) (v := 1) hx hb d_law_law_358 (by decide) ?_
  refine lv_iadd (pc := 359) hx hb d_law_law_359 ?_
  refine k_cst (v := 1) (by decide) ?_
  refine va_sld (pc := 360) hx hb hX hbl hbA hS (by unfold vp_in; decide) d_law_law_360 ?_
  refine k_cst (v := v1) hv1 ?_
  refine lv_aload_n (pc := 361) hx hb d_law_law_361 rfl (lv_at hl 3 rfl) ?_
  refine lv_iload_n (pc := 362) hx hb d_law_law_362 rfl (lv_at hl 0 rfl) ?_
  refine lv_iconst (pc := 363) (v := 2) hx hb d_law_law_363 (by decide) ?_
  refine lv_iadd (pc := 364) hx hb d_law_law_364 ?_
  refine k_cst (v := 2) (by decide) ?_
  refine va_sld (pc := 365) hx hb hX hbl hbA hS (by unfold vp_in; decide) d_law_law_365 ?_
  refine k_cst (v := v2) hv2 ?_
  refine lv_aload_n (pc := 366) hx hb d_law_law_366 rfl (lv_at hl 3 rfl) ?_
  refine lv_iload_n (pc := 367) hx hb d_law_law_367 rfl (lv_at hl 0 rfl) ?_
  refine lv_iconst (pc := 368) (v := 3) hx hb d_law_law_368 (by decide) ?_
  refine lv_iadd (pc := 369) hx hb d_law_law_369 ?_
  refine k_cst (v := 3) (by decide) ?_
  refine va_sld (pc := 370) hx hb hX hbl hbA hS (by unfold vp_in; decide) d_law_law_370 ?_
  refine k_cst (v := v3) hv3 ?_
  refine k_goI (gr := [[(h, .inr (12, [.ref (q 0), .ref (q 1), .ref (q 2), .ref (q 3), .ref (q 4), .ref (q 5), .ref (q 6), .int 0, .int ((-1)), .ref (q 9), .ref (q 10), .int 0, .int 0, .ref (q 13), .int 0, .int 0, .null, .null, .null, .null, .null]))], [(h2, .inr (13, mF qm x0Mo y0Mo))]]) (k_rV (pc := 371) (As := [.int v1, .int v2, .int v3]) (rest := []) X (c_Ho_edge_z1 l D kA h v1 v2 v3 hg hgM H.size) rfl wm_926 wm_1 wm_923 wm_924 wm_925 3 (by decide +kernel) ⟨Nat.le_of_ble_eq_true rfl, Nat.le_of_ble_eq_true rfl⟩ rfl rfl (va_recv hK hP (ci := 12) (q0 := 0) rfl rfl) (k_pre hN hK hP hD [] [0, 1] 2 rfl (by decide) rfl) rfl hl.1 rfl (Nat.le_of_ble_eq_true rfl) d_law_law_371 ⟨Nat.le_of_ble_eq_true rfl, Nat.le_of_ble_eq_true rfl⟩) hP hD hS hA [] [0, 1] 2 rfl (by decide) rfl rfl (fun r1 u2 H locs hu2 hP hD hS => ?_)
  obtain ⟨hP, hD⟩ := k_left hP hD
  subst hu2
  have hP : va_P D classes (cat [[(h, .inr (12, [.ref (q 0), .ref (q 1), .ref (q 2), .ref (q 3), .ref (q 4), .ref (q 5), .ref (q 6), .int 0, .int ((-1)), .ref (q 9), .ref (q 10), .int 0, .int 0, .ref (q 13), .int 0, .int 0, .null, .null, .null, .null, .null]))], [(h2, .inr (13, mF qm x0Mo y0Mo))]]) H := hP
  have hD : va_D A (cat [[(h, .inr (12, [.ref (q 0), .ref (q 1), .ref (q 2), .ref (q 3), .ref (q 4), .ref (q 5), .ref (q 6), .int 0, .int ((-1)), .ref (q 9), .ref (q 10), .int 0, .int 0, .ref (q 13), .int 0, .int 0, .null, .null, .null, .null, .null]))], [(h2, .inr (13, mF qm x0Mo y0Mo))]]) := hD
  refine lv_aload_n (pc := 374) hx hb d_law_law_374 rfl (lv_at hl 1 rfl) ?_
  refine lv_aload_n (pc := 375) hx hb d_law_law_375 rfl (lv_at hl 3 rfl) ?_
  refine lv_iload_n (pc := 376) hx hb d_law_law_376 rfl (lv_at hl 0 rfl) ?_
  refine lv_iconst (pc := 377) (v := 1) hx hb d_law_law_377 (by decide) ?_
  refine lv_iadd (pc := 378) hx hb d_law_law_378 ?_
  refine k_cst (v := 1) (by decide) ?_
  refine va_sld (pc := 379) hx hb hX hbl hbA hS (by unfold vp_in; decide) d_law_law_379 ?_
  refine k_cst (v := v1) hv1 ?_
  refine lv_aload_n (pc := 380) hx hb d_law_law_380 rfl (lv_at hl 3 rfl) ?_
  refine lv_iload_n (pc := 381) hx hb d_law_law_381 rfl (lv_at hl 0 rfl) ?_
  refine lv_iconst (pc := 382) (v := 2) hx hb d_law_law_382 (by decide) ?_
  refine lv_iadd (pc := 383) hx hb d_law_law_383 ?_
  refine k_cst (v := 2) (by decide) ?_
  refine va_sld (pc := 384) hx hb hX hbl hbA hS (by unfold vp_in; decide) d_law_law_384 ?_
  refine k_cst (v := v2) hv2 ?_
  refine lv_aload_n (pc := 385) hx hb d_law_law_385 rfl (lv_at hl 3 rfl) ?_
  refine lv_iload_n (pc := 386) hx hb d_law_law_386 rfl (lv_at hl 0 rfl) ?_
  refine lv_iconst (pc := 387) (v := 3) hx hb d_law_law_387 (by decide) ?_
  refine lv_iadd (pc := 388) hx hb d_law_law_388 ?_
  refine k_cst (v := 3) (by decide) ?_
  refine va_sld (pc := 389) hx hb hX hbl hbA hS (by unfold vp_in; decide) d_law_law_389 ?_
  refine k_cst (v := v3) hv3 ?_
  refine k_goI (gr := [[(h, .inr (12, [.ref (q 0), .ref (q 1), .ref (q 2), .ref (q 3), .ref (q 4), .ref (q 5), .ref (q 6), .int 0, .int ((-1)), .ref (q 9), .ref (q 10), .int 0, .int 0, .ref (q 13), .int 0, .int 0, .null, .null, .null, .null, .null]))], [(h2, .inr (13, mF qm x0Mo y0Mo))]]) (k_rV (pc := 390) (As := [.int v1, .int v2, .int v3]) (rest := [.int ((-1))]) X (c_Mo_edge_z1 l D kA h2 v1 v2 v3 hg hgM H.size) rfl wm_3335 wm_9 wm_3332 wm_3333 wm_3334 3 (by decide +kernel) ⟨Nat.le_of_ble_eq_true rfl, Nat.le_of_ble_eq_true rfl⟩ rfl rfl (va_recv hK hP (ci := 13) (q0 := 1) rfl rfl) (k_pre hN hK hP hD [] [0, 1] 2 rfl (by decide) rfl) rfl hl.1 rfl (Nat.le_of_ble_eq_true rfl) d_law_law_390 ⟨Nat.le_of_ble_eq_true rfl, Nat.le_of_ble_eq_true rfl⟩) hP hD hS hA [] [0, 1] 2 rfl (by decide) rfl rfl (fun r3 u4 H locs hu4 hP hD hS => ?_)
  obtain ⟨hP, hD⟩ := k_left hP hD
  subst hu4
  have hP : va_P D classes (cat [[(h, .inr (12, [.ref (q 0), .ref (q 1), .ref (q 2), .ref (q 3), .ref (q 4), .ref (q 5), .ref (q 6), .int 0, .int ((-1)), .ref (q 9), .ref (q 10), .int 0, .int 0, .ref (q 13), .int 0, .int 0, .null, .null, .null, .null, .null]))], [(h2, .inr (13, mF qm x0Mo y0Mo))]]) H := hP
  have hD : va_D A (cat [[(h, .inr (12, [.ref (q 0), .ref (q 1), .ref (q 2), .ref (q 3), .ref (q 4), .ref (q 5), .ref (q 6), .int 0, .int ((-1)), .ref (q 9), .ref (q 10), .int 0, .int 0, .ref (q 13), .int 0, .int 0, .null, .null, .null, .null, .null]))], [(h2, .inr (13, mF qm x0Mo y0Mo))]]) := hD
  refine lv_icmp_eq (pc := 393) (tgt := 1295) hx hb d_law_law_393 (by decide) (fun _ => ?_) (fun c1 => absurd (by decide) c1)
  rw [hAe] at hS
  exact law_exit l C0 (Nat.le_of_ble_eq_true rfl) (Nat.le_of_ble_eq_true rfl) hS hl
set_option maxRecDepth 100000 in
set_option maxHeartbeats 4000000 in
/-- DrawingHouse$Graph.hasEdge(I)Z -/
theorem c_Gr_hasEdge_z1 (l : Launch) (D : va_G) (kA : Nat → ClassId) (g : Nat → Nat → Nat) (j : Nat) (v2 : Int32) (a0 : Nat) (a1 : Nat) (a2 : Nat) (a3 : Nat) (a4 : Nat) (a5 : Nat) (a6 : Nat) (a7 : Nat) (a8 : Nat) (a9 : Nat) (a10 : Nat) (a11 : Nat) (a12 : Nat) (hj : j < 4) : Ci l y_Gr_hasEdge z_Gr_hasEdge { frames := 0, cells := 0, slots := 0, locals := 0 } D classes (TY kA) [.ref (g 0 j), .int v2] [[(g 0 j, .inr (3, [.int 0, .int 0, .int 1, .ref a0, .ref a1, .ref a2, .ref a3, .ref a4, .ref a5, .ref a6, .ref a7, .ref a8, .ref a9, .ref a10, .ref a11, .ref a12, .null, .int 0, .int 0]))]] (fun r (_ : Unit) => r = 0) (fun u => [[(g 0 j, .inr (3, [.int 0, .int 0, .int 1, .ref a0, .ref a1, .ref a2, .ref a3, .ref a4, .ref a5, .ref a6, .ref a7, .ref a8, .ref a9, .ref a10, .ref a11, .ref a12, .null, .int 0, .int 0]))]]) 0 0 := by
  intro sz
  refine k_met (cc := b_Gr_hasEdge) (maxL := 2) (ret := (some .boolean)) (by decide) rfl (Nat.le_of_ble_eq_true rfl) (fun p e s m below meth c ls X hl hB => ?_)
  obtain ⟨hsz, hP, hK, hD0, hN⟩ := hB
  subst hsz
  have hD := hD0.self (sz := s.heap.size)
  generalize hAe : va_A (cat [[(g 0 j, .inr (3, [.int 0, .int 0, .int 1, .ref a0, .ref a1, .ref a2, .ref a3, .ref a4, .ref a5, .ref a6, .ref a7, .ref a8, .ref a9, .ref a10, .ref a11, .ref a12, .null, .int 0, .int 0]))]]) s.heap.size = A at hD ⊢
  have hA : ∀ q : Nat, s.heap.size ≤ q → A q := fun q h => by rw [← hAe]; exact Or.inr h
  have hS : va_S A s.heap s.heap [] := va_S.rf
  obtain ⟨hx, hb, hml, hown, hts, hr, hlk, hnm⟩ := id X
  have hl : lv_has ls 2 [(0, .ref (g 0 j)), (1, .int v2)] := hl
  have hP : va_P D classes (cat [[(g 0 j, .inr (3, [.int 0, .int 0, .int 1, .ref a0, .ref a1, .ref a2, .ref a3, .ref a4, .ref a5, .ref a6, .ref a7, .ref a8, .ref a9, .ref a10, .ref a11, .ref a12, .null, .int 0, .int 0]))]]) s.heap := hP
  have hK : va_K D classes (TY kA) s := hK
  refine lv_iload_n (pc := 0) hx hb d_Gr_hasEdge_0 rfl (lv_at hl 1 rfl) ?_
  refine lv_if_lt (pc := 1) (tgt := 16) hx hb d_Gr_hasEdge_1 (by decide) (fun ck1 => ?_) (fun ck1 => ?_)
  · refine lv_iconst (pc := 16) (v := 0) hx hb d_Gr_hasEdge_16 (by decide) ?_
    refine W.widen (k := 0) (n := 0) (Nat.le_of_ble_eq_true rfl) (Nat.le_of_ble_eq_true rfl) ?_
    exact W.zret (v := 0) hx hb hr rfl (fun t ht hW => ⟨⟨0, (), rfl, rfl, by rw [ht]; exact hP, va_K.moved hW.alike hK, hD⟩, hS.F ht⟩) hS.2.2 d_Gr_hasEdge_17
  · refine lv_iload_n (pc := 4) hx hb d_Gr_hasEdge_4 rfl (lv_at hl 1 rfl) ?_
    refine lv_aload_n (pc := 5) hx hb d_Gr_hasEdge_5 rfl (lv_at hl 0 rfl) ?_
    refine k_get (pc := 6) X hK hP 0 rfl rfl i_Gr 1 (by decide) wm_68 rfl rfl d_Gr_hasEdge_6 ?_
    refine lv_icmp_ge (pc := 9) (tgt := 16) hx hb d_Gr_hasEdge_9 (by decide) (fun c1 => ?_) (fun c1 => absurd (Int32.not_lt.mp ck1) c1)
    refine lv_iconst (pc := 16) (v := 0) hx hb d_Gr_hasEdge_16 (by decide) ?_
    refine W.widen (k := 0) (n := 0) (Nat.le_of_ble_eq_true rfl) (Nat.le_of_ble_eq_true rfl) ?_
    exact W.zret (v := 0) hx hb hr rfl (fun t ht hW => ⟨⟨0, (), rfl, rfl, by rw [ht]; exact hP, va_K.moved hW.alike hK, hD⟩, hS.F ht⟩) hS.2.2 d_Gr_hasEdge_17
set_option maxRecDepth 100000 in
set_option maxHeartbeats 4000000 in
/-- DrawingHouse.edge(III)I -/
theorem c_Ho_edge_z2 (l : Launch) (D : va_G) (kA : Nat → ClassId) (a0 : Nat) (j : Nat) (v2 : Int32) (v3 : Int32) (a1 : Nat) (a2 : Nat) (a3 : Nat) (a4 : Nat) (a5 : Nat) (a6 : Nat) (a7 : Nat) (a8 : Nat) (a9 : Nat) (a10 : Nat) (g : Nat → Nat → Nat) (a11 : Nat) (a12 : Nat) (a13 : Nat) (a14 : Nat) (a15 : Nat) (a16 : Nat) (a17 : Nat) (a18 : Nat) (a19 : Nat) (a20 : Nat) (a21 : Nat) (a22 : Nat) (a23 : Nat) (hj : j < 4) : Ci l y_Ho_edge z_Ho_edge { frames := 1, cells := 0, slots := 0, locals := 21 } D classes (TY kA) [.ref a0, .int (nI j), .int v2, .int v3] [[(a0, .inr (12, [.ref a1, .ref a2, .ref a3, .ref a4, .ref a5, .ref a6, .ref a7, .int 0, .int ((-1)), .ref a8, .ref a9, .int 0, .int 0, .ref a10, .int 0, .int 0, .null, .null, .null, .null, .null]))], [(a1, .inl (kA 4, 4, .inr (.inr (.inr (.inr (rr (g 0)))))))], [(g 0 j, .inr (3, [.int 0, .int 0, .int 1, .ref a11, .ref a12, .ref a13, .ref a14, .ref a15, .ref a16, .ref a17, .ref a18, .ref a19, .ref a20, .ref a21, .ref a22, .ref a23, .null, .int 0, .int 0]))]] (fun r (_ : List va_W) => r = (-1)) (fun u => u) 0 0 := by
  intro sz
  refine k_met (cc := b_Ho_edge) (maxL := 4) (ret := (some .int)) (by decide) rfl (Nat.le_of_ble_eq_true rfl) (fun p e s m below meth c ls X hl hB => ?_)
  obtain ⟨hsz, hP, hK, hD0, hN⟩ := hB
  subst hsz
  have hD := hD0.self (sz := s.heap.size)
  generalize hAe : va_A (cat [[(a0, .inr (12, [.ref a1, .ref a2, .ref a3, .ref a4, .ref a5, .ref a6, .ref a7, .int 0, .int ((-1)), .ref a8, .ref a9, .int 0, .int 0, .ref a10, .int 0, .int 0, .null, .null, .null, .null, .null]))], [(a1, .inl (kA 4, 4, .inr (.inr (.inr (.inr (rr (g 0)))))))], [(g 0 j, .inr (3, [.int 0, .int 0, .int 1, .ref a11, .ref a12, .ref a13, .ref a14, .ref a15, .ref a16, .ref a17, .ref a18, .ref a19, .ref a20, .ref a21, .ref a22, .ref a23, .null, .int 0, .int 0]))]]) s.heap.size = A at hD ⊢
  have hA : ∀ q : Nat, s.heap.size ≤ q → A q := fun q h => by rw [← hAe]; exact Or.inr h
  have hS : va_S A s.heap s.heap [] := va_S.rf
  obtain ⟨hx, hb, hml, hown, hts, hr, hlk, hnm⟩ := id X
  have hl : lv_has ls 4 [(0, .ref a0), (1, .int (nI j)), (2, .int v2), (3, .int v3)] := hl
  have hP : va_P D classes (cat [[(a0, .inr (12, [.ref a1, .ref a2, .ref a3, .ref a4, .ref a5, .ref a6, .ref a7, .int 0, .int ((-1)), .ref a8, .ref a9, .int 0, .int 0, .ref a10, .int 0, .int 0, .null, .null, .null, .null, .null]))], [(a1, .inl (kA 4, 4, .inr (.inr (.inr (.inr (rr (g 0)))))))], [(g 0 j, .inr (3, [.int 0, .int 0, .int 1, .ref a11, .ref a12, .ref a13, .ref a14, .ref a15, .ref a16, .ref a17, .ref a18, .ref a19, .ref a20, .ref a21, .ref a22, .ref a23, .null, .int 0, .int 0]))]]) s.heap := hP
  have hK : va_K D classes (TY kA) s := hK
  refine lv_iload_n (pc := 0) hx hb d_Ho_edge_0 rfl (lv_at hl 1 rfl) ?_
  refine k_goI (gr := [[(a0, .inr (12, [.ref a1, .ref a2, .ref a3, .ref a4, .ref a5, .ref a6, .ref a7, .int 0, .int ((-1)), .ref a8, .ref a9, .int 0, .int 0, .ref a10, .int 0, .int 0, .null, .null, .null, .null, .null]))], [(a1, .inl (kA 4, 4, .inr (.inr (.inr (.inr (rr (g 0)))))))], [(g 0 j, .inr (3, [.int 0, .int 0, .int 1, .ref a11, .ref a12, .ref a13, .ref a14, .ref a15, .ref a16, .ref a17, .ref a18, .ref a19, .ref a20, .ref a21, .ref a22, .ref a23, .null, .int 0, .int 0]))]]) (k_rS (pc := 1) (As := [.int (nI j)]) (rest := []) X (c_Ho_isPlace l D kA (nI j) s.heap.size) rfl wm_633 wm_1 wm_631 wm_632 1 (by decide +kernel) ⟨Nat.le_of_ble_eq_true rfl, Nat.le_of_ble_eq_true rfl⟩ rfl rfl (k_pre hN hK hP hD [] [0, 1, 2] 3 rfl (by decide) rfl) rfl hl.1 rfl (Nat.le_of_ble_eq_true rfl) d_Ho_edge_1 ⟨Nat.le_of_ble_eq_true rfl, Nat.le_of_ble_eq_true rfl⟩) hP hD hS hA [] [0, 1, 2] 3 rfl (by decide) rfl rfl (fun r1 u2 H locs hu2 hP hD hS => ?_)
  subst hu2
  refine k_cst (v := 1) (place_ok hj) ?_
  have hP : va_P D classes (cat [[(a0, .inr (12, [.ref a1, .ref a2, .ref a3, .ref a4, .ref a5, .ref a6, .ref a7, .int 0, .int ((-1)), .ref a8, .ref a9, .int 0, .int 0, .ref a10, .int 0, .int 0, .null, .null, .null, .null, .null]))], [(a1, .inl (kA 4, 4, .inr (.inr (.inr (.inr (rr (g 0)))))))], [(g 0 j, .inr (3, [.int 0, .int 0, .int 1, .ref a11, .ref a12, .ref a13, .ref a14, .ref a15, .ref a16, .ref a17, .ref a18, .ref a19, .ref a20, .ref a21, .ref a22, .ref a23, .null, .int 0, .int 0]))]]) H := hP
  have hD : va_D A (cat [[(a0, .inr (12, [.ref a1, .ref a2, .ref a3, .ref a4, .ref a5, .ref a6, .ref a7, .int 0, .int ((-1)), .ref a8, .ref a9, .int 0, .int 0, .ref a10, .int 0, .int 0, .null, .null, .null, .null, .null]))], [(a1, .inl (kA 4, 4, .inr (.inr (.inr (.inr (rr (g 0)))))))], [(g 0 j, .inr (3, [.int 0, .int 0, .int 1, .ref a11, .ref a12, .ref a13, .ref a14, .ref a15, .ref a16, .ref a17, .ref a18, .ref a19, .ref a20, .ref a21, .ref a22, .ref a23, .null, .int 0, .int 0]))]]) := hD
  refine lv_if_eq (pc := 4) (tgt := 20) hx hb d_Ho_edge_4 (by decide) (fun c1 => absurd c1 (by decide)) (fun c1 => ?_)
  refine lv_aload_n (pc := 7) hx hb d_Ho_edge_7 rfl (lv_at hl 0 rfl) ?_
  refine k_get (pc := 8) X hK hP 0 rfl rfl i_Ho 0 (by decide) wm_555 rfl rfl d_Ho_edge_8 ?_
  refine lv_iload_n (pc := 11) hx hb d_Ho_edge_11 rfl (lv_at hl 1 rfl) ?_
  refine k_ald (pc := 12) hx hb hK hP 1 4 rfl rfl (j) rfl (by omega) (by decide) (rr_at (by omega)) d_Ho_edge_12 ?_
  refine lv_iload_n (pc := 13) hx hb d_Ho_edge_13 rfl (lv_at hl 2 rfl) ?_
  refine k_goI (gr := [[(a0, .inr (12, [.ref a1, .ref a2, .ref a3, .ref a4, .ref a5, .ref a6, .ref a7, .int 0, .int ((-1)), .ref a8, .ref a9, .int 0, .int 0, .ref a10, .int 0, .int 0, .null, .null, .null, .null, .null]))], [(a1, .inl (kA 4, 4, .inr (.inr (.inr (.inr (rr (g 0)))))))]]) (k_rV (pc := 14) (As := [.int v2]) (rest := []) X (c_Gr_hasEdge_z1 l D kA g j v2 a11 a12 a13 a14 a15 a16 a17 a18 a19 a20 a21 a22 a23 hj H.size) rfl wm_930 wm_3 wm_927 wm_928 wm_929 1 (by decide +kernel) ⟨Nat.le_of_ble_eq_true rfl, Nat.le_of_ble_eq_true rfl⟩ rfl rfl (va_recv hK hP (ci := 3) (q0 := 2) rfl rfl) (k_pre hN hK hP hD [2] [0, 1] 3 rfl (by decide) rfl) rfl hl.1 rfl (Nat.le_of_ble_eq_true rfl) d_Ho_edge_14 ⟨Nat.le_of_ble_eq_true rfl, Nat.le_of_ble_eq_true rfl⟩) hP hD hS hA [2] [0, 1] 3 rfl (by decide) rfl rfl (fun r3 u4 H locs hu4 hP hD hS => ?_)
  subst hu4
  have hP : va_P D classes (cat [[(a0, .inr (12, [.ref a1, .ref a2, .ref a3, .ref a4, .ref a5, .ref a6, .ref a7, .int 0, .int ((-1)), .ref a8, .ref a9, .int 0, .int 0, .ref a10, .int 0, .int 0, .null, .null, .null, .null, .null]))], [(a1, .inl (kA 4, 4, .inr (.inr (.inr (.inr (rr (g 0)))))))], [(g 0 j, .inr (3, [.int 0, .int 0, .int 1, .ref a11, .ref a12, .ref a13, .ref a14, .ref a15, .ref a16, .ref a17, .ref a18, .ref a19, .ref a20, .ref a21, .ref a22, .ref a23, .null, .int 0, .int 0]))]]) H := hP
  have hD : va_D A (cat [[(a0, .inr (12, [.ref a1, .ref a2, .ref a3, .ref a4, .ref a5, .ref a6, .ref a7, .int 0, .int ((-1)), .ref a8, .ref a9, .int 0, .int 0, .ref a10, .int 0, .int 0, .null, .null, .null, .null, .null]))], [(a1, .inl (kA 4, 4, .inr (.inr (.inr (.inr (rr (g 0)))))))], [(g 0 j, .inr (3, [.int 0, .int 0, .int 1, .ref a11, .ref a12, .ref a13, .ref a14, .ref a15, .ref a16, .ref a17, .ref a18, .ref a19, .ref a20, .ref a21, .ref a22, .ref a23, .null, .int 0, .int 0]))]]) := hD
  refine lv_if_ne (pc := 17) (tgt := 22) hx hb d_Ho_edge_17 (by decide) (fun c1 => absurd (by decide) c1) (fun c1 => ?_)
  refine lv_iconst (pc := 20) (v := -1) hx hb d_Ho_edge_20 (by decide) ?_
  refine W.widen (k := 0) (n := 0) (Nat.le_of_ble_eq_true rfl) (Nat.le_of_ble_eq_true rfl) ?_
  exact W.iret (v := (-1)) hx hb hr (fun t ht hW => ⟨⟨(-1), [[(a0, .inr (12, [.ref a1, .ref a2, .ref a3, .ref a4, .ref a5, .ref a6, .ref a7, .int 0, .int ((-1)), .ref a8, .ref a9, .int 0, .int 0, .ref a10, .int 0, .int 0, .null, .null, .null, .null, .null]))], [(a1, .inl (kA 4, 4, .inr (.inr (.inr (.inr (rr (g 0)))))))], [(g 0 j, .inr (3, [.int 0, .int 0, .int 1, .ref a11, .ref a12, .ref a13, .ref a14, .ref a15, .ref a16, .ref a17, .ref a18, .ref a19, .ref a20, .ref a21, .ref a22, .ref a23, .null, .int 0, .int 0]))]], rfl, rfl, by rw [ht]; exact hP, va_K.moved hW.alike hK, hD⟩, hS.F ht⟩) hS.2.2 d_Ho_edge_21
set_option maxRecDepth 100000 in
set_option maxHeartbeats 4000000 in
/-- DrawingHouseModel.edges()I -/
theorem c_Mo_edges_z1 (l : Launch) (D : va_G) (kA : Nat → ClassId) (a0 : Nat) (qm : Nat → Nat) (j : Nat) (hj : j < 4) : Ci l y_Mo_edges z_Mo_edges { frames := 0, cells := 0, slots := 0, locals := 0 } D classes (TY kA) [.ref a0] [[(a0, .inr (13, mF qm (va_up x0Mo 5 (nI (539 * (31 * j + 0)))) y0Mo))], [(qm 2, .inl (kA 0, 66836, .inl all0))]] (fun r (_ : Unit) => r = 0) (fun u => [[(a0, .inr (13, mF qm (va_up x0Mo 5 (nI (539 * (31 * j + 0)))) y0Mo))], [(qm 2, .inl (kA 0, 66836, .inl all0))]]) 0 0 := by
  intro sz
  refine k_met (cc := b_Mo_edges) (maxL := 1) (ret := (some .int)) (by decide) rfl (Nat.le_of_ble_eq_true rfl) (fun p e s m below meth c ls X hl hB => ?_)
  obtain ⟨hsz, hP, hK, hD0, hN⟩ := hB
  subst hsz
  have hD := hD0.self (sz := s.heap.size)
  generalize hAe : va_A (cat [[(a0, .inr (13, mF qm (va_up x0Mo 5 (nI (539 * (31 * j + 0)))) y0Mo))], [(qm 2, .inl (kA 0, 66836, .inl all0))]]) s.heap.size = A at hD ⊢
  have hA : ∀ q : Nat, s.heap.size ≤ q → A q := fun q h => by rw [← hAe]; exact Or.inr h
  have hS : va_S A s.heap s.heap [] := va_S.rf
  obtain ⟨hx, hb, hml, hown, hts, hr, hlk, hnm⟩ := id X
  have hl : lv_has ls 1 [(0, .ref a0)] := hl
  have hP : va_P D classes (cat [[(a0, .inr (13, mF qm (va_up x0Mo 5 (nI (539 * (31 * j + 0)))) y0Mo))], [(qm 2, .inl (kA 0, 66836, .inl all0))]]) s.heap := hP
  have hK : va_K D classes (TY kA) s := hK
  refine lv_aload_n (pc := 0) hx hb d_Mo_edges_0 rfl (lv_at hl 0 rfl) ?_
  refine k_get (pc := 1) (v := .ref (qm 2)) X hK hP 0 rfl rfl i_Mo 2 (by decide) wm_2435 rfl rfl d_Mo_edges_1 ?_
  refine lv_aload_n (pc := 4) hx hb d_Mo_edges_4 rfl (lv_at hl 0 rfl) ?_
  refine k_get (pc := 5) (v := .int (nI (539 * (31 * j + 0)))) X hK hP 0 rfl rfl i_Mo 5 (by decide) wm_2438 rfl rfl d_Mo_edges_5 ?_
  refine lv_iconst (pc := 8) (v := 1) hx hb d_Mo_edges_8 (by decide) ?_
  refine k_add (pc := 9) (x := 539 * (31 * j + 0)) (y := 1) hx hb d_Mo_edges_9 ?_
  refine k_ild (pc := 10) hx hb hK hP 1 0 rfl rfl ((539 * (31 * j + 0)) + 1) rfl (by omega) (by decide) d_Mo_edges_10 ?_
  refine k_cst (v := 0) (all0_e hj (o := 1) (by omega) (by decide) rfl) ?_
  refine W.widen (k := 0) (n := 0) (Nat.le_of_ble_eq_true rfl) (Nat.le_of_ble_eq_true rfl) ?_
  exact W.iret (v := 0) hx hb hr (fun t ht hW => ⟨⟨0, (), rfl, rfl, by rw [ht]; exact hP, va_K.moved hW.alike hK, hD⟩, hS.F ht⟩) hS.2.2 d_Mo_edges_11
set_option maxRecDepth 100000 in
set_option maxHeartbeats 4000000 in
/-- DrawingHouseModel.edge(III)I -/
theorem c_Mo_edge_z2 (l : Launch) (D : va_G) (kA : Nat → ClassId) (a0 : Nat) (j : Nat) (v2 : Int32) (v3 : Int32) (qm : Nat → Nat) (hj : j < 4) : Ci l y_Mo_edge z_Mo_edge { frames := 2, cells := 0, slots := 0, locals := 42 } D classes (TY kA) [.ref a0, .int (nI j), .int v2, .int v3] [[(a0, .inr (13, mF qm x0Mo y0Mo))], [(qm 3, .inl (kA 0, 4, .inl (fun _ => 0)))], [(qm 2, .inl (kA 0, 66836, .inl all0))]] (fun r (_ : List va_W) => r = (-1)) (fun u => u) 0 0 := by
  intro sz
  refine k_met (cc := b_Mo_edge) (maxL := 5) (ret := (some .int)) (by decide) rfl (Nat.le_of_ble_eq_true rfl) (fun p e s m below meth c ls X hl hB => ?_)
  obtain ⟨hsz, hP, hK, hD0, hN⟩ := hB
  subst hsz
  have hD := hD0.self (sz := s.heap.size)
  generalize hAe : va_A (cat [[(a0, .inr (13, mF qm x0Mo y0Mo))], [(qm 3, .inl (kA 0, 4, .inl (fun _ => 0)))], [(qm 2, .inl (kA 0, 66836, .inl all0))]]) s.heap.size = A at hD ⊢
  have hA : ∀ q : Nat, s.heap.size ≤ q → A q := fun q h => by rw [← hAe]; exact Or.inr h
  have hS : va_S A s.heap s.heap [] := va_S.rf
  obtain ⟨hx, hb, hml, hown, hts, hr, hlk, hnm⟩ := id X
  have hl : lv_has ls 5 [(0, .ref a0), (1, .int (nI j)), (2, .int v2), (3, .int v3)] := hl
  have hP : va_P D classes (cat [[(a0, .inr (13, mF qm x0Mo y0Mo))], [(qm 3, .inl (kA 0, 4, .inl (fun _ => 0)))], [(qm 2, .inl (kA 0, 66836, .inl all0))]]) s.heap := hP
  have hK : va_K D classes (TY kA) s := hK
  refine lv_iload_n (pc := 0) hx hb d_Mo_edge_0 rfl (lv_at hl 1 rfl) ?_
  refine k_goI (gr := [[(a0, .inr (13, mF qm x0Mo y0Mo))], [(qm 3, .inl (kA 0, 4, .inl (fun _ => 0)))], [(qm 2, .inl (kA 0, 66836, .inl all0))]]) (k_rS (pc := 1) (As := [.int (nI j)]) (rest := []) X (c_Mo_isPlace l D kA (nI j) s.heap.size) rfl wm_2978 wm_9 wm_2976 wm_2977 1 (by decide +kernel) ⟨Nat.le_of_ble_eq_true rfl, Nat.le_of_ble_eq_true rfl⟩ rfl rfl (k_pre hN hK hP hD [] [0, 1, 2] 3 rfl (by decide) rfl) rfl hl.1 rfl (Nat.le_of_ble_eq_true rfl) d_Mo_edge_1 ⟨Nat.le_of_ble_eq_true rfl, Nat.le_of_ble_eq_true rfl⟩) hP hD hS hA [] [0, 1, 2] 3 rfl (by decide) rfl rfl (fun r1 u2 H locs hu2 hP hD hS => ?_)
  subst hu2
  refine k_cst (v := 1) (placeM_ok hj) ?_
  have hP : va_P D classes (cat [[(a0, .inr (13, mF qm x0Mo y0Mo))], [(qm 3, .inl (kA 0, 4, .inl (fun _ => 0)))], [(qm 2, .inl (kA 0, 66836, .inl all0))]]) H := hP
  have hD : va_D A (cat [[(a0, .inr (13, mF qm x0Mo y0Mo))], [(qm 3, .inl (kA 0, 4, .inl (fun _ => 0)))], [(qm 2, .inl (kA 0, 66836, .inl all0))]]) := hD
  refine lv_if_ne (pc := 4) (tgt := 9) hx hb d_Mo_edge_4 (by decide) (fun c1 => ?_) (fun c1 => absurd c1 (by decide))
  refine lv_aload_n (pc := 9) hx hb d_Mo_edge_9 rfl (lv_at hl 0 rfl) ?_
  refine lv_iload_n (pc := 10) hx hb d_Mo_edge_10 rfl (lv_at hl 1 rfl) ?_
  refine k_goV (gr := [[(qm 2, .inl (kA 0, 66836, .inl all0))]]) (k_rV (pc := 11) (As := [.int (nI j)]) (rest := []) X (c_Mo_take_z1 l D kA a0 j qm hj H.size) rfl wm_3091 wm_9 wm_3088 wm_3090 wv_14_2 1 (by decide +kernel) ⟨Nat.le_of_ble_eq_true rfl, Nat.le_of_ble_eq_true rfl⟩ rfl rfl (va_recv hK hP (ci := 13) (q0 := 0) rfl rfl) (k_pre hN hK hP hD [0, 1] [2] 3 rfl (by decide) rfl) rfl hl.1 rfl (Nat.le_of_ble_eq_true rfl) d_Mo_edge_11 ⟨Nat.le_of_ble_eq_true rfl, Nat.le_of_ble_eq_true rfl⟩) hP hD hS hA [0, 1] [2] 3 rfl (by decide) rfl rfl (fun u3 H locs hu3 hP hD hS => ?_)
  have hP : va_P D classes (cat [[(qm 2, .inl (kA 0, 66836, .inl all0))], [(a0, .inr (13, mF qm (va_up x0Mo 5 (nI (539 * (31 * j + 0)))) y0Mo))], [(qm 3, .inl (kA 0, 4, .inl (fun _ => 0)))]]) H := hP
  have hD : va_D A (cat [[(qm 2, .inl (kA 0, 66836, .inl all0))], [(a0, .inr (13, mF qm (va_up x0Mo 5 (nI (539 * (31 * j + 0)))) y0Mo))], [(qm 3, .inl (kA 0, 4, .inl (fun _ => 0)))]]) := hD
  refine lv_iload_n (pc := 14) hx hb d_Mo_edge_14 rfl (lv_at hl 2 rfl) ?_
  refine lv_iconst (pc := 15) (v := 0) hx hb d_Mo_edge_15 (by decide) ?_
  refine lv_aload_n (pc := 16) hx hb d_Mo_edge_16 rfl (lv_at hl 0 rfl) ?_
  refine k_goI (gr := [[(qm 3, .inl (kA 0, 4, .inl (fun _ => 0)))]]) (k_rV (pc := 17) (As := []) (rest := [.int 0, .int v2]) X (c_Mo_edges_z1 l D kA a0 qm j hj H.size) rfl wm_3037 wm_9 wm_3034 wm_3036 wv_13_6 0 (by decide +kernel) ⟨Nat.le_of_ble_eq_true rfl, Nat.le_of_ble_eq_true rfl⟩ rfl rfl (va_recv hK hP (ci := 13) (q0 := 1) rfl rfl) (k_pre hN hK hP hD [1, 0] [2] 3 rfl (by decide) rfl) rfl hl.1 rfl (Nat.le_of_ble_eq_true rfl) d_Mo_edge_17 ⟨Nat.le_of_ble_eq_true rfl, Nat.le_of_ble_eq_true rfl⟩) hP hD hS hA [1, 0] [2] 3 rfl (by decide) rfl rfl (fun r4 u5 H locs hu5 hP hD hS => ?_)
  subst hu5
  have hP : va_P D classes (cat [[(qm 3, .inl (kA 0, 4, .inl (fun _ => 0)))], [(a0, .inr (13, mF qm (va_up x0Mo 5 (nI (539 * (31 * j + 0)))) y0Mo))], [(qm 2, .inl (kA 0, 66836, .inl all0))]]) H := hP
  have hD : va_D A (cat [[(qm 3, .inl (kA 0, 4, .inl (fun _ => 0)))], [(a0, .inr (13, mF qm (va_up x0Mo 5 (nI (539 * (31 * j + 0)))) y0Mo))], [(qm 2, .inl (kA 0, 66836, .inl all0))]]) := hD
  refine lv_iconst (pc := 20) (v := 1) hx hb d_Mo_edge_20 (by decide) ?_
  refine lv_isub (pc := 21) hx hb d_Mo_edge_21 ?_
  refine k_cst (v := (-1)) (by decide) ?_
  refine k_goI (gr := [[(qm 3, .inl (kA 0, 4, .inl (fun _ => 0)))], [(a0, .inr (13, mF qm (va_up x0Mo 5 (nI (539 * (31 * j + 0)))) y0Mo))], [(qm 2, .inl (kA 0, 66836, .inl all0))]]) (k_rS (pc := 22) (As := [.int v2, .int 0, .int ((-1))]) (rest := []) X (c_Mo_in_z1 l D kA v2 H.size) rfl wm_2971 wm_9 wm_2969 wm_2970 3 (by decide +kernel) ⟨Nat.le_of_ble_eq_true rfl, Nat.le_of_ble_eq_true rfl⟩ rfl rfl (k_pre hN hK hP hD [] [0, 1, 2] 3 rfl (by decide) rfl) rfl hl.1 rfl (Nat.le_of_ble_eq_true rfl) d_Mo_edge_22 ⟨Nat.le_of_ble_eq_true rfl, Nat.le_of_ble_eq_true rfl⟩) hP hD hS hA [] [0, 1, 2] 3 rfl (by decide) rfl rfl (fun r6 u7 H locs hu7 hP hD hS => ?_)
  subst hu7
  have hP : va_P D classes (cat [[(qm 3, .inl (kA 0, 4, .inl (fun _ => 0)))], [(a0, .inr (13, mF qm (va_up x0Mo 5 (nI (539 * (31 * j + 0)))) y0Mo))], [(qm 2, .inl (kA 0, 66836, .inl all0))]]) H := hP
  have hD : va_D A (cat [[(qm 3, .inl (kA 0, 4, .inl (fun _ => 0)))], [(a0, .inr (13, mF qm (va_up x0Mo 5 (nI (539 * (31 * j + 0)))) y0Mo))], [(qm 2, .inl (kA 0, 66836, .inl all0))]]) := hD
  refine lv_if_ne (pc := 25) (tgt := 30) hx hb d_Mo_edge_25 (by decide) (fun c1 => absurd (by decide) c1) (fun c1 => ?_)
  refine lv_iconst (pc := 28) (v := -1) hx hb d_Mo_edge_28 (by decide) ?_
  refine W.widen (k := 0) (n := 0) (Nat.le_of_ble_eq_true rfl) (Nat.le_of_ble_eq_true rfl) ?_
  exact W.iret (v := (-1)) hx hb hr (fun t ht hW => ⟨⟨(-1), [[(qm 3, .inl (kA 0, 4, .inl (fun _ => 0)))], [(a0, .inr (13, mF qm (va_up x0Mo 5 (nI (539 * (31 * j + 0)))) y0Mo))], [(qm 2, .inl (kA 0, 66836, .inl all0))]], rfl, rfl, by rw [ht]; exact hP, va_K.moved hW.alike hK, hD⟩, hS.F ht⟩) hS.2.2 d_Mo_edge_29
set_option maxRecDepth 100000 in
set_option maxHeartbeats 4000000 in
/-- edge, a fresh house -/
theorem lf_edge_2 {p : Program} {e : Env} {s : State} {m : MethodId} {below : List Frame} {meth : Method} {c : Code} (l : Launch) {b : Nat} {xs : Nat → Int32} (C0 : lw_At p s m meth c b 6 xs) {D : va_G} {kA : Nat → ClassId} (h : Nat) (h2 : Nat) (q : Nat → Nat) (qg : Nat → Nat) (qm : Nat → Nat) (g : Nat → Nat → Nat) (j : Nat) (v2 : Int32) (v3 : Int32) (hj : j < 4) (hv1 : xs 1 = nI j) (hv2 : xs 2 = v2) (hv3 : xs 3 = v3) {H : Heap} {locs : List Loc} {ls : Array Slot} (hK : va_K D classes (TY kA) s) (hN : nst s) (hP : va_P D classes (cat [[(h, .inr (12, [.ref (q 0), .ref (q 1), .ref (q 2), .ref (q 3), .ref (q 4), .ref (q 5), .ref (q 6), .int 0, .int ((-1)), .ref (q 9), .ref (q 10), .int 0, .int 0, .ref (q 13), .int 0, .int 0, .null, .null, .null, .null, .null]))], [(q 0, .inl (kA 4, 4, .inr (.inr (.inr (.inr (rr (g 0)))))))], [(g 0 j, .inr (3, [.int 0, .int 0, .int 1, .ref (qg 3), .ref (qg 4), .ref (qg 5), .ref (qg 6), .ref (qg 7), .ref (qg 8), .ref (qg 9), .ref (qg 10), .ref (qg 11), .ref (qg 12), .ref (qg 13), .ref (qg 14), .ref (qg 15), .null, .int 0, .int 0]))], [(h2, .inr (13, mF qm x0Mo y0Mo))], [(qm 3, .inl (kA 0, 4, .inl (fun _ => 0)))], [(qm 2, .inl (kA 0, 66836, .inl all0))]]) H) (hD : va_D (fun q : Nat => s.heap.size ≤ q) (cat [[(h, .inr (12, [.ref (q 0), .ref (q 1), .ref (q 2), .ref (q 3), .ref (q 4), .ref (q 5), .ref (q 6), .int 0, .int ((-1)), .ref (q 9), .ref (q 10), .int 0, .int 0, .ref (q 13), .int 0, .int 0, .null, .null, .null, .null, .null]))], [(q 0, .inl (kA 4, 4, .inr (.inr (.inr (.inr (rr (g 0)))))))], [(g 0 j, .inr (3, [.int 0, .int 0, .int 1, .ref (qg 3), .ref (qg 4), .ref (qg 5), .ref (qg 6), .ref (qg 7), .ref (qg 8), .ref (qg 9), .ref (qg 10), .ref (qg 11), .ref (qg 12), .ref (qg 13), .ref (qg 14), .ref (qg 15), .null, .int 0, .int 0]))], [(h2, .inr (13, mF qm x0Mo y0Mo))], [(qm 3, .inl (kA 0, 4, .inl (fun _ => 0)))], [(qm 2, .inl (kA 0, 66836, .inl all0))]])) (hS : va_S (fun q : Nat => s.heap.size ≤ q) s.heap H locs) (hl : lv_has ls 4 [(3, .int 0), (2, .ref h2), (1, .ref h), (0, .ref b)]) : W p l e room_1 s m #[Value.ref b] below meth c H locs 368 365796 (lw_Z below #[Value.ref b] s) (F0 m 355 ls []) := by
  obtain ⟨hx, hb, hr, hml, hown, hts0, hX, hbl, hlocks, hgv⟩ := id C0
  have hts : ∀ w ∈ lw_g, w.before #[Value.ref b] s = true := fun w h => hts0 w (lw_gt h)
  have X : cx p s m #[Value.ref b] meth c b_law_law 4 ret "DrawingHouseLaw" meth.name := ⟨hx, hb, hml, hown, hts, hr, hlocks, rfl⟩
  obtain ⟨A, hAe⟩ : ∃ A : Nat → Prop, A = fun q : Nat => s.heap.size ≤ q := ⟨_, rfl⟩
  have hA : ∀ q : Nat, s.heap.size ≤ q → A q := fun q h => by rw [hAe]; exact h
  have hbA : ¬ A b := by rw [hAe]; exact Nat.not_le.mpr hbl
  rw [← hAe] at hD hS
  refine lv_aload_n (pc := 355) hx hb d_law_law_355 rfl (lv_at hl 2 rfl) ?_
  refine lv_aload_n (pc := 356) hx hb d_law_law_356 rfl (lv_at hl 3 rfl) ?_
  refine lv_iload_n (pc := 357) hx hb d_law_law_357 rfl (lv_at hl 0 rfl) ?_
  refine lv_iconst (pc := 358) (v := 1) hx hb d_law_law_358 (by decide) ?_
  refine lv_iadd (pc := 359) hx hb d_law_law_359 ?_
  refine k_cst (v := 1) (by decide) ?_
  refine va_sld (pc := 360) hx hb hX hbl hbA hS (by unfold vp_in; decide) d_law_law_360 ?_
  refine k_cst (v := nI j) hv1 ?_
  refine lv_aload_n (pc := 361) hx hb d_law_law_361 rfl (lv_at hl 3 rfl) ?_
  refine lv_iload_n (pc := 362) hx hb d_law_law_362 rfl (lv_at hl 0 rfl) ?_
  refine lv_iconst (pc := 363) (v := 2) hx hb d_law_law_363 (by decide) ?_
  refine lv_iadd (pc := 364) hx hb d_law_law_364 ?_
  refine k_cst (v := 2) (by decide) ?_
  refine va_sld (pc := 365) hx hb hX hbl hbA hS (by unfold vp_in; decide) d_law_law_365 ?_
  refine k_cst (v := v2) hv2 ?_
  refine lv_aload_n (pc := 366) hx hb d_law_law_366 rfl (lv_at hl 3 rfl) ?_
  refine lv_iload_n (pc := 367) hx hb d_law_law_367 rfl (lv_at hl 0 rfl) ?_
  refine lv_iconst (pc := 368) (v := 3) hx hb d_law_law_368 (by decide) ?_
  refine lv_iadd (pc := 369) hx hb d_law_law_369 ?_
  refine k_cst (v := 3) (by decide) ?_
  refine va_sld (pc := 370) hx hb hX hbl hbA hS (by unfold vp_in; decide) d_law_law_370 ?_
  refine k_cst (v := v3) hv3 ?_
  refine k_goI (gr := [[(h2, .inr (13, mF qm x0Mo y0Mo))], [(qm 3, .inl (kA 0, 4, .inl (fun _ => 0)))], [(qm 2, .inl (kA 0, 66836, .inl all0))]]) (k_rV (pc := 371) (As := [.int (nI j), .int v2, .int v3]) (rest := []) X (c_Ho_edge_z2 l D kA h j v2 v3 (q 0) (q 1) (q 2) (q 3) (q 4) (q 5) (q 6) (q 9) (q 10) (q 13) g (qg 3) (qg 4) (qg 5) (qg 6) (qg 7) (qg 8) (qg 9) (qg 10) (qg 11) (qg 12) (qg 13) (qg 14) (qg 15) hj H.size) rfl wm_926 wm_1 wm_923 wm_924 wm_925 3 (by decide +kernel) ⟨Nat.le_of_ble_eq_true rfl, Nat.le_of_ble_eq_true rfl⟩ rfl rfl (va_recv hK hP (ci := 12) (q0 := 0) rfl rfl) (k_pre hN hK hP hD [0, 1, 2] [3, 4, 5] 6 rfl (by decide) rfl) rfl hl.1 rfl (Nat.le_of_ble_eq_true rfl) d_law_law_371 ⟨Nat.le_of_ble_eq_true rfl, Nat.le_of_ble_eq_true rfl⟩) hP hD hS hA [0, 1, 2] [3, 4, 5] 6 rfl (by decide) rfl rfl (fun r1 u2 H locs hu2 hP hD hS => ?_)
  obtain ⟨hP, hD⟩ := k_left hP hD
  subst hu2
  have hP : va_P D classes (cat [[(h2, .inr (13, mF qm x0Mo y0Mo))], [(qm 3, .inl (kA 0, 4, .inl (fun _ => 0)))], [(qm 2, .inl (kA 0, 66836, .inl all0))]]) H := hP
  have hD : va_D A (cat [[(h2, .inr (13, mF qm x0Mo y0Mo))], [(qm 3, .inl (kA 0, 4, .inl (fun _ => 0)))], [(qm 2, .inl (kA 0, 66836, .inl all0))]]) := hD
  refine lv_aload_n (pc := 374) hx hb d_law_law_374 rfl (lv_at hl 1 rfl) ?_
  refine lv_aload_n (pc := 375) hx hb d_law_law_375 rfl (lv_at hl 3 rfl) ?_
  refine lv_iload_n (pc := 376) hx hb d_law_law_376 rfl (lv_at hl 0 rfl) ?_
  refine lv_iconst (pc := 377) (v := 1) hx hb d_law_law_377 (by decide) ?_
  refine lv_iadd (pc := 378) hx hb d_law_law_378 ?_
  refine k_cst (v := 1) (by decide) ?_
  refine va_sld (pc := 379) hx hb hX hbl hbA hS (by unfold vp_in; decide) d_law_law_379 ?_
  refine k_cst (v := nI j) hv1 ?_
  refine lv_aload_n (pc := 380) hx hb d_law_law_380 rfl (lv_at hl 3 rfl) ?_
  refine lv_iload_n (pc := 381) hx hb d_law_law_381 rfl (lv_at hl 0 rfl) ?_
  refine lv_iconst (pc := 382) (v := 2) hx hb d_law_law_382 (by decide) ?_
  refine lv_iadd (pc := 383) hx hb d_law_law_383 ?_
  refine k_cst (v := 2) (by decide) ?_
  refine va_sld (pc := 384) hx hb hX hbl hbA hS (by unfold vp_in; decide) d_law_law_384 ?_
  refine k_cst (v := v2) hv2 ?_
  refine lv_aload_n (pc := 385) hx hb d_law_law_385 rfl (lv_at hl 3 rfl) ?_
  refine lv_iload_n (pc := 386) hx hb d_law_law_386 rfl (lv_at hl 0 rfl) ?_
  refine lv_iconst (pc := 387) (v := 3) hx hb d_law_law_387 (by decide) ?_
  refine lv_iadd (pc := 388) hx hb d_law_law_388 ?_
  refine k_cst (v := 3) (by decide) ?_
  refine va_sld (pc := 389) hx hb hX hbl hbA hS (by unfold vp_in; decide) d_law_law_389 ?_
  refine k_cst (v := v3) hv3 ?_
  refine k_goI (gr := []) (k_rV (pc := 390) (As := [.int (nI j), .int v2, .int v3]) (rest := [.int ((-1))]) X (c_Mo_edge_z2 l D kA h2 j v2 v3 qm hj H.size) rfl wm_3335 wm_9 wm_3332 wm_3333 wm_3334 3 (by decide +kernel) ⟨Nat.le_of_ble_eq_true rfl, Nat.le_of_ble_eq_true rfl⟩ rfl rfl (va_recv hK hP (ci := 13) (q0 := 0) rfl rfl) (k_pre hN hK hP hD [0, 1, 2] [] 3 rfl (by decide) rfl) rfl hl.1 rfl (Nat.le_of_ble_eq_true rfl) d_law_law_390 ⟨Nat.le_of_ble_eq_true rfl, Nat.le_of_ble_eq_true rfl⟩) hP hD hS hA [0, 1, 2] [] 3 rfl (by decide) rfl rfl (fun r3 u4 H locs hu4 hP hD hS => ?_)
  obtain ⟨hP, hD⟩ := k_left hP hD
  subst hu4
  have hP : va_P D classes (cat []) H := hP
  have hD : va_D A (cat []) := hD
  refine lv_icmp_eq (pc := 393) (tgt := 1295) hx hb d_law_law_393 (by decide) (fun _ => ?_) (fun c1 => absurd (by decide) c1)
  rw [hAe] at hS
  exact law_exit l C0 (Nat.le_of_ble_eq_true rfl) (Nat.le_of_ble_eq_true rfl) hS hl
set_option maxRecDepth 100000 in
set_option maxHeartbeats 4000000 in
/-- DrawingHouse.back(II)Z -/
theorem c_Ho_back_z1 (l : Launch) (D : va_G) (kA : Nat → ClassId) (a0 : Nat) (v1 : Int32) (v2 : Int32) (hg : sp_Ho_isPlace v1 = 0) (hgM : sp_Mo_isPlace v1 = 0) : Ci l y_Ho_back z_Ho_back { frames := 1, cells := 0, slots := 0, locals := 20 } D classes (TY kA) [.ref a0, .int v1, .int v2] [] (fun r (_ : List va_W) => r = 0) (fun u => u) 0 0 := by
  intro sz
  refine k_met (cc := b_Ho_back) (maxL := 3) (ret := (some .boolean)) (by decide) rfl (Nat.le_of_ble_eq_true rfl) (fun p e s m below meth c ls X hl hB => ?_)
  obtain ⟨hsz, hP, hK, hD0, hN⟩ := hB
  subst hsz
  have hD := hD0.self (sz := s.heap.size)
  generalize hAe : va_A (cat []) s.heap.size = A at hD ⊢
  have hA : ∀ q : Nat, s.heap.size ≤ q → A q := fun q h => by rw [← hAe]; exact Or.inr h
  have hS : va_S A s.heap s.heap [] := va_S.rf
  obtain ⟨hx, hb, hml, hown, hts, hr, hlk, hnm⟩ := id X
  have hl : lv_has ls 3 [(0, .ref a0), (1, .int v1), (2, .int v2)] := hl
  have hP : va_P D classes (cat []) s.heap := hP
  have hK : va_K D classes (TY kA) s := hK
  refine lv_iload_n (pc := 0) hx hb d_Ho_back_0 rfl (lv_at hl 1 rfl) ?_
  refine k_goI (gr := []) (k_rS (pc := 1) (As := [.int v1]) (rest := []) X (c_Ho_isPlace l D kA v1 s.heap.size) rfl wm_633 wm_1 wm_631 wm_632 1 (by decide +kernel) ⟨Nat.le_of_ble_eq_true rfl, Nat.le_of_ble_eq_true rfl⟩ rfl rfl (k_pre hN hK hP hD [] [] 0 rfl (by decide) rfl) rfl hl.1 rfl (Nat.le_of_ble_eq_true rfl) d_Ho_back_1 ⟨Nat.le_of_ble_eq_true rfl, Nat.le_of_ble_eq_true rfl⟩) hP hD hS hA [] [] 0 rfl (by decide) rfl rfl (fun r1 u2 H locs hu2 hP hD hS => ?_)
  subst hu2
  have hP : va_P D classes (cat []) H := hP
  have hD : va_D A (cat []) := hD
  refine lv_if_eq (pc := 4) (tgt := 20) hx hb d_Ho_back_4 (by decide) (fun c1 => ?_) (fun c1 => absurd (hg) c1)
  refine lv_iconst (pc := 20) (v := 0) hx hb d_Ho_back_20 (by decide) ?_
  refine W.widen (k := 0) (n := 0) (Nat.le_of_ble_eq_true rfl) (Nat.le_of_ble_eq_true rfl) ?_
  exact W.zret (v := 0) hx hb hr rfl (fun t ht hW => ⟨⟨0, [], rfl, rfl, by rw [ht]; exact hP, va_K.moved hW.alike hK, hD⟩, hS.F ht⟩) hS.2.2 d_Ho_back_21
set_option maxRecDepth 100000 in
set_option maxHeartbeats 4000000 in
/-- DrawingHouseModel.back(II)Z -/
theorem c_Mo_back_z1 (l : Launch) (D : va_G) (kA : Nat → ClassId) (a0 : Nat) (v1 : Int32) (v2 : Int32) (hg : sp_Ho_isPlace v1 = 0) (hgM : sp_Mo_isPlace v1 = 0) : Ci l y_Mo_back z_Mo_back { frames := 2, cells := 0, slots := 0, locals := 42 } D classes (TY kA) [.ref a0, .int v1, .int v2] [] (fun r (_ : List va_W) => r = 0) (fun u => u) 0 0 := by
  intro sz
  refine k_met (cc := b_Mo_back) (maxL := 3) (ret := (some .boolean)) (by decide) rfl (Nat.le_of_ble_eq_true rfl) (fun p e s m below meth c ls X hl hB => ?_)
  obtain ⟨hsz, hP, hK, hD0, hN⟩ := hB
  subst hsz
  have hD := hD0.self (sz := s.heap.size)
  generalize hAe : va_A (cat []) s.heap.size = A at hD ⊢
  have hA : ∀ q : Nat, s.heap.size ≤ q → A q := fun q h => by rw [← hAe]; exact Or.inr h
  have hS : va_S A s.heap s.heap [] := va_S.rf
  obtain ⟨hx, hb, hml, hown, hts, hr, hlk, hnm⟩ := id X
  have hl : lv_has ls 3 [(0, .ref a0), (1, .int v1), (2, .int v2)] := hl
  have hP : va_P D classes (cat []) s.heap := hP
  have hK : va_K D classes (TY kA) s := hK
  refine lv_iload_n (pc := 0) hx hb d_Mo_back_0 rfl (lv_at hl 1 rfl) ?_
  refine k_goI (gr := []) (k_rS (pc := 1) (As := [.int v1]) (rest := []) X (c_Mo_isPlace l D kA v1 s.heap.size) rfl wm_2978 wm_9 wm_2976 wm_2977 1 (by decide +kernel) ⟨Nat.le_of_ble_eq_true rfl, Nat.le_of_ble_eq_true rfl⟩ rfl rfl (k_pre hN hK hP hD [] [] 0 rfl (by decide) rfl) rfl hl.1 rfl (Nat.le_of_ble_eq_true rfl) d_Mo_back_1 ⟨Nat.le_of_ble_eq_true rfl, Nat.le_of_ble_eq_true rfl⟩) hP hD hS hA [] [] 0 rfl (by decide) rfl rfl (fun r1 u2 H locs hu2 hP hD hS => ?_)
  subst hu2
  have hP : va_P D classes (cat []) H := hP
  have hD : va_D A (cat []) := hD
  refine lv_if_eq (pc := 4) (tgt := 47) hx hb d_Mo_back_4 (by decide) (fun c1 => ?_) (fun c1 => absurd (hgM) c1)
  refine lv_iconst (pc := 47) (v := 0) hx hb d_Mo_back_47 (by decide) ?_
  refine W.widen (k := 0) (n := 0) (Nat.le_of_ble_eq_true rfl) (Nat.le_of_ble_eq_true rfl) ?_
  exact W.zret (v := 0) hx hb hr rfl (fun t ht hW => ⟨⟨0, [], rfl, rfl, by rw [ht]; exact hP, va_K.moved hW.alike hK, hD⟩, hS.F ht⟩) hS.2.2 d_Mo_back_48
set_option maxRecDepth 100000 in
set_option maxHeartbeats 4000000 in
/-- back, a fresh house -/
theorem lf_back_1 {p : Program} {e : Env} {s : State} {m : MethodId} {below : List Frame} {meth : Method} {c : Code} (l : Launch) {b : Nat} {xs : Nat → Int32} (C0 : lw_At p s m meth c b 6 xs) {D : va_G} {kA : Nat → ClassId} (h : Nat) (h2 : Nat) (q : Nat → Nat) (qm : Nat → Nat) (v1 : Int32) (v2 : Int32) (hg : sp_Ho_isPlace v1 = 0) (hgM : sp_Mo_isPlace v1 = 0) (hv1 : xs 1 = v1) (hv2 : xs 2 = v2) {H : Heap} {locs : List Loc} {ls : Array Slot} (hK : va_K D classes (TY kA) s) (hN : nst s) (hP : va_P D classes (cat [[(h, .inr (12, [.ref (q 0), .ref (q 1), .ref (q 2), .ref (q 3), .ref (q 4), .ref (q 5), .ref (q 6), .int 0, .int ((-1)), .ref (q 9), .ref (q 10), .int 0, .int 0, .ref (q 13), .int 0, .int 0, .null, .null, .null, .null, .null]))], [(h2, .inr (13, mF qm x0Mo y0Mo))]]) H) (hD : va_D (fun q : Nat => s.heap.size ≤ q) (cat [[(h, .inr (12, [.ref (q 0), .ref (q 1), .ref (q 2), .ref (q 3), .ref (q 4), .ref (q 5), .ref (q 6), .int 0, .int ((-1)), .ref (q 9), .ref (q 10), .int 0, .int 0, .ref (q 13), .int 0, .int 0, .null, .null, .null, .null, .null]))], [(h2, .inr (13, mF qm x0Mo y0Mo))]])) (hS : va_S (fun q : Nat => s.heap.size ≤ q) s.heap H locs) (hl : lv_has ls 4 [(3, .int 0), (2, .ref h2), (1, .ref h), (0, .ref b)]) : W p l e room_1 s m #[Value.ref b] below meth c H locs 368 365796 (lw_Z below #[Value.ref b] s) (F0 m 547 ls []) := by
  obtain ⟨hx, hb, hr, hml, hown, hts0, hX, hbl, hlocks, hgv⟩ := id C0
  have hts : ∀ w ∈ lw_g, w.before #[Value.ref b] s = true := fun w h => hts0 w (lw_gt h)
  have X : cx p s m #[Value.ref b] meth c b_law_law 4 ret "DrawingHouseLaw" meth.name := ⟨hx, hb, hml, hown, hts, hr, hlocks, rfl⟩
  obtain ⟨A, hAe⟩ : ∃ A : Nat → Prop, A = fun q : Nat => s.heap.size ≤ q := ⟨_, rfl⟩
  have hA : ∀ q : Nat, s.heap.size ≤ q → A q := fun q h => by rw [hAe]; exact h
  have hbA : ¬ A b := by rw [hAe]; exact Nat.not_le.mpr hbl
  rw [← hAe] at hD hS
  refine lv_aload_n (pc := 547) hx hb d_law_law_547 rfl (lv_at hl 2 rfl) ?_
  refine lv_aload_n (pc := 548) hx hb d_law_law_548 rfl (lv_at hl 3 rfl) ?_
  refine lv_iload_n (pc := 549) hx hb d_law_law_549 rfl (lv_at hl 0 rfl) ?_
  refine lv_iconst (pc := 550) (v := 1) hx hb d_law_law_550 (by decide) ?_
  refine lv_iadd (pc := 551) hx hb d_law_law_551 ?_
  refine k_cst (v := 1) (by decide) ?_
  refine va_sld (pc := 552) hx hb hX hbl hbA hS (by unfold vp_in; decide) d_law_law_552 ?_
  refine k_cst (v := v1) hv1 ?_
  refine lv_aload_n (pc := 553) hx hb d_law_law_553 rfl (lv_at hl 3 rfl) ?_
  refine lv_iload_n (pc := 554) hx hb d_law_law_554 rfl (lv_at hl 0 rfl) ?_
  refine lv_iconst (pc := 555) (v := 2) hx hb d_law_law_555 (by decide) ?_
  refine lv_iadd (pc := 556) hx hb d_law_law_556 ?_
  refine k_cst (v := 2) (by decide) ?_
  refine va_sld (pc := 557) hx hb hX hbl hbA hS (by unfold vp_in; decide) d_law_law_557 ?_
  refine k_cst (v := v2) hv2 ?_
  refine k_goI (gr := [[(h, .inr (12, [.ref (q 0), .ref (q 1), .ref (q 2), .ref (q 3), .ref (q 4), .ref (q 5), .ref (q 6), .int 0, .int ((-1)), .ref (q 9), .ref (q 10), .int 0, .int 0, .ref (q 13), .int 0, .int 0, .null, .null, .null, .null, .null]))], [(h2, .inr (13, mF qm x0Mo y0Mo))]]) (k_rV (pc := 558) (As := [.int v1, .int v2]) (rest := []) X (c_Ho_back_z1 l D kA h v1 v2 hg hgM H.size) rfl wm_1001 wm_1 wm_998 wm_999 wm_1000 2 (by decide +kernel) ⟨Nat.le_of_ble_eq_true rfl, Nat.le_of_ble_eq_true rfl⟩ rfl rfl (va_recv hK hP (ci := 12) (q0 := 0) rfl rfl) (k_pre hN hK hP hD [] [0, 1] 2 rfl (by decide) rfl) rfl hl.1 rfl (Nat.le_of_ble_eq_true rfl) d_law_law_558 ⟨Nat.le_of_ble_eq_true rfl, Nat.le_of_ble_eq_true rfl⟩) hP hD hS hA [] [0, 1] 2 rfl (by decide) rfl rfl (fun r1 u2 H locs hu2 hP hD hS => ?_)
  obtain ⟨hP, hD⟩ := k_left hP hD
  subst hu2
  have hP : va_P D classes (cat [[(h, .inr (12, [.ref (q 0), .ref (q 1), .ref (q 2), .ref (q 3), .ref (q 4), .ref (q 5), .ref (q 6), .int 0, .int ((-1)), .ref (q 9), .ref (q 10), .int 0, .int 0, .ref (q 13), .int 0, .int 0, .null, .null, .null, .null, .null]))], [(h2, .inr (13, mF qm x0Mo y0Mo))]]) H := hP
  have hD : va_D A (cat [[(h, .inr (12, [.ref (q 0), .ref (q 1), .ref (q 2), .ref (q 3), .ref (q 4), .ref (q 5), .ref (q 6), .int 0, .int ((-1)), .ref (q 9), .ref (q 10), .int 0, .int 0, .ref (q 13), .int 0, .int 0, .null, .null, .null, .null, .null]))], [(h2, .inr (13, mF qm x0Mo y0Mo))]]) := hD
  refine lv_aload_n (pc := 561) hx hb d_law_law_561 rfl (lv_at hl 1 rfl) ?_
  refine lv_aload_n (pc := 562) hx hb d_law_law_562 rfl (lv_at hl 3 rfl) ?_
  refine lv_iload_n (pc := 563) hx hb d_law_law_563 rfl (lv_at hl 0 rfl) ?_
  refine lv_iconst (pc := 564) (v := 1) hx hb d_law_law_564 (by decide) ?_
  refine lv_iadd (pc := 565) hx hb d_law_law_565 ?_
  refine k_cst (v := 1) (by decide) ?_
  refine va_sld (pc := 566) hx hb hX hbl hbA hS (by unfold vp_in; decide) d_law_law_566 ?_
  refine k_cst (v := v1) hv1 ?_
  refine lv_aload_n (pc := 567) hx hb d_law_law_567 rfl (lv_at hl 3 rfl) ?_
  refine lv_iload_n (pc := 568) hx hb d_law_law_568 rfl (lv_at hl 0 rfl) ?_
  refine lv_iconst (pc := 569) (v := 2) hx hb d_law_law_569 (by decide) ?_
  refine lv_iadd (pc := 570) hx hb d_law_law_570 ?_
  refine k_cst (v := 2) (by decide) ?_
  refine va_sld (pc := 571) hx hb hX hbl hbA hS (by unfold vp_in; decide) d_law_law_571 ?_
  refine k_cst (v := v2) hv2 ?_
  refine k_goI (gr := [[(h, .inr (12, [.ref (q 0), .ref (q 1), .ref (q 2), .ref (q 3), .ref (q 4), .ref (q 5), .ref (q 6), .int 0, .int ((-1)), .ref (q 9), .ref (q 10), .int 0, .int 0, .ref (q 13), .int 0, .int 0, .null, .null, .null, .null, .null]))], [(h2, .inr (13, mF qm x0Mo y0Mo))]]) (k_rV (pc := 572) (As := [.int v1, .int v2]) (rest := [.int 0]) X (c_Mo_back_z1 l D kA h2 v1 v2 hg hgM H.size) rfl wm_3115 wm_9 wm_3112 wm_3113 wm_3114 2 (by decide +kernel) ⟨Nat.le_of_ble_eq_true rfl, Nat.le_of_ble_eq_true rfl⟩ rfl rfl (va_recv hK hP (ci := 13) (q0 := 1) rfl rfl) (k_pre hN hK hP hD [] [0, 1] 2 rfl (by decide) rfl) rfl hl.1 rfl (Nat.le_of_ble_eq_true rfl) d_law_law_572 ⟨Nat.le_of_ble_eq_true rfl, Nat.le_of_ble_eq_true rfl⟩) hP hD hS hA [] [0, 1] 2 rfl (by decide) rfl rfl (fun r3 u4 H locs hu4 hP hD hS => ?_)
  obtain ⟨hP, hD⟩ := k_left hP hD
  subst hu4
  have hP : va_P D classes (cat [[(h, .inr (12, [.ref (q 0), .ref (q 1), .ref (q 2), .ref (q 3), .ref (q 4), .ref (q 5), .ref (q 6), .int 0, .int ((-1)), .ref (q 9), .ref (q 10), .int 0, .int 0, .ref (q 13), .int 0, .int 0, .null, .null, .null, .null, .null]))], [(h2, .inr (13, mF qm x0Mo y0Mo))]]) H := hP
  have hD : va_D A (cat [[(h, .inr (12, [.ref (q 0), .ref (q 1), .ref (q 2), .ref (q 3), .ref (q 4), .ref (q 5), .ref (q 6), .int 0, .int ((-1)), .ref (q 9), .ref (q 10), .int 0, .int 0, .ref (q 13), .int 0, .int 0, .null, .null, .null, .null, .null]))], [(h2, .inr (13, mF qm x0Mo y0Mo))]]) := hD
  refine lv_icmp_eq (pc := 575) (tgt := 1295) hx hb d_law_law_575 (by decide) (fun _ => ?_) (fun c1 => absurd (by decide) c1)
  rw [hAe] at hS
  exact law_exit l C0 (Nat.le_of_ble_eq_true rfl) (Nat.le_of_ble_eq_true rfl) hS hl
set_option maxRecDepth 100000 in
set_option maxHeartbeats 4000000 in
/-- DrawingHouse$Graph.step(I)Z -/
theorem c_Gr_step_z1 (l : Launch) (D : va_G) (kA : Nat → ClassId) (g : Nat → Nat → Nat) (j : Nat) (v2 : Int32) (a0 : Nat) (a1 : Nat) (a2 : Nat) (a3 : Nat) (a4 : Nat) (a5 : Nat) (a6 : Nat) (a7 : Nat) (a8 : Nat) (a9 : Nat) (a10 : Nat) (a11 : Nat) (a12 : Nat) (hj : j < 4) : Ci l y_Gr_step z_Gr_step { frames := 0, cells := 0, slots := 0, locals := 0 } D classes (TY kA) [.ref (g 0 j), .int v2] [[(g 0 j, .inr (3, [.int 0, .int 0, .int 1, .ref a0, .ref a1, .ref a2, .ref a3, .ref a4, .ref a5, .ref a6, .ref a7, .ref a8, .ref a9, .ref a10, .ref a11, .ref a12, .null, .int 0, .int 0]))]] (fun r (_ : Unit) => r = 0) (fun u => [[(g 0 j, .inr (3, [.int 0, .int 0, .int 1, .ref a0, .ref a1, .ref a2, .ref a3, .ref a4, .ref a5, .ref a6, .ref a7, .ref a8, .ref a9, .ref a10, .ref a11, .ref a12, .null, .int 0, .int 0]))]]) 0 0 := by
  intro sz
  refine k_met (cc := b_Gr_step) (maxL := 2) (ret := (some .boolean)) (by decide) rfl (Nat.le_of_ble_eq_true rfl) (fun p e s m below meth c ls X hl hB => ?_)
  obtain ⟨hsz, hP, hK, hD0, hN⟩ := hB
  subst hsz
  have hD := hD0.self (sz := s.heap.size)
  generalize hAe : va_A (cat [[(g 0 j, .inr (3, [.int 0, .int 0, .int 1, .ref a0, .ref a1, .ref a2, .ref a3, .ref a4, .ref a5, .ref a6, .ref a7, .ref a8, .ref a9, .ref a10, .ref a11, .ref a12, .null, .int 0, .int 0]))]]) s.heap.size = A at hD ⊢
  have hA : ∀ q : Nat, s.heap.size ≤ q → A q := fun q h => by rw [← hAe]; exact Or.inr h
  have hS : va_S A s.heap s.heap [] := va_S.rf
  obtain ⟨hx, hb, hml, hown, hts, hr, hlk, hnm⟩ := id X
  have hl : lv_has ls 2 [(0, .ref (g 0 j)), (1, .int v2)] := hl
  have hP : va_P D classes (cat [[(g 0 j, .inr (3, [.int 0, .int 0, .int 1, .ref a0, .ref a1, .ref a2, .ref a3, .ref a4, .ref a5, .ref a6, .ref a7, .ref a8, .ref a9, .ref a10, .ref a11, .ref a12, .null, .int 0, .int 0]))]]) s.heap := hP
  have hK : va_K D classes (TY kA) s := hK
  refine lv_aload_n (pc := 0) hx hb d_Gr_step_0 rfl (lv_at hl 0 rfl) ?_
  refine k_get (pc := 1) X hK hP 0 rfl rfl i_Gr 16 (by decide) wm_148 rfl rfl d_Gr_step_1 ?_
  refine lv_ifnonnullN (pc := 4) hx hb d_Gr_step_4 ?_
  refine lv_iconst (pc := 7) (v := 0) hx hb d_Gr_step_7 (by decide) ?_
  refine W.widen (k := 0) (n := 0) (Nat.le_of_ble_eq_true rfl) (Nat.le_of_ble_eq_true rfl) ?_
  exact W.zret (v := 0) hx hb hr rfl (fun t ht hW => ⟨⟨0, (), rfl, rfl, by rw [ht]; exact hP, va_K.moved hW.alike hK, hD⟩, hS.F ht⟩) hS.2.2 d_Gr_step_8
set_option maxRecDepth 100000 in
set_option maxHeartbeats 4000000 in
/-- DrawingHouse.back(II)Z -/
theorem c_Ho_back_z2 (l : Launch) (D : va_G) (kA : Nat → ClassId) (a0 : Nat) (j : Nat) (v2 : Int32) (a1 : Nat) (a2 : Nat) (a3 : Nat) (a4 : Nat) (a5 : Nat) (a6 : Nat) (a7 : Nat) (a8 : Nat) (a9 : Nat) (a10 : Nat) (g : Nat → Nat → Nat) (a11 : Nat) (a12 : Nat) (a13 : Nat) (a14 : Nat) (a15 : Nat) (a16 : Nat) (a17 : Nat) (a18 : Nat) (a19 : Nat) (a20 : Nat) (a21 : Nat) (a22 : Nat) (a23 : Nat) (hj : j < 4) : Ci l y_Ho_back z_Ho_back { frames := 1, cells := 0, slots := 0, locals := 21 } D classes (TY kA) [.ref a0, .int (nI j), .int v2] [[(a0, .inr (12, [.ref a1, .ref a2, .ref a3, .ref a4, .ref a5, .ref a6, .ref a7, .int 0, .int ((-1)), .ref a8, .ref a9, .int 0, .int 0, .ref a10, .int 0, .int 0, .null, .null, .null, .null, .null]))], [(a1, .inl (kA 4, 4, .inr (.inr (.inr (.inr (rr (g 0)))))))], [(g 0 j, .inr (3, [.int 0, .int 0, .int 1, .ref a11, .ref a12, .ref a13, .ref a14, .ref a15, .ref a16, .ref a17, .ref a18, .ref a19, .ref a20, .ref a21, .ref a22, .ref a23, .null, .int 0, .int 0]))]] (fun r (_ : List va_W) => r = 0) (fun u => u) 0 0 := by
  intro sz
  refine k_met (cc := b_Ho_back) (maxL := 3) (ret := (some .boolean)) (by decide) rfl (Nat.le_of_ble_eq_true rfl) (fun p e s m below meth c ls X hl hB => ?_)
  obtain ⟨hsz, hP, hK, hD0, hN⟩ := hB
  subst hsz
  have hD := hD0.self (sz := s.heap.size)
  generalize hAe : va_A (cat [[(a0, .inr (12, [.ref a1, .ref a2, .ref a3, .ref a4, .ref a5, .ref a6, .ref a7, .int 0, .int ((-1)), .ref a8, .ref a9, .int 0, .int 0, .ref a10, .int 0, .int 0, .null, .null, .null, .null, .null]))], [(a1, .inl (kA 4, 4, .inr (.inr (.inr (.inr (rr (g 0)))))))], [(g 0 j, .inr (3, [.int 0, .int 0, .int 1, .ref a11, .ref a12, .ref a13, .ref a14, .ref a15, .ref a16, .ref a17, .ref a18, .ref a19, .ref a20, .ref a21, .ref a22, .ref a23, .null, .int 0, .int 0]))]]) s.heap.size = A at hD ⊢
  have hA : ∀ q : Nat, s.heap.size ≤ q → A q := fun q h => by rw [← hAe]; exact Or.inr h
  have hS : va_S A s.heap s.heap [] := va_S.rf
  obtain ⟨hx, hb, hml, hown, hts, hr, hlk, hnm⟩ := id X
  have hl : lv_has ls 3 [(0, .ref a0), (1, .int (nI j)), (2, .int v2)] := hl
  have hP : va_P D classes (cat [[(a0, .inr (12, [.ref a1, .ref a2, .ref a3, .ref a4, .ref a5, .ref a6, .ref a7, .int 0, .int ((-1)), .ref a8, .ref a9, .int 0, .int 0, .ref a10, .int 0, .int 0, .null, .null, .null, .null, .null]))], [(a1, .inl (kA 4, 4, .inr (.inr (.inr (.inr (rr (g 0)))))))], [(g 0 j, .inr (3, [.int 0, .int 0, .int 1, .ref a11, .ref a12, .ref a13, .ref a14, .ref a15, .ref a16, .ref a17, .ref a18, .ref a19, .ref a20, .ref a21, .ref a22, .ref a23, .null, .int 0, .int 0]))]]) s.heap := hP
  have hK : va_K D classes (TY kA) s := hK
  refine lv_iload_n (pc := 0) hx hb d_Ho_back_0 rfl (lv_at hl 1 rfl) ?_
  refine k_goI (gr := [[(a0, .inr (12, [.ref a1, .ref a2, .ref a3, .ref a4, .ref a5, .ref a6, .ref a7, .int 0, .int ((-1)), .ref a8, .ref a9, .int 0, .int 0, .ref a10, .int 0, .int 0, .null, .null, .null, .null, .null]))], [(a1, .inl (kA 4, 4, .inr (.inr (.inr (.inr (rr (g 0)))))))], [(g 0 j, .inr (3, [.int 0, .int 0, .int 1, .ref a11, .ref a12, .ref a13, .ref a14, .ref a15, .ref a16, .ref a17, .ref a18, .ref a19, .ref a20, .ref a21, .ref a22, .ref a23, .null, .int 0, .int 0]))]]) (k_rS (pc := 1) (As := [.int (nI j)]) (rest := []) X (c_Ho_isPlace l D kA (nI j) s.heap.size) rfl wm_633 wm_1 wm_631 wm_632 1 (by decide +kernel) ⟨Nat.le_of_ble_eq_true rfl, Nat.le_of_ble_eq_true rfl⟩ rfl rfl (k_pre hN hK hP hD [] [0, 1, 2] 3 rfl (by decide) rfl) rfl hl.1 rfl (Nat.le_of_ble_eq_true rfl) d_Ho_back_1 ⟨Nat.le_of_ble_eq_true rfl, Nat.le_of_ble_eq_true rfl⟩) hP hD hS hA [] [0, 1, 2] 3 rfl (by decide) rfl rfl (fun r1 u2 H locs hu2 hP hD hS => ?_)
  subst hu2
  refine k_cst (v := 1) (place_ok hj) ?_
  have hP : va_P D classes (cat [[(a0, .inr (12, [.ref a1, .ref a2, .ref a3, .ref a4, .ref a5, .ref a6, .ref a7, .int 0, .int ((-1)), .ref a8, .ref a9, .int 0, .int 0, .ref a10, .int 0, .int 0, .null, .null, .null, .null, .null]))], [(a1, .inl (kA 4, 4, .inr (.inr (.inr (.inr (rr (g 0)))))))], [(g 0 j, .inr (3, [.int 0, .int 0, .int 1, .ref a11, .ref a12, .ref a13, .ref a14, .ref a15, .ref a16, .ref a17, .ref a18, .ref a19, .ref a20, .ref a21, .ref a22, .ref a23, .null, .int 0, .int 0]))]]) H := hP
  have hD : va_D A (cat [[(a0, .inr (12, [.ref a1, .ref a2, .ref a3, .ref a4, .ref a5, .ref a6, .ref a7, .int 0, .int ((-1)), .ref a8, .ref a9, .int 0, .int 0, .ref a10, .int 0, .int 0, .null, .null, .null, .null, .null]))], [(a1, .inl (kA 4, 4, .inr (.inr (.inr (.inr (rr (g 0)))))))], [(g 0 j, .inr (3, [.int 0, .int 0, .int 1, .ref a11, .ref a12, .ref a13, .ref a14, .ref a15, .ref a16, .ref a17, .ref a18, .ref a19, .ref a20, .ref a21, .ref a22, .ref a23, .null, .int 0, .int 0]))]]) := hD
  refine lv_if_eq (pc := 4) (tgt := 20) hx hb d_Ho_back_4 (by decide) (fun c1 => absurd c1 (by decide)) (fun c1 => ?_)
  refine lv_aload_n (pc := 7) hx hb d_Ho_back_7 rfl (lv_at hl 0 rfl) ?_
  refine k_get (pc := 8) X hK hP 0 rfl rfl i_Ho 0 (by decide) wm_555 rfl rfl d_Ho_back_8 ?_
  refine lv_iload_n (pc := 11) hx hb d_Ho_back_11 rfl (lv_at hl 1 rfl) ?_
  refine k_ald (pc := 12) hx hb hK hP 1 4 rfl rfl (j) rfl (by omega) (by decide) (rr_at (by omega)) d_Ho_back_12 ?_
  refine lv_iload_n (pc := 13) hx hb d_Ho_back_13 rfl (lv_at hl 2 rfl) ?_
  refine k_goI (gr := [[(a0, .inr (12, [.ref a1, .ref a2, .ref a3, .ref a4, .ref a5, .ref a6, .ref a7, .int 0, .int ((-1)), .ref a8, .ref a9, .int 0, .int 0, .ref a10, .int 0, .int 0, .null, .null, .null, .null, .null]))], [(a1, .inl (kA 4, 4, .inr (.inr (.inr (.inr (rr (g 0)))))))]]) (k_rV (pc := 14) (As := [.int v2]) (rest := []) X (c_Gr_step_z1 l D kA g j v2 a11 a12 a13 a14 a15 a16 a17 a18 a19 a20 a21 a22 a23 hj H.size) rfl wm_1005 wm_3 wm_1002 wm_1003 wm_1004 1 (by decide +kernel) ⟨Nat.le_of_ble_eq_true rfl, Nat.le_of_ble_eq_true rfl⟩ rfl rfl (va_recv hK hP (ci := 3) (q0 := 2) rfl rfl) (k_pre hN hK hP hD [2] [0, 1] 3 rfl (by decide) rfl) rfl hl.1 rfl (Nat.le_of_ble_eq_true rfl) d_Ho_back_14 ⟨Nat.le_of_ble_eq_true rfl, Nat.le_of_ble_eq_true rfl⟩) hP hD hS hA [2] [0, 1] 3 rfl (by decide) rfl rfl (fun r3 u4 H locs hu4 hP hD hS => ?_)
  subst hu4
  have hP : va_P D classes (cat [[(a0, .inr (12, [.ref a1, .ref a2, .ref a3, .ref a4, .ref a5, .ref a6, .ref a7, .int 0, .int ((-1)), .ref a8, .ref a9, .int 0, .int 0, .ref a10, .int 0, .int 0, .null, .null, .null, .null, .null]))], [(a1, .inl (kA 4, 4, .inr (.inr (.inr (.inr (rr (g 0)))))))], [(g 0 j, .inr (3, [.int 0, .int 0, .int 1, .ref a11, .ref a12, .ref a13, .ref a14, .ref a15, .ref a16, .ref a17, .ref a18, .ref a19, .ref a20, .ref a21, .ref a22, .ref a23, .null, .int 0, .int 0]))]]) H := hP
  have hD : va_D A (cat [[(a0, .inr (12, [.ref a1, .ref a2, .ref a3, .ref a4, .ref a5, .ref a6, .ref a7, .int 0, .int ((-1)), .ref a8, .ref a9, .int 0, .int 0, .ref a10, .int 0, .int 0, .null, .null, .null, .null, .null]))], [(a1, .inl (kA 4, 4, .inr (.inr (.inr (.inr (rr (g 0)))))))], [(g 0 j, .inr (3, [.int 0, .int 0, .int 1, .ref a11, .ref a12, .ref a13, .ref a14, .ref a15, .ref a16, .ref a17, .ref a18, .ref a19, .ref a20, .ref a21, .ref a22, .ref a23, .null, .int 0, .int 0]))]]) := hD
  refine lv_if_ne (pc := 17) (tgt := 22) hx hb d_Ho_back_17 (by decide) (fun c1 => absurd (by decide) c1) (fun c1 => ?_)
  refine lv_iconst (pc := 20) (v := 0) hx hb d_Ho_back_20 (by decide) ?_
  refine W.widen (k := 0) (n := 0) (Nat.le_of_ble_eq_true rfl) (Nat.le_of_ble_eq_true rfl) ?_
  exact W.zret (v := 0) hx hb hr rfl (fun t ht hW => ⟨⟨0, [[(a0, .inr (12, [.ref a1, .ref a2, .ref a3, .ref a4, .ref a5, .ref a6, .ref a7, .int 0, .int ((-1)), .ref a8, .ref a9, .int 0, .int 0, .ref a10, .int 0, .int 0, .null, .null, .null, .null, .null]))], [(a1, .inl (kA 4, 4, .inr (.inr (.inr (.inr (rr (g 0)))))))], [(g 0 j, .inr (3, [.int 0, .int 0, .int 1, .ref a11, .ref a12, .ref a13, .ref a14, .ref a15, .ref a16, .ref a17, .ref a18, .ref a19, .ref a20, .ref a21, .ref a22, .ref a23, .null, .int 0, .int 0]))]], rfl, rfl, by rw [ht]; exact hP, va_K.moved hW.alike hK, hD⟩, hS.F ht⟩) hS.2.2 d_Ho_back_21
set_option maxRecDepth 100000 in
set_option maxHeartbeats 4000000 in
/-- DrawingHouseModel.in(III)Z -/
theorem c_Mo_in_z2 (l : Launch) (D : va_G) (kA : Nat → ClassId) (v2 : Int32) : Ci l y_Mo_in z_Mo_in { frames := 0, cells := 0, slots := 0, locals := 0 } D classes (TY kA) [.int v2, .int 0, .int 1] [] (fun r (_ : Unit) => r = if v2 < 0 then 0 else if 1 < v2 then 0 else 1) (fun u => []) 0 0 := by
  intro sz
  refine k_met (cc := b_Mo_in) (maxL := 3) (ret := (some .boolean)) (by decide) rfl (Nat.le_of_ble_eq_true rfl) (fun p e s m below meth c ls X hl hB => ?_)
  obtain ⟨hsz, hP, hK, hD0, hN⟩ := hB
  subst hsz
  have hD := hD0.self (sz := s.heap.size)
  generalize hAe : va_A (cat []) s.heap.size = A at hD ⊢
  have hA : ∀ q : Nat, s.heap.size ≤ q → A q := fun q h => by rw [← hAe]; exact Or.inr h
  have hS : va_S A s.heap s.heap [] := va_S.rf
  obtain ⟨hx, hb, hml, hown, hts, hr, hlk, hnm⟩ := id X
  have hl : lv_has ls 3 [(0, .int v2), (1, .int 0), (2, .int 1)] := hl
  have hP : va_P D classes (cat []) s.heap := hP
  have hK : va_K D classes (TY kA) s := hK
  refine lv_iload_n (pc := 0) hx hb d_Mo_in_0 rfl (lv_at hl 0 rfl) ?_
  refine lv_iload_n (pc := 1) hx hb d_Mo_in_1 rfl (lv_at hl 1 rfl) ?_
  refine lv_icmp_lt (pc := 2) (tgt := 14) hx hb d_Mo_in_2 (by decide) (fun ck1 => ?_) (fun ck1 => ?_)
  · refine lv_iconst (pc := 14) (v := 0) hx hb d_Mo_in_14 (by decide) ?_
    refine W.widen (k := 0) (n := 0) (Nat.le_of_ble_eq_true rfl) (Nat.le_of_ble_eq_true rfl) ?_
    exact W.zret (v := 0) hx hb hr rfl (fun t ht hW => ⟨⟨0, (), rfl, (by rw [if_pos ck1]), by rw [ht]; exact hP, va_K.moved hW.alike hK, hD⟩, hS.F ht⟩) hS.2.2 d_Mo_in_15
  · refine lv_iload_n (pc := 5) hx hb d_Mo_in_5 rfl (lv_at hl 0 rfl) ?_
    refine lv_iload_n (pc := 6) hx hb d_Mo_in_6 rfl (lv_at hl 2 rfl) ?_
    refine lv_icmp_gt (pc := 7) (tgt := 14) hx hb d_Mo_in_7 (by decide) (fun ck2 => ?_) (fun ck2 => ?_)
    · refine lv_iconst (pc := 14) (v := 0) hx hb d_Mo_in_14 (by decide) ?_
      refine W.widen (k := 0) (n := 0) (Nat.le_of_ble_eq_true rfl) (Nat.le_of_ble_eq_true rfl) ?_
      exact W.zret (v := 0) hx hb hr rfl (fun t ht hW => ⟨⟨0, (), rfl, (by rw [if_neg ck1, if_pos ck2]), by rw [ht]; exact hP, va_K.moved hW.alike hK, hD⟩, hS.F ht⟩) hS.2.2 d_Mo_in_15
    · refine lv_iconst (pc := 10) (v := 1) hx hb d_Mo_in_10 (by decide) ?_
      refine lv_goto (pc := 11) (tgt := 15) hx hb d_Mo_in_11 (by decide) ?_
      refine W.widen (k := 0) (n := 0) (Nat.le_of_ble_eq_true rfl) (Nat.le_of_ble_eq_true rfl) ?_
      exact W.zret (v := 1) hx hb hr rfl (fun t ht hW => ⟨⟨1, (), rfl, (by rw [if_neg ck1, if_neg ck2]), by rw [ht]; exact hP, va_K.moved hW.alike hK, hD⟩, hS.F ht⟩) hS.2.2 d_Mo_in_15
set_option maxRecDepth 100000 in
set_option maxHeartbeats 4000000 in
/-- DrawingHouseModel.back(II)Z -/
theorem c_Mo_back_z2 (l : Launch) (D : va_G) (kA : Nat → ClassId) (a0 : Nat) (j : Nat) (v2 : Int32) (qm : Nat → Nat) (hj : j < 4) : Ci l y_Mo_back z_Mo_back { frames := 2, cells := 0, slots := 0, locals := 42 } D classes (TY kA) [.ref a0, .int (nI j), .int v2] [[(a0, .inr (13, mF qm x0Mo y0Mo))], [(qm 3, .inl (kA 0, 4, .inl (fun _ => 0)))], [(qm 4, .inl (kA 0, 4, .inl (fun _ => 0)))]] (fun r (_ : List va_W) => r = 0) (fun u => u) 0 0 := by
  intro sz
  refine k_met (cc := b_Mo_back) (maxL := 3) (ret := (some .boolean)) (by decide) rfl (Nat.le_of_ble_eq_true rfl) (fun p e s m below meth c ls X hl hB => ?_)
  obtain ⟨hsz, hP, hK, hD0, hN⟩ := hB
  subst hsz
  have hD := hD0.self (sz := s.heap.size)
  generalize hAe : va_A (cat [[(a0, .inr (13, mF qm x0Mo y0Mo))], [(qm 3, .inl (kA 0, 4, .inl (fun _ => 0)))], [(qm 4, .inl (kA 0, 4, .inl (fun _ => 0)))]]) s.heap.size = A at hD ⊢
  have hA : ∀ q : Nat, s.heap.size ≤ q → A q := fun q h => by rw [← hAe]; exact Or.inr h
  have hS : va_S A s.heap s.heap [] := va_S.rf
  obtain ⟨hx, hb, hml, hown, hts, hr, hlk, hnm⟩ := id X
  have hl : lv_has ls 3 [(0, .ref a0), (1, .int (nI j)), (2, .int v2)] := hl
  have hP : va_P D classes (cat [[(a0, .inr (13, mF qm x0Mo y0Mo))], [(qm 3, .inl (kA 0, 4, .inl (fun _ => 0)))], [(qm 4, .inl (kA 0, 4, .inl (fun _ => 0)))]]) s.heap := hP
  have hK : va_K D classes (TY kA) s := hK
  refine lv_iload_n (pc := 0) hx hb d_Mo_back_0 rfl (lv_at hl 1 rfl) ?_
  refine k_goI (gr := [[(a0, .inr (13, mF qm x0Mo y0Mo))], [(qm 3, .inl (kA 0, 4, .inl (fun _ => 0)))], [(qm 4, .inl (kA 0, 4, .inl (fun _ => 0)))]]) (k_rS (pc := 1) (As := [.int (nI j)]) (rest := []) X (c_Mo_isPlace l D kA (nI j) s.heap.size) rfl wm_2978 wm_9 wm_2976 wm_2977 1 (by decide +kernel) ⟨Nat.le_of_ble_eq_true rfl, Nat.le_of_ble_eq_true rfl⟩ rfl rfl (k_pre hN hK hP hD [] [0, 1, 2] 3 rfl (by decide) rfl) rfl hl.1 rfl (Nat.le_of_ble_eq_true rfl) d_Mo_back_1 ⟨Nat.le_of_ble_eq_true rfl, Nat.le_of_ble_eq_true rfl⟩) hP hD hS hA [] [0, 1, 2] 3 rfl (by decide) rfl rfl (fun r1 u2 H locs hu2 hP hD hS => ?_)
  subst hu2
  refine k_cst (v := 1) (placeM_ok hj) ?_
  have hP : va_P D classes (cat [[(a0, .inr (13, mF qm x0Mo y0Mo))], [(qm 3, .inl (kA 0, 4, .inl (fun _ => 0)))], [(qm 4, .inl (kA 0, 4, .inl (fun _ => 0)))]]) H := hP
  have hD : va_D A (cat [[(a0, .inr (13, mF qm x0Mo y0Mo))], [(qm 3, .inl (kA 0, 4, .inl (fun _ => 0)))], [(qm 4, .inl (kA 0, 4, .inl (fun _ => 0)))]]) := hD
  refine lv_if_eq (pc := 4) (tgt := 47) hx hb d_Mo_back_4 (by decide) (fun c1 => absurd c1 (by decide)) (fun c1 => ?_)
  refine lv_iload_n (pc := 7) hx hb d_Mo_back_7 rfl (lv_at hl 2 rfl) ?_
  refine lv_iconst (pc := 8) (v := 0) hx hb d_Mo_back_8 (by decide) ?_
  refine lv_iconst (pc := 9) (v := 1) hx hb d_Mo_back_9 (by decide) ?_
  refine k_goI (gr := [[(a0, .inr (13, mF qm x0Mo y0Mo))], [(qm 3, .inl (kA 0, 4, .inl (fun _ => 0)))], [(qm 4, .inl (kA 0, 4, .inl (fun _ => 0)))]]) (k_rS (pc := 10) (As := [.int v2, .int 0, .int 1]) (rest := []) X (c_Mo_in_z2 l D kA v2 H.size) rfl wm_2971 wm_9 wm_2969 wm_2970 3 (by decide +kernel) ⟨Nat.le_of_ble_eq_true rfl, Nat.le_of_ble_eq_true rfl⟩ rfl rfl (k_pre hN hK hP hD [] [0, 1, 2] 3 rfl (by decide) rfl) rfl hl.1 rfl (Nat.le_of_ble_eq_true rfl) d_Mo_back_10 ⟨Nat.le_of_ble_eq_true rfl, Nat.le_of_ble_eq_true rfl⟩) hP hD hS hA [] [0, 1, 2] 3 rfl (by decide) rfl rfl (fun r3 u4 H locs hu4 hP hD hS => ?_)
  subst hu4
  have hP : va_P D classes (cat [[(a0, .inr (13, mF qm x0Mo y0Mo))], [(qm 3, .inl (kA 0, 4, .inl (fun _ => 0)))], [(qm 4, .inl (kA 0, 4, .inl (fun _ => 0)))]]) H := hP
  have hD : va_D A (cat [[(a0, .inr (13, mF qm x0Mo y0Mo))], [(qm 3, .inl (kA 0, 4, .inl (fun _ => 0)))], [(qm 4, .inl (kA 0, 4, .inl (fun _ => 0)))]]) := hD
  refine lv_if_eq (pc := 13) (tgt := 47) hx hb d_Mo_back_13 (by decide) (fun ck1 => ?_) (fun ck1 => ?_)
  · refine lv_iconst (pc := 47) (v := 0) hx hb d_Mo_back_47 (by decide) ?_
    refine W.widen (k := 0) (n := 0) (Nat.le_of_ble_eq_true rfl) (Nat.le_of_ble_eq_true rfl) ?_
    exact W.zret (v := 0) hx hb hr rfl (fun t ht hW => ⟨⟨0, [[(a0, .inr (13, mF qm x0Mo y0Mo))], [(qm 3, .inl (kA 0, 4, .inl (fun _ => 0)))], [(qm 4, .inl (kA 0, 4, .inl (fun _ => 0)))]], rfl, rfl, by rw [ht]; exact hP, va_K.moved hW.alike hK, hD⟩, hS.F ht⟩) hS.2.2 d_Mo_back_48
  · refine lv_iload_n (pc := 16) hx hb d_Mo_back_16 rfl (lv_at hl 2 rfl) ?_
    refine lv_if_ne (pc := 17) (tgt := 32) hx hb d_Mo_back_17 (by decide) (fun ck2 => ?_) (fun ck2 => ?_)
    · refine lv_aload_n (pc := 32) hx hb d_Mo_back_32 rfl (lv_at hl 0 rfl) ?_
      refine k_get (pc := 33) (v := .ref (qm 3)) X hK hP 0 rfl rfl i_Mo 3 (by decide) wm_2436 rfl rfl d_Mo_back_33 ?_
      refine lv_iload_n (pc := 36) hx hb d_Mo_back_36 rfl (lv_at hl 1 rfl) ?_
      refine k_ild (pc := 37) hx hb hK hP 1 0 rfl rfl (j) rfl (by omega) (by decide) d_Mo_back_37 ?_
      refine k_cst (v := 0) (by rfl) ?_
      refine lv_aload_n (pc := 38) hx hb d_Mo_back_38 rfl (lv_at hl 0 rfl) ?_
      refine k_get (pc := 39) (v := .ref (qm 4)) X hK hP 0 rfl rfl i_Mo 4 (by decide) wm_2437 rfl rfl d_Mo_back_39 ?_
      refine lv_iload_n (pc := 42) hx hb d_Mo_back_42 rfl (lv_at hl 1 rfl) ?_
      refine k_ild (pc := 43) hx hb hK hP 2 0 rfl rfl (j) rfl (by omega) (by decide) d_Mo_back_43 ?_
      refine k_cst (v := 0) (by rfl) ?_
      refine lv_icmp_ne (pc := 44) (tgt := 49) hx hb d_Mo_back_44 (by decide) (fun c1 => absurd (by decide) c1) (fun _ => ?_)
      refine lv_iconst (pc := 47) (v := 0) hx hb d_Mo_back_47 (by decide) ?_
      refine W.widen (k := 0) (n := 0) (Nat.le_of_ble_eq_true rfl) (Nat.le_of_ble_eq_true rfl) ?_
      exact W.zret (v := 0) hx hb hr rfl (fun t ht hW => ⟨⟨0, [[(a0, .inr (13, mF qm x0Mo y0Mo))], [(qm 3, .inl (kA 0, 4, .inl (fun _ => 0)))], [(qm 4, .inl (kA 0, 4, .inl (fun _ => 0)))]], rfl, rfl, by rw [ht]; exact hP, va_K.moved hW.alike hK, hD⟩, hS.F ht⟩) hS.2.2 d_Mo_back_48
    · refine lv_aload_n (pc := 20) hx hb d_Mo_back_20 rfl (lv_at hl 0 rfl) ?_
      refine k_get (pc := 21) (v := .ref (qm 3)) X hK hP 0 rfl rfl i_Mo 3 (by decide) wm_2436 rfl rfl d_Mo_back_21 ?_
      refine lv_iload_n (pc := 24) hx hb d_Mo_back_24 rfl (lv_at hl 1 rfl) ?_
      refine k_ild (pc := 25) hx hb hK hP 1 0 rfl rfl (j) rfl (by omega) (by decide) d_Mo_back_25 ?_
      refine k_cst (v := 0) (by rfl) ?_
      refine lv_if_ne (pc := 26) (tgt := 49) hx hb d_Mo_back_26 (by decide) (fun c1 => absurd (by decide) c1) (fun c1 => ?_)
      refine lv_goto (pc := 29) (tgt := 47) hx hb d_Mo_back_29 (by decide) ?_
      refine lv_iconst (pc := 47) (v := 0) hx hb d_Mo_back_47 (by decide) ?_
      refine W.widen (k := 0) (n := 0) (Nat.le_of_ble_eq_true rfl) (Nat.le_of_ble_eq_true rfl) ?_
      exact W.zret (v := 0) hx hb hr rfl (fun t ht hW => ⟨⟨0, [[(a0, .inr (13, mF qm x0Mo y0Mo))], [(qm 3, .inl (kA 0, 4, .inl (fun _ => 0)))], [(qm 4, .inl (kA 0, 4, .inl (fun _ => 0)))]], rfl, rfl, by rw [ht]; exact hP, va_K.moved hW.alike hK, hD⟩, hS.F ht⟩) hS.2.2 d_Mo_back_48
set_option maxRecDepth 100000 in
set_option maxHeartbeats 4000000 in
/-- back, a fresh house -/
theorem lf_back_2 {p : Program} {e : Env} {s : State} {m : MethodId} {below : List Frame} {meth : Method} {c : Code} (l : Launch) {b : Nat} {xs : Nat → Int32} (C0 : lw_At p s m meth c b 6 xs) {D : va_G} {kA : Nat → ClassId} (h : Nat) (h2 : Nat) (q : Nat → Nat) (qg : Nat → Nat) (qm : Nat → Nat) (g : Nat → Nat → Nat) (j : Nat) (v2 : Int32) (hj : j < 4) (hv1 : xs 1 = nI j) (hv2 : xs 2 = v2) {H : Heap} {locs : List Loc} {ls : Array Slot} (hK : va_K D classes (TY kA) s) (hN : nst s) (hP : va_P D classes (cat [[(h, .inr (12, [.ref (q 0), .ref (q 1), .ref (q 2), .ref (q 3), .ref (q 4), .ref (q 5), .ref (q 6), .int 0, .int ((-1)), .ref (q 9), .ref (q 10), .int 0, .int 0, .ref (q 13), .int 0, .int 0, .null, .null, .null, .null, .null]))], [(q 0, .inl (kA 4, 4, .inr (.inr (.inr (.inr (rr (g 0)))))))], [(g 0 j, .inr (3, [.int 0, .int 0, .int 1, .ref (qg 3), .ref (qg 4), .ref (qg 5), .ref (qg 6), .ref (qg 7), .ref (qg 8), .ref (qg 9), .ref (qg 10), .ref (qg 11), .ref (qg 12), .ref (qg 13), .ref (qg 14), .ref (qg 15), .null, .int 0, .int 0]))], [(h2, .inr (13, mF qm x0Mo y0Mo))], [(qm 3, .inl (kA 0, 4, .inl (fun _ => 0)))], [(qm 4, .inl (kA 0, 4, .inl (fun _ => 0)))]]) H) (hD : va_D (fun q : Nat => s.heap.size ≤ q) (cat [[(h, .inr (12, [.ref (q 0), .ref (q 1), .ref (q 2), .ref (q 3), .ref (q 4), .ref (q 5), .ref (q 6), .int 0, .int ((-1)), .ref (q 9), .ref (q 10), .int 0, .int 0, .ref (q 13), .int 0, .int 0, .null, .null, .null, .null, .null]))], [(q 0, .inl (kA 4, 4, .inr (.inr (.inr (.inr (rr (g 0)))))))], [(g 0 j, .inr (3, [.int 0, .int 0, .int 1, .ref (qg 3), .ref (qg 4), .ref (qg 5), .ref (qg 6), .ref (qg 7), .ref (qg 8), .ref (qg 9), .ref (qg 10), .ref (qg 11), .ref (qg 12), .ref (qg 13), .ref (qg 14), .ref (qg 15), .null, .int 0, .int 0]))], [(h2, .inr (13, mF qm x0Mo y0Mo))], [(qm 3, .inl (kA 0, 4, .inl (fun _ => 0)))], [(qm 4, .inl (kA 0, 4, .inl (fun _ => 0)))]])) (hS : va_S (fun q : Nat => s.heap.size ≤ q) s.heap H locs) (hl : lv_has ls 4 [(3, .int 0), (2, .ref h2), (1, .ref h), (0, .ref b)]) : W p l e room_1 s m #[Value.ref b] below meth c H locs 368 365796 (lw_Z below #[Value.ref b] s) (F0 m 547 ls []) := by
  obtain ⟨hx, hb, hr, hml, hown, hts0, hX, hbl, hlocks, hgv⟩ := id C0
  have hts : ∀ w ∈ lw_g, w.before #[Value.ref b] s = true := fun w h => hts0 w (lw_gt h)
  have X : cx p s m #[Value.ref b] meth c b_law_law 4 ret "DrawingHouseLaw" meth.name := ⟨hx, hb, hml, hown, hts, hr, hlocks, rfl⟩
  obtain ⟨A, hAe⟩ : ∃ A : Nat → Prop, A = fun q : Nat => s.heap.size ≤ q := ⟨_, rfl⟩
  have hA : ∀ q : Nat, s.heap.size ≤ q → A q := fun q h => by rw [hAe]; exact h
  have hbA : ¬ A b := by rw [hAe]; exact Nat.not_le.mpr hbl
  rw [← hAe] at hD hS
  refine lv_aload_n (pc := 547) hx hb d_law_law_547 rfl (lv_at hl 2 rfl) ?_
  refine lv_aload_n (pc := 548) hx hb d_law_law_548 rfl (lv_at hl 3 rfl) ?_
  refine lv_iload_n (pc := 549) hx hb d_law_law_549 rfl (lv_at hl 0 rfl) ?_
  refine lv_iconst (pc := 550) (v := 1) hx hb d_law_law_550 (by decide) ?_
  refine lv_iadd (pc := 551) hx hb d_law_law_551 ?_
  refine k_cst (v := 1) (by decide) ?_
  refine va_sld (pc := 552) hx hb hX hbl hbA hS (by unfold vp_in; decide) d_law_law_552 ?_
  refine k_cst (v := nI j) hv1 ?_
  refine lv_aload_n (pc := 553) hx hb d_law_law_553 rfl (lv_at hl 3 rfl) ?_
  refine lv_iload_n (pc := 554) hx hb d_law_law_554 rfl (lv_at hl 0 rfl) ?_
  refine lv_iconst (pc := 555) (v := 2) hx hb d_law_law_555 (by decide) ?_
  refine lv_iadd (pc := 556) hx hb d_law_law_556 ?_
  refine k_cst (v := 2) (by decide) ?_
  refine va_sld (pc := 557) hx hb hX hbl hbA hS (by unfold vp_in; decide) d_law_law_557 ?_
  refine k_cst (v := v2) hv2 ?_
  refine k_goI (gr := [[(h2, .inr (13, mF qm x0Mo y0Mo))], [(qm 3, .inl (kA 0, 4, .inl (fun _ => 0)))], [(qm 4, .inl (kA 0, 4, .inl (fun _ => 0)))]]) (k_rV (pc := 558) (As := [.int (nI j), .int v2]) (rest := []) X (c_Ho_back_z2 l D kA h j v2 (q 0) (q 1) (q 2) (q 3) (q 4) (q 5) (q 6) (q 9) (q 10) (q 13) g (qg 3) (qg 4) (qg 5) (qg 6) (qg 7) (qg 8) (qg 9) (qg 10) (qg 11) (qg 12) (qg 13) (qg 14) (qg 15) hj H.size) rfl wm_1001 wm_1 wm_998 wm_999 wm_1000 2 (by decide +kernel) ⟨Nat.le_of_ble_eq_true rfl, Nat.le_of_ble_eq_true rfl⟩ rfl rfl (va_recv hK hP (ci := 12) (q0 := 0) rfl rfl) (k_pre hN hK hP hD [0, 1, 2] [3, 4, 5] 6 rfl (by decide) rfl) rfl hl.1 rfl (Nat.le_of_ble_eq_true rfl) d_law_law_558 ⟨Nat.le_of_ble_eq_true rfl, Nat.le_of_ble_eq_true rfl⟩) hP hD hS hA [0, 1, 2] [3, 4, 5] 6 rfl (by decide) rfl rfl (fun r1 u2 H locs hu2 hP hD hS => ?_)
  obtain ⟨hP, hD⟩ := k_left hP hD
  subst hu2
  have hP : va_P D classes (cat [[(h2, .inr (13, mF qm x0Mo y0Mo))], [(qm 3, .inl (kA 0, 4, .inl (fun _ => 0)))], [(qm 4, .inl (kA 0, 4, .inl (fun _ => 0)))]]) H := hP
  have hD : va_D A (cat [[(h2, .inr (13, mF qm x0Mo y0Mo))], [(qm 3, .inl (kA 0, 4, .inl (fun _ => 0)))], [(qm 4, .inl (kA 0, 4, .inl (fun _ => 0)))]]) := hD
  refine lv_aload_n (pc := 561) hx hb d_law_law_561 rfl (lv_at hl 1 rfl) ?_
  refine lv_aload_n (pc := 562) hx hb d_law_law_562 rfl (lv_at hl 3 rfl) ?_
  refine lv_iload_n (pc := 563) hx hb d_law_law_563 rfl (lv_at hl 0 rfl) ?_
  refine lv_iconst (pc := 564) (v := 1) hx hb d_law_law_564 (by decide) ?_
  refine lv_iadd (pc := 565) hx hb d_law_law_565 ?_
  refine k_cst (v := 1) (by decide) ?_
  refine va_sld (pc := 566) hx hb hX hbl hbA hS (by unfold vp_in; decide) d_law_law_566 ?_
  refine k_cst (v := nI j) hv1 ?_
  refine lv_aload_n (pc := 567) hx hb d_law_law_567 rfl (lv_at hl 3 rfl) ?_
  refine lv_iload_n (pc := 568) hx hb d_law_law_568 rfl (lv_at hl 0 rfl) ?_
  refine lv_iconst (pc := 569) (v := 2) hx hb d_law_law_569 (by decide) ?_
  refine lv_iadd (pc := 570) hx hb d_law_law_570 ?_
  refine k_cst (v := 2) (by decide) ?_
  refine va_sld (pc := 571) hx hb hX hbl hbA hS (by unfold vp_in; decide) d_law_law_571 ?_
  refine k_cst (v := v2) hv2 ?_
  refine k_goI (gr := []) (k_rV (pc := 572) (As := [.int (nI j), .int v2]) (rest := [.int 0]) X (c_Mo_back_z2 l D kA h2 j v2 qm hj H.size) rfl wm_3115 wm_9 wm_3112 wm_3113 wm_3114 2 (by decide +kernel) ⟨Nat.le_of_ble_eq_true rfl, Nat.le_of_ble_eq_true rfl⟩ rfl rfl (va_recv hK hP (ci := 13) (q0 := 0) rfl rfl) (k_pre hN hK hP hD [0, 1, 2] [] 3 rfl (by decide) rfl) rfl hl.1 rfl (Nat.le_of_ble_eq_true rfl) d_law_law_572 ⟨Nat.le_of_ble_eq_true rfl, Nat.le_of_ble_eq_true rfl⟩) hP hD hS hA [0, 1, 2] [] 3 rfl (by decide) rfl rfl (fun r3 u4 H locs hu4 hP hD hS => ?_)
  obtain ⟨hP, hD⟩ := k_left hP hD
  subst hu4
  have hP : va_P D classes (cat []) H := hP
  have hD : va_D A (cat []) := hD
  refine lv_icmp_eq (pc := 575) (tgt := 1295) hx hb d_law_law_575 (by decide) (fun _ => ?_) (fun c1 => absurd (by decide) c1)
  rw [hAe] at hS
  exact law_exit l C0 (Nat.le_of_ble_eq_true rfl) (Nat.le_of_ble_eq_true rfl) hS hl
set_option maxRecDepth 100000 in
set_option maxHeartbeats 4000000 in
/-- DrawingHouse.far(III)I -/
theorem c_Ho_far_z1 (l : Launch) (D : va_G) (kA : Nat → ClassId) (a0 : Nat) (v1 : Int32) (v2 : Int32) (v3 : Int32) (hg : sp_Ho_isPlace v1 = 0) (hgM : sp_Mo_isPlace v1 = 0) : Ci l y_Ho_far z_Ho_far { frames := 1, cells := 0, slots := 0, locals := 20 } D classes (TY kA) [.ref a0, .int v1, .int v2, .int v3] [] (fun r (_ : List va_W) => r = (-1)) (fun u => u) 0 0 := by
  intro sz
  refine k_met (cc := b_Ho_far) (maxL := 4) (ret := (some .int)) (by decide) rfl (Nat.le_of_ble_eq_true rfl) (fun p e s m below meth c ls X hl hB => ?_)
  obtain ⟨hsz, hP, hK, hD0, hN⟩ := hB
  subst hsz
  have hD := hD0.self (sz := s.heap.size)
  generalize hAe : va_A (cat []) s.heap.size = A at hD ⊢
  have hA : ∀ q : Nat, s.heap.size ≤ q → A q := fun q h => by rw [← hAe]; exact Or.inr h
  have hS : va_S A s.heap s.heap [] := va_S.rf
  obtain ⟨hx, hb, hml, hown, hts, hr, hlk, hnm⟩ := id X
  have hl : lv_has ls 4 [(0, .ref a0), (1, .int v1), (2, .int v2), (3, .int v3)] := hl
  have hP : va_P D classes (cat []) s.heap := hP
  have hK : va_K D classes (TY kA) s := hK
  refine lv_iload_n (pc := 0) hx hb d_Ho_far_0 rfl (lv_at hl 1 rfl) ?_
  refine k_goI (gr := []) (k_rS (pc := 1) (As := [.int v1]) (rest := []) X (c_Ho_isPlace l D kA v1 s.heap.size) rfl wm_633 wm_1 wm_631 wm_632 1 (by decide +kernel) ⟨Nat.le_of_ble_eq_true rfl, Nat.le_of_ble_eq_true rfl⟩ rfl rfl (k_pre hN hK hP hD [] [] 0 rfl (by decide) rfl) rfl hl.1 rfl (Nat.le_of_ble_eq_true rfl) d_Ho_far_1 ⟨Nat.le_of_ble_eq_true rfl, Nat.le_of_ble_eq_true rfl⟩) hP hD hS hA [] [] 0 rfl (by decide) rfl rfl (fun r1 u2 H locs hu2 hP hD hS => ?_)
  subst hu2
  have hP : va_P D classes (cat []) H := hP
  have hD : va_D A (cat []) := hD
  refine lv_if_eq (pc := 4) (tgt := 33) hx hb d_Ho_far_4 (by decide) (fun c1 => ?_) (fun c1 => absurd (hg) c1)
  refine lv_iconst (pc := 33) (v := -1) hx hb d_Ho_far_33 (by decide) ?_
  refine W.widen (k := 0) (n := 0) (Nat.le_of_ble_eq_true rfl) (Nat.le_of_ble_eq_true rfl) ?_
  exact W.iret (v := (-1)) hx hb hr (fun t ht hW => ⟨⟨(-1), [], rfl, rfl, by rw [ht]; exact hP, va_K.moved hW.alike hK, hD⟩, hS.F ht⟩) hS.2.2 d_Ho_far_34
set_option maxRecDepth 100000 in
set_option maxHeartbeats 4000000 in
/-- DrawingHouseModel.far(III)I -/
theorem c_Mo_far_z1 (l : Launch) (D : va_G) (kA : Nat → ClassId) (a0 : Nat) (v1 : Int32) (v2 : Int32) (v3 : Int32) (hg : sp_Ho_isPlace v1 = 0) (hgM : sp_Mo_isPlace v1 = 0) : Ci l y_Mo_far z_Mo_far { frames := 2, cells := 0, slots := 0, locals := 42 } D classes (TY kA) [.ref a0, .int v1, .int v2, .int v3] [] (fun r (_ : List va_W) => r = (-1)) (fun u => u) 0 0 := by
  intro sz
  refine k_met (cc := b_Mo_far) (maxL := 4) (ret := (some .int)) (by decide) rfl (Nat.le_of_ble_eq_true rfl) (fun p e s m below meth c ls X hl hB => ?_)
  obtain ⟨hsz, hP, hK, hD0, hN⟩ := hB
  subst hsz
  have hD := hD0.self (sz := s.heap.size)
  generalize hAe : va_A (cat []) s.heap.size = A at hD ⊢
  have hA : ∀ q : Nat, s.heap.size ≤ q → A q := fun q h => by rw [← hAe]; exact Or.inr h
  have hS : va_S A s.heap s.heap [] := va_S.rf
  obtain ⟨hx, hb, hml, hown, hts, hr, hlk, hnm⟩ := id X
  have hl : lv_has ls 4 [(0, .ref a0), (1, .int v1), (2, .int v2), (3, .int v3)] := hl
  have hP : va_P D classes (cat []) s.heap := hP
  have hK : va_K D classes (TY kA) s := hK
  refine lv_iload_n (pc := 0) hx hb d_Mo_far_0 rfl (lv_at hl 1 rfl) ?_
  refine k_goI (gr := []) (k_rS (pc := 1) (As := [.int v1]) (rest := []) X (c_Mo_isPlace l D kA v1 s.heap.size) rfl wm_2978 wm_9 wm_2976 wm_2977 1 (by decide +kernel) ⟨Nat.le_of_ble_eq_true rfl, Nat.le_of_ble_eq_true rfl⟩ rfl rfl (k_pre hN hK hP hD [] [] 0 rfl (by decide) rfl) rfl hl.1 rfl (Nat.le_of_ble_eq_true rfl) d_Mo_far_1 ⟨Nat.le_of_ble_eq_true rfl, Nat.le_of_ble_eq_true rfl⟩) hP hD hS hA [] [] 0 rfl (by decide) rfl rfl (fun r1 u2 H locs hu2 hP hD hS => ?_)
  subst hu2
  have hP : va_P D classes (cat []) H := hP
  have hD : va_D A (cat []) := hD
  refine lv_if_ne (pc := 4) (tgt := 9) hx hb d_Mo_far_4 (by decide) (fun c1 => absurd (hgM) c1) (fun c1 => ?_)
  refine lv_iconst (pc := 7) (v := -1) hx hb d_Mo_far_7 (by decide) ?_
  refine W.widen (k := 0) (n := 0) (Nat.le_of_ble_eq_true rfl) (Nat.le_of_ble_eq_true rfl) ?_
  exact W.iret (v := (-1)) hx hb hr (fun t ht hW => ⟨⟨(-1), [], rfl, rfl, by rw [ht]; exact hP, va_K.moved hW.alike hK, hD⟩, hS.F ht⟩) hS.2.2 d_Mo_far_8
set_option maxRecDepth 100000 in
set_option maxHeartbeats 4000000 in
/-- far, a fresh house -/
theorem lf_far_1 {p : Program} {e : Env} {s : State} {m : MethodId} {below : List Frame} {meth : Method} {c : Code} (l : Launch) {b : Nat} {xs : Nat → Int32} (C0 : lw_At p s m meth c b 6 xs) {D : va_G} {kA : Nat → ClassId} (h : Nat) (h2 : Nat) (q : Nat → Nat) (qm : Nat → Nat) (v1 : Int32) (v2 : Int32) (v3 : Int32) (hg : sp_Ho_isPlace v1 = 0) (hgM : sp_Mo_isPlace v1 = 0) (hv1 : xs 1 = v1) (hv2 : xs 2 = v2) (hv3 : xs 3 = v3) {H : Heap} {locs : List Loc} {ls : Array Slot} (hK : va_K D classes (TY kA) s) (hN : nst s) (hP : va_P D classes (cat [[(h, .inr (12, [.ref (q 0), .ref (q 1), .ref (q 2), .ref (q 3), .ref (q 4), .ref (q 5), .ref (q 6), .int 0, .int ((-1)), .ref (q 9), .ref (q 10), .int 0, .int 0, .ref (q 13), .int 0, .int 0, .null, .null, .null, .null, .null]))], [(h2, .inr (13, mF qm x0Mo y0Mo))]]) H) (hD : va_D (fun q : Nat => s.heap.size ≤ q) (cat [[(h, .inr (12, [.ref (q 0), .ref (q 1), .ref (q 2), .ref (q 3), .ref (q 4), .ref (q 5), .ref (q 6), .int 0, .int ((-1)), .ref (q 9), .ref (q 10), .int 0, .int 0, .ref (q 13), .int 0, .int 0, .null, .null, .null, .null, .null]))], [(h2, .inr (13, mF qm x0Mo y0Mo))]])) (hS : va_S (fun q : Nat => s.heap.size ≤ q) s.heap H locs) (hl : lv_has ls 4 [(3, .int 0), (2, .ref h2), (1, .ref h), (0, .ref b)]) : W p l e room_1 s m #[Value.ref b] below meth c H locs 368 365796 (lw_Z below #[Value.ref b] s) (F0 m 580 ls []) := by
  obtain ⟨hx, hb, hr, hml, hown, hts0, hX, hbl, hlocks, hgv⟩ := id C0
  have hts : ∀ w ∈ lw_g, w.before #[Value.ref b] s = true := fun w h => hts0 w (lw_gt h)
  have X : cx p s m #[Value.ref b] meth c b_law_law 4 ret "DrawingHouseLaw" meth.name := ⟨hx, hb, hml, hown, hts, hr, hlocks, rfl⟩
  obtain ⟨A, hAe⟩ : ∃ A : Nat → Prop, A = fun q : Nat => s.heap.size ≤ q := ⟨_, rfl⟩
  have hA : ∀ q : Nat, s.heap.size ≤ q → A q := fun q h => by rw [hAe]; exact h
  have hbA : ¬ A b := by rw [hAe]; exact Nat.not_le.mpr hbl
  rw [← hAe] at hD hS
  refine lv_aload_n (pc := 580) hx hb d_law_law_580 rfl (lv_at hl 2 rfl) ?_
  refine lv_aload_n (pc := 581) hx hb d_law_law_581 rfl (lv_at hl 3 rfl) ?_
  refine lv_iload_n (pc := 582) hx hb d_law_law_582 rfl (lv_at hl 0 rfl) ?_
  refine lv_iconst (pc := 583) (v := 1) hx hb d_law_law_583 (by decide) ?_
  refine lv_iadd (pc := 584) hx hb d_law_law_584 ?_
  refine k_cst (v := 1) (by decide) ?_
  refine va_sld (pc := 585) hx hb hX hbl hbA hS (by unfold vp_in; decide) d_law_law_585 ?_
  refine k_cst (v := v1) hv1 ?_
  refine lv_aload_n (pc := 586) hx hb d_law_law_586 rfl (lv_at hl 3 rfl) ?_
  refine lv_iload_n (pc := 587) hx hb d_law_law_587 rfl (lv_at hl 0 rfl) ?_
  refine lv_iconst (pc := 588) (v := 2) hx hb d_law_law_588 (by decide) ?_
  refine lv_iadd (pc := 589) hx hb d_law_law_589 ?_
  refine k_cst (v := 2) (by decide) ?_
  refine va_sld (pc := 590) hx hb hX hbl hbA hS (by unfold vp_in; decide) d_law_law_590 ?_
  refine k_cst (v := v2) hv2 ?_
  refine lv_aload_n (pc := 591) hx hb d_law_law_591 rfl (lv_at hl 3 rfl) ?_
  refine lv_iload_n (pc := 592) hx hb d_law_law_592 rfl (lv_at hl 0 rfl) ?_
  refine lv_iconst (pc := 593) (v := 3) hx hb d_law_law_593 (by decide) ?_
  refine lv_iadd (pc := 594) hx hb d_law_law_594 ?_
  refine k_cst (v := 3) (by decide) ?_
  refine va_sld (pc := 595) hx hb hX hbl hbA hS (by unfold vp_in; decide) d_law_law_595 ?_
  refine k_cst (v := v3) hv3 ?_
  refine k_goI (gr := [[(h, .inr (12, [.ref (q 0), .ref (q 1), .ref (q 2), .ref (q 3), .ref (q 4), .ref (q 5), .ref (q 6), .int 0, .int ((-1)), .ref (q 9), .ref (q 10), .int 0, .int 0, .ref (q 13), .int 0, .int 0, .null, .null, .null, .null, .null]))], [(h2, .inr (13, mF qm x0Mo y0Mo))]]) (k_rV (pc := 596) (As := [.int v1, .int v2, .int v3]) (rest := []) X (c_Ho_far_z1 l D kA h v1 v2 v3 hg hgM H.size) rfl wm_1017 wm_1 wm_1014 wm_1015 wm_1016 3 (by decide +kernel) ⟨Nat.le_of_ble_eq_true rfl, Nat.le_of_ble_eq_true rfl⟩ rfl rfl (va_recv hK hP (ci := 12) (q0 := 0) rfl rfl) (k_pre hN hK hP hD [] [0, 1] 2 rfl (by decide) rfl) rfl hl.1 rfl (Nat.le_of_ble_eq_true rfl) d_law_law_596 ⟨Nat.le_of_ble_eq_true rfl, Nat.le_of_ble_eq_true rfl⟩) hP hD hS hA [] [0, 1] 2 rfl (by decide) rfl rfl (fun r1 u2 H locs hu2 hP hD hS => ?_)
  obtain ⟨hP, hD⟩ := k_left hP hD
  subst hu2
  have hP : va_P D classes (cat [[(h, .inr (12, [.ref (q 0), .ref (q 1), .ref (q 2), .ref (q 3), .ref (q 4), .ref (q 5), .ref (q 6), .int 0, .int ((-1)), .ref (q 9), .ref (q 10), .int 0, .int 0, .ref (q 13), .int 0, .int 0, .null, .null, .null, .null, .null]))], [(h2, .inr (13, mF qm x0Mo y0Mo))]]) H := hP
  have hD : va_D A (cat [[(h, .inr (12, [.ref (q 0), .ref (q 1), .ref (q 2), .ref (q 3), .ref (q 4), .ref (q 5), .ref (q 6), .int 0, .int ((-1)), .ref (q 9), .ref (q 10), .int 0, .int 0, .ref (q 13), .int 0, .int 0, .null, .null, .null, .null, .null]))], [(h2, .inr (13, mF qm x0Mo y0Mo))]]) := hD
  refine lv_aload_n (pc := 599) hx hb d_law_law_599 rfl (lv_at hl 1 rfl) ?_
  refine lv_aload_n (pc := 600) hx hb d_law_law_600 rfl (lv_at hl 3 rfl) ?_
  refine lv_iload_n (pc := 601) hx hb d_law_law_601 rfl (lv_at hl 0 rfl) ?_
  refine lv_iconst (pc := 602) (v := 1) hx hb d_law_law_602 (by decide) ?_
  refine lv_iadd (pc := 603) hx hb d_law_law_603 ?_
  refine k_cst (v := 1) (by decide) ?_
  refine va_sld (pc := 604) hx hb hX hbl hbA hS (by unfold vp_in; decide) d_law_law_604 ?_
  refine k_cst (v := v1) hv1 ?_
  refine lv_aload_n (pc := 605) hx hb d_law_law_605 rfl (lv_at hl 3 rfl) ?_
  refine lv_iload_n (pc := 606) hx hb d_law_law_606 rfl (lv_at hl 0 rfl) ?_
  refine lv_iconst (pc := 607) (v := 2) hx hb d_law_law_607 (by decide) ?_
  refine lv_iadd (pc := 608) hx hb d_law_law_608 ?_
  refine k_cst (v := 2) (by decide) ?_
  refine va_sld (pc := 609) hx hb hX hbl hbA hS (by unfold vp_in; decide) d_law_law_609 ?_
  refine k_cst (v := v2) hv2 ?_
  refine lv_aload_n (pc := 610) hx hb d_law_law_610 rfl (lv_at hl 3 rfl) ?_
  refine lv_iload_n (pc := 611) hx hb d_law_law_611 rfl (lv_at hl 0 rfl) ?_
  refine lv_iconst (pc := 612) (v := 3) hx hb d_law_law_612 (by decide) ?_
  refine lv_iadd (pc := 613) hx hb d_law_law_613 ?_
  refine k_cst (v := 3) (by decide) ?_
  refine va_sld (pc := 614) hx hb hX hbl hbA hS (by unfold vp_in; decide) d_law_law_614 ?_
  refine k_cst (v := v3) hv3 ?_
  refine k_goI (gr := [[(h, .inr (12, [.ref (q 0), .ref (q 1), .ref (q 2), .ref (q 3), .ref (q 4), .ref (q 5), .ref (q 6), .int 0, .int ((-1)), .ref (q 9), .ref (q 10), .int 0, .int 0, .ref (q 13), .int 0, .int 0, .null, .null, .null, .null, .null]))], [(h2, .inr (13, mF qm x0Mo y0Mo))]]) (k_rV (pc := 615) (As := [.int v1, .int v2, .int v3]) (rest := [.int ((-1))]) X (c_Mo_far_z1 l D kA h2 v1 v2 v3 hg hgM H.size) rfl wm_3363 wm_9 wm_3360 wm_3361 wm_3362 3 (by decide +kernel) ⟨Nat.le_of_ble_eq_true rfl, Nat.le_of_ble_eq_true rfl⟩ rfl rfl (va_recv hK hP (ci := 13) (q0 := 1) rfl rfl) (k_pre hN hK hP hD [] [0, 1] 2 rfl (by decide) rfl) rfl hl.1 rfl (Nat.le_of_ble_eq_true rfl) d_law_law_615 ⟨Nat.le_of_ble_eq_true rfl, Nat.le_of_ble_eq_true rfl⟩) hP hD hS hA [] [0, 1] 2 rfl (by decide) rfl rfl (fun r3 u4 H locs hu4 hP hD hS => ?_)
  obtain ⟨hP, hD⟩ := k_left hP hD
  subst hu4
  have hP : va_P D classes (cat [[(h, .inr (12, [.ref (q 0), .ref (q 1), .ref (q 2), .ref (q 3), .ref (q 4), .ref (q 5), .ref (q 6), .int 0, .int ((-1)), .ref (q 9), .ref (q 10), .int 0, .int 0, .ref (q 13), .int 0, .int 0, .null, .null, .null, .null, .null]))], [(h2, .inr (13, mF qm x0Mo y0Mo))]]) H := hP
  have hD : va_D A (cat [[(h, .inr (12, [.ref (q 0), .ref (q 1), .ref (q 2), .ref (q 3), .ref (q 4), .ref (q 5), .ref (q 6), .int 0, .int ((-1)), .ref (q 9), .ref (q 10), .int 0, .int 0, .ref (q 13), .int 0, .int 0, .null, .null, .null, .null, .null]))], [(h2, .inr (13, mF qm x0Mo y0Mo))]]) := hD
  refine lv_icmp_eq (pc := 618) (tgt := 1295) hx hb d_law_law_618 (by decide) (fun _ => ?_) (fun c1 => absurd (by decide) c1)
  rw [hAe] at hS
  exact law_exit l C0 (Nat.le_of_ble_eq_true rfl) (Nat.le_of_ble_eq_true rfl) hS hl
set_option maxRecDepth 100000 in
set_option maxHeartbeats 4000000 in
/-- DrawingHouse.far(III)I -/
theorem c_Ho_far_z2 (l : Launch) (D : va_G) (kA : Nat → ClassId) (a0 : Nat) (j : Nat) (v2 : Int32) (v3 : Int32) (a1 : Nat) (a2 : Nat) (a3 : Nat) (a4 : Nat) (a5 : Nat) (a6 : Nat) (a7 : Nat) (a8 : Nat) (a9 : Nat) (a10 : Nat) (g : Nat → Nat → Nat) (a11 : Nat) (a12 : Nat) (a13 : Nat) (a14 : Nat) (a15 : Nat) (a16 : Nat) (a17 : Nat) (a18 : Nat) (a19 : Nat) (a20 : Nat) (a21 : Nat) (a22 : Nat) (a23 : Nat) (hj : j < 4) : Ci l y_Ho_far z_Ho_far { frames := 1, cells := 0, slots := 0, locals := 21 } D classes (TY kA) [.ref a0, .int (nI j), .int v2, .int v3] [[(a0, .inr (12, [.ref a1, .ref a2, .ref a3, .ref a4, .ref a5, .ref a6, .ref a7, .int 0, .int ((-1)), .ref a8, .ref a9, .int 0, .int 0, .ref a10, .int 0, .int 0, .null, .null, .null, .null, .null]))], [(a1, .inl (kA 4, 4, .inr (.inr (.inr (.inr (rr (g 0)))))))], [(g 0 j, .inr (3, [.int 0, .int 0, .int 1, .ref a11, .ref a12, .ref a13, .ref a14, .ref a15, .ref a16, .ref a17, .ref a18, .ref a19, .ref a20, .ref a21, .ref a22, .ref a23, .null, .int 0, .int 0]))]] (fun r (_ : List va_W) => r = (-1)) (fun u => u) 0 0 := by
  intro sz
  refine k_met (cc := b_Ho_far) (maxL := 4) (ret := (some .int)) (by decide) rfl (Nat.le_of_ble_eq_true rfl) (fun p e s m below meth c ls X hl hB => ?_)
  obtain ⟨hsz, hP, hK, hD0, hN⟩ := hB
  subst hsz
  have hD := hD0.self (sz := s.heap.size)
  generalize hAe : va_A (cat [[(a0, .inr (12, [.ref a1, .ref a2, .ref a3, .ref a4, .ref a5, .ref a6, .ref a7, .int 0, .int ((-1)), .ref a8, .ref a9, .int 0, .int 0, .ref a10, .int 0, .int 0, .null, .null, .null, .null, .null]))], [(a1, .inl (kA 4, 4, .inr (.inr (.inr (.inr (rr (g 0)))))))], [(g 0 j, .inr (3, [.int 0, .int 0, .int 1, .ref a11, .ref a12, .ref a13, .ref a14, .ref a15, .ref a16, .ref a17, .ref a18, .ref a19, .ref a20, .ref a21, .ref a22, .ref a23, .null, .int 0, .int 0]))]]) s.heap.size = A at hD ⊢
  have hA : ∀ q : Nat, s.heap.size ≤ q → A q := fun q h => by rw [← hAe]; exact Or.inr h
  have hS : va_S A s.heap s.heap [] := va_S.rf
  obtain ⟨hx, hb, hml, hown, hts, hr, hlk, hnm⟩ := id X
  have hl : lv_has ls 4 [(0, .ref a0), (1, .int (nI j)), (2, .int v2), (3, .int v3)] := hl
  have hP : va_P D classes (cat [[(a0, .inr (12, [.ref a1, .ref a2, .ref a3, .ref a4, .ref a5, .ref a6, .ref a7, .int 0, .int ((-1)), .ref a8, .ref a9, .int 0, .int 0, .ref a10, .int 0, .int 0, .null, .null, .null, .null, .null]))], [(a1, .inl (kA 4, 4, .inr (.inr (.inr (.inr (rr (g 0)))))))], [(g 0 j, .inr (3, [.int 0, .int 0, .int 1, .ref a11, .ref a12, .ref a13, .ref a14, .ref a15, .ref a16, .ref a17, .ref a18, .ref a19, .ref a20, .ref a21, .ref a22, .ref a23, .null, .int 0, .int 0]))]]) s.heap := hP
  have hK : va_K D classes (TY kA) s := hK
  refine lv_iload_n (pc := 0) hx hb d_Ho_far_0 rfl (lv_at hl 1 rfl) ?_
  refine k_goI (gr := [[(a0, .inr (12, [.ref a1, .ref a2, .ref a3, .ref a4, .ref a5, .ref a6, .ref a7, .int 0, .int ((-1)), .ref a8, .ref a9, .int 0, .int 0, .ref a10, .int 0, .int 0, .null, .null, .null, .null, .null]))], [(a1, .inl (kA 4, 4, .inr (.inr (.inr (.inr (rr (g 0)))))))], [(g 0 j, .inr (3, [.int 0, .int 0, .int 1, .ref a11, .ref a12, .ref a13, .ref a14, .ref a15, .ref a16, .ref a17, .ref a18, .ref a19, .ref a20, .ref a21, .ref a22, .ref a23, .null, .int 0, .int 0]))]]) (k_rS (pc := 1) (As := [.int (nI j)]) (rest := []) X (c_Ho_isPlace l D kA (nI j) s.heap.size) rfl wm_633 wm_1 wm_631 wm_632 1 (by decide +kernel) ⟨Nat.le_of_ble_eq_true rfl, Nat.le_of_ble_eq_true rfl⟩ rfl rfl (k_pre hN hK hP hD [] [0, 1, 2] 3 rfl (by decide) rfl) rfl hl.1 rfl (Nat.le_of_ble_eq_true rfl) d_Ho_far_1 ⟨Nat.le_of_ble_eq_true rfl, Nat.le_of_ble_eq_true rfl⟩) hP hD hS hA [] [0, 1, 2] 3 rfl (by decide) rfl rfl (fun r1 u2 H locs hu2 hP hD hS => ?_)
  subst hu2
  refine k_cst (v := 1) (place_ok hj) ?_
  have hP : va_P D classes (cat [[(a0, .inr (12, [.ref a1, .ref a2, .ref a3, .ref a4, .ref a5, .ref a6, .ref a7, .int 0, .int ((-1)), .ref a8, .ref a9, .int 0, .int 0, .ref a10, .int 0, .int 0, .null, .null, .null, .null, .null]))], [(a1, .inl (kA 4, 4, .inr (.inr (.inr (.inr (rr (g 0)))))))], [(g 0 j, .inr (3, [.int 0, .int 0, .int 1, .ref a11, .ref a12, .ref a13, .ref a14, .ref a15, .ref a16, .ref a17, .ref a18, .ref a19, .ref a20, .ref a21, .ref a22, .ref a23, .null, .int 0, .int 0]))]]) H := hP
  have hD : va_D A (cat [[(a0, .inr (12, [.ref a1, .ref a2, .ref a3, .ref a4, .ref a5, .ref a6, .ref a7, .int 0, .int ((-1)), .ref a8, .ref a9, .int 0, .int 0, .ref a10, .int 0, .int 0, .null, .null, .null, .null, .null]))], [(a1, .inl (kA 4, 4, .inr (.inr (.inr (.inr (rr (g 0)))))))], [(g 0 j, .inr (3, [.int 0, .int 0, .int 1, .ref a11, .ref a12, .ref a13, .ref a14, .ref a15, .ref a16, .ref a17, .ref a18, .ref a19, .ref a20, .ref a21, .ref a22, .ref a23, .null, .int 0, .int 0]))]]) := hD
  refine lv_if_eq (pc := 4) (tgt := 33) hx hb d_Ho_far_4 (by decide) (fun c1 => absurd c1 (by decide)) (fun c1 => ?_)
  refine lv_aload_n (pc := 7) hx hb d_Ho_far_7 rfl (lv_at hl 0 rfl) ?_
  refine k_get (pc := 8) X hK hP 0 rfl rfl i_Ho 0 (by decide) wm_555 rfl rfl d_Ho_far_8 ?_
  refine lv_iload_n (pc := 11) hx hb d_Ho_far_11 rfl (lv_at hl 1 rfl) ?_
  refine k_ald (pc := 12) hx hb hK hP 1 4 rfl rfl (j) rfl (by omega) (by decide) (rr_at (by omega)) d_Ho_far_12 ?_
  refine lv_iload_n (pc := 13) hx hb d_Ho_far_13 rfl (lv_at hl 2 rfl) ?_
  refine k_goI (gr := [[(a0, .inr (12, [.ref a1, .ref a2, .ref a3, .ref a4, .ref a5, .ref a6, .ref a7, .int 0, .int ((-1)), .ref a8, .ref a9, .int 0, .int 0, .ref a10, .int 0, .int 0, .null, .null, .null, .null, .null]))], [(a1, .inl (kA 4, 4, .inr (.inr (.inr (.inr (rr (g 0)))))))]]) (k_rV (pc := 14) (As := [.int v2]) (rest := []) X (c_Gr_hasNode_z1 l D kA g j v2 a11 a12 a13 a14 a15 a16 a17 a18 a19 a20 a21 a22 a23 hj H.size) rfl wm_921 wm_3 wm_918 wm_919 wm_920 1 (by decide +kernel) ⟨Nat.le_of_ble_eq_true rfl, Nat.le_of_ble_eq_true rfl⟩ rfl rfl (va_recv hK hP (ci := 3) (q0 := 2) rfl rfl) (k_pre hN hK hP hD [2] [0, 1] 3 rfl (by decide) rfl) rfl hl.1 rfl (Nat.le_of_ble_eq_true rfl) d_Ho_far_14 ⟨Nat.le_of_ble_eq_true rfl, Nat.le_of_ble_eq_true rfl⟩) hP hD hS hA [2] [0, 1] 3 rfl (by decide) rfl rfl (fun r3 u4 H locs hu4 hP hD hS => ?_)
  subst hu4
  have hP : va_P D classes (cat [[(a0, .inr (12, [.ref a1, .ref a2, .ref a3, .ref a4, .ref a5, .ref a6, .ref a7, .int 0, .int ((-1)), .ref a8, .ref a9, .int 0, .int 0, .ref a10, .int 0, .int 0, .null, .null, .null, .null, .null]))], [(a1, .inl (kA 4, 4, .inr (.inr (.inr (.inr (rr (g 0)))))))], [(g 0 j, .inr (3, [.int 0, .int 0, .int 1, .ref a11, .ref a12, .ref a13, .ref a14, .ref a15, .ref a16, .ref a17, .ref a18, .ref a19, .ref a20, .ref a21, .ref a22, .ref a23, .null, .int 0, .int 0]))]]) H := hP
  have hD : va_D A (cat [[(a0, .inr (12, [.ref a1, .ref a2, .ref a3, .ref a4, .ref a5, .ref a6, .ref a7, .int 0, .int ((-1)), .ref a8, .ref a9, .int 0, .int 0, .ref a10, .int 0, .int 0, .null, .null, .null, .null, .null]))], [(a1, .inl (kA 4, 4, .inr (.inr (.inr (.inr (rr (g 0)))))))], [(g 0 j, .inr (3, [.int 0, .int 0, .int 1, .ref a11, .ref a12, .ref a13, .ref a14, .ref a15, .ref a16, .ref a17, .ref a18, .ref a19, .ref a20, .ref a21, .ref a22, .ref a23, .null, .int 0, .int 0]))]]) := hD
  refine lv_if_eq (pc := 17) (tgt := 33) hx hb d_Ho_far_17 (by decide) (fun c1 => ?_) (fun c1 => absurd (by decide) c1)
  refine lv_iconst (pc := 33) (v := -1) hx hb d_Ho_far_33 (by decide) ?_
  refine W.widen (k := 0) (n := 0) (Nat.le_of_ble_eq_true rfl) (Nat.le_of_ble_eq_true rfl) ?_
  exact W.iret (v := (-1)) hx hb hr (fun t ht hW => ⟨⟨(-1), [[(a0, .inr (12, [.ref a1, .ref a2, .ref a3, .ref a4, .ref a5, .ref a6, .ref a7, .int 0, .int ((-1)), .ref a8, .ref a9, .int 0, .int 0, .ref a10, .int 0, .int 0, .null, .null, .null, .null, .null]))], [(a1, .inl (kA 4, 4, .inr (.inr (.inr (.inr (rr (g 0)))))))], [(g 0 j, .inr (3, [.int 0, .int 0, .int 1, .ref a11, .ref a12, .ref a13, .ref a14, .ref a15, .ref a16, .ref a17, .ref a18, .ref a19, .ref a20, .ref a21, .ref a22, .ref a23, .null, .int 0, .int 0]))]], rfl, rfl, by rw [ht]; exact hP, va_K.moved hW.alike hK, hD⟩, hS.F ht⟩) hS.2.2 d_Ho_far_34
set_option maxRecDepth 100000 in
set_option maxHeartbeats 4000000 in
/-- DrawingHouseModel.far(III)I -/
theorem c_Mo_far_z2 (l : Launch) (D : va_G) (kA : Nat → ClassId) (a0 : Nat) (j : Nat) (v2 : Int32) (v3 : Int32) (qm : Nat → Nat) (hj : j < 4) : Ci l y_Mo_far z_Mo_far { frames := 2, cells := 0, slots := 0, locals := 42 } D classes (TY kA) [.ref a0, .int (nI j), .int v2, .int v3] [[(a0, .inr (13, mF qm x0Mo y0Mo))], [(qm 3, .inl (kA 0, 4, .inl (fun _ => 0)))], [(qm 2, .inl (kA 0, 66836, .inl all0))]] (fun r (_ : List va_W) => r = (-1)) (fun u => u) 0 0 := by
  intro sz
  refine k_met (cc := b_Mo_far) (maxL := 4) (ret := (some .int)) (by decide) rfl (Nat.le_of_ble_eq_true rfl) (fun p e s m below meth c ls X hl hB => ?_)
  obtain ⟨hsz, hP, hK, hD0, hN⟩ := hB
  subst hsz
  have hD := hD0.self (sz := s.heap.size)
  generalize hAe : va_A (cat [[(a0, .inr (13, mF qm x0Mo y0Mo))], [(qm 3, .inl (kA 0, 4, .inl (fun _ => 0)))], [(qm 2, .inl (kA 0, 66836, .inl all0))]]) s.heap.size = A at hD ⊢
  have hA : ∀ q : Nat, s.heap.size ≤ q → A q := fun q h => by rw [← hAe]; exact Or.inr h
  have hS : va_S A s.heap s.heap [] := va_S.rf
  obtain ⟨hx, hb, hml, hown, hts, hr, hlk, hnm⟩ := id X
  have hl : lv_has ls 4 [(0, .ref a0), (1, .int (nI j)), (2, .int v2), (3, .int v3)] := hl
  have hP : va_P D classes (cat [[(a0, .inr (13, mF qm x0Mo y0Mo))], [(qm 3, .inl (kA 0, 4, .inl (fun _ => 0)))], [(qm 2, .inl (kA 0, 66836, .inl all0))]]) s.heap := hP
  have hK : va_K D classes (TY kA) s := hK
  refine lv_iload_n (pc := 0) hx hb d_Mo_far_0 rfl (lv_at hl 1 rfl) ?_
  refine k_goI (gr := [[(a0, .inr (13, mF qm x0Mo y0Mo))], [(qm 3, .inl (kA 0, 4, .inl (fun _ => 0)))], [(qm 2, .inl (kA 0, 66836, .inl all0))]]) (k_rS (pc := 1) (As := [.int (nI j)]) (rest := []) X (c_Mo_isPlace l D kA (nI j) s.heap.size) rfl wm_2978 wm_9 wm_2976 wm_2977 1 (by decide +kernel) ⟨Nat.le_of_ble_eq_true rfl, Nat.le_of_ble_eq_true rfl⟩ rfl rfl (k_pre hN hK hP hD [] [0, 1, 2] 3 rfl (by decide) rfl) rfl hl.1 rfl (Nat.le_of_ble_eq_true rfl) d_Mo_far_1 ⟨Nat.le_of_ble_eq_true rfl, Nat.le_of_ble_eq_true rfl⟩) hP hD hS hA [] [0, 1, 2] 3 rfl (by decide) rfl rfl (fun r1 u2 H locs hu2 hP hD hS => ?_)
  subst hu2
  refine k_cst (v := 1) (placeM_ok hj) ?_
  have hP : va_P D classes (cat [[(a0, .inr (13, mF qm x0Mo y0Mo))], [(qm 3, .inl (kA 0, 4, .inl (fun _ => 0)))], [(qm 2, .inl (kA 0, 66836, .inl all0))]]) H := hP
  have hD : va_D A (cat [[(a0, .inr (13, mF qm x0Mo y0Mo))], [(qm 3, .inl (kA 0, 4, .inl (fun _ => 0)))], [(qm 2, .inl (kA 0, 66836, .inl all0))]]) := hD
  refine lv_if_ne (pc := 4) (tgt := 9) hx hb d_Mo_far_4 (by decide) (fun c1 => ?_) (fun c1 => absurd c1 (by decide))
  refine lv_aload_n (pc := 9) hx hb d_Mo_far_9 rfl (lv_at hl 0 rfl) ?_
  refine lv_iload_n (pc := 10) hx hb d_Mo_far_10 rfl (lv_at hl 1 rfl) ?_
  refine k_goV (gr := [[(qm 2, .inl (kA 0, 66836, .inl all0))]]) (k_rV (pc := 11) (As := [.int (nI j)]) (rest := []) X (c_Mo_take_z1 l D kA a0 j qm hj H.size) rfl wm_3091 wm_9 wm_3088 wm_3090 wv_14_2 1 (by decide +kernel) ⟨Nat.le_of_ble_eq_true rfl, Nat.le_of_ble_eq_true rfl⟩ rfl rfl (va_recv hK hP (ci := 13) (q0 := 0) rfl rfl) (k_pre hN hK hP hD [0, 1] [2] 3 rfl (by decide) rfl) rfl hl.1 rfl (Nat.le_of_ble_eq_true rfl) d_Mo_far_11 ⟨Nat.le_of_ble_eq_true rfl, Nat.le_of_ble_eq_true rfl⟩) hP hD hS hA [0, 1] [2] 3 rfl (by decide) rfl rfl (fun u3 H locs hu3 hP hD hS => ?_)
  have hP : va_P D classes (cat [[(qm 2, .inl (kA 0, 66836, .inl all0))], [(a0, .inr (13, mF qm (va_up x0Mo 5 (nI (539 * (31 * j + 0)))) y0Mo))], [(qm 3, .inl (kA 0, 4, .inl (fun _ => 0)))]]) H := hP
  have hD : va_D A (cat [[(qm 2, .inl (kA 0, 66836, .inl all0))], [(a0, .inr (13, mF qm (va_up x0Mo 5 (nI (539 * (31 * j + 0)))) y0Mo))], [(qm 3, .inl (kA 0, 4, .inl (fun _ => 0)))]]) := hD
  refine lv_iload_n (pc := 14) hx hb d_Mo_far_14 rfl (lv_at hl 2 rfl) ?_
  refine lv_iconst (pc := 15) (v := 0) hx hb d_Mo_far_15 (by decide) ?_
  refine lv_aload_n (pc := 16) hx hb d_Mo_far_16 rfl (lv_at hl 0 rfl) ?_
  refine k_goI (gr := [[(qm 3, .inl (kA 0, 4, .inl (fun _ => 0)))]]) (k_rV (pc := 17) (As := []) (rest := [.int 0, .int v2]) X (c_Mo_nodes_z1 l D kA a0 qm j hj H.size) rfl wm_3025 wm_9 wm_3022 wm_3024 wv_13_3 0 (by decide +kernel) ⟨Nat.le_of_ble_eq_true rfl, Nat.le_of_ble_eq_true rfl⟩ rfl rfl (va_recv hK hP (ci := 13) (q0 := 1) rfl rfl) (k_pre hN hK hP hD [1, 0] [2] 3 rfl (by decide) rfl) rfl hl.1 rfl (Nat.le_of_ble_eq_true rfl) d_Mo_far_17 ⟨Nat.le_of_ble_eq_true rfl, Nat.le_of_ble_eq_true rfl⟩) hP hD hS hA [1, 0] [2] 3 rfl (by decide) rfl rfl (fun r4 u5 H locs hu5 hP hD hS => ?_)
  subst hu5
  have hP : va_P D classes (cat [[(qm 3, .inl (kA 0, 4, .inl (fun _ => 0)))], [(a0, .inr (13, mF qm (va_up x0Mo 5 (nI (539 * (31 * j + 0)))) y0Mo))], [(qm 2, .inl (kA 0, 66836, .inl all0))]]) H := hP
  have hD : va_D A (cat [[(qm 3, .inl (kA 0, 4, .inl (fun _ => 0)))], [(a0, .inr (13, mF qm (va_up x0Mo 5 (nI (539 * (31 * j + 0)))) y0Mo))], [(qm 2, .inl (kA 0, 66836, .inl all0))]]) := hD
  refine lv_iconst (pc := 20) (v := 1) hx hb d_Mo_far_20 (by decide) ?_
  refine lv_isub (pc := 21) hx hb d_Mo_far_21 ?_
  refine k_cst (v := (-1)) (by decide) ?_
  refine k_goI (gr := [[(qm 3, .inl (kA 0, 4, .inl (fun _ => 0)))], [(a0, .inr (13, mF qm (va_up x0Mo 5 (nI (539 * (31 * j + 0)))) y0Mo))], [(qm 2, .inl (kA 0, 66836, .inl all0))]]) (k_rS (pc := 22) (As := [.int v2, .int 0, .int ((-1))]) (rest := []) X (c_Mo_in_z1 l D kA v2 H.size) rfl wm_2971 wm_9 wm_2969 wm_2970 3 (by decide +kernel) ⟨Nat.le_of_ble_eq_true rfl, Nat.le_of_ble_eq_true rfl⟩ rfl rfl (k_pre hN hK hP hD [] [0, 1, 2] 3 rfl (by decide) rfl) rfl hl.1 rfl (Nat.le_of_ble_eq_true rfl) d_Mo_far_22 ⟨Nat.le_of_ble_eq_true rfl, Nat.le_of_ble_eq_true rfl⟩) hP hD hS hA [] [0, 1, 2] 3 rfl (by decide) rfl rfl (fun r6 u7 H locs hu7 hP hD hS => ?_)
  subst hu7
  have hP : va_P D classes (cat [[(qm 3, .inl (kA 0, 4, .inl (fun _ => 0)))], [(a0, .inr (13, mF qm (va_up x0Mo 5 (nI (539 * (31 * j + 0)))) y0Mo))], [(qm 2, .inl (kA 0, 66836, .inl all0))]]) H := hP
  have hD : va_D A (cat [[(qm 3, .inl (kA 0, 4, .inl (fun _ => 0)))], [(a0, .inr (13, mF qm (va_up x0Mo 5 (nI (539 * (31 * j + 0)))) y0Mo))], [(qm 2, .inl (kA 0, 66836, .inl all0))]]) := hD
  refine lv_if_eq (pc := 25) (tgt := 42) hx hb d_Mo_far_25 (by decide) (fun c1 => ?_) (fun c1 => absurd (by decide) c1)
  refine lv_iconst (pc := 42) (v := -1) hx hb d_Mo_far_42 (by decide) ?_
  refine W.widen (k := 0) (n := 0) (Nat.le_of_ble_eq_true rfl) (Nat.le_of_ble_eq_true rfl) ?_
  exact W.iret (v := (-1)) hx hb hr (fun t ht hW => ⟨⟨(-1), [[(qm 3, .inl (kA 0, 4, .inl (fun _ => 0)))], [(a0, .inr (13, mF qm (va_up x0Mo 5 (nI (539 * (31 * j + 0)))) y0Mo))], [(qm 2, .inl (kA 0, 66836, .inl all0))]], rfl, rfl, by rw [ht]; exact hP, va_K.moved hW.alike hK, hD⟩, hS.F ht⟩) hS.2.2 d_Mo_far_43
set_option maxRecDepth 100000 in
set_option maxHeartbeats 4000000 in
/-- far, a fresh house -/
theorem lf_far_2 {p : Program} {e : Env} {s : State} {m : MethodId} {below : List Frame} {meth : Method} {c : Code} (l : Launch) {b : Nat} {xs : Nat → Int32} (C0 : lw_At p s m meth c b 6 xs) {D : va_G} {kA : Nat → ClassId} (h : Nat) (h2 : Nat) (q : Nat → Nat) (qg : Nat → Nat) (qm : Nat → Nat) (g : Nat → Nat → Nat) (j : Nat) (v2 : Int32) (v3 : Int32) (hj : j < 4) (hv1 : xs 1 = nI j) (hv2 : xs 2 = v2) (hv3 : xs 3 = v3) {H : Heap} {locs : List Loc} {ls : Array Slot} (hK : va_K D classes (TY kA) s) (hN : nst s) (hP : va_P D classes (cat [[(h, .inr (12, [.ref (q 0), .ref (q 1), .ref (q 2), .ref (q 3), .ref (q 4), .ref (q 5), .ref (q 6), .int 0, .int ((-1)), .ref (q 9), .ref (q 10), .int 0, .int 0, .ref (q 13), .int 0, .int 0, .null, .null, .null, .null, .null]))], [(q 0, .inl (kA 4, 4, .inr (.inr (.inr (.inr (rr (g 0)))))))], [(g 0 j, .inr (3, [.int 0, .int 0, .int 1, .ref (qg 3), .ref (qg 4), .ref (qg 5), .ref (qg 6), .ref (qg 7), .ref (qg 8), .ref (qg 9), .ref (qg 10), .ref (qg 11), .ref (qg 12), .ref (qg 13), .ref (qg 14), .ref (qg 15), .null, .int 0, .int 0]))], [(h2, .inr (13, mF qm x0Mo y0Mo))], [(qm 3, .inl (kA 0, 4, .inl (fun _ => 0)))], [(qm 2, .inl (kA 0, 66836, .inl all0))]]) H) (hD : va_D (fun q : Nat => s.heap.size ≤ q) (cat [[(h, .inr (12, [.ref (q 0), .ref (q 1), .ref (q 2), .ref (q 3), .ref (q 4), .ref (q 5), .ref (q 6), .int 0, .int ((-1)), .ref (q 9), .ref (q 10), .int 0, .int 0, .ref (q 13), .int 0, .int 0, .null, .null, .null, .null, .null]))], [(q 0, .inl (kA 4, 4, .inr (.inr (.inr (.inr (rr (g 0)))))))], [(g 0 j, .inr (3, [.int 0, .int 0, .int 1, .ref (qg 3), .ref (qg 4), .ref (qg 5), .ref (qg 6), .ref (qg 7), .ref (qg 8), .ref (qg 9), .ref (qg 10), .ref (qg 11), .ref (qg 12), .ref (qg 13), .ref (qg 14), .ref (qg 15), .null, .int 0, .int 0]))], [(h2, .inr (13, mF qm x0Mo y0Mo))], [(qm 3, .inl (kA 0, 4, .inl (fun _ => 0)))], [(qm 2, .inl (kA 0, 66836, .inl all0))]])) (hS : va_S (fun q : Nat => s.heap.size ≤ q) s.heap H locs) (hl : lv_has ls 4 [(3, .int 0), (2, .ref h2), (1, .ref h), (0, .ref b)]) : W p l e room_1 s m #[Value.ref b] below meth c H locs 368 365796 (lw_Z below #[Value.ref b] s) (F0 m 580 ls []) := by
  obtain ⟨hx, hb, hr, hml, hown, hts0, hX, hbl, hlocks, hgv⟩ := id C0
  have hts : ∀ w ∈ lw_g, w.before #[Value.ref b] s = true := fun w h => hts0 w (lw_gt h)
  have X : cx p s m #[Value.ref b] meth c b_law_law 4 ret "DrawingHouseLaw" meth.name := ⟨hx, hb, hml, hown, hts, hr, hlocks, rfl⟩
  obtain ⟨A, hAe⟩ : ∃ A : Nat → Prop, A = fun q : Nat => s.heap.size ≤ q := ⟨_, rfl⟩
  have hA : ∀ q : Nat, s.heap.size ≤ q → A q := fun q h => by rw [hAe]; exact h
  have hbA : ¬ A b := by rw [hAe]; exact Nat.not_le.mpr hbl
  rw [← hAe] at hD hS
  refine lv_aload_n (pc := 580) hx hb d_law_law_580 rfl (lv_at hl 2 rfl) ?_
  refine lv_aload_n (pc := 581) hx hb d_law_law_581 rfl (lv_at hl 3 rfl) ?_
  refine lv_iload_n (pc := 582) hx hb d_law_law_582 rfl (lv_at hl 0 rfl) ?_
  refine lv_iconst (pc := 583) (v := 1) hx hb d_law_law_583 (by decide) ?_
  refine lv_iadd (pc := 584) hx hb d_law_law_584 ?_
  refine k_cst (v := 1) (by decide) ?_
  refine va_sld (pc := 585) hx hb hX hbl hbA hS (by unfold vp_in; decide) d_law_law_585 ?_
  refine k_cst (v := nI j) hv1 ?_
  refine lv_aload_n (pc := 586) hx hb d_law_law_586 rfl (lv_at hl 3 rfl) ?_
  refine lv_iload_n (pc := 587) hx hb d_law_law_587 rfl (lv_at hl 0 rfl) ?_
  refine lv_iconst (pc := 588) (v := 2) hx hb d_law_law_588 (by decide) ?_
  refine lv_iadd (pc := 589) hx hb d_law_law_589 ?_
  refine k_cst (v := 2) (by decide) ?_
  refine va_sld (pc := 590) hx hb hX hbl hbA hS (by unfold vp_in; decide) d_law_law_590 ?_
  refine k_cst (v := v2) hv2 ?_
  refine lv_aload_n (pc := 591) hx hb d_law_law_591 rfl (lv_at hl 3 rfl) ?_
  refine lv_iload_n (pc := 592) hx hb d_law_law_592 rfl (lv_at hl 0 rfl) ?_
  refine lv_iconst (pc := 593) (v := 3) hx hb d_law_law_593 (by decide) ?_
  refine lv_iadd (pc := 594) hx hb d_law_law_594 ?_
  refine k_cst (v := 3) (by decide) ?_
  refine va_sld (pc := 595) hx hb hX hbl hbA hS (by unfold vp_in; decide) d_law_law_595 ?_
  refine k_cst (v := v3) hv3 ?_
  refine k_goI (gr := [[(h2, .inr (13, mF qm x0Mo y0Mo))], [(qm 3, .inl (kA 0, 4, .inl (fun _ => 0)))], [(qm 2, .inl (kA 0, 66836, .inl all0))]]) (k_rV (pc := 596) (As := [.int (nI j), .int v2, .int v3]) (rest := []) X (c_Ho_far_z2 l D kA h j v2 v3 (q 0) (q 1) (q 2) (q 3) (q 4) (q 5) (q 6) (q 9) (q 10) (q 13) g (qg 3) (qg 4) (qg 5) (qg 6) (qg 7) (qg 8) (qg 9) (qg 10) (qg 11) (qg 12) (qg 13) (qg 14) (qg 15) hj H.size) rfl wm_1017 wm_1 wm_1014 wm_1015 wm_1016 3 (by decide +kernel) ⟨Nat.le_of_ble_eq_true rfl, Nat.le_of_ble_eq_true rfl⟩ rfl rfl (va_recv hK hP (ci := 12) (q0 := 0) rfl rfl) (k_pre hN hK hP hD [0, 1, 2] [3, 4, 5] 6 rfl (by decide) rfl) rfl hl.1 rfl (Nat.le_of_ble_eq_true rfl) d_law_law_596 ⟨Nat.le_of_ble_eq_true rfl, Nat.le_of_ble_eq_true rfl⟩) hP hD hS hA [0, 1, 2] [3, 4, 5] 6 rfl (by decide) rfl rfl (fun r1 u2 H locs hu2 hP hD hS => ?_)
  obtain ⟨hP, hD⟩ := k_left hP hD
  subst hu2
  have hP : va_P D classes (cat [[(h2, .inr (13, mF qm x0Mo y0Mo))], [(qm 3, .inl (kA 0, 4, .inl (fun _ => 0)))], [(qm 2, .inl (kA 0, 66836, .inl all0))]]) H := hP
  have hD : va_D A (cat [[(h2, .inr (13, mF qm x0Mo y0Mo))], [(qm 3, .inl (kA 0, 4, .inl (fun _ => 0)))], [(qm 2, .inl (kA 0, 66836, .inl all0))]]) := hD
  refine lv_aload_n (pc := 599) hx hb d_law_law_599 rfl (lv_at hl 1 rfl) ?_
  refine lv_aload_n (pc := 600) hx hb d_law_law_600 rfl (lv_at hl 3 rfl) ?_
  refine lv_iload_n (pc := 601) hx hb d_law_law_601 rfl (lv_at hl 0 rfl) ?_
  refine lv_iconst (pc := 602) (v := 1) hx hb d_law_law_602 (by decide) ?_
  refine lv_iadd (pc := 603) hx hb d_law_law_603 ?_
  refine k_cst (v := 1) (by decide) ?_
  refine va_sld (pc := 604) hx hb hX hbl hbA hS (by unfold vp_in; decide) d_law_law_604 ?_
  refine k_cst (v := nI j) hv1 ?_
  refine lv_aload_n (pc := 605) hx hb d_law_law_605 rfl (lv_at hl 3 rfl) ?_
  refine lv_iload_n (pc := 606) hx hb d_law_law_606 rfl (lv_at hl 0 rfl) ?_
  refine lv_iconst (pc := 607) (v := 2) hx hb d_law_law_607 (by decide) ?_
  refine lv_iadd (pc := 608) hx hb d_law_law_608 ?_
  refine k_cst (v := 2) (by decide) ?_
  refine va_sld (pc := 609) hx hb hX hbl hbA hS (by unfold vp_in; decide) d_law_law_609 ?_
  refine k_cst (v := v2) hv2 ?_
  refine lv_aload_n (pc := 610) hx hb d_law_law_610 rfl (lv_at hl 3 rfl) ?_
  refine lv_iload_n (pc := 611) hx hb d_law_law_611 rfl (lv_at hl 0 rfl) ?_
  refine lv_iconst (pc := 612) (v := 3) hx hb d_law_law_612 (by decide) ?_
  refine lv_iadd (pc := 613) hx hb d_law_law_613 ?_
  refine k_cst (v := 3) (by decide) ?_
  refine va_sld (pc := 614) hx hb hX hbl hbA hS (by unfold vp_in; decide) d_law_law_614 ?_
  refine k_cst (v := v3) hv3 ?_
  refine k_goI (gr := []) (k_rV (pc := 615) (As := [.int (nI j), .int v2, .int v3]) (rest := [.int ((-1))]) X (c_Mo_far_z2 l D kA h2 j v2 v3 qm hj H.size) rfl wm_3363 wm_9 wm_3360 wm_3361 wm_3362 3 (by decide +kernel) ⟨Nat.le_of_ble_eq_true rfl, Nat.le_of_ble_eq_true rfl⟩ rfl rfl (va_recv hK hP (ci := 13) (q0 := 0) rfl rfl) (k_pre hN hK hP hD [0, 1, 2] [] 3 rfl (by decide) rfl) rfl hl.1 rfl (Nat.le_of_ble_eq_true rfl) d_law_law_615 ⟨Nat.le_of_ble_eq_true rfl, Nat.le_of_ble_eq_true rfl⟩) hP hD hS hA [0, 1, 2] [] 3 rfl (by decide) rfl rfl (fun r3 u4 H locs hu4 hP hD hS => ?_)
  obtain ⟨hP, hD⟩ := k_left hP hD
  subst hu4
  have hP : va_P D classes (cat []) H := hP
  have hD : va_D A (cat []) := hD
  refine lv_icmp_eq (pc := 618) (tgt := 1295) hx hb d_law_law_618 (by decide) (fun _ => ?_) (fun c1 => absurd (by decide) c1)
  rw [hAe] at hS
  exact law_exit l C0 (Nat.le_of_ble_eq_true rfl) (Nat.le_of_ble_eq_true rfl) hS hl
set_option maxRecDepth 100000 in
set_option maxHeartbeats 4000000 in
/-- DrawingHouse.map(I)I -/
theorem c_Ho_map_z1 (l : Launch) (D : va_G) (kA : Nat → ClassId) (a0 : Nat) (v1 : Int32) (a1 : Nat) (a2 : Nat) (a3 : Nat) (a4 : Nat) (a5 : Nat) (a6 : Nat) (a7 : Nat) (a8 : Nat) (a9 : Nat) (a10 : Nat) : Ci l y_Ho_map z_Ho_map { frames := 0, cells := 0, slots := 0, locals := 0 } D classes (TY kA) [.ref a0, .int v1] [[(a0, .inr (12, [.ref a1, .ref a2, .ref a3, .ref a4, .ref a5, .ref a6, .ref a7, .int 0, .int ((-1)), .ref a8, .ref a9, .int 0, .int 0, .ref a10, .int 0, .int 0, .null, .null, .null, .null, .null]))]] (fun r (_ : List va_W) => r = (-1)) (fun u => u) 0 0 := by
  intro sz
  refine k_met (cc := b_Ho_map) (maxL := 2) (ret := (some .int)) (by decide) rfl (Nat.le_of_ble_eq_true rfl) (fun p e s m below meth c ls X hl hB => ?_)
  obtain ⟨hsz, hP, hK, hD0, hN⟩ := hB
  subst hsz
  have hD := hD0.self (sz := s.heap.size)
  generalize hAe : va_A (cat [[(a0, .inr (12, [.ref a1, .ref a2, .ref a3, .ref a4, .ref a5, .ref a6, .ref a7, .int 0, .int ((-1)), .ref a8, .ref a9, .int 0, .int 0, .ref a10, .int 0, .int 0, .null, .null, .null, .null, .null]))]]) s.heap.size = A at hD ⊢
  have hA : ∀ q : Nat, s.heap.size ≤ q → A q := fun q h => by rw [← hAe]; exact Or.inr h
  have hS : va_S A s.heap s.heap [] := va_S.rf
  obtain ⟨hx, hb, hml, hown, hts, hr, hlk, hnm⟩ := id X
  have hl : lv_has ls 2 [(0, .ref a0), (1, .int v1)] := hl
  have hP : va_P D classes (cat [[(a0, .inr (12, [.ref a1, .ref a2, .ref a3, .ref a4, .ref a5, .ref a6, .ref a7, .int 0, .int ((-1)), .ref a8, .ref a9, .int 0, .int 0, .ref a10, .int 0, .int 0, .null, .null, .null, .null, .null]))]]) s.heap := hP
  have hK : va_K D classes (TY kA) s := hK
  refine lv_iload_n (pc := 0) hx hb d_Ho_map_0 rfl (lv_at hl 1 rfl) ?_
  refine lv_iconst (pc := 1) (v := -1) hx hb d_Ho_map_1 (by decide) ?_
  refine lv_icmp_ne (pc := 2) (tgt := 10) hx hb d_Ho_map_2 (by decide) (fun ck1 => ?_) (fun ck1 => ?_)
  · refine lv_iload_n (pc := 10) hx hb d_Ho_map_10 rfl (lv_at hl 1 rfl) ?_
    refine lv_if_lt (pc := 11) (tgt := 31) hx hb d_Ho_map_11 (by decide) (fun ck2 => ?_) (fun ck2 => ?_)
    · refine lv_iconst (pc := 31) (v := -1) hx hb d_Ho_map_31 (by decide) ?_
      refine W.widen (k := 0) (n := 0) (Nat.le_of_ble_eq_true rfl) (Nat.le_of_ble_eq_true rfl) ?_
      exact W.iret (v := (-1)) hx hb hr (fun t ht hW => ⟨⟨(-1), [[(a0, .inr (12, [.ref a1, .ref a2, .ref a3, .ref a4, .ref a5, .ref a6, .ref a7, .int 0, .int ((-1)), .ref a8, .ref a9, .int 0, .int 0, .ref a10, .int 0, .int 0, .null, .null, .null, .null, .null]))]], rfl, rfl, by rw [ht]; exact hP, va_K.moved hW.alike hK, hD⟩, hS.F ht⟩) hS.2.2 d_Ho_map_32
    · refine lv_iload_n (pc := 14) hx hb d_Ho_map_14 rfl (lv_at hl 1 rfl) ?_
      refine lv_aload_n (pc := 15) hx hb d_Ho_map_15 rfl (lv_at hl 0 rfl) ?_
      refine k_get (pc := 16) X hK hP 0 rfl rfl i_Ho 7 (by decide) wm_562 rfl rfl d_Ho_map_16 ?_
      refine lv_icmp_ge (pc := 19) (tgt := 31) hx hb d_Ho_map_19 (by decide) (fun c1 => ?_) (fun c1 => absurd (Int32.not_lt.mp ck2) c1)
      refine lv_iconst (pc := 31) (v := -1) hx hb d_Ho_map_31 (by decide) ?_
      refine W.widen (k := 0) (n := 0) (Nat.le_of_ble_eq_true rfl) (Nat.le_of_ble_eq_true rfl) ?_
      exact W.iret (v := (-1)) hx hb hr (fun t ht hW => ⟨⟨(-1), [[(a0, .inr (12, [.ref a1, .ref a2, .ref a3, .ref a4, .ref a5, .ref a6, .ref a7, .int 0, .int ((-1)), .ref a8, .ref a9, .int 0, .int 0, .ref a10, .int 0, .int 0, .null, .null, .null, .null, .null]))]], rfl, rfl, by rw [ht]; exact hP, va_K.moved hW.alike hK, hD⟩, hS.F ht⟩) hS.2.2 d_Ho_map_32
  · refine lv_aload_n (pc := 5) hx hb d_Ho_map_5 rfl (lv_at hl 0 rfl) ?_
    refine k_get (pc := 6) X hK hP 0 rfl rfl i_Ho 8 (by decide) wm_563 rfl rfl d_Ho_map_6 ?_
    refine W.widen (k := 0) (n := 0) (Nat.le_of_ble_eq_true rfl) (Nat.le_of_ble_eq_true rfl) ?_
    exact W.iret (v := (-1)) hx hb hr (fun t ht hW => ⟨⟨(-1), [[(a0, .inr (12, [.ref a1, .ref a2, .ref a3, .ref a4, .ref a5, .ref a6, .ref a7, .int 0, .int ((-1)), .ref a8, .ref a9, .int 0, .int 0, .ref a10, .int 0, .int 0, .null, .null, .null, .null, .null]))]], rfl, rfl, by rw [ht]; exact hP, va_K.moved hW.alike hK, hD⟩, hS.F ht⟩) hS.2.2 d_Ho_map_9
set_option maxRecDepth 100000 in
set_option maxHeartbeats 4000000 in
/-- DrawingHouseModel.map(I)I -/
theorem c_Mo_map_z1 (l : Launch) (D : va_G) (kA : Nat → ClassId) (a0 : Nat) (v1 : Int32) (qm : Nat → Nat) : Ci l y_Mo_map z_Mo_map { frames := 0, cells := 0, slots := 0, locals := 0 } D classes (TY kA) [.ref a0, .int v1] [[(a0, .inr (13, mF qm x0Mo y0Mo))]] (fun r (_ : List va_W) => r = (-1)) (fun u => u) 0 0 := by
  intro sz
  refine k_met (cc := b_Mo_map) (maxL := 2) (ret := (some .int)) (by decide) rfl (Nat.le_of_ble_eq_true rfl) (fun p e s m below meth c ls X hl hB => ?_)
  obtain ⟨hsz, hP, hK, hD0, hN⟩ := hB
  subst hsz
  have hD := hD0.self (sz := s.heap.size)
  generalize hAe : va_A (cat [[(a0, .inr (13, mF qm x0Mo y0Mo))]]) s.heap.size = A at hD ⊢
  have hA : ∀ q : Nat, s.heap.size ≤ q → A q := fun q h => by rw [← hAe]; exact Or.inr h
  have hS : va_S A s.heap s.heap [] := va_S.rf
  obtain ⟨hx, hb, hml, hown, hts, hr, hlk, hnm⟩ := id X
  have hl : lv_has ls 2 [(0, .ref a0), (1, .int v1)] := hl
  have hP : va_P D classes (cat [[(a0, .inr (13, mF qm x0Mo y0Mo))]]) s.heap := hP
  have hK : va_K D classes (TY kA) s := hK
  refine lv_iload_n (pc := 0) hx hb d_Mo_map_0 rfl (lv_at hl 1 rfl) ?_
  refine lv_iconst (pc := 1) (v := -1) hx hb d_Mo_map_1 (by decide) ?_
  refine lv_icmp_ne (pc := 2) (tgt := 21) hx hb d_Mo_map_2 (by decide) (fun ck1 => ?_) (fun ck1 => ?_)
  · refine lv_aload_n (pc := 21) hx hb d_Mo_map_21 rfl (lv_at hl 0 rfl) ?_
    refine k_get (pc := 22) (v := .int 0) X hK hP 0 rfl rfl i_Mo 25 (by decide) wm_2458 rfl rfl d_Mo_map_22 ?_
    refine lv_if_eq (pc := 25) (tgt := 51) hx hb d_Mo_map_25 (by decide) (fun c1 => ?_) (fun c1 => absurd (by decide) c1)
    refine lv_iconst (pc := 51) (v := -1) hx hb d_Mo_map_51 (by decide) ?_
    refine W.widen (k := 0) (n := 0) (Nat.le_of_ble_eq_true rfl) (Nat.le_of_ble_eq_true rfl) ?_
    exact W.iret (v := (-1)) hx hb hr (fun t ht hW => ⟨⟨(-1), [[(a0, .inr (13, mF qm x0Mo y0Mo))]], rfl, rfl, by rw [ht]; exact hP, va_K.moved hW.alike hK, hD⟩, hS.F ht⟩) hS.2.2 d_Mo_map_52
  · refine lv_aload_n (pc := 5) hx hb d_Mo_map_5 rfl (lv_at hl 0 rfl) ?_
    refine k_get (pc := 6) (v := .int 0) X hK hP 0 rfl rfl i_Mo 30 (by decide) wm_2463 rfl rfl d_Mo_map_6 ?_
    refine lv_if_eq (pc := 9) (tgt := 19) hx hb d_Mo_map_9 (by decide) (fun c1 => ?_) (fun c1 => absurd (by decide) c1)
    refine lv_iconst (pc := 19) (v := -1) hx hb d_Mo_map_19 (by decide) ?_
    refine W.widen (k := 0) (n := 0) (Nat.le_of_ble_eq_true rfl) (Nat.le_of_ble_eq_true rfl) ?_
    exact W.iret (v := (-1)) hx hb hr (fun t ht hW => ⟨⟨(-1), [[(a0, .inr (13, mF qm x0Mo y0Mo))]], rfl, rfl, by rw [ht]; exact hP, va_K.moved hW.alike hK, hD⟩, hS.F ht⟩) hS.2.2 d_Mo_map_20
set_option maxRecDepth 100000 in
set_option maxHeartbeats 4000000 in
/-- map, a fresh house -/
theorem lf_map_1 {p : Program} {e : Env} {s : State} {m : MethodId} {below : List Frame} {meth : Method} {c : Code} (l : Launch) {b : Nat} {xs : Nat → Int32} (C0 : lw_At p s m meth c b 6 xs) {D : va_G} {kA : Nat → ClassId} (h : Nat) (h2 : Nat) (q : Nat → Nat) (qm : Nat → Nat) (v1 : Int32) (hv1 : xs 1 = v1) {H : Heap} {locs : List Loc} {ls : Array Slot} (hK : va_K D classes (TY kA) s) (hN : nst s) (hP : va_P D classes (cat [[(h, .inr (12, [.ref (q 0), .ref (q 1), .ref (q 2), .ref (q 3), .ref (q 4), .ref (q 5), .ref (q 6), .int 0, .int ((-1)), .ref (q 9), .ref (q 10), .int 0, .int 0, .ref (q 13), .int 0, .int 0, .null, .null, .null, .null, .null]))], [(h2, .inr (13, mF qm x0Mo y0Mo))]]) H) (hD : va_D (fun q : Nat => s.heap.size ≤ q) (cat [[(h, .inr (12, [.ref (q 0), .ref (q 1), .ref (q 2), .ref (q 3), .ref (q 4), .ref (q 5), .ref (q 6), .int 0, .int ((-1)), .ref (q 9), .ref (q 10), .int 0, .int 0, .ref (q 13), .int 0, .int 0, .null, .null, .null, .null, .null]))], [(h2, .inr (13, mF qm x0Mo y0Mo))]])) (hS : va_S (fun q : Nat => s.heap.size ≤ q) s.heap H locs) (hl : lv_has ls 4 [(3, .int 0), (2, .ref h2), (1, .ref h), (0, .ref b)]) : W p l e room_1 s m #[Value.ref b] below meth c H locs 368 365796 (lw_Z below #[Value.ref b] s) (F0 m 656 ls []) := by
  obtain ⟨hx, hb, hr, hml, hown, hts0, hX, hbl, hlocks, hgv⟩ := id C0
  have hts : ∀ w ∈ lw_g, w.before #[Value.ref b] s = true := fun w h => hts0 w (lw_gt h)
  have X : cx p s m #[Value.ref b] meth c b_law_law 4 ret "DrawingHouseLaw" meth.name := ⟨hx, hb, hml, hown, hts, hr, hlocks, rfl⟩
  obtain ⟨A, hAe⟩ : ∃ A : Nat → Prop, A = fun q : Nat => s.heap.size ≤ q := ⟨_, rfl⟩
  have hA : ∀ q : Nat, s.heap.size ≤ q → A q := fun q h => by rw [hAe]; exact h
  have hbA : ¬ A b := by rw [hAe]; exact Nat.not_le.mpr hbl
  rw [← hAe] at hD hS
  refine lv_aload_n (pc := 656) hx hb d_law_law_656 rfl (lv_at hl 2 rfl) ?_
  refine lv_aload_n (pc := 657) hx hb d_law_law_657 rfl (lv_at hl 3 rfl) ?_
  refine lv_iload_n (pc := 658) hx hb d_law_law_658 rfl (lv_at hl 0 rfl) ?_
  refine lv_iconst (pc := 659) (v := 1) hx hb d_law_law_659 (by decide) ?_
  refine lv_iadd (pc := 660) hx hb d_law_law_660 ?_
  refine k_cst (v := 1) (by decide) ?_
  refine va_sld (pc := 661) hx hb hX hbl hbA hS (by unfold vp_in; decide) d_law_law_661 ?_
  refine k_cst (v := v1) hv1 ?_
  refine k_goI (gr := [[(h2, .inr (13, mF qm x0Mo y0Mo))]]) (k_rV (pc := 662) (As := [.int v1]) (rest := []) X (c_Ho_map_z1 l D kA h v1 (q 0) (q 1) (q 2) (q 3) (q 4) (q 5) (q 6) (q 9) (q 10) (q 13) H.size) rfl wm_1044 wm_1 wm_1041 wm_1042 wm_1043 1 (by decide +kernel) ⟨Nat.le_of_ble_eq_true rfl, Nat.le_of_ble_eq_true rfl⟩ rfl rfl (va_recv hK hP (ci := 12) (q0 := 0) rfl rfl) (k_pre hN hK hP hD [0] [1] 2 rfl (by decide) rfl) rfl hl.1 rfl (Nat.le_of_ble_eq_true rfl) d_law_law_662 ⟨Nat.le_of_ble_eq_true rfl, Nat.le_of_ble_eq_true rfl⟩) hP hD hS hA [0] [1] 2 rfl (by decide) rfl rfl (fun r1 u2 H locs hu2 hP hD hS => ?_)
  obtain ⟨hP, hD⟩ := k_left hP hD
  subst hu2
  have hP : va_P D classes (cat [[(h2, .inr (13, mF qm x0Mo y0Mo))]]) H := hP
  have hD : va_D A (cat [[(h2, .inr (13, mF qm x0Mo y0Mo))]]) := hD
  refine lv_aload_n (pc := 665) hx hb d_law_law_665 rfl (lv_at hl 1 rfl) ?_
  refine lv_aload_n (pc := 666) hx hb d_law_law_666 rfl (lv_at hl 3 rfl) ?_
  refine lv_iload_n (pc := 667) hx hb d_law_law_667 rfl (lv_at hl 0 rfl) ?_
  refine lv_iconst (pc := 668) (v := 1) hx hb d_law_law_668 (by decide) ?_
  refine lv_iadd (pc := 669) hx hb d_law_law_669 ?_
  refine k_cst (v := 1) (by decide) ?_
  refine va_sld (pc := 670) hx hb hX hbl hbA hS (by unfold vp_in; decide) d_law_law_670 ?_
  refine k_cst (v := v1) hv1 ?_
  refine k_goI (gr := []) (k_rV (pc := 671) (As := [.int v1]) (rest := [.int ((-1))]) X (c_Mo_map_z1 l D kA h2 v1 qm H.size) rfl wm_3135 wm_9 wm_3132 wm_3133 wm_3134 1 (by decide +kernel) ⟨Nat.le_of_ble_eq_true rfl, Nat.le_of_ble_eq_true rfl⟩ rfl rfl (va_recv hK hP (ci := 13) (q0 := 0) rfl rfl) (k_pre hN hK hP hD [0] [] 1 rfl (by decide) rfl) rfl hl.1 rfl (Nat.le_of_ble_eq_true rfl) d_law_law_671 ⟨Nat.le_of_ble_eq_true rfl, Nat.le_of_ble_eq_true rfl⟩) hP hD hS hA [0] [] 1 rfl (by decide) rfl rfl (fun r3 u4 H locs hu4 hP hD hS => ?_)
  obtain ⟨hP, hD⟩ := k_left hP hD
  subst hu4
  have hP : va_P D classes (cat []) H := hP
  have hD : va_D A (cat []) := hD
  refine lv_icmp_eq (pc := 674) (tgt := 1295) hx hb d_law_law_674 (by decide) (fun _ => ?_) (fun c1 => absurd (by decide) c1)
  rw [hAe] at hS
  exact law_exit l C0 (Nat.le_of_ble_eq_true rfl) (Nat.le_of_ble_eq_true rfl) hS hl
set_option maxRecDepth 100000 in
set_option maxHeartbeats 4000000 in
/-- DrawingHouse.draw(III)I -/
theorem c_Ho_draw_z1 (l : Launch) (D : va_G) (kA : Nat → ClassId) (a0 : Nat) (v1 : Int32) (v2 : Int32) (v3 : Int32) (hg : sp_Ho_isPlace v1 = 0) (hgM : sp_Mo_isPlace v1 = 0) : Ci l y_Ho_draw z_Ho_draw { frames := 1, cells := 0, slots := 0, locals := 20 } D classes (TY kA) [.ref a0, .int v1, .int v2, .int v3] [] (fun r (_ : List va_W) => r = (-1)) (fun u => u) 0 0 := by
  intro sz
  refine k_met (cc := b_Ho_draw) (maxL := 5) (ret := (some .int)) (by decide) rfl (Nat.le_of_ble_eq_true rfl) (fun p e s m below meth c ls X hl hB => ?_)
  obtain ⟨hsz, hP, hK, hD0, hN⟩ := hB
  subst hsz
  have hD := hD0.self (sz := s.heap.size)
  generalize hAe : va_A (cat []) s.heap.size = A at hD ⊢
  have hA : ∀ q : Nat, s.heap.size ≤ q → A q := fun q h => by rw [← hAe]; exact Or.inr h
  have hS : va_S A s.heap s.heap [] := va_S.rf
  obtain ⟨hx, hb, hml, hown, hts, hr, hlk, hnm⟩ := id X
  have hl : lv_has ls 5 [(0, .ref a0), (1, .int v1), (2, .int v2), (3, .int v3)] := hl
  have hP : va_P D classes (cat []) s.heap := hP
  have hK : va_K D classes (TY kA) s := hK
  refine lv_iload_n (pc := 0) hx hb d_Ho_draw_0 rfl (lv_at hl 1 rfl) ?_
  refine k_goI (gr := []) (k_rS (pc := 1) (As := [.int v1]) (rest := []) X (c_Ho_isPlace l D kA v1 s.heap.size) rfl wm_633 wm_1 wm_631 wm_632 1 (by decide +kernel) ⟨Nat.le_of_ble_eq_true rfl, Nat.le_of_ble_eq_true rfl⟩ rfl rfl (k_pre hN hK hP hD [] [] 0 rfl (by decide) rfl) rfl hl.1 rfl (Nat.le_of_ble_eq_true rfl) d_Ho_draw_1 ⟨Nat.le_of_ble_eq_true rfl, Nat.le_of_ble_eq_true rfl⟩) hP hD hS hA [] [] 0 rfl (by decide) rfl rfl (fun r1 u2 H locs hu2 hP hD hS => ?_)
  subst hu2
  have hP : va_P D classes (cat []) H := hP
  have hD : va_D A (cat []) := hD
  refine lv_if_eq (pc := 4) (tgt := 29) hx hb d_Ho_draw_4 (by decide) (fun c1 => ?_) (fun c1 => absurd (hg) c1)
  refine lv_iconst (pc := 29) (v := -1) hx hb d_Ho_draw_29 (by decide) ?_
  refine W.widen (k := 0) (n := 0) (Nat.le_of_ble_eq_true rfl) (Nat.le_of_ble_eq_true rfl) ?_
  exact W.iret (v := (-1)) hx hb hr (fun t ht hW => ⟨⟨(-1), [], rfl, rfl, by rw [ht]; exact hP, va_K.moved hW.alike hK, hD⟩, hS.F ht⟩) hS.2.2 d_Ho_draw_30
set_option maxRecDepth 100000 in
set_option maxHeartbeats 4000000 in
/-- DrawingHouseModel.draw(III)I -/
theorem c_Mo_draw_z1 (l : Launch) (D : va_G) (kA : Nat → ClassId) (a0 : Nat) (v1 : Int32) (v2 : Int32) (v3 : Int32) (hg : sp_Ho_isPlace v1 = 0) (hgM : sp_Mo_isPlace v1 = 0) : Ci l y_Mo_draw z_Mo_draw { frames := 2, cells := 0, slots := 0, locals := 42 } D classes (TY kA) [.ref a0, .int v1, .int v2, .int v3] [] (fun r (_ : List va_W) => r = (-1)) (fun u => u) 0 0 := by
  intro sz
  refine k_met (cc := b_Mo_draw) (maxL := 5) (ret := (some .int)) (by decide) rfl (Nat.le_of_ble_eq_true rfl) (fun p e s m below meth c ls X hl hB => ?_)
  obtain ⟨hsz, hP, hK, hD0, hN⟩ := hB
  subst hsz
  have hD := hD0.self (sz := s.heap.size)
  generalize hAe : va_A (cat []) s.heap.size = A at hD ⊢
  have hA : ∀ q : Nat, s.heap.size ≤ q → A q := fun q h => by rw [← hAe]; exact Or.inr h
  have hS : va_S A s.heap s.heap [] := va_S.rf
  obtain ⟨hx, hb, hml, hown, hts, hr, hlk, hnm⟩ := id X
  have hl : lv_has ls 5 [(0, .ref a0), (1, .int v1), (2, .int v2), (3, .int v3)] := hl
  have hP : va_P D classes (cat []) s.heap := hP
  have hK : va_K D classes (TY kA) s := hK
  refine lv_iload_n (pc := 0) hx hb d_Mo_draw_0 rfl (lv_at hl 1 rfl) ?_
  refine k_goI (gr := []) (k_rS (pc := 1) (As := [.int v1]) (rest := []) X (c_Mo_isPlace l D kA v1 s.heap.size) rfl wm_2978 wm_9 wm_2976 wm_2977 1 (by decide +kernel) ⟨Nat.le_of_ble_eq_true rfl, Nat.le_of_ble_eq_true rfl⟩ rfl rfl (k_pre hN hK hP hD [] [] 0 rfl (by decide) rfl) rfl hl.1 rfl (Nat.le_of_ble_eq_true rfl) d_Mo_draw_1 ⟨Nat.le_of_ble_eq_true rfl, Nat.le_of_ble_eq_true rfl⟩) hP hD hS hA [] [] 0 rfl (by decide) rfl rfl (fun r1 u2 H locs hu2 hP hD hS => ?_)
  subst hu2
  have hP : va_P D classes (cat []) H := hP
  have hD : va_D A (cat []) := hD
  refine lv_if_eq (pc := 4) (tgt := 17) hx hb d_Mo_draw_4 (by decide) (fun c1 => ?_) (fun c1 => absurd (hgM) c1)
  refine lv_iconst (pc := 17) (v := -1) hx hb d_Mo_draw_17 (by decide) ?_
  refine W.widen (k := 0) (n := 0) (Nat.le_of_ble_eq_true rfl) (Nat.le_of_ble_eq_true rfl) ?_
  exact W.iret (v := (-1)) hx hb hr (fun t ht hW => ⟨⟨(-1), [], rfl, rfl, by rw [ht]; exact hP, va_K.moved hW.alike hK, hD⟩, hS.F ht⟩) hS.2.2 d_Mo_draw_18
set_option maxRecDepth 100000 in
set_option maxHeartbeats 4000000 in
/-- draw, a fresh house -/
theorem lf_draw_1 {p : Program} {e : Env} {s : State} {m : MethodId} {below : List Frame} {meth : Method} {c : Code} (l : Launch) {b : Nat} {xs : Nat → Int32} (C0 : lw_At p s m meth c b 6 xs) {D : va_G} {kA : Nat → ClassId} (h : Nat) (h2 : Nat) (q : Nat → Nat) (qm : Nat → Nat) (v1 : Int32) (v2 : Int32) (v3 : Int32) (hg : sp_Ho_isPlace v1 = 0) (hgM : sp_Mo_isPlace v1 = 0) (hv1 : xs 1 = v1) (hv2 : xs 2 = v2) (hv3 : xs 3 = v3) {H : Heap} {locs : List Loc} {ls : Array Slot} (hK : va_K D classes (TY kA) s) (hN : nst s) (hP : va_P D classes (cat [[(h, .inr (12, [.ref (q 0), .ref (q 1), .ref (q 2), .ref (q 3), .ref (q 4), .ref (q 5), .ref (q 6), .int 0, .int ((-1)), .ref (q 9), .ref (q 10), .int 0, .int 0, .ref (q 13), .int 0, .int 0, .null, .null, .null, .null, .null]))], [(h2, .inr (13, mF qm x0Mo y0Mo))]]) H) (hD : va_D (fun q : Nat => s.heap.size ≤ q) (cat [[(h, .inr (12, [.ref (q 0), .ref (q 1), .ref (q 2), .ref (q 3), .ref (q 4), .ref (q 5), .ref (q 6), .int 0, .int ((-1)), .ref (q 9), .ref (q 10), .int 0, .int 0, .ref (q 13), .int 0, .int 0, .null, .null, .null, .null, .null]))], [(h2, .inr (13, mF qm x0Mo y0Mo))]])) (hS : va_S (fun q : Nat => s.heap.size ≤ q) s.heap H locs) (hl : lv_has ls 4 [(3, .int 0), (2, .ref h2), (1, .ref h), (0, .ref b)]) : W p l e room_1 s m #[Value.ref b] below meth c H locs 368 365796 (lw_Z below #[Value.ref b] s) (F0 m 765 ls []) := by
  obtain ⟨hx, hb, hr, hml, hown, hts0, hX, hbl, hlocks, hgv⟩ := id C0
  have hts : ∀ w ∈ lw_g, w.before #[Value.ref b] s = true := fun w h => hts0 w (lw_gt h)
  have X : cx p s m #[Value.ref b] meth c b_law_law 4 ret "DrawingHouseLaw" meth.name := ⟨hx, hb, hml, hown, hts, hr, hlocks, rfl⟩
  obtain ⟨A, hAe⟩ : ∃ A : Nat → Prop, A = fun q : Nat => s.heap.size ≤ q := ⟨_, rfl⟩
  have hA : ∀ q : Nat, s.heap.size ≤ q → A q := fun q h => by rw [hAe]; exact h
  have hbA : ¬ A b := by rw [hAe]; exact Nat.not_le.mpr hbl
  rw [← hAe] at hD hS
  refine lv_aload_n (pc := 765) hx hb d_law_law_765 rfl (lv_at hl 2 rfl) ?_
  refine lv_aload_n (pc := 766) hx hb d_law_law_766 rfl (lv_at hl 3 rfl) ?_
  refine lv_iload_n (pc := 767) hx hb d_law_law_767 rfl (lv_at hl 0 rfl) ?_
  refine lv_iconst (pc := 768) (v := 1) hx hb d_law_law_768 (by decide) ?_
  refine lv_iadd (pc := 769) hx hb d_law_law_769 ?_
  refine k_cst (v := 1) (by decide) ?_
  refine va_sld (pc := 770) hx hb hX hbl hbA hS (by unfold vp_in; decide) d_law_law_770 ?_
  refine k_cst (v := v1) hv1 ?_
  refine lv_aload_n (pc := 771) hx hb d_law_law_771 rfl (lv_at hl 3 rfl) ?_
  refine lv_iload_n (pc := 772) hx hb d_law_law_772 rfl (lv_at hl 0 rfl) ?_
  refine lv_iconst (pc := 773) (v := 2) hx hb d_law_law_773 (by decide) ?_
  refine lv_iadd (pc := 774) hx hb d_law_law_774 ?_
  refine k_cst (v := 2) (by decide) ?_
  refine va_sld (pc := 775) hx hb hX hbl hbA hS (by unfold vp_in; decide) d_law_law_775 ?_
  refine k_cst (v := v2) hv2 ?_
  refine lv_aload_n (pc := 776) hx hb d_law_law_776 rfl (lv_at hl 3 rfl) ?_
  refine lv_iload_n (pc := 777) hx hb d_law_law_777 rfl (lv_at hl 0 rfl) ?_
  refine lv_iconst (pc := 778) (v := 3) hx hb d_law_law_778 (by decide) ?_
  refine lv_iadd (pc := 779) hx hb d_law_law_779 ?_
  refine k_cst (v := 3) (by decide) ?_
  refine va_sld (pc := 780) hx hb hX hbl hbA hS (by unfold vp_in; decide) d_law_law_780 ?_
  refine k_cst (v := v3) hv3 ?_
  refine k_goI (gr := [[(h, .inr (12, [.ref (q 0), .ref (q 1), .ref (q 2), .ref (q 3), .ref (q 4), .ref (q 5), .ref (q 6), .int 0, .int ((-1)), .ref (q 9), .ref (q 10), .int 0, .int 0, .ref (q 13), .int 0, .int 0, .null, .null, .null, .null, .null]))], [(h2, .inr (13, mF qm x0Mo y0Mo))]]) (k_rV (pc := 781) (As := [.int v1, .int v2, .int v3]) (rest := []) X (c_Ho_draw_z1 l D kA h v1 v2 v3 hg hgM H.size) rfl wm_1185 wm_1 wm_1182 wm_1183 wm_1184 3 (by decide +kernel) ⟨Nat.le_of_ble_eq_true rfl, Nat.le_of_ble_eq_true rfl⟩ rfl rfl (va_recv hK hP (ci := 12) (q0 := 0) rfl rfl) (k_pre hN hK hP hD [] [0, 1] 2 rfl (by decide) rfl) rfl hl.1 rfl (Nat.le_of_ble_eq_true rfl) d_law_law_781 ⟨Nat.le_of_ble_eq_true rfl, Nat.le_of_ble_eq_true rfl⟩) hP hD hS hA [] [0, 1] 2 rfl (by decide) rfl rfl (fun r1 u2 H locs hu2 hP hD hS => ?_)
  obtain ⟨hP, hD⟩ := k_left hP hD
  subst hu2
  have hP : va_P D classes (cat [[(h, .inr (12, [.ref (q 0), .ref (q 1), .ref (q 2), .ref (q 3), .ref (q 4), .ref (q 5), .ref (q 6), .int 0, .int ((-1)), .ref (q 9), .ref (q 10), .int 0, .int 0, .ref (q 13), .int 0, .int 0, .null, .null, .null, .null, .null]))], [(h2, .inr (13, mF qm x0Mo y0Mo))]]) H := hP
  have hD : va_D A (cat [[(h, .inr (12, [.ref (q 0), .ref (q 1), .ref (q 2), .ref (q 3), .ref (q 4), .ref (q 5), .ref (q 6), .int 0, .int ((-1)), .ref (q 9), .ref (q 10), .int 0, .int 0, .ref (q 13), .int 0, .int 0, .null, .null, .null, .null, .null]))], [(h2, .inr (13, mF qm x0Mo y0Mo))]]) := hD
  refine lv_aload_n (pc := 784) hx hb d_law_law_784 rfl (lv_at hl 1 rfl) ?_
  refine lv_aload_n (pc := 785) hx hb d_law_law_785 rfl (lv_at hl 3 rfl) ?_
  refine lv_iload_n (pc := 786) hx hb d_law_law_786 rfl (lv_at hl 0 rfl) ?_
  refine lv_iconst (pc := 787) (v := 1) hx hb d_law_law_787 (by decide) ?_
  refine lv_iadd (pc := 788) hx hb d_law_law_788 ?_
  refine k_cst (v := 1) (by decide) ?_
  refine va_sld (pc := 789) hx hb hX hbl hbA hS (by unfold vp_in; decide) d_law_law_789 ?_
  refine k_cst (v := v1) hv1 ?_
  refine lv_aload_n (pc := 790) hx hb d_law_law_790 rfl (lv_at hl 3 rfl) ?_
  refine lv_iload_n (pc := 791) hx hb d_law_law_791 rfl (lv_at hl 0 rfl) ?_
  refine lv_iconst (pc := 792) (v := 2) hx hb d_law_law_792 (by decide) ?_
  refine lv_iadd (pc := 793) hx hb d_law_law_793 ?_
  refine k_cst (v := 2) (by decide) ?_
  refine va_sld (pc := 794) hx hb hX hbl hbA hS (by unfold vp_in; decide) d_law_law_794 ?_
  refine k_cst (v := v2) hv2 ?_
  refine lv_aload_n (pc := 795) hx hb d_law_law_795 rfl (lv_at hl 3 rfl) ?_
  refine lv_iload_n (pc := 796) hx hb d_law_law_796 rfl (lv_at hl 0 rfl) ?_
  refine lv_iconst (pc := 797) (v := 3) hx hb d_law_law_797 (by decide) ?_
  refine lv_iadd (pc := 798) hx hb d_law_law_798 ?_
  refine k_cst (v := 3) (by decide) ?_
  refine va_sld (pc := 799) hx hb hX hbl hbA hS (by unfold vp_in; decide) d_law_law_799 ?_
  refine k_cst (v := v3) hv3 ?_
  refine k_goI (gr := [[(h, .inr (12, [.ref (q 0), .ref (q 1), .ref (q 2), .ref (q 3), .ref (q 4), .ref (q 5), .ref (q 6), .int 0, .int ((-1)), .ref (q 9), .ref (q 10), .int 0, .int 0, .ref (q 13), .int 0, .int 0, .null, .null, .null, .null, .null]))], [(h2, .inr (13, mF qm x0Mo y0Mo))]]) (k_rV (pc := 800) (As := [.int v1, .int v2, .int v3]) (rest := [.int ((-1))]) X (c_Mo_draw_z1 l D kA h2 v1 v2 v3 hg hgM H.size) rfl wm_3367 wm_9 wm_3364 wm_3365 wm_3366 3 (by decide +kernel) ⟨Nat.le_of_ble_eq_true rfl, Nat.le_of_ble_eq_true rfl⟩ rfl rfl (va_recv hK hP (ci := 13) (q0 := 1) rfl rfl) (k_pre hN hK hP hD [] [0, 1] 2 rfl (by decide) rfl) rfl hl.1 rfl (Nat.le_of_ble_eq_true rfl) d_law_law_800 ⟨Nat.le_of_ble_eq_true rfl, Nat.le_of_ble_eq_true rfl⟩) hP hD hS hA [] [0, 1] 2 rfl (by decide) rfl rfl (fun r3 u4 H locs hu4 hP hD hS => ?_)
  obtain ⟨hP, hD⟩ := k_left hP hD
  subst hu4
  have hP : va_P D classes (cat [[(h, .inr (12, [.ref (q 0), .ref (q 1), .ref (q 2), .ref (q 3), .ref (q 4), .ref (q 5), .ref (q 6), .int 0, .int ((-1)), .ref (q 9), .ref (q 10), .int 0, .int 0, .ref (q 13), .int 0, .int 0, .null, .null, .null, .null, .null]))], [(h2, .inr (13, mF qm x0Mo y0Mo))]]) H := hP
  have hD : va_D A (cat [[(h, .inr (12, [.ref (q 0), .ref (q 1), .ref (q 2), .ref (q 3), .ref (q 4), .ref (q 5), .ref (q 6), .int 0, .int ((-1)), .ref (q 9), .ref (q 10), .int 0, .int 0, .ref (q 13), .int 0, .int 0, .null, .null, .null, .null, .null]))], [(h2, .inr (13, mF qm x0Mo y0Mo))]]) := hD
  refine lv_icmp_eq (pc := 803) (tgt := 1295) hx hb d_law_law_803 (by decide) (fun _ => ?_) (fun c1 => absurd (by decide) c1)
  rw [hAe] at hS
  exact law_exit l C0 (Nat.le_of_ble_eq_true rfl) (Nat.le_of_ble_eq_true rfl) hS hl
set_option maxRecDepth 100000 in
set_option maxHeartbeats 4000000 in
/-- DrawingHouse.draw(III)I -/
theorem c_Ho_draw_z2 (l : Launch) (D : va_G) (kA : Nat → ClassId) (a0 : Nat) (j : Nat) (v2 : Int32) (v3 : Int32) (a1 : Nat) (a2 : Nat) (a3 : Nat) (a4 : Nat) (a5 : Nat) (a6 : Nat) (a7 : Nat) (a8 : Nat) (a9 : Nat) (a10 : Nat) (g : Nat → Nat → Nat) (a11 : Nat) (a12 : Nat) (a13 : Nat) (a14 : Nat) (a15 : Nat) (a16 : Nat) (a17 : Nat) (a18 : Nat) (a19 : Nat) (a20 : Nat) (a21 : Nat) (a22 : Nat) (a23 : Nat) (hj : j < 4) : Ci l y_Ho_draw z_Ho_draw { frames := 1, cells := 0, slots := 0, locals := 20 } D classes (TY kA) [.ref a0, .int (nI j), .int v2, .int v3] [[(a0, .inr (12, [.ref a1, .ref a2, .ref a3, .ref a4, .ref a5, .ref a6, .ref a7, .int 0, .int ((-1)), .ref a8, .ref a9, .int 0, .int 0, .ref a10, .int 0, .int 0, .null, .null, .null, .null, .null]))], [(a1, .inl (kA 4, 4, .inr (.inr (.inr (.inr (rr (g 0)))))))], [(g 0 j, .inr (3, [.int 0, .int 0, .int 1, .ref a11, .ref a12, .ref a13, .ref a14, .ref a15, .ref a16, .ref a17, .ref a18, .ref a19, .ref a20, .ref a21, .ref a22, .ref a23, .null, .int 0, .int 0]))]] (fun r (_ : List va_W) => r = (-1)) (fun u => u) 0 0 := by
  intro sz
  refine k_met (cc := b_Ho_draw) (maxL := 5) (ret := (some .int)) (by decide) rfl (Nat.le_of_ble_eq_true rfl) (fun p e s m below meth c ls X hl hB => ?_)
  obtain ⟨hsz, hP, hK, hD0, hN⟩ := hB
  subst hsz
  have hD := hD0.self (sz := s.heap.size)
  generalize hAe : va_A (cat [[(a0, .inr (12, [.ref a1, .ref a2, .ref a3, .ref a4, .ref a5, .ref a6, .ref a7, .int 0, .int ((-1)), .ref a8, .ref a9, .int 0, .int 0, .ref a10, .int 0, .int 0, .null, .null, .null, .null, .null]))], [(a1, .inl (kA 4, 4, .inr (.inr (.inr (.inr (rr (g 0)))))))], [(g 0 j, .inr (3, [.int 0, .int 0, .int 1, .ref a11, .ref a12, .ref a13, .ref a14, .ref a15, .ref a16, .ref a17, .ref a18, .ref a19, .ref a20, .ref a21, .ref a22, .ref a23, .null, .int 0, .int 0]))]]) s.heap.size = A at hD ⊢
  have hA : ∀ q : Nat, s.heap.size ≤ q → A q := fun q h => by rw [← hAe]; exact Or.inr h
  have hS : va_S A s.heap s.heap [] := va_S.rf
  obtain ⟨hx, hb, hml, hown, hts, hr, hlk, hnm⟩ := id X
  have hl : lv_has ls 5 [(0, .ref a0), (1, .int (nI j)), (2, .int v2), (3, .int v3)] := hl
  have hP : va_P D classes (cat [[(a0, .inr (12, [.ref a1, .ref a2, .ref a3, .ref a4, .ref a5, .ref a6, .ref a7, .int 0, .int ((-1)), .ref a8, .ref a9, .int 0, .int 0, .ref a10, .int 0, .int 0, .null, .null, .null, .null, .null]))], [(a1, .inl (kA 4, 4, .inr (.inr (.inr (.inr (rr (g 0)))))))], [(g 0 j, .inr (3, [.int 0, .int 0, .int 1, .ref a11, .ref a12, .ref a13, .ref a14, .ref a15, .ref a16, .ref a17, .ref a18, .ref a19, .ref a20, .ref a21, .ref a22, .ref a23, .null, .int 0, .int 0]))]]) s.heap := hP
  have hK : va_K D classes (TY kA) s := hK
  refine lv_iload_n (pc := 0) hx hb d_Ho_draw_0 rfl (lv_at hl 1 rfl) ?_
  refine k_goI (gr := [[(a0, .inr (12, [.ref a1, .ref a2, .ref a3, .ref a4, .ref a5, .ref a6, .ref a7, .int 0, .int ((-1)), .ref a8, .ref a9, .int 0, .int 0, .ref a10, .int 0, .int 0, .null, .null, .null, .null, .null]))], [(a1, .inl (kA 4, 4, .inr (.inr (.inr (.inr (rr (g 0)))))))], [(g 0 j, .inr (3, [.int 0, .int 0, .int 1, .ref a11, .ref a12, .ref a13, .ref a14, .ref a15, .ref a16, .ref a17, .ref a18, .ref a19, .ref a20, .ref a21, .ref a22, .ref a23, .null, .int 0, .int 0]))]]) (k_rS (pc := 1) (As := [.int (nI j)]) (rest := []) X (c_Ho_isPlace l D kA (nI j) s.heap.size) rfl wm_633 wm_1 wm_631 wm_632 1 (by decide +kernel) ⟨Nat.le_of_ble_eq_true rfl, Nat.le_of_ble_eq_true rfl⟩ rfl rfl (k_pre hN hK hP hD [] [0, 1, 2] 3 rfl (by decide) rfl) rfl hl.1 rfl (Nat.le_of_ble_eq_true rfl) d_Ho_draw_1 ⟨Nat.le_of_ble_eq_true rfl, Nat.le_of_ble_eq_true rfl⟩) hP hD hS hA [] [0, 1, 2] 3 rfl (by decide) rfl rfl (fun r1 u2 H locs hu2 hP hD hS => ?_)
  subst hu2
  refine k_cst (v := 1) (place_ok hj) ?_
  have hP : va_P D classes (cat [[(a0, .inr (12, [.ref a1, .ref a2, .ref a3, .ref a4, .ref a5, .ref a6, .ref a7, .int 0, .int ((-1)), .ref a8, .ref a9, .int 0, .int 0, .ref a10, .int 0, .int 0, .null, .null, .null, .null, .null]))], [(a1, .inl (kA 4, 4, .inr (.inr (.inr (.inr (rr (g 0)))))))], [(g 0 j, .inr (3, [.int 0, .int 0, .int 1, .ref a11, .ref a12, .ref a13, .ref a14, .ref a15, .ref a16, .ref a17, .ref a18, .ref a19, .ref a20, .ref a21, .ref a22, .ref a23, .null, .int 0, .int 0]))]]) H := hP
  have hD : va_D A (cat [[(a0, .inr (12, [.ref a1, .ref a2, .ref a3, .ref a4, .ref a5, .ref a6, .ref a7, .int 0, .int ((-1)), .ref a8, .ref a9, .int 0, .int 0, .ref a10, .int 0, .int 0, .null, .null, .null, .null, .null]))], [(a1, .inl (kA 4, 4, .inr (.inr (.inr (.inr (rr (g 0)))))))], [(g 0 j, .inr (3, [.int 0, .int 0, .int 1, .ref a11, .ref a12, .ref a13, .ref a14, .ref a15, .ref a16, .ref a17, .ref a18, .ref a19, .ref a20, .ref a21, .ref a22, .ref a23, .null, .int 0, .int 0]))]]) := hD
  refine lv_if_eq (pc := 4) (tgt := 29) hx hb d_Ho_draw_4 (by decide) (fun c1 => absurd c1 (by decide)) (fun c1 => ?_)
  refine lv_iload_n (pc := 7) hx hb d_Ho_draw_7 rfl (lv_at hl 2 rfl) ?_
  refine lv_if_lt (pc := 8) (tgt := 29) hx hb d_Ho_draw_8 (by decide) (fun ck1 => ?_) (fun ck1 => ?_)
  · refine lv_iconst (pc := 29) (v := -1) hx hb d_Ho_draw_29 (by decide) ?_
    refine W.widen (k := 0) (n := 0) (Nat.le_of_ble_eq_true rfl) (Nat.le_of_ble_eq_true rfl) ?_
    exact W.iret (v := (-1)) hx hb hr (fun t ht hW => ⟨⟨(-1), [[(a0, .inr (12, [.ref a1, .ref a2, .ref a3, .ref a4, .ref a5, .ref a6, .ref a7, .int 0, .int ((-1)), .ref a8, .ref a9, .int 0, .int 0, .ref a10, .int 0, .int 0, .null, .null, .null, .null, .null]))], [(a1, .inl (kA 4, 4, .inr (.inr (.inr (.inr (rr (g 0)))))))], [(g 0 j, .inr (3, [.int 0, .int 0, .int 1, .ref a11, .ref a12, .ref a13, .ref a14, .ref a15, .ref a16, .ref a17, .ref a18, .ref a19, .ref a20, .ref a21, .ref a22, .ref a23, .null, .int 0, .int 0]))]], rfl, rfl, by rw [ht]; exact hP, va_K.moved hW.alike hK, hD⟩, hS.F ht⟩) hS.2.2 d_Ho_draw_30
  · refine lv_iload_n (pc := 11) hx hb d_Ho_draw_11 rfl (lv_at hl 2 rfl) ?_
    refine lv_bipush (pc := 12) (v := 7) hx hb d_Ho_draw_12 (by decide) ?_
    refine lv_icmp_gt (pc := 14) (tgt := 29) hx hb d_Ho_draw_14 (by decide) (fun ck2 => ?_) (fun ck2 => ?_)
    · refine lv_iconst (pc := 29) (v := -1) hx hb d_Ho_draw_29 (by decide) ?_
      refine W.widen (k := 0) (n := 0) (Nat.le_of_ble_eq_true rfl) (Nat.le_of_ble_eq_true rfl) ?_
      exact W.iret (v := (-1)) hx hb hr (fun t ht hW => ⟨⟨(-1), [[(a0, .inr (12, [.ref a1, .ref a2, .ref a3, .ref a4, .ref a5, .ref a6, .ref a7, .int 0, .int ((-1)), .ref a8, .ref a9, .int 0, .int 0, .ref a10, .int 0, .int 0, .null, .null, .null, .null, .null]))], [(a1, .inl (kA 4, 4, .inr (.inr (.inr (.inr (rr (g 0)))))))], [(g 0 j, .inr (3, [.int 0, .int 0, .int 1, .ref a11, .ref a12, .ref a13, .ref a14, .ref a15, .ref a16, .ref a17, .ref a18, .ref a19, .ref a20, .ref a21, .ref a22, .ref a23, .null, .int 0, .int 0]))]], rfl, rfl, by rw [ht]; exact hP, va_K.moved hW.alike hK, hD⟩, hS.F ht⟩) hS.2.2 d_Ho_draw_30
    · refine lv_aload_n (pc := 17) hx hb d_Ho_draw_17 rfl (lv_at hl 0 rfl) ?_
      refine k_get (pc := 18) X hK hP 0 rfl rfl i_Ho 0 (by decide) wm_555 rfl rfl d_Ho_draw_18 ?_
      refine lv_iload_n (pc := 21) hx hb d_Ho_draw_21 rfl (lv_at hl 1 rfl) ?_
      refine k_ald (pc := 22) hx hb hK hP 1 4 rfl rfl (j) rfl (by omega) (by decide) (rr_at (by omega)) d_Ho_draw_22 ?_
      refine k_get (pc := 23) X hK hP 2 rfl rfl i_Gr 0 (by decide) wm_62 rfl rfl d_Ho_draw_23 ?_
      refine lv_if_ne (pc := 26) (tgt := 31) hx hb d_Ho_draw_26 (by decide) (fun c1 => absurd (by decide) c1) (fun c1 => ?_)
      refine lv_iconst (pc := 29) (v := -1) hx hb d_Ho_draw_29 (by decide) ?_
      refine W.widen (k := 0) (n := 0) (Nat.le_of_ble_eq_true rfl) (Nat.le_of_ble_eq_true rfl) ?_
      exact W.iret (v := (-1)) hx hb hr (fun t ht hW => ⟨⟨(-1), [[(a0, .inr (12, [.ref a1, .ref a2, .ref a3, .ref a4, .ref a5, .ref a6, .ref a7, .int 0, .int ((-1)), .ref a8, .ref a9, .int 0, .int 0, .ref a10, .int 0, .int 0, .null, .null, .null, .null, .null]))], [(a1, .inl (kA 4, 4, .inr (.inr (.inr (.inr (rr (g 0)))))))], [(g 0 j, .inr (3, [.int 0, .int 0, .int 1, .ref a11, .ref a12, .ref a13, .ref a14, .ref a15, .ref a16, .ref a17, .ref a18, .ref a19, .ref a20, .ref a21, .ref a22, .ref a23, .null, .int 0, .int 0]))]], rfl, rfl, by rw [ht]; exact hP, va_K.moved hW.alike hK, hD⟩, hS.F ht⟩) hS.2.2 d_Ho_draw_30
set_option maxRecDepth 100000 in
set_option maxHeartbeats 4000000 in
/-- DrawingHouseModel.in(III)Z -/
theorem c_Mo_in_z3 (l : Launch) (D : va_G) (kA : Nat → ClassId) (v2 : Int32) : Ci l y_Mo_in z_Mo_in { frames := 0, cells := 0, slots := 0, locals := 0 } D classes (TY kA) [.int v2, .int 0, .int 7] [] (fun r (_ : Unit) => r = if v2 < 0 then 0 else if 7 < v2 then 0 else 1) (fun u => []) 0 0 := by
  intro sz
  refine k_met (cc := b_Mo_in) (maxL := 3) (ret := (some .boolean)) (by decide) rfl (Nat.le_of_ble_eq_true rfl) (fun p e s m below meth c ls X hl hB => ?_)
  obtain ⟨hsz, hP, hK, hD0, hN⟩ := hB
  subst hsz
  have hD := hD0.self (sz := s.heap.size)
  generalize hAe : va_A (cat []) s.heap.size = A at hD ⊢
  have hA : ∀ q : Nat, s.heap.size ≤ q → A q := fun q h => by rw [← hAe]; exact Or.inr h
  have hS : va_S A s.heap s.heap [] := va_S.rf
  obtain ⟨hx, hb, hml, hown, hts, hr, hlk, hnm⟩ := id X
  have hl : lv_has ls 3 [(0, .int v2), (1, .int 0), (2, .int 7)] := hl
  have hP : va_P D classes (cat []) s.heap := hP
  have hK : va_K D classes (TY kA) s := hK
  refine lv_iload_n (pc := 0) hx hb d_Mo_in_0 rfl (lv_at hl 0 rfl) ?_
  refine lv_iload_n (pc := 1) hx hb d_Mo_in_1 rfl (lv_at hl 1 rfl) ?_
  refine lv_icmp_lt (pc := 2) (tgt := 14) hx hb d_Mo_in_2 (by decide) (fun ck1 => ?_) (fun ck1 => ?_)
  · refine lv_iconst (pc := 14) (v := 0) hx hb d_Mo_in_14 (by decide) ?_
    refine W.widen (k := 0) (n := 0) (Nat.le_of_ble_eq_true rfl) (Nat.le_of_ble_eq_true rfl) ?_
    exact W.zret (v := 0) hx hb hr rfl (fun t ht hW => ⟨⟨0, (), rfl, (by rw [if_pos ck1]), by rw [ht]; exact hP, va_K.moved hW.alike hK, hD⟩, hS.F ht⟩) hS.2.2 d_Mo_in_15
  · refine lv_iload_n (pc := 5) hx hb d_Mo_in_5 rfl (lv_at hl 0 rfl) ?_
    refine lv_iload_n (pc := 6) hx hb d_Mo_in_6 rfl (lv_at hl 2 rfl) ?_
    refine lv_icmp_gt (pc := 7) (tgt := 14) hx hb d_Mo_in_7 (by decide) (fun ck2 => ?_) (fun ck2 => ?_)
    · refine lv_iconst (pc := 14) (v := 0) hx hb d_Mo_in_14 (by decide) ?_
      refine W.widen (k := 0) (n := 0) (Nat.le_of_ble_eq_true rfl) (Nat.le_of_ble_eq_true rfl) ?_
      exact W.zret (v := 0) hx hb hr rfl (fun t ht hW => ⟨⟨0, (), rfl, (by rw [if_neg ck1, if_pos ck2]), by rw [ht]; exact hP, va_K.moved hW.alike hK, hD⟩, hS.F ht⟩) hS.2.2 d_Mo_in_15
    · refine lv_iconst (pc := 10) (v := 1) hx hb d_Mo_in_10 (by decide) ?_
      refine lv_goto (pc := 11) (tgt := 15) hx hb d_Mo_in_11 (by decide) ?_
      refine W.widen (k := 0) (n := 0) (Nat.le_of_ble_eq_true rfl) (Nat.le_of_ble_eq_true rfl) ?_
      exact W.zret (v := 1) hx hb hr rfl (fun t ht hW => ⟨⟨1, (), rfl, (by rw [if_neg ck1, if_neg ck2]), by rw [ht]; exact hP, va_K.moved hW.alike hK, hD⟩, hS.F ht⟩) hS.2.2 d_Mo_in_15
set_option maxRecDepth 100000 in
set_option maxHeartbeats 4000000 in
/-- DrawingHouseModel.draw(III)I -/
theorem c_Mo_draw_z2 (l : Launch) (D : va_G) (kA : Nat → ClassId) (a0 : Nat) (j : Nat) (v2 : Int32) (v3 : Int32) (qm : Nat → Nat) (hj : j < 4) : Ci l y_Mo_draw z_Mo_draw { frames := 2, cells := 0, slots := 0, locals := 42 } D classes (TY kA) [.ref a0, .int (nI j), .int v2, .int v3] [[(a0, .inr (13, mF qm x0Mo y0Mo))], [(qm 3, .inl (kA 0, 4, .inl (fun _ => 0)))], [(qm 2, .inl (kA 0, 66836, .inl all0))]] (fun r (_ : List va_W) => r = (-1)) (fun u => u) 0 0 := by
  intro sz
  refine k_met (cc := b_Mo_draw) (maxL := 5) (ret := (some .int)) (by decide) rfl (Nat.le_of_ble_eq_true rfl) (fun p e s m below meth c ls X hl hB => ?_)
  obtain ⟨hsz, hP, hK, hD0, hN⟩ := hB
  subst hsz
  have hD := hD0.self (sz := s.heap.size)
  generalize hAe : va_A (cat [[(a0, .inr (13, mF qm x0Mo y0Mo))], [(qm 3, .inl (kA 0, 4, .inl (fun _ => 0)))], [(qm 2, .inl (kA 0, 66836, .inl all0))]]) s.heap.size = A at hD ⊢
  have hA : ∀ q : Nat, s.heap.size ≤ q → A q := fun q h => by rw [← hAe]; exact Or.inr h
  have hS : va_S A s.heap s.heap [] := va_S.rf
  obtain ⟨hx, hb, hml, hown, hts, hr, hlk, hnm⟩ := id X
  have hl : lv_has ls 5 [(0, .ref a0), (1, .int (nI j)), (2, .int v2), (3, .int v3)] := hl
  have hP : va_P D classes (cat [[(a0, .inr (13, mF qm x0Mo y0Mo))], [(qm 3, .inl (kA 0, 4, .inl (fun _ => 0)))], [(qm 2, .inl (kA 0, 66836, .inl all0))]]) s.heap := hP
  have hK : va_K D classes (TY kA) s := hK
  refine lv_iload_n (pc := 0) hx hb d_Mo_draw_0 rfl (lv_at hl 1 rfl) ?_
  refine k_goI (gr := [[(a0, .inr (13, mF qm x0Mo y0Mo))], [(qm 3, .inl (kA 0, 4, .inl (fun _ => 0)))], [(qm 2, .inl (kA 0, 66836, .inl all0))]]) (k_rS (pc := 1) (As := [.int (nI j)]) (rest := []) X (c_Mo_isPlace l D kA (nI j) s.heap.size) rfl wm_2978 wm_9 wm_2976 wm_2977 1 (by decide +kernel) ⟨Nat.le_of_ble_eq_true rfl, Nat.le_of_ble_eq_true rfl⟩ rfl rfl (k_pre hN hK hP hD [] [0, 1, 2] 3 rfl (by decide) rfl) rfl hl.1 rfl (Nat.le_of_ble_eq_true rfl) d_Mo_draw_1 ⟨Nat.le_of_ble_eq_true rfl, Nat.le_of_ble_eq_true rfl⟩) hP hD hS hA [] [0, 1, 2] 3 rfl (by decide) rfl rfl (fun r1 u2 H locs hu2 hP hD hS => ?_)
  subst hu2
  refine k_cst (v := 1) (placeM_ok hj) ?_
  have hP : va_P D classes (cat [[(a0, .inr (13, mF qm x0Mo y0Mo))], [(qm 3, .inl (kA 0, 4, .inl (fun _ => 0)))], [(qm 2, .inl (kA 0, 66836, .inl all0))]]) H := hP
  have hD : va_D A (cat [[(a0, .inr (13, mF qm x0Mo y0Mo))], [(qm 3, .inl (kA 0, 4, .inl (fun _ => 0)))], [(qm 2, .inl (kA 0, 66836, .inl all0))]]) := hD
  refine lv_if_eq (pc := 4) (tgt := 17) hx hb d_Mo_draw_4 (by decide) (fun c1 => absurd c1 (by decide)) (fun c1 => ?_)
  refine lv_iload_n (pc := 7) hx hb d_Mo_draw_7 rfl (lv_at hl 2 rfl) ?_
  refine lv_iconst (pc := 8) (v := 0) hx hb d_Mo_draw_8 (by decide) ?_
  refine lv_bipush (pc := 9) (v := 7) hx hb d_Mo_draw_9 (by decide) ?_
  refine k_goI (gr := [[(a0, .inr (13, mF qm x0Mo y0Mo))], [(qm 3, .inl (kA 0, 4, .inl (fun _ => 0)))], [(qm 2, .inl (kA 0, 66836, .inl all0))]]) (k_rS (pc := 11) (As := [.int v2, .int 0, .int 7]) (rest := []) X (c_Mo_in_z3 l D kA v2 H.size) rfl wm_2971 wm_9 wm_2969 wm_2970 3 (by decide +kernel) ⟨Nat.le_of_ble_eq_true rfl, Nat.le_of_ble_eq_true rfl⟩ rfl rfl (k_pre hN hK hP hD [] [0, 1, 2] 3 rfl (by decide) rfl) rfl hl.1 rfl (Nat.le_of_ble_eq_true rfl) d_Mo_draw_11 ⟨Nat.le_of_ble_eq_true rfl, Nat.le_of_ble_eq_true rfl⟩) hP hD hS hA [] [0, 1, 2] 3 rfl (by decide) rfl rfl (fun r3 u4 H locs hu4 hP hD hS => ?_)
  subst hu4
  have hP : va_P D classes (cat [[(a0, .inr (13, mF qm x0Mo y0Mo))], [(qm 3, .inl (kA 0, 4, .inl (fun _ => 0)))], [(qm 2, .inl (kA 0, 66836, .inl all0))]]) H := hP
  have hD : va_D A (cat [[(a0, .inr (13, mF qm x0Mo y0Mo))], [(qm 3, .inl (kA 0, 4, .inl (fun _ => 0)))], [(qm 2, .inl (kA 0, 66836, .inl all0))]]) := hD
  refine lv_if_ne (pc := 14) (tgt := 19) hx hb d_Mo_draw_14 (by decide) (fun ck1 => ?_) (fun ck1 => ?_)
  · refine lv_aload_n (pc := 19) hx hb d_Mo_draw_19 rfl (lv_at hl 0 rfl) ?_
    refine lv_iload_n (pc := 20) hx hb d_Mo_draw_20 rfl (lv_at hl 1 rfl) ?_
    refine k_goV (gr := [[(qm 2, .inl (kA 0, 66836, .inl all0))]]) (k_rV (pc := 21) (As := [.int (nI j)]) (rest := []) X (c_Mo_take_z1 l D kA a0 j qm hj H.size) rfl wm_3091 wm_9 wm_3088 wm_3090 wv_14_2 1 (by decide +kernel) ⟨Nat.le_of_ble_eq_true rfl, Nat.le_of_ble_eq_true rfl⟩ rfl rfl (va_recv hK hP (ci := 13) (q0 := 0) rfl rfl) (k_pre hN hK hP hD [0, 1] [2] 3 rfl (by decide) rfl) rfl hl.1 rfl (Nat.le_of_ble_eq_true rfl) d_Mo_draw_21 ⟨Nat.le_of_ble_eq_true rfl, Nat.le_of_ble_eq_true rfl⟩) hP hD hS hA [0, 1] [2] 3 rfl (by decide) rfl rfl (fun u5 H locs hu5 hP hD hS => ?_)
    have hP : va_P D classes (cat [[(qm 2, .inl (kA 0, 66836, .inl all0))], [(a0, .inr (13, mF qm (va_up x0Mo 5 (nI (539 * (31 * j + 0)))) y0Mo))], [(qm 3, .inl (kA 0, 4, .inl (fun _ => 0)))]]) H := hP
    have hD : va_D A (cat [[(qm 2, .inl (kA 0, 66836, .inl all0))], [(a0, .inr (13, mF qm (va_up x0Mo 5 (nI (539 * (31 * j + 0)))) y0Mo))], [(qm 3, .inl (kA 0, 4, .inl (fun _ => 0)))]]) := hD
    refine lv_aload_n (pc := 24) hx hb d_Mo_draw_24 rfl (lv_at hl 0 rfl) ?_
    refine k_goI (gr := [[(qm 3, .inl (kA 0, 4, .inl (fun _ => 0)))]]) (k_rV (pc := 25) (As := []) (rest := []) X (c_Mo_nodes_z1 l D kA a0 qm j hj H.size) rfl wm_3025 wm_9 wm_3022 wm_3024 wv_13_3 0 (by decide +kernel) ⟨Nat.le_of_ble_eq_true rfl, Nat.le_of_ble_eq_true rfl⟩ rfl rfl (va_recv hK hP (ci := 13) (q0 := 1) rfl rfl) (k_pre hN hK hP hD [1, 0] [2] 3 rfl (by decide) rfl) rfl hl.1 rfl (Nat.le_of_ble_eq_true rfl) d_Mo_draw_25 ⟨Nat.le_of_ble_eq_true rfl, Nat.le_of_ble_eq_true rfl⟩) hP hD hS hA [1, 0] [2] 3 rfl (by decide) rfl rfl (fun r6 u7 H locs hu7 hP hD hS => ?_)
    subst hu7
    have hP : va_P D classes (cat [[(qm 3, .inl (kA 0, 4, .inl (fun _ => 0)))], [(a0, .inr (13, mF qm (va_up x0Mo 5 (nI (539 * (31 * j + 0)))) y0Mo))], [(qm 2, .inl (kA 0, 66836, .inl all0))]]) H := hP
    have hD : va_D A (cat [[(qm 3, .inl (kA 0, 4, .inl (fun _ => 0)))], [(a0, .inr (13, mF qm (va_up x0Mo 5 (nI (539 * (31 * j + 0)))) y0Mo))], [(qm 2, .inl (kA 0, 66836, .inl all0))]]) := hD
    refine lv_if_ne (pc := 28) (tgt := 33) hx hb d_Mo_draw_28 (by decide) (fun c1 => absurd (by decide) c1) (fun c1 => ?_)
    refine lv_iconst (pc := 31) (v := -1) hx hb d_Mo_draw_31 (by decide) ?_
    refine W.widen (k := 0) (n := 0) (Nat.le_of_ble_eq_true rfl) (Nat.le_of_ble_eq_true rfl) ?_
    exact W.iret (v := (-1)) hx hb hr (fun t ht hW => ⟨⟨(-1), [[(qm 3, .inl (kA 0, 4, .inl (fun _ => 0)))], [(a0, .inr (13, mF qm (va_up x0Mo 5 (nI (539 * (31 * j + 0)))) y0Mo))], [(qm 2, .inl (kA 0, 66836, .inl all0))]], rfl, rfl, by rw [ht]; exact hP, va_K.moved hW.alike hK, hD⟩, hS.F ht⟩) hS.2.2 d_Mo_draw_32
  · refine lv_iconst (pc := 17) (v := -1) hx hb d_Mo_draw_17 (by decide) ?_
    refine W.widen (k := 0) (n := 0) (Nat.le_of_ble_eq_true rfl) (Nat.le_of_ble_eq_true rfl) ?_
    exact W.iret (v := (-1)) hx hb hr (fun t ht hW => ⟨⟨(-1), [[(a0, .inr (13, mF qm x0Mo y0Mo))], [(qm 3, .inl (kA 0, 4, .inl (fun _ => 0)))], [(qm 2, .inl (kA 0, 66836, .inl all0))]], rfl, rfl, by rw [ht]; exact hP, va_K.moved hW.alike hK, hD⟩, hS.F ht⟩) hS.2.2 d_Mo_draw_18
set_option maxRecDepth 100000 in
set_option maxHeartbeats 4000000 in
/-- draw, a fresh house -/
theorem lf_draw_2 {p : Program} {e : Env} {s : State} {m : MethodId} {below : List Frame} {meth : Method} {c : Code} (l : Launch) {b : Nat} {xs : Nat → Int32} (C0 : lw_At p s m meth c b 6 xs) {D : va_G} {kA : Nat → ClassId} (h : Nat) (h2 : Nat) (q : Nat → Nat) (qg : Nat → Nat) (qm : Nat → Nat) (g : Nat → Nat → Nat) (j : Nat) (v2 : Int32) (v3 : Int32) (hj : j < 4) (hv1 : xs 1 = nI j) (hv2 : xs 2 = v2) (hv3 : xs 3 = v3) {H : Heap} {locs : List Loc} {ls : Array Slot} (hK : va_K D classes (TY kA) s) (hN : nst s) (hP : va_P D classes (cat [[(h, .inr (12, [.ref (q 0), .ref (q 1), .ref (q 2), .ref (q 3), .ref (q 4), .ref (q 5), .ref (q 6), .int 0, .int ((-1)), .ref (q 9), .ref (q 10), .int 0, .int 0, .ref (q 13), .int 0, .int 0, .null, .null, .null, .null, .null]))], [(q 0, .inl (kA 4, 4, .inr (.inr (.inr (.inr (rr (g 0)))))))], [(g 0 j, .inr (3, [.int 0, .int 0, .int 1, .ref (qg 3), .ref (qg 4), .ref (qg 5), .ref (qg 6), .ref (qg 7), .ref (qg 8), .ref (qg 9), .ref (qg 10), .ref (qg 11), .ref (qg 12), .ref (qg 13), .ref (qg 14), .ref (qg 15), .null, .int 0, .int 0]))], [(h2, .inr (13, mF qm x0Mo y0Mo))], [(qm 3, .inl (kA 0, 4, .inl (fun _ => 0)))], [(qm 2, .inl (kA 0, 66836, .inl all0))]]) H) (hD : va_D (fun q : Nat => s.heap.size ≤ q) (cat [[(h, .inr (12, [.ref (q 0), .ref (q 1), .ref (q 2), .ref (q 3), .ref (q 4), .ref (q 5), .ref (q 6), .int 0, .int ((-1)), .ref (q 9), .ref (q 10), .int 0, .int 0, .ref (q 13), .int 0, .int 0, .null, .null, .null, .null, .null]))], [(q 0, .inl (kA 4, 4, .inr (.inr (.inr (.inr (rr (g 0)))))))], [(g 0 j, .inr (3, [.int 0, .int 0, .int 1, .ref (qg 3), .ref (qg 4), .ref (qg 5), .ref (qg 6), .ref (qg 7), .ref (qg 8), .ref (qg 9), .ref (qg 10), .ref (qg 11), .ref (qg 12), .ref (qg 13), .ref (qg 14), .ref (qg 15), .null, .int 0, .int 0]))], [(h2, .inr (13, mF qm x0Mo y0Mo))], [(qm 3, .inl (kA 0, 4, .inl (fun _ => 0)))], [(qm 2, .inl (kA 0, 66836, .inl all0))]])) (hS : va_S (fun q : Nat => s.heap.size ≤ q) s.heap H locs) (hl : lv_has ls 4 [(3, .int 0), (2, .ref h2), (1, .ref h), (0, .ref b)]) : W p l e room_1 s m #[Value.ref b] below meth c H locs 368 365796 (lw_Z below #[Value.ref b] s) (F0 m 765 ls []) := by
  obtain ⟨hx, hb, hr, hml, hown, hts0, hX, hbl, hlocks, hgv⟩ := id C0
  have hts : ∀ w ∈ lw_g, w.before #[Value.ref b] s = true := fun w h => hts0 w (lw_gt h)
  have X : cx p s m #[Value.ref b] meth c b_law_law 4 ret "DrawingHouseLaw" meth.name := ⟨hx, hb, hml, hown, hts, hr, hlocks, rfl⟩
  obtain ⟨A, hAe⟩ : ∃ A : Nat → Prop, A = fun q : Nat => s.heap.size ≤ q := ⟨_, rfl⟩
  have hA : ∀ q : Nat, s.heap.size ≤ q → A q := fun q h => by rw [hAe]; exact h
  have hbA : ¬ A b := by rw [hAe]; exact Nat.not_le.mpr hbl
  rw [← hAe] at hD hS
  refine lv_aload_n (pc := 765) hx hb d_law_law_765 rfl (lv_at hl 2 rfl) ?_
  refine lv_aload_n (pc := 766) hx hb d_law_law_766 rfl (lv_at hl 3 rfl) ?_
  refine lv_iload_n (pc := 767) hx hb d_law_law_767 rfl (lv_at hl 0 rfl) ?_
  refine lv_iconst (pc := 768) (v := 1) hx hb d_law_law_768 (by decide) ?_
  refine lv_iadd (pc := 769) hx hb d_law_law_769 ?_
  refine k_cst (v := 1) (by decide) ?_
  refine va_sld (pc := 770) hx hb hX hbl hbA hS (by unfold vp_in; decide) d_law_law_770 ?_
  refine k_cst (v := nI j) hv1 ?_
  refine lv_aload_n (pc := 771) hx hb d_law_law_771 rfl (lv_at hl 3 rfl) ?_
  refine lv_iload_n (pc := 772) hx hb d_law_law_772 rfl (lv_at hl 0 rfl) ?_
  refine lv_iconst (pc := 773) (v := 2) hx hb d_law_law_773 (by decide) ?_
  refine lv_iadd (pc := 774) hx hb d_law_law_774 ?_
  refine k_cst (v := 2) (by decide) ?_
  refine va_sld (pc := 775) hx hb hX hbl hbA hS (by unfold vp_in; decide) d_law_law_775 ?_
  refine k_cst (v := v2) hv2 ?_
  refine lv_aload_n (pc := 776) hx hb d_law_law_776 rfl (lv_at hl 3 rfl) ?_
  refine lv_iload_n (pc := 777) hx hb d_law_law_777 rfl (lv_at hl 0 rfl) ?_
  refine lv_iconst (pc := 778) (v := 3) hx hb d_law_law_778 (by decide) ?_
  refine lv_iadd (pc := 779) hx hb d_law_law_779 ?_
  refine k_cst (v := 3) (by decide) ?_
  refine va_sld (pc := 780) hx hb hX hbl hbA hS (by unfold vp_in; decide) d_law_law_780 ?_
  refine k_cst (v := v3) hv3 ?_
  refine k_goI (gr := [[(h2, .inr (13, mF qm x0Mo y0Mo))], [(qm 3, .inl (kA 0, 4, .inl (fun _ => 0)))], [(qm 2, .inl (kA 0, 66836, .inl all0))]]) (k_rV (pc := 781) (As := [.int (nI j), .int v2, .int v3]) (rest := []) X (c_Ho_draw_z2 l D kA h j v2 v3 (q 0) (q 1) (q 2) (q 3) (q 4) (q 5) (q 6) (q 9) (q 10) (q 13) g (qg 3) (qg 4) (qg 5) (qg 6) (qg 7) (qg 8) (qg 9) (qg 10) (qg 11) (qg 12) (qg 13) (qg 14) (qg 15) hj H.size) rfl wm_1185 wm_1 wm_1182 wm_1183 wm_1184 3 (by decide +kernel) ⟨Nat.le_of_ble_eq_true rfl, Nat.le_of_ble_eq_true rfl⟩ rfl rfl (va_recv hK hP (ci := 12) (q0 := 0) rfl rfl) (k_pre hN hK hP hD [0, 1, 2] [3, 4, 5] 6 rfl (by decide) rfl) rfl hl.1 rfl (Nat.le_of_ble_eq_true rfl) d_law_law_781 ⟨Nat.le_of_ble_eq_true rfl, Nat.le_of_ble_eq_true rfl⟩) hP hD hS hA [0, 1, 2] [3, 4, 5] 6 rfl (by decide) rfl rfl (fun r1 u2 H locs hu2 hP hD hS => ?_)
  obtain ⟨hP, hD⟩ := k_left hP hD
  subst hu2
  have hP : va_P D classes (cat [[(h2, .inr (13, mF qm x0Mo y0Mo))], [(qm 3, .inl (kA 0, 4, .inl (fun _ => 0)))], [(qm 2, .inl (kA 0, 66836, .inl all0))]]) H := hP
  have hD : va_D A (cat [[(h2, .inr (13, mF qm x0Mo y0Mo))], [(qm 3, .inl (kA 0, 4, .inl (fun _ => 0)))], [(qm 2, .inl (kA 0, 66836, .inl all0))]]) := hD
  refine lv_aload_n (pc := 784) hx hb d_law_law_784 rfl (lv_at hl 1 rfl) ?_
  refine lv_aload_n (pc := 785) hx hb d_law_law_785 rfl (lv_at hl 3 rfl) ?_
  refine lv_iload_n (pc := 786) hx hb d_law_law_786 rfl (lv_at hl 0 rfl) ?_
  refine lv_iconst (pc := 787) (v := 1) hx hb d_law_law_787 (by decide) ?_
  refine lv_iadd (pc := 788) hx hb d_law_law_788 ?_
  refine k_cst (v := 1) (by decide) ?_
  refine va_sld (pc := 789) hx hb hX hbl hbA hS (by unfold vp_in; decide) d_law_law_789 ?_
  refine k_cst (v := nI j) hv1 ?_
  refine lv_aload_n (pc := 790) hx hb d_law_law_790 rfl (lv_at hl 3 rfl) ?_
  refine lv_iload_n (pc := 791) hx hb d_law_law_791 rfl (lv_at hl 0 rfl) ?_
  refine lv_iconst (pc := 792) (v := 2) hx hb d_law_law_792 (by decide) ?_
  refine lv_iadd (pc := 793) hx hb d_law_law_793 ?_
  refine k_cst (v := 2) (by decide) ?_
  refine va_sld (pc := 794) hx hb hX hbl hbA hS (by unfold vp_in; decide) d_law_law_794 ?_
  refine k_cst (v := v2) hv2 ?_
  refine lv_aload_n (pc := 795) hx hb d_law_law_795 rfl (lv_at hl 3 rfl) ?_
  refine lv_iload_n (pc := 796) hx hb d_law_law_796 rfl (lv_at hl 0 rfl) ?_
  refine lv_iconst (pc := 797) (v := 3) hx hb d_law_law_797 (by decide) ?_
  refine lv_iadd (pc := 798) hx hb d_law_law_798 ?_
  refine k_cst (v := 3) (by decide) ?_
  refine va_sld (pc := 799) hx hb hX hbl hbA hS (by unfold vp_in; decide) d_law_law_799 ?_
  refine k_cst (v := v3) hv3 ?_
  refine k_goI (gr := []) (k_rV (pc := 800) (As := [.int (nI j), .int v2, .int v3]) (rest := [.int ((-1))]) X (c_Mo_draw_z2 l D kA h2 j v2 v3 qm hj H.size) rfl wm_3367 wm_9 wm_3364 wm_3365 wm_3366 3 (by decide +kernel) ⟨Nat.le_of_ble_eq_true rfl, Nat.le_of_ble_eq_true rfl⟩ rfl rfl (va_recv hK hP (ci := 13) (q0 := 0) rfl rfl) (k_pre hN hK hP hD [0, 1, 2] [] 3 rfl (by decide) rfl) rfl hl.1 rfl (Nat.le_of_ble_eq_true rfl) d_law_law_800 ⟨Nat.le_of_ble_eq_true rfl, Nat.le_of_ble_eq_true rfl⟩) hP hD hS hA [0, 1, 2] [] 3 rfl (by decide) rfl rfl (fun r3 u4 H locs hu4 hP hD hS => ?_)
  obtain ⟨hP, hD⟩ := k_left hP hD
  subst hu4
  have hP : va_P D classes (cat []) H := hP
  have hD : va_D A (cat []) := hD
  refine lv_icmp_eq (pc := 803) (tgt := 1295) hx hb d_law_law_803 (by decide) (fun _ => ?_) (fun c1 => absurd (by decide) c1)
  rw [hAe] at hS
  exact law_exit l C0 (Nat.le_of_ble_eq_true rfl) (Nat.le_of_ble_eq_true rfl) hS hl
set_option maxRecDepth 100000 in
set_option maxHeartbeats 8000000 in
/-- fault: the case of the law -/
theorem op_fault {p : Program} {e : Env} {s : State} {m : MethodId} {below : List Frame} {meth : Method} {c : Code} (l : Launch) {b : Nat} {xs : Nat → Int32} (C0 : lw_At p s m meth c b 6 xs) {D : va_G} {kA : Nat → ClassId} (h h2 : Nat) (u1 : Nat → Nat → Nat) (qm : Nat → Nat) (v1 : Int32) (hv1 : xs 1 = v1) {H : Heap} {locs : List Loc} {ls : Array Slot} (hK : va_K D classes (TY kA) s) (hN : nst s) (hpost : u1 50 1 = u1 0 4 ∧ u1 50 3 = u1 0 5 ∧ u1 50 2 = u1 1 4 ∧ u1 50 4 = u1 3 1 ∧ u1 8 0 = u1 50 5 ∧ u1 12 0 = u1 50 9 ∧ u1 16 0 = u1 50 13 ∧ u1 20 0 = u1 50 17) (hP : va_P D classes (cat [cat (sHo kA h u1), cat (sMo kA h2 qm)]) H) (hD : va_D (fun q : Nat => s.heap.size ≤ q) (cat [cat (sHo kA h u1), cat (sMo kA h2 qm)])) (hS : va_S (fun q : Nat => s.heap.size ≤ q) s.heap H locs) (hl : lv_has ls 4 [(3, .int 0), (2, .ref h2), (1, .ref h), (0, .ref b)]) : W p l e room_1 s m #[Value.ref b] below meth c H locs 368 365796 (lw_Z below #[Value.ref b] s) (F0 m 256 ls []) := by
  obtain ⟨q, qg, qf, qn, qd, qr, qs, qe, qp, g, hP, hD⟩ := big (j := 0) (by decide) hpost hP hD
  obtain ⟨hP, hD⟩ := k_drop (sg := bH kA h q qg qf qn qd qr qs qe qp g 0 ++ bM kA h2 qm) (gc := [[(h, .inr (12, [.ref (q 0), .ref (q 1), .ref (q 2), .ref (q 3), .ref (q 4), .ref (q 5), .ref (q 6), .int 0, .int ((-1)), .ref (q 9), .ref (q 10), .int 0, .int 0, .ref (q 13), .int 0, .int 0, .null, .null, .null, .null, .null]))], [(q 4, .inr (8, [.ref (qr 0), .int 0, .int ((-1)), .int ((-1)), .ref (qr 4), .int 0, .int 0, .int 0, .int 0, .int 0, .ref (qr 10), .int 0]))], [(h2, .inr (13, mF qm x0Mo y0Mo))]]) hP hD [1, 2, 3, 4, 5, 6, 7, 8, 9, 10, 11, 12, 13, 14, 15, 16, 17, 18, 19, 20, 21, 22, 23, 24, 25, 26, 27, 28, 29, 30, 31, 32, 33, 34, 35, 36, 37, 38, 39, 40, 41, 42, 43, 44, 45, 46, 47, 48, 49, 50, 51, 52, 53, 54, 55, 56, 57, 58, 60, 61, 62, 63, 64, 65, 66, 67, 68, 69, 70, 71, 72, 73, 74, 75, 76, 77, 78, 79, 80, 81, 82, 83, 84, 85, 86, 87, 88, 89, 90, 91, 92, 93, 94, 95, 96, 97, 98, 100, 101, 102, 103, 104, 105, 106, 107, 108, 109, 110, 111, 112, 113, 114, 115, 116, 117, 118, 119, 120, 121, 122, 123, 124, 125, 126, 127, 128, 129, 130, 131, 132, 133, 134, 135, 136, 137, 138, 139, 140, 141, 142, 143, 144, 145, 146, 147, 148, 149, 150, 151, 152, 153, 154, 155, 156, 157, 158, 159, 160, 161, 162, 163, 164, 165, 166, 167, 168, 169, 170, 171, 172, 173, 174, 175, 176, 177, 178, 179, 180, 181, 182, 183, 184, 185, 186, 187, 188, 189, 190, 191, 192, 193, 194, 195, 196, 197, 198, 199, 200, 201, 202, 203, 204, 205, 206, 207, 208, 209, 210, 211, 212, 213, 214, 215, 216, 217] [0, 59, 99] 218 rfl (by decide +kernel) rfl
  exact lf_fault_1 l C0 h h2 q qr qm v1 hv1 hK hN hP hD hS hl
set_option maxRecDepth 100000 in
set_option maxHeartbeats 8000000 in
/-- node: the case of the law -/
theorem op_node {p : Program} {e : Env} {s : State} {m : MethodId} {below : List Frame} {meth : Method} {c : Code} (l : Launch) {b : Nat} {xs : Nat → Int32} (C0 : lw_At p s m meth c b 6 xs) {D : va_G} {kA : Nat → ClassId} (h h2 : Nat) (u1 : Nat → Nat → Nat) (qm : Nat → Nat) (v1 : Int32) (v2 : Int32) (v3 : Int32) (hv1 : xs 1 = v1) (hv2 : xs 2 = v2) (hv3 : xs 3 = v3) {H : Heap} {locs : List Loc} {ls : Array Slot} (hK : va_K D classes (TY kA) s) (hN : nst s) (hpost : u1 50 1 = u1 0 4 ∧ u1 50 3 = u1 0 5 ∧ u1 50 2 = u1 1 4 ∧ u1 50 4 = u1 3 1 ∧ u1 8 0 = u1 50 5 ∧ u1 12 0 = u1 50 9 ∧ u1 16 0 = u1 50 13 ∧ u1 20 0 = u1 50 17) (hP : va_P D classes (cat [cat (sHo kA h u1), cat (sMo kA h2 qm)]) H) (hD : va_D (fun q : Nat => s.heap.size ≤ q) (cat [cat (sHo kA h u1), cat (sMo kA h2 qm)])) (hS : va_S (fun q : Nat => s.heap.size ≤ q) s.heap H locs) (hl : lv_has ls 4 [(3, .int 0), (2, .ref h2), (1, .ref h), (0, .ref b)]) : W p l e room_1 s m #[Value.ref b] below meth c H locs 368 365796 (lw_Z below #[Value.ref b] s) (F0 m 312 ls []) := by
  rcases place_no v1 with hg | ⟨j, hj, ej⟩
  · have hgM : sp_Mo_isPlace v1 = 0 := by rw [← place_iff]; exact hg
    obtain ⟨q, qg, qf, qn, qd, qr, qs, qe, qp, g, hP, hD⟩ := big (j := 0) (by decide) hpost hP hD
    obtain ⟨hP, hD⟩ := k_drop (sg := bH kA h q qg qf qn qd qr qs qe qp g 0 ++ bM kA h2 qm) (gc := [[(h, .inr (12, [.ref (q 0), .ref (q 1), .ref (q 2), .ref (q 3), .ref (q 4), .ref (q 5), .ref (q 6), .int 0, .int ((-1)), .ref (q 9), .ref (q 10), .int 0, .int 0, .ref (q 13), .int 0, .int 0, .null, .null, .null, .null, .null]))], [(h2, .inr (13, mF qm x0Mo y0Mo))]]) hP hD [1, 2, 3, 4, 5, 6, 7, 8, 9, 10, 11, 12, 13, 14, 15, 16, 17, 18, 19, 20, 21, 22, 23, 24, 25, 26, 27, 28, 29, 30, 31, 32, 33, 34, 35, 36, 37, 38, 39, 40, 41, 42, 43, 44, 45, 46, 47, 48, 49, 50, 51, 52, 53, 54, 55, 56, 57, 58, 59, 60, 61, 62, 63, 64, 65, 66, 67, 68, 69, 70, 71, 72, 73, 74, 75, 76, 77, 78, 79, 80, 81, 82, 83, 84, 85, 86, 87, 88, 89, 90, 91, 92, 93, 94, 95, 96, 97, 98, 100, 101, 102, 103, 104, 105, 106, 107, 108, 109, 110, 111, 112, 113, 114, 115, 116, 117, 118, 119, 120, 121, 122, 123, 124, 125, 126, 127, 128, 129, 130, 131, 132, 133, 134, 135, 136, 137, 138, 139, 140, 141, 142, 143, 144, 145, 146, 147, 148, 149, 150, 151, 152, 153, 154, 155, 156, 157, 158, 159, 160, 161, 162, 163, 164, 165, 166, 167, 168, 169, 170, 171, 172, 173, 174, 175, 176, 177, 178, 179, 180, 181, 182, 183, 184, 185, 186, 187, 188, 189, 190, 191, 192, 193, 194, 195, 196, 197, 198, 199, 200, 201, 202, 203, 204, 205, 206, 207, 208, 209, 210, 211, 212, 213, 214, 215, 216, 217] [0, 99] 218 rfl (by decide +kernel) rfl
    exact lf_node_1 l C0 h h2 q qm v1 v2 v3 hg hgM hv1 hv2 hv3 hK hN hP hD hS hl
  · subst ej
    obtain ⟨q, qg, qf, qn, qd, qr, qs, qe, qp, g, hP, hD⟩ := big (j := j) hj hpost hP hD
    obtain ⟨hP, hD⟩ := k_drop (sg := bH kA h q qg qf qn qd qr qs qe qp g j ++ bM kA h2 qm) (gc := [[(h, .inr (12, [.ref (q 0), .ref (q 1), .ref (q 2), .ref (q 3), .ref (q 4), .ref (q 5), .ref (q 6), .int 0, .int ((-1)), .ref (q 9), .ref (q 10), .int 0, .int 0, .ref (q 13), .int 0, .int 0, .null, .null, .null, .null, .null]))], [(q 0, .inl (kA 4, 4, .inr (.inr (.inr (.inr (rr (g 0)))))))], [(g 0 j, .inr (3, [.int 0, .int 0, .int 1, .ref (qg 3), .ref (qg 4), .ref (qg 5), .ref (qg 6), .ref (qg 7), .ref (qg 8), .ref (qg 9), .ref (qg 10), .ref (qg 11), .ref (qg 12), .ref (qg 13), .ref (qg 14), .ref (qg 15), .null, .int 0, .int 0]))], [(h2, .inr (13, mF qm x0Mo y0Mo))], [(qm 3, .inl (kA 0, 4, .inl (fun _ => 0)))], [(qm 2, .inl (kA 0, 66836, .inl all0))]]) hP hD [2, 3, 4, 5, 6, 7, 8, 10, 11, 12, 13, 14, 15, 16, 17, 18, 19, 20, 21, 22, 23, 24, 25, 26, 27, 28, 29, 30, 31, 32, 33, 34, 35, 36, 37, 38, 39, 40, 41, 42, 43, 44, 45, 46, 47, 48, 49, 50, 51, 52, 53, 54, 55, 56, 57, 58, 59, 60, 61, 62, 63, 64, 65, 66, 67, 68, 69, 70, 71, 72, 73, 74, 75, 76, 77, 78, 79, 80, 81, 82, 83, 84, 85, 86, 87, 88, 89, 90, 91, 92, 93, 94, 95, 96, 97, 98, 101, 102, 103, 104, 105, 107, 108, 109, 110, 111, 112, 113, 114, 115, 116, 117, 118, 119, 120, 121, 122, 123, 124, 125, 126, 127, 128, 129, 130, 131, 132, 133, 134, 135, 136, 137, 138, 139, 140, 141, 142, 143, 144, 145, 146, 147, 148, 149, 150, 151, 152, 153, 154, 155, 156, 157, 158, 159, 160, 161, 162, 163, 164, 165, 166, 167, 168, 169, 170, 171, 172, 173, 174, 175, 176, 177, 178, 179, 180, 181, 182, 183, 184, 185, 186, 187, 188, 189, 190, 191, 192, 193, 194, 195, 196, 197, 198, 199, 200, 201, 202, 203, 204, 205, 206, 207, 208, 209, 210, 211, 212, 213, 214, 215, 216, 217] [0, 1, 9, 99, 106, 100] 218 rfl (by decide +kernel) rfl
    exact lf_node_2 l C0 h h2 q qg qm g j v2 v3 hj hv1 hv2 hv3 hK hN hP hD hS hl
set_option maxRecDepth 100000 in
set_option maxHeartbeats 8000000 in
/-- edge: the case of the law -/
theorem op_edge {p : Program} {e : Env} {s : State} {m : MethodId} {below : List Frame} {meth : Method} {c : Code} (l : Launch) {b : Nat} {xs : Nat → Int32} (C0 : lw_At p s m meth c b 6 xs) {D : va_G} {kA : Nat → ClassId} (h h2 : Nat) (u1 : Nat → Nat → Nat) (qm : Nat → Nat) (v1 : Int32) (v2 : Int32) (v3 : Int32) (hv1 : xs 1 = v1) (hv2 : xs 2 = v2) (hv3 : xs 3 = v3) {H : Heap} {locs : List Loc} {ls : Array Slot} (hK : va_K D classes (TY kA) s) (hN : nst s) (hpost : u1 50 1 = u1 0 4 ∧ u1 50 3 = u1 0 5 ∧ u1 50 2 = u1 1 4 ∧ u1 50 4 = u1 3 1 ∧ u1 8 0 = u1 50 5 ∧ u1 12 0 = u1 50 9 ∧ u1 16 0 = u1 50 13 ∧ u1 20 0 = u1 50 17) (hP : va_P D classes (cat [cat (sHo kA h u1), cat (sMo kA h2 qm)]) H) (hD : va_D (fun q : Nat => s.heap.size ≤ q) (cat [cat (sHo kA h u1), cat (sMo kA h2 qm)])) (hS : va_S (fun q : Nat => s.heap.size ≤ q) s.heap H locs) (hl : lv_has ls 4 [(3, .int 0), (2, .ref h2), (1, .ref h), (0, .ref b)]) : W p l e room_1 s m #[Value.ref b] below meth c H locs 368 365796 (lw_Z below #[Value.ref b] s) (F0 m 355 ls []) := by
  rcases place_no v1 with hg | ⟨j, hj, ej⟩
  · have hgM : sp_Mo_isPlace v1 = 0 := by rw [← place_iff]; exact hg
    obtain ⟨q, qg, qf, qn, qd, qr, qs, qe, qp, g, hP, hD⟩ := big (j := 0) (by decide) hpost hP hD
    obtain ⟨hP, hD⟩ := k_drop (sg := bH kA h q qg qf qn qd qr qs qe qp g 0 ++ bM kA h2 qm) (gc := [[(h, .inr (12, [.ref (q 0), .ref (q 1), .ref (q 2), .ref (q 3), .ref (q 4), .ref (q 5), .ref (q 6), .int 0, .int ((-1)), .ref (q 9), .ref (q 10), .int 0, .int 0, .ref (q 13), .int 0, .int 0, .null, .null, .null, .null, .null]))], [(h2, .inr (13, mF qm x0Mo y0Mo))]]) hP hD [1, 2, 3, 4, 5, 6, 7, 8, 9, 10, 11, 12, 13, 14, 15, 16, 17, 18, 19, 20, 21, 22, 23, 24, 25, 26, 27, 28, 29, 30, 31, 32, 33, 34, 35, 36, 37, 38, 39, 40, 41, 42, 43, 44, 45, 46, 47, 48, 49, 50, 51, 52, 53, 54, 55, 56, 57, 58, 59, 60, 61, 62, 63, 64, 65, 66, 67, 68, 69, 70, 71, 72, 73, 74, 75, 76, 77, 78, 79, 80, 81, 82, 83, 84, 85, 86, 87, 88, 89, 90, 91, 92, 93, 94, 95, 96, 97, 98, 100, 101, 102, 103, 104, 105, 106, 107, 108, 109, 110, 111, 112, 113, 114, 115, 116, 117, 118, 119, 120, 121, 122, 123, 124, 125, 126, 127, 128, 129, 130, 131, 132, 133, 134, 135, 136, 137, 138, 139, 140, 141, 142, 143, 144, 145, 146, 147, 148, 149, 150, 151, 152, 153, 154, 155, 156, 157, 158, 159, 160, 161, 162, 163, 164, 165, 166, 167, 168, 169, 170, 171, 172, 173, 174, 175, 176, 177, 178, 179, 180, 181, 182, 183, 184, 185, 186, 187, 188, 189, 190, 191, 192, 193, 194, 195, 196, 197, 198, 199, 200, 201, 202, 203, 204, 205, 206, 207, 208, 209, 210, 211, 212, 213, 214, 215, 216, 217] [0, 99] 218 rfl (by decide +kernel) rfl
    exact lf_edge_1 l C0 h h2 q qm v1 v2 v3 hg hgM hv1 hv2 hv3 hK hN hP hD hS hl
  · subst ej
    obtain ⟨q, qg, qf, qn, qd, qr, qs, qe, qp, g, hP, hD⟩ := big (j := j) hj hpost hP hD
    obtain ⟨hP, hD⟩ := k_drop (sg := bH kA h q qg qf qn qd qr qs qe qp g j ++ bM kA h2 qm) (gc := [[(h, .inr (12, [.ref (q 0), .ref (q 1), .ref (q 2), .ref (q 3), .ref (q 4), .ref (q 5), .ref (q 6), .int 0, .int ((-1)), .ref (q 9), .ref (q 10), .int 0, .int 0, .ref (q 13), .int 0, .int 0, .null, .null, .null, .null, .null]))], [(q 0, .inl (kA 4, 4, .inr (.inr (.inr (.inr (rr (g 0)))))))], [(g 0 j, .inr (3, [.int 0, .int 0, .int 1, .ref (qg 3), .ref (qg 4), .ref (qg 5), .ref (qg 6), .ref (qg 7), .ref (qg 8), .ref (qg 9), .ref (qg 10), .ref (qg 11), .ref (qg 12), .ref (qg 13), .ref (qg 14), .ref (qg 15), .null, .int 0, .int 0]))], [(h2, .inr (13, mF qm x0Mo y0Mo))], [(qm 3, .inl (kA 0, 4, .inl (fun _ => 0)))], [(qm 2, .inl (kA 0, 66836, .inl all0))]]) hP hD [2, 3, 4, 5, 6, 7, 8, 10, 11, 12, 13, 14, 15, 16, 17, 18, 19, 20, 21, 22, 23, 24, 25, 26, 27, 28, 29, 30, 31, 32, 33, 34, 35, 36, 37, 38, 39, 40, 41, 42, 43, 44, 45, 46, 47, 48, 49, 50, 51, 52, 53, 54, 55, 56, 57, 58, 59, 60, 61, 62, 63, 64, 65, 66, 67, 68, 69, 70, 71, 72, 73, 74, 75, 76, 77, 78, 79, 80, 81, 82, 83, 84, 85, 86, 87, 88, 89, 90, 91, 92, 93, 94, 95, 96, 97, 98, 101, 102, 103, 104, 105, 107, 108, 109, 110, 111, 112, 113, 114, 115, 116, 117, 118, 119, 120, 121, 122, 123, 124, 125, 126, 127, 128, 129, 130, 131, 132, 133, 134, 135, 136, 137, 138, 139, 140, 141, 142, 143, 144, 145, 146, 147, 148, 149, 150, 151, 152, 153, 154, 155, 156, 157, 158, 159, 160, 161, 162, 163, 164, 165, 166, 167, 168, 169, 170, 171, 172, 173, 174, 175, 176, 177, 178, 179, 180, 181, 182, 183, 184, 185, 186, 187, 188, 189, 190, 191, 192, 193, 194, 195, 196, 197, 198, 199, 200, 201, 202, 203, 204, 205, 206, 207, 208, 209, 210, 211, 212, 213, 214, 215, 216, 217] [0, 1, 9, 99, 106, 100] 218 rfl (by decide +kernel) rfl
    exact lf_edge_2 l C0 h h2 q qg qm g j v2 v3 hj hv1 hv2 hv3 hK hN hP hD hS hl
set_option maxRecDepth 100000 in
set_option maxHeartbeats 8000000 in
/-- back: the case of the law -/
theorem op_back {p : Program} {e : Env} {s : State} {m : MethodId} {below : List Frame} {meth : Method} {c : Code} (l : Launch) {b : Nat} {xs : Nat → Int32} (C0 : lw_At p s m meth c b 6 xs) {D : va_G} {kA : Nat → ClassId} (h h2 : Nat) (u1 : Nat → Nat → Nat) (qm : Nat → Nat) (v1 : Int32) (v2 : Int32) (hv1 : xs 1 = v1) (hv2 : xs 2 = v2) {H : Heap} {locs : List Loc} {ls : Array Slot} (hK : va_K D classes (TY kA) s) (hN : nst s) (hpost : u1 50 1 = u1 0 4 ∧ u1 50 3 = u1 0 5 ∧ u1 50 2 = u1 1 4 ∧ u1 50 4 = u1 3 1 ∧ u1 8 0 = u1 50 5 ∧ u1 12 0 = u1 50 9 ∧ u1 16 0 = u1 50 13 ∧ u1 20 0 = u1 50 17) (hP : va_P D classes (cat [cat (sHo kA h u1), cat (sMo kA h2 qm)]) H) (hD : va_D (fun q : Nat => s.heap.size ≤ q) (cat [cat (sHo kA h u1), cat (sMo kA h2 qm)])) (hS : va_S (fun q : Nat => s.heap.size ≤ q) s.heap H locs) (hl : lv_has ls 4 [(3, .int 0), (2, .ref h2), (1, .ref h), (0, .ref b)]) : W p l e room_1 s m #[Value.ref b] below meth c H locs 368 365796 (lw_Z below #[Value.ref b] s) (F0 m 547 ls []) := by
  rcases place_no v1 with hg | ⟨j, hj, ej⟩
  · have hgM : sp_Mo_isPlace v1 = 0 := by rw [← place_iff]; exact hg
    obtain ⟨q, qg, qf, qn, qd, qr, qs, qe, qp, g, hP, hD⟩ := big (j := 0) (by decide) hpost hP hD
    obtain ⟨hP, hD⟩ := k_drop (sg := bH kA h q qg qf qn qd qr qs qe qp g 0 ++ bM kA h2 qm) (gc := [[(h, .inr (12, [.ref (q 0), .ref (q 1), .ref (q 2), .ref (q 3), .ref (q 4), .ref (q 5), .ref (q 6), .int 0, .int ((-1)), .ref (q 9), .ref (q 10), .int 0, .int 0, .ref (q 13), .int 0, .int 0, .null, .null, .null, .null, .null]))], [(h2, .inr (13, mF qm x0Mo y0Mo))]]) hP hD [1, 2, 3, 4, 5, 6, 7, 8, 9, 10, 11, 12, 13, 14, 15, 16, 17, 18, 19, 20, 21, 22, 23, 24, 25, 26, 27, 28, 29, 30, 31, 32, 33, 34, 35, 36, 37, 38, 39, 40, 41, 42, 43, 44, 45, 46, 47, 48, 49, 50, 51, 52, 53, 54, 55, 56, 57, 58, 59, 60, 61, 62, 63, 64, 65, 66, 67, 68, 69, 70, 71, 72, 73, 74, 75, 76, 77, 78, 79, 80, 81, 82, 83, 84, 85, 86, 87, 88, 89, 90, 91, 92, 93, 94, 95, 96, 97, 98, 100, 101, 102, 103, 104, 105, 106, 107, 108, 109, 110, 111, 112, 113, 114, 115, 116, 117, 118, 119, 120, 121, 122, 123, 124, 125, 126, 127, 128, 129, 130, 131, 132, 133, 134, 135, 136, 137, 138, 139, 140, 141, 142, 143, 144, 145, 146, 147, 148, 149, 150, 151, 152, 153, 154, 155, 156, 157, 158, 159, 160, 161, 162, 163, 164, 165, 166, 167, 168, 169, 170, 171, 172, 173, 174, 175, 176, 177, 178, 179, 180, 181, 182, 183, 184, 185, 186, 187, 188, 189, 190, 191, 192, 193, 194, 195, 196, 197, 198, 199, 200, 201, 202, 203, 204, 205, 206, 207, 208, 209, 210, 211, 212, 213, 214, 215, 216, 217] [0, 99] 218 rfl (by decide +kernel) rfl
    exact lf_back_1 l C0 h h2 q qm v1 v2 hg hgM hv1 hv2 hK hN hP hD hS hl
  · subst ej
    obtain ⟨q, qg, qf, qn, qd, qr, qs, qe, qp, g, hP, hD⟩ := big (j := j) hj hpost hP hD
    obtain ⟨hP, hD⟩ := k_drop (sg := bH kA h q qg qf qn qd qr qs qe qp g j ++ bM kA h2 qm) (gc := [[(h, .inr (12, [.ref (q 0), .ref (q 1), .ref (q 2), .ref (q 3), .ref (q 4), .ref (q 5), .ref (q 6), .int 0, .int ((-1)), .ref (q 9), .ref (q 10), .int 0, .int 0, .ref (q 13), .int 0, .int 0, .null, .null, .null, .null, .null]))], [(q 0, .inl (kA 4, 4, .inr (.inr (.inr (.inr (rr (g 0)))))))], [(g 0 j, .inr (3, [.int 0, .int 0, .int 1, .ref (qg 3), .ref (qg 4), .ref (qg 5), .ref (qg 6), .ref (qg 7), .ref (qg 8), .ref (qg 9), .ref (qg 10), .ref (qg 11), .ref (qg 12), .ref (qg 13), .ref (qg 14), .ref (qg 15), .null, .int 0, .int 0]))], [(h2, .inr (13, mF qm x0Mo y0Mo))], [(qm 3, .inl (kA 0, 4, .inl (fun _ => 0)))], [(qm 4, .inl (kA 0, 4, .inl (fun _ => 0)))]]) hP hD [2, 3, 4, 5, 6, 7, 8, 10, 11, 12, 13, 14, 15, 16, 17, 18, 19, 20, 21, 22, 23, 24, 25, 26, 27, 28, 29, 30, 31, 32, 33, 34, 35, 36, 37, 38, 39, 40, 41, 42, 43, 44, 45, 46, 47, 48, 49, 50, 51, 52, 53, 54, 55, 56, 57, 58, 59, 60, 61, 62, 63, 64, 65, 66, 67, 68, 69, 70, 71, 72, 73, 74, 75, 76, 77, 78, 79, 80, 81, 82, 83, 84, 85, 86, 87, 88, 89, 90, 91, 92, 93, 94, 95, 96, 97, 98, 100, 101, 102, 103, 104, 105, 108, 109, 110, 111, 112, 113, 114, 115, 116, 117, 118, 119, 120, 121, 122, 123, 124, 125, 126, 127, 128, 129, 130, 131, 132, 133, 134, 135, 136, 137, 138, 139, 140, 141, 142, 143, 144, 145, 146, 147, 148, 149, 150, 151, 152, 153, 154, 155, 156, 157, 158, 159, 160, 161, 162, 163, 164, 165, 166, 167, 168, 169, 170, 171, 172, 173, 174, 175, 176, 177, 178, 179, 180, 181, 182, 183, 184, 185, 186, 187, 188, 189, 190, 191, 192, 193, 194, 195, 196, 197, 198, 199, 200, 201, 202, 203, 204, 205, 206, 207, 208, 209, 210, 211, 212, 213, 214, 215, 216, 217] [0, 1, 9, 99, 106, 107] 218 rfl (by decide +kernel) rfl
    exact lf_back_2 l C0 h h2 q qg qm g j v2 hj hv1 hv2 hK hN hP hD hS hl
set_option maxRecDepth 100000 in
set_option maxHeartbeats 8000000 in
/-- far: the case of the law -/
theorem op_far {p : Program} {e : Env} {s : State} {m : MethodId} {below : List Frame} {meth : Method} {c : Code} (l : Launch) {b : Nat} {xs : Nat → Int32} (C0 : lw_At p s m meth c b 6 xs) {D : va_G} {kA : Nat → ClassId} (h h2 : Nat) (u1 : Nat → Nat → Nat) (qm : Nat → Nat) (v1 : Int32) (v2 : Int32) (v3 : Int32) (hv1 : xs 1 = v1) (hv2 : xs 2 = v2) (hv3 : xs 3 = v3) {H : Heap} {locs : List Loc} {ls : Array Slot} (hK : va_K D classes (TY kA) s) (hN : nst s) (hpost : u1 50 1 = u1 0 4 ∧ u1 50 3 = u1 0 5 ∧ u1 50 2 = u1 1 4 ∧ u1 50 4 = u1 3 1 ∧ u1 8 0 = u1 50 5 ∧ u1 12 0 = u1 50 9 ∧ u1 16 0 = u1 50 13 ∧ u1 20 0 = u1 50 17) (hP : va_P D classes (cat [cat (sHo kA h u1), cat (sMo kA h2 qm)]) H) (hD : va_D (fun q : Nat => s.heap.size ≤ q) (cat [cat (sHo kA h u1), cat (sMo kA h2 qm)])) (hS : va_S (fun q : Nat => s.heap.size ≤ q) s.heap H locs) (hl : lv_has ls 4 [(3, .int 0), (2, .ref h2), (1, .ref h), (0, .ref b)]) : W p l e room_1 s m #[Value.ref b] below meth c H locs 368 365796 (lw_Z below #[Value.ref b] s) (F0 m 580 ls []) := by
  rcases place_no v1 with hg | ⟨j, hj, ej⟩
  · have hgM : sp_Mo_isPlace v1 = 0 := by rw [← place_iff]; exact hg
    obtain ⟨q, qg, qf, qn, qd, qr, qs, qe, qp, g, hP, hD⟩ := big (j := 0) (by decide) hpost hP hD
    obtain ⟨hP, hD⟩ := k_drop (sg := bH kA h q qg qf qn qd qr qs qe qp g 0 ++ bM kA h2 qm) (gc := [[(h, .inr (12, [.ref (q 0), .ref (q 1), .ref (q 2), .ref (q 3), .ref (q 4), .ref (q 5), .ref (q 6), .int 0, .int ((-1)), .ref (q 9), .ref (q 10), .int 0, .int 0, .ref (q 13), .int 0, .int 0, .null, .null, .null, .null, .null]))], [(h2, .inr (13, mF qm x0Mo y0Mo))]]) hP hD [1, 2, 3, 4, 5, 6, 7, 8, 9, 10, 11, 12, 13, 14, 15, 16, 17, 18, 19, 20, 21, 22, 23, 24, 25, 26, 27, 28, 29, 30, 31, 32, 33, 34, 35, 36, 37, 38, 39, 40, 41, 42, 43, 44, 45, 46, 47, 48, 49, 50, 51, 52, 53, 54, 55, 56, 57, 58, 59, 60, 61, 62, 63, 64, 65, 66, 67, 68, 69, 70, 71, 72, 73, 74, 75, 76, 77, 78, 79, 80, 81, 82, 83, 84, 85, 86, 87, 88, 89, 90, 91, 92, 93, 94, 95, 96, 97, 98, 100, 101, 102, 103, 104, 105, 106, 107, 108, 109, 110, 111, 112, 113, 114, 115, 116, 117, 118, 119, 120, 121, 122, 123, 124, 125, 126, 127, 128, 129, 130, 131, 132, 133, 134, 135, 136, 137, 138, 139, 140, 141, 142, 143, 144, 145, 146, 147, 148, 149, 150, 151, 152, 153, 154, 155, 156, 157, 158, 159, 160, 161, 162, 163, 164, 165, 166, 167, 168, 169, 170, 171, 172, 173, 174, 175, 176, 177, 178, 179, 180, 181, 182, 183, 184, 185, 186, 187, 188, 189, 190, 191, 192, 193, 194, 195, 196, 197, 198, 199, 200, 201, 202, 203, 204, 205, 206, 207, 208, 209, 210, 211, 212, 213, 214, 215, 216, 217] [0, 99] 218 rfl (by decide +kernel) rfl
    exact lf_far_1 l C0 h h2 q qm v1 v2 v3 hg hgM hv1 hv2 hv3 hK hN hP hD hS hl
  · subst ej
    obtain ⟨q, qg, qf, qn, qd, qr, qs, qe, qp, g, hP, hD⟩ := big (j := j) hj hpost hP hD
    obtain ⟨hP, hD⟩ := k_drop (sg := bH kA h q qg qf qn qd qr qs qe qp g j ++ bM kA h2 qm) (gc := [[(h, .inr (12, [.ref (q 0), .ref (q 1), .ref (q 2), .ref (q 3), .ref (q 4), .ref (q 5), .ref (q 6), .int 0, .int ((-1)), .ref (q 9), .ref (q 10), .int 0, .int 0, .ref (q 13), .int 0, .int 0, .null, .null, .null, .null, .null]))], [(q 0, .inl (kA 4, 4, .inr (.inr (.inr (.inr (rr (g 0)))))))], [(g 0 j, .inr (3, [.int 0, .int 0, .int 1, .ref (qg 3), .ref (qg 4), .ref (qg 5), .ref (qg 6), .ref (qg 7), .ref (qg 8), .ref (qg 9), .ref (qg 10), .ref (qg 11), .ref (qg 12), .ref (qg 13), .ref (qg 14), .ref (qg 15), .null, .int 0, .int 0]))], [(h2, .inr (13, mF qm x0Mo y0Mo))], [(qm 3, .inl (kA 0, 4, .inl (fun _ => 0)))], [(qm 2, .inl (kA 0, 66836, .inl all0))]]) hP hD [2, 3, 4, 5, 6, 7, 8, 10, 11, 12, 13, 14, 15, 16, 17, 18, 19, 20, 21, 22, 23, 24, 25, 26, 27, 28, 29, 30, 31, 32, 33, 34, 35, 36, 37, 38, 39, 40, 41, 42, 43, 44, 45, 46, 47, 48, 49, 50, 51, 52, 53, 54, 55, 56, 57, 58, 59, 60, 61, 62, 63, 64, 65, 66, 67, 68, 69, 70, 71, 72, 73, 74, 75, 76, 77, 78, 79, 80, 81, 82, 83, 84, 85, 86, 87, 88, 89, 90, 91, 92, 93, 94, 95, 96, 97, 98, 101, 102, 103, 104, 105, 107, 108, 109, 110, 111, 112, 113, 114, 115, 116, 117, 118, 119, 120, 121, 122, 123, 124, 125, 126, 127, 128, 129, 130, 131, 132, 133, 134, 135, 136, 137, 138, 139, 140, 141, 142, 143, 144, 145, 146, 147, 148, 149, 150, 151, 152, 153, 154, 155, 156, 157, 158, 159, 160, 161, 162, 163, 164, 165, 166, 167, 168, 169, 170, 171, 172, 173, 174, 175, 176, 177, 178, 179, 180, 181, 182, 183, 184, 185, 186, 187, 188, 189, 190, 191, 192, 193, 194, 195, 196, 197, 198, 199, 200, 201, 202, 203, 204, 205, 206, 207, 208, 209, 210, 211, 212, 213, 214, 215, 216, 217] [0, 1, 9, 99, 106, 100] 218 rfl (by decide +kernel) rfl
    exact lf_far_2 l C0 h h2 q qg qm g j v2 v3 hj hv1 hv2 hv3 hK hN hP hD hS hl
set_option maxRecDepth 100000 in
set_option maxHeartbeats 8000000 in
/-- map: the case of the law -/
theorem op_map {p : Program} {e : Env} {s : State} {m : MethodId} {below : List Frame} {meth : Method} {c : Code} (l : Launch) {b : Nat} {xs : Nat → Int32} (C0 : lw_At p s m meth c b 6 xs) {D : va_G} {kA : Nat → ClassId} (h h2 : Nat) (u1 : Nat → Nat → Nat) (qm : Nat → Nat) (v1 : Int32) (hv1 : xs 1 = v1) {H : Heap} {locs : List Loc} {ls : Array Slot} (hK : va_K D classes (TY kA) s) (hN : nst s) (hpost : u1 50 1 = u1 0 4 ∧ u1 50 3 = u1 0 5 ∧ u1 50 2 = u1 1 4 ∧ u1 50 4 = u1 3 1 ∧ u1 8 0 = u1 50 5 ∧ u1 12 0 = u1 50 9 ∧ u1 16 0 = u1 50 13 ∧ u1 20 0 = u1 50 17) (hP : va_P D classes (cat [cat (sHo kA h u1), cat (sMo kA h2 qm)]) H) (hD : va_D (fun q : Nat => s.heap.size ≤ q) (cat [cat (sHo kA h u1), cat (sMo kA h2 qm)])) (hS : va_S (fun q : Nat => s.heap.size ≤ q) s.heap H locs) (hl : lv_has ls 4 [(3, .int 0), (2, .ref h2), (1, .ref h), (0, .ref b)]) : W p l e room_1 s m #[Value.ref b] below meth c H locs 368 365796 (lw_Z below #[Value.ref b] s) (F0 m 656 ls []) := by
  obtain ⟨q, qg, qf, qn, qd, qr, qs, qe, qp, g, hP, hD⟩ := big (j := 0) (by decide) hpost hP hD
  obtain ⟨hP, hD⟩ := k_drop (sg := bH kA h q qg qf qn qd qr qs qe qp g 0 ++ bM kA h2 qm) (gc := [[(h, .inr (12, [.ref (q 0), .ref (q 1), .ref (q 2), .ref (q 3), .ref (q 4), .ref (q 5), .ref (q 6), .int 0, .int ((-1)), .ref (q 9), .ref (q 10), .int 0, .int 0, .ref (q 13), .int 0, .int 0, .null, .null, .null, .null, .null]))], [(h2, .inr (13, mF qm x0Mo y0Mo))]]) hP hD [1, 2, 3, 4, 5, 6, 7, 8, 9, 10, 11, 12, 13, 14, 15, 16, 17, 18, 19, 20, 21, 22, 23, 24, 25, 26, 27, 28, 29, 30, 31, 32, 33, 34, 35, 36, 37, 38, 39, 40, 41, 42, 43, 44, 45, 46, 47, 48, 49, 50, 51, 52, 53, 54, 55, 56, 57, 58, 59, 60, 61, 62, 63, 64, 65, 66, 67, 68, 69, 70, 71, 72, 73, 74, 75, 76, 77, 78, 79, 80, 81, 82, 83, 84, 85, 86, 87, 88, 89, 90, 91, 92, 93, 94, 95, 96, 97, 98, 100, 101, 102, 103, 104, 105, 106, 107, 108, 109, 110, 111, 112, 113, 114, 115, 116, 117, 118, 119, 120, 121, 122, 123, 124, 125, 126, 127, 128, 129, 130, 131, 132, 133, 134, 135, 136, 137, 138, 139, 140, 141, 142, 143, 144, 145, 146, 147, 148, 149, 150, 151, 152, 153, 154, 155, 156, 157, 158, 159, 160, 161, 162, 163, 164, 165, 166, 167, 168, 169, 170, 171, 172, 173, 174, 175, 176, 177, 178, 179, 180, 181, 182, 183, 184, 185, 186, 187, 188, 189, 190, 191, 192, 193, 194, 195, 196, 197, 198, 199, 200, 201, 202, 203, 204, 205, 206, 207, 208, 209, 210, 211, 212, 213, 214, 215, 216, 217] [0, 99] 218 rfl (by decide +kernel) rfl
  exact lf_map_1 l C0 h h2 q qm v1 hv1 hK hN hP hD hS hl
set_option maxRecDepth 100000 in
set_option maxHeartbeats 8000000 in
/-- draw: the case of the law -/
theorem op_draw {p : Program} {e : Env} {s : State} {m : MethodId} {below : List Frame} {meth : Method} {c : Code} (l : Launch) {b : Nat} {xs : Nat → Int32} (C0 : lw_At p s m meth c b 6 xs) {D : va_G} {kA : Nat → ClassId} (h h2 : Nat) (u1 : Nat → Nat → Nat) (qm : Nat → Nat) (v1 : Int32) (v2 : Int32) (v3 : Int32) (hv1 : xs 1 = v1) (hv2 : xs 2 = v2) (hv3 : xs 3 = v3) {H : Heap} {locs : List Loc} {ls : Array Slot} (hK : va_K D classes (TY kA) s) (hN : nst s) (hpost : u1 50 1 = u1 0 4 ∧ u1 50 3 = u1 0 5 ∧ u1 50 2 = u1 1 4 ∧ u1 50 4 = u1 3 1 ∧ u1 8 0 = u1 50 5 ∧ u1 12 0 = u1 50 9 ∧ u1 16 0 = u1 50 13 ∧ u1 20 0 = u1 50 17) (hP : va_P D classes (cat [cat (sHo kA h u1), cat (sMo kA h2 qm)]) H) (hD : va_D (fun q : Nat => s.heap.size ≤ q) (cat [cat (sHo kA h u1), cat (sMo kA h2 qm)])) (hS : va_S (fun q : Nat => s.heap.size ≤ q) s.heap H locs) (hl : lv_has ls 4 [(3, .int 0), (2, .ref h2), (1, .ref h), (0, .ref b)]) : W p l e room_1 s m #[Value.ref b] below meth c H locs 368 365796 (lw_Z below #[Value.ref b] s) (F0 m 765 ls []) := by
  rcases place_no v1 with hg | ⟨j, hj, ej⟩
  · have hgM : sp_Mo_isPlace v1 = 0 := by rw [← place_iff]; exact hg
    obtain ⟨q, qg, qf, qn, qd, qr, qs, qe, qp, g, hP, hD⟩ := big (j := 0) (by decide) hpost hP hD
    obtain ⟨hP, hD⟩ := k_drop (sg := bH kA h q qg qf qn qd qr qs qe qp g 0 ++ bM kA h2 qm) (gc := [[(h, .inr (12, [.ref (q 0), .ref (q 1), .ref (q 2), .ref (q 3), .ref (q 4), .ref (q 5), .ref (q 6), .int 0, .int ((-1)), .ref (q 9), .ref (q 10), .int 0, .int 0, .ref (q 13), .int 0, .int 0, .null, .null, .null, .null, .null]))], [(h2, .inr (13, mF qm x0Mo y0Mo))]]) hP hD [1, 2, 3, 4, 5, 6, 7, 8, 9, 10, 11, 12, 13, 14, 15, 16, 17, 18, 19, 20, 21, 22, 23, 24, 25, 26, 27, 28, 29, 30, 31, 32, 33, 34, 35, 36, 37, 38, 39, 40, 41, 42, 43, 44, 45, 46, 47, 48, 49, 50, 51, 52, 53, 54, 55, 56, 57, 58, 59, 60, 61, 62, 63, 64, 65, 66, 67, 68, 69, 70, 71, 72, 73, 74, 75, 76, 77, 78, 79, 80, 81, 82, 83, 84, 85, 86, 87, 88, 89, 90, 91, 92, 93, 94, 95, 96, 97, 98, 100, 101, 102, 103, 104, 105, 106, 107, 108, 109, 110, 111, 112, 113, 114, 115, 116, 117, 118, 119, 120, 121, 122, 123, 124, 125, 126, 127, 128, 129, 130, 131, 132, 133, 134, 135, 136, 137, 138, 139, 140, 141, 142, 143, 144, 145, 146, 147, 148, 149, 150, 151, 152, 153, 154, 155, 156, 157, 158, 159, 160, 161, 162, 163, 164, 165, 166, 167, 168, 169, 170, 171, 172, 173, 174, 175, 176, 177, 178, 179, 180, 181, 182, 183, 184, 185, 186, 187, 188, 189, 190, 191, 192, 193, 194, 195, 196, 197, 198, 199, 200, 201, 202, 203, 204, 205, 206, 207, 208, 209, 210, 211, 212, 213, 214, 215, 216, 217] [0, 99] 218 rfl (by decide +kernel) rfl
    exact lf_draw_1 l C0 h h2 q qm v1 v2 v3 hg hgM hv1 hv2 hv3 hK hN hP hD hS hl
  · subst ej
    obtain ⟨q, qg, qf, qn, qd, qr, qs, qe, qp, g, hP, hD⟩ := big (j := j) hj hpost hP hD
    obtain ⟨hP, hD⟩ := k_drop (sg := bH kA h q qg qf qn qd qr qs qe qp g j ++ bM kA h2 qm) (gc := [[(h, .inr (12, [.ref (q 0), .ref (q 1), .ref (q 2), .ref (q 3), .ref (q 4), .ref (q 5), .ref (q 6), .int 0, .int ((-1)), .ref (q 9), .ref (q 10), .int 0, .int 0, .ref (q 13), .int 0, .int 0, .null, .null, .null, .null, .null]))], [(q 0, .inl (kA 4, 4, .inr (.inr (.inr (.inr (rr (g 0)))))))], [(g 0 j, .inr (3, [.int 0, .int 0, .int 1, .ref (qg 3), .ref (qg 4), .ref (qg 5), .ref (qg 6), .ref (qg 7), .ref (qg 8), .ref (qg 9), .ref (qg 10), .ref (qg 11), .ref (qg 12), .ref (qg 13), .ref (qg 14), .ref (qg 15), .null, .int 0, .int 0]))], [(h2, .inr (13, mF qm x0Mo y0Mo))], [(qm 3, .inl (kA 0, 4, .inl (fun _ => 0)))], [(qm 2, .inl (kA 0, 66836, .inl all0))]]) hP hD [2, 3, 4, 5, 6, 7, 8, 10, 11, 12, 13, 14, 15, 16, 17, 18, 19, 20, 21, 22, 23, 24, 25, 26, 27, 28, 29, 30, 31, 32, 33, 34, 35, 36, 37, 38, 39, 40, 41, 42, 43, 44, 45, 46, 47, 48, 49, 50, 51, 52, 53, 54, 55, 56, 57, 58, 59, 60, 61, 62, 63, 64, 65, 66, 67, 68, 69, 70, 71, 72, 73, 74, 75, 76, 77, 78, 79, 80, 81, 82, 83, 84, 85, 86, 87, 88, 89, 90, 91, 92, 93, 94, 95, 96, 97, 98, 101, 102, 103, 104, 105, 107, 108, 109, 110, 111, 112, 113, 114, 115, 116, 117, 118, 119, 120, 121, 122, 123, 124, 125, 126, 127, 128, 129, 130, 131, 132, 133, 134, 135, 136, 137, 138, 139, 140, 141, 142, 143, 144, 145, 146, 147, 148, 149, 150, 151, 152, 153, 154, 155, 156, 157, 158, 159, 160, 161, 162, 163, 164, 165, 166, 167, 168, 169, 170, 171, 172, 173, 174, 175, 176, 177, 178, 179, 180, 181, 182, 183, 184, 185, 186, 187, 188, 189, 190, 191, 192, 193, 194, 195, 196, 197, 198, 199, 200, 201, 202, 203, 204, 205, 206, 207, 208, 209, 210, 211, 212, 213, 214, 215, 216, 217] [0, 1, 9, 99, 106, 100] 218 rfl (by decide +kernel) rfl
    exact lf_draw_2 l C0 h h2 q qg qm g j v2 v3 hj hv1 hv2 hv3 hK hN hP hD hS hl
