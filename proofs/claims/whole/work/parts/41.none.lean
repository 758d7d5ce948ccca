theorem wm_917 : (Cond.code ({ cls := "DrawingHouse", name := "node", desc := "(III)I" } : MethodName) prog_1_method_6_code (4 : Nat) (Option.some ClassFile.FieldType.int) : Cond) ∈ lw_g := lw_gi (lw_c4 (List.mem_of_getElem? (i := 197) rfl)) rfl
theorem wm_926 : (Cond.code ({ cls := "DrawingHouse", name := "edge", desc := "(III)I" } : MethodName) prog_1_method_7_code (4 : Nat) (Option.some ClassFile.FieldType.int) : Cond) ∈ lw_g := lw_gi (lw_c4 (List.mem_of_getElem? (i := 206) rfl)) rfl
theorem wm_927 : (Cond.methodLink "DrawingHouse" (197 : Nat) ({ cls := "DrawingHouse$Graph", name := "hasEdge", desc := "(I)Z" } : MethodName) : Cond) ∈ lw_g := lw_gi (lw_c4 (List.mem_of_getElem? (i := 207) rfl)) rfl
theorem wm_928 : (Cond.instanceMethod ({ cls := "DrawingHouse$Graph", name := "hasEdge", desc := "(I)Z" } : MethodName) : Cond) ∈ lw_g := lw_gi (lw_c4 (List.mem_of_getElem? (i := 208) rfl)) rfl
theorem wm_929 : (Cond.selects "DrawingHouse$Graph" ({ cls := "DrawingHouse$Graph", name := "hasEdge", desc := "(I)Z" } : MethodName) ({ cls := "DrawingHouse$Graph", name := "hasEdge", desc := "(I)Z" } : MethodName) : Cond) ∈ lw_g := lw_gi (lw_c4 (List.mem_of_getElem? (i := 209) rfl)) rfl
theorem wm_938 : (Cond.code ({ cls := "DrawingHouse", name := "group", desc := "(III)I" } : MethodName) prog_1_method_8_code (4 : Nat) (Option.some ClassFile.FieldType.int) : Cond) ∈ lw_g := lw_gi (lw_c4 (List.mem_of_getElem? (i := 218) rfl)) rfl
theorem wm_939 : (Cond.methodLink "DrawingHouse" (218 : Nat) ({ cls := "DrawingHouse$Graph", name := "hasGroup", desc := "(I)Z" } : MethodName) : Cond) ∈ lw_g := lw_gi (lw_c4 (List.mem_of_getElem? (i := 219) rfl)) rfl
theorem wm_940 : (Cond.instanceMethod ({ cls := "DrawingHouse$Graph", name := "hasGroup", desc := "(I)Z" } : MethodName) : Cond) ∈ lw_g := lw_gi (lw_c4 (List.mem_of_getElem? (i := 220) rfl)) rfl
theorem wm_941 : (Cond.selects "DrawingHouse$Graph" ({ cls := "DrawingHouse$Graph", name := "hasGroup", desc := "(I)Z" } : MethodName) ({ cls := "DrawingHouse$Graph", name := "hasGroup", desc := "(I)Z" } : MethodName) : Cond) ∈ lw_g := lw_gi (lw_c4 (List.mem_of_getElem? (i := 221) rfl)) rfl
theorem wm_3034 : (Cond.methodLink "DrawingHouseModel" (401 : Nat) ({ cls := "DrawingHouseModel", name := "edges", desc := "()I" } : MethodName) : Cond) ∈ lw_g := lw_gi (lw_c13 (List.mem_of_getElem? (i := 154) rfl)) rfl
theorem wm_3036 : (Cond.instanceMethod ({ cls := "DrawingHouseModel", name := "edges", desc := "()I" } : MethodName) : Cond) ∈ lw_g := lw_gi (lw_c13 (List.mem_of_getElem? (i := 156) rfl)) rfl
theorem wm_3067 : (Cond.methodLink "DrawingHouseModel" (509 : Nat) ({ cls := "DrawingHouseModel", name := "groups", desc := "()I" } : MethodName) : Cond) ∈ lw_g := lw_gi (lw_c13 (List.mem_of_getElem? (i := 187) rfl)) rfl
theorem wm_3069 : (Cond.instanceMethod ({ cls := "DrawingHouseModel", name := "groups", desc := "()I" } : MethodName) : Cond) ∈ lw_g := lw_gi (lw_c13 (List.mem_of_getElem? (i := 189) rfl)) rfl
theorem wm_3303 : (Cond.code ({ cls := "DrawingHouseModel", name := "node", desc := "(III)I" } : MethodName) prog_15_method_99_code (7 : Nat) (Option.some ClassFile.FieldType.int) : Cond) ∈ lw_g := lw_gi (lw_c14 (List.mem_of_getElem? (i := 183) rfl)) rfl
theorem wm_3335 : (Cond.code ({ cls := "DrawingHouseModel", name := "edge", desc := "(III)I" } : MethodName) prog_15_method_100_code (5 : Nat) (Option.some ClassFile.FieldType.int) : Cond) ∈ lw_g := lw_gi (lw_c14 (List.mem_of_getElem? (i := 215) rfl)) rfl
theorem wm_3347 : (Cond.code ({ cls := "DrawingHouseModel", name := "group", desc := "(III)I" } : MethodName) prog_15_method_103_code (4 : Nat) (Option.some ClassFile.FieldType.int) : Cond) ∈ lw_g := lw_gi (lw_c14 (List.mem_of_getElem? (i := 227) rfl)) rfl
theorem wv_13_6 : (Cond.selects "DrawingHouseModel" ⟨"DrawingHouseModel", "edges", "()I"⟩ ⟨"DrawingHouseModel", "edges", "()I"⟩ : Cond) ∈ lw_g := lw_gi (List.mem_append_left _ (List.mem_map.mpr ⟨_, lw_v13 (List.mem_of_getElem? (i := 6) rfl), rfl⟩)) rfl
theorem wv_13_14 : (Cond.selects "DrawingHouseModel" ⟨"DrawingHouseModel", "groups", "()I"⟩ ⟨"DrawingHouseModel", "groups", "()I"⟩ : Cond) ∈ lw_g := lw_gi (List.mem_append_left _ (List.mem_map.mpr ⟨_, lw_v13 (List.mem_of_getElem? (i := 14) rfl), rfl⟩)) rfl
abbrev b_Ho_node : ByteArray := prog_1_method_6_code
def y_Ho_node : MethodName := ⟨"DrawingHouse", "node", "(III)I"⟩
abbrev z_Ho_node : List Cond := Cond.code y_Ho_node b_Ho_node 4 (some .int) :: lw_g
theorem d_Ho_node_0 : decode b_Ho_node 0 = .ok (.iload_n 1, 1) := by decide +kernel
theorem d_Ho_node_1 : decode b_Ho_node 1 = .ok (.invokestatic 115, 3) := by decide +kernel
theorem d_Ho_node_4 : decode b_Ho_node 4 = .ok (.ifCond .eq 16, 3) := by decide +kernel
theorem d_Ho_node_20 : decode b_Ho_node 20 = .ok (.iconst (-1), 1) := by decide +kernel
theorem d_Ho_node_21 : decode b_Ho_node 21 = .ok (.ireturn, 1) := by decide +kernel
theorem d_Ho_node_7 : decode b_Ho_node 7 = .ok (.aload_n 0, 1) := by decide +kernel
theorem d_Ho_node_8 : decode b_Ho_node 8 = .ok (.getfield 13, 3) := by decide +kernel
theorem d_Ho_node_11 : decode b_Ho_node 11 = .ok (.iload_n 1, 1) := by decide +kernel
theorem d_Ho_node_12 : decode b_Ho_node 12 = .ok (.aaload, 1) := by decide +kernel
theorem d_Ho_node_13 : decode b_Ho_node 13 = .ok (.iload_n 2, 1) := by decide +kernel
theorem d_Ho_node_14 : decode b_Ho_node 14 = .ok (.invokevirtual 166, 3) := by decide +kernel
theorem d_Ho_node_17 : decode b_Ho_node 17 = .ok (.ifCond .ne 5, 3) := by decide +kernel
abbrev b_Ho_edge : ByteArray := prog_1_method_7_code
def y_Ho_edge : MethodName := ⟨"DrawingHouse", "edge", "(III)I"⟩
abbrev z_Ho_edge : List Cond := Cond.code y_Ho_edge b_Ho_edge 4 (some .int) :: lw_g
theorem d_Ho_edge_0 : decode b_Ho_edge 0 = .ok (.iload_n 1, 1) := by decide +kernel
theorem d_Ho_edge_1 : decode b_Ho_edge 1 = .ok (.invokestatic 115, 3) := by decide +kernel
theorem d_Ho_edge_4 : decode b_Ho_edge 4 = .ok (.ifCond .eq 16, 3) := by decide +kernel
theorem d_Ho_edge_20 : decode b_Ho_edge 20 = .ok (.iconst (-1), 1) := by decide +kernel
theorem d_Ho_edge_21 : decode b_Ho_edge 21 = .ok (.ireturn, 1) := by decide +kernel
theorem d_Ho_edge_7 : decode b_Ho_edge 7 = .ok (.aload_n 0, 1) := by decide +kernel
theorem d_Ho_edge_8 : decode b_Ho_edge 8 = .ok (.getfield 13, 3) := by decide +kernel
theorem d_Ho_edge_11 : decode b_Ho_edge 11 = .ok (.iload_n 1, 1) := by decide +kernel
theorem d_Ho_edge_12 : decode b_Ho_edge 12 = .ok (.aaload, 1) := by decide +kernel
theorem d_Ho_edge_13 : decode b_Ho_edge 13 = .ok (.iload_n 2, 1) := by decide +kernel
theorem d_Ho_edge_14 : decode b_Ho_edge 14 = .ok (.invokevirtual 197, 3) := by decide +kernel
theorem d_Ho_edge_17 : decode b_Ho_edge 17 = .ok (.ifCond .ne 5, 3) := by decide +kernel
abbrev b_Ho_group : ByteArray := prog_1_method_8_code
def y_Ho_group : MethodName := ⟨"DrawingHouse", "group", "(III)I"⟩
abbrev z_Ho_group : List Cond := Cond.code y_Ho_group b_Ho_group 4 (some .int) :: lw_g
theorem d_Ho_group_0 : decode b_Ho_group 0 = .ok (.iload_n 1, 1) := by decide +kernel
theorem d_Ho_group_1 : decode b_Ho_group 1 = .ok (.invokestatic 115, 3) := by decide +kernel
theorem d_Ho_group_4 : decode b_Ho_group 4 = .ok (.ifCond .eq 16, 3) := by decide +kernel
theorem d_Ho_group_20 : decode b_Ho_group 20 = .ok (.iconst (-1), 1) := by decide +kernel
theorem d_Ho_group_21 : decode b_Ho_group 21 = .ok (.ireturn, 1) := by decide +kernel
theorem d_Ho_group_7 : decode b_Ho_group 7 = .ok (.aload_n 0, 1) := by decide +kernel
theorem d_Ho_group_8 : decode b_Ho_group 8 = .ok (.getfield 13, 3) := by decide +kernel
theorem d_Ho_group_11 : decode b_Ho_group 11 = .ok (.iload_n 1, 1) := by decide +kernel
theorem d_Ho_group_12 : decode b_Ho_group 12 = .ok (.aaload, 1) := by decide +kernel
theorem d_Ho_group_13 : decode b_Ho_group 13 = .ok (.iload_n 2, 1) := by decide +kernel
theorem d_Ho_group_14 : decode b_Ho_group 14 = .ok (.invokevirtual 218, 3) := by decide +kernel
theorem d_Ho_group_17 : decode b_Ho_group 17 = .ok (.ifCond .ne 5, 3) := by decide +kernel
abbrev b_Mo_node : ByteArray := prog_15_method_99_code
def y_Mo_node : MethodName := ⟨"DrawingHouseModel", "node", "(III)I"⟩
abbrev z_Mo_node : List Cond := Cond.code y_Mo_node b_Mo_node 7 (some .int) :: lw_g
theorem d_Mo_node_0 : decode b_Mo_node 0 = .ok (.iload_n 1, 1) := by decide +kernel
theorem d_Mo_node_1 : decode b_Mo_node 1 = .ok (.invokestatic 521, 3) := by decide +kernel
theorem d_Mo_node_4 : decode b_Mo_node 4 = .ok (.ifCond .ne 5, 3) := by decide +kernel
theorem d_Mo_node_7 : decode b_Mo_node 7 = .ok (.iconst (-1), 1) := by decide +kernel
theorem d_Mo_node_8 : decode b_Mo_node 8 = .ok (.ireturn, 1) := by decide +kernel
theorem d_Mo_node_9 : decode b_Mo_node 9 = .ok (.aload_n 0, 1) := by decide +kernel
theorem d_Mo_node_10 : decode b_Mo_node 10 = .ok (.iload_n 1, 1) := by decide +kernel
theorem d_Mo_node_11 : decode b_Mo_node 11 = .ok (.invokevirtual 527, 3) := by decide +kernel
theorem d_Mo_node_14 : decode b_Mo_node 14 = .ok (.iload_n 2, 1) := by decide +kernel
theorem d_Mo_node_15 : decode b_Mo_node 15 = .ok (.iconst 0, 1) := by decide +kernel
theorem d_Mo_node_16 : decode b_Mo_node 16 = .ok (.aload_n 0, 1) := by decide +kernel
theorem d_Mo_node_17 : decode b_Mo_node 17 = .ok (.invokevirtual 475, 3) := by decide +kernel
theorem d_Mo_node_20 : decode b_Mo_node 20 = .ok (.iconst 1, 1) := by decide +kernel
theorem d_Mo_node_21 : decode b_Mo_node 21 = .ok (.isub, 1) := by decide +kernel
theorem d_Mo_node_22 : decode b_Mo_node 22 = .ok (.invokestatic 387, 3) := by decide +kernel
theorem d_Mo_node_25 : decode b_Mo_node 25 = .ok (.ifCond .ne 5, 3) := by decide +kernel
theorem d_Mo_node_28 : decode b_Mo_node 28 = .ok (.iconst (-1), 1) := by decide +kernel
theorem d_Mo_node_29 : decode b_Mo_node 29 = .ok (.ireturn, 1) := by decide +kernel
abbrev b_Mo_edge : ByteArray := prog_15_method_100_code
def y_Mo_edge : MethodName := ⟨"DrawingHouseModel", "edge", "(III)I"⟩
abbrev z_Mo_edge : List Cond := Cond.code y_Mo_edge b_Mo_edge 5 (some .int) :: lw_g
theorem d_Mo_edge_0 : decode b_Mo_edge 0 = .ok (.iload_n 1, 1) := by decide +kernel
theorem d_Mo_edge_1 : decode b_Mo_edge 1 = .ok (.invokestatic 521, 3) := by decide +kernel
theorem d_Mo_edge_4 : decode b_Mo_edge 4 = .ok (.ifCond .ne 5, 3) := by decide +kernel
theorem d_Mo_edge_7 : decode b_Mo_edge 7 = .ok (.iconst (-1), 1) := by decide +kernel
theorem d_Mo_edge_8 : decode b_Mo_edge 8 = .ok (.ireturn, 1) := by decide +kernel
theorem d_Mo_edge_9 : decode b_Mo_edge 9 = .ok (.aload_n 0, 1) := by decide +kernel
theorem d_Mo_edge_10 : decode b_Mo_edge 10 = .ok (.iload_n 1, 1) := by decide +kernel
theorem d_Mo_edge_11 : decode b_Mo_edge 11 = .ok (.invokevirtual 527, 3) := by decide +kernel
theorem d_Mo_edge_14 : decode b_Mo_edge 14 = .ok (.iload_n 2, 1) := by decide +kernel
theorem d_Mo_edge_15 : decode b_Mo_edge 15 = .ok (.iconst 0, 1) := by decide +kernel
theorem d_Mo_edge_16 : decode b_Mo_edge 16 = .ok (.aload_n 0, 1) := by decide +kernel
theorem d_Mo_edge_17 : decode b_Mo_edge 17 = .ok (.invokevirtual 401, 3) := by decide +kernel
theorem d_Mo_edge_20 : decode b_Mo_edge 20 = .ok (.iconst 1, 1) := by decide +kernel
theorem d_Mo_edge_21 : decode b_Mo_edge 21 = .ok (.isub, 1) := by decide +kernel
theorem d_Mo_edge_22 : decode b_Mo_edge 22 = .ok (.invokestatic 387, 3) := by decide +kernel
theorem d_Mo_edge_25 : decode b_Mo_edge 25 = .ok (.ifCond .ne 5, 3) := by decide +kernel
theorem d_Mo_edge_28 : decode b_Mo_edge 28 = .ok (.iconst (-1), 1) := by decide +kernel
theorem d_Mo_edge_29 : decode b_Mo_edge 29 = .ok (.ireturn, 1) := by decide +kernel
abbrev b_Mo_group : ByteArray := prog_15_method_103_code
def y_Mo_group : MethodName := ⟨"DrawingHouseModel", "group", "(III)I"⟩
abbrev z_Mo_group : List Cond := Cond.code y_Mo_group b_Mo_group 4 (some .int) :: lw_g
theorem d_Mo_group_0 : decode b_Mo_group 0 = .ok (.iload_n 1, 1) := by decide +kernel
theorem d_Mo_group_1 : decode b_Mo_group 1 = .ok (.invokestatic 521, 3) := by decide +kernel
theorem d_Mo_group_4 : decode b_Mo_group 4 = .ok (.ifCond .ne 5, 3) := by decide +kernel
theorem d_Mo_group_7 : decode b_Mo_group 7 = .ok (.iconst (-1), 1) := by decide +kernel
theorem d_Mo_group_8 : decode b_Mo_group 8 = .ok (.ireturn, 1) := by decide +kernel
theorem d_Mo_group_9 : decode b_Mo_group 9 = .ok (.aload_n 0, 1) := by decide +kernel
theorem d_Mo_group_10 : decode b_Mo_group 10 = .ok (.iload_n 1, 1) := by decide +kernel
theorem d_Mo_group_11 : decode b_Mo_group 11 = .ok (.invokevirtual 527, 3) := by decide +kernel
theorem d_Mo_group_14 : decode b_Mo_group 14 = .ok (.iload_n 2, 1) := by decide +kernel
theorem d_Mo_group_15 : decode b_Mo_group 15 = .ok (.iconst 0, 1) := by decide +kernel
theorem d_Mo_group_16 : decode b_Mo_group 16 = .ok (.aload_n 0, 1) := by decide +kernel
theorem d_Mo_group_17 : decode b_Mo_group 17 = .ok (.invokevirtual 509, 3) := by decide +kernel
theorem d_Mo_group_20 : decode b_Mo_group 20 = .ok (.iconst 1, 1) := by decide +kernel
theorem d_Mo_group_21 : decode b_Mo_group 21 = .ok (.isub, 1) := by decide +kernel
theorem d_Mo_group_22 : decode b_Mo_group 22 = .ok (.invokestatic 387, 3) := by decide +kernel
theorem d_Mo_group_25 : decode b_Mo_group 25 = .ok (.ifCond .ne 5, 3) := by decide +kernel
theorem d_Mo_group_28 : decode b_Mo_group 28 = .ok (.iconst (-1), 1) := by decide +kernel
theorem d_Mo_group_29 : decode b_Mo_group 29 = .ok (.ireturn, 1) := by decide +kernel
def sp_Ho_node_no  : Int32 := (-1)
set_option maxRecDepth 100000 in
set_option maxHeartbeats 4000000 in
/-- DrawingHouse.node(III)I -/
theorem c_Ho_node_no (l : Launch) (D : va_G) (kA : Nat → ClassId) (h : Nat) (q : Nat → Nat) (x : Nat → Int32) (o16 o17 o18 o19 o20 : Option Nat) (gp i1 w1 : Int32) (hg : sp_Ho_isPlace gp = 0)  : Ci l y_Ho_node z_Ho_node { frames := 1, cells := 0, slots := 0, locals := 24 } D classes (TY kA) [.ref h, .int gp, .int i1, .int w1] [[(h, .inr (12, fHo q x o16 o17 o18 o19 o20))]] (fun r (_ : Unit) => r = sp_Ho_node_no ) (fun _ => [[(h, .inr (12, fHo q x o16 o17 o18 o19 o20))]]) 0 0 := by
  intro sz
  refine k_met (cc := b_Ho_node) (maxL := 4) (ret := (some .int)) (by decide) rfl (Nat.le_of_ble_eq_true rfl) (fun p e s m below meth c ls X hl hB => ?_)
  obtain ⟨hsz, hP, hK, hD0, hN⟩ := hB
  subst hsz
  have hD := hD0.self (sz := s.heap.size)
  generalize hAe : va_A (cat [[(h, .inr (12, fHo q x o16 o17 o18 o19 o20))]]) s.heap.size = A at hD ⊢
  have hA : ∀ q : Nat, s.heap.size ≤ q → A q := fun q h => by rw [← hAe]; exact Or.inr h
  have hS : va_S A s.heap s.heap [] := va_S.rf
  obtain ⟨hx, hb, hml, hown, hts, hr, hlk, hnm⟩ := id X
  have hl : lv_has ls 4 [(0, .ref h), (1, .int gp), (2, .int i1), (3, .int w1)] := hl
  have hP : va_P D classes (cat [[(h, .inr (12, fHo q x o16 o17 o18 o19 o20))]]) s.heap := hP
  have hK : va_K D classes (TY kA) s := hK
  refine lv_iload_n (pc := 0) hx hb d_Ho_node_0 rfl (lv_at hl 1 rfl) ?_
  refine k_goI (gr := [[(h, .inr (12, fHo q x o16 o17 o18 o19 o20))]]) (k_rS (pc := 1) (As := [.int gp]) (rest := []) X (c_Ho_isPlace l D kA gp s.heap.size) rfl wm_633 wm_1 wm_631 wm_632 1 (by decide +kernel) ⟨Nat.le_of_ble_eq_true rfl, Nat.le_of_ble_eq_true rfl⟩ rfl rfl (k_pre hN hK hP hD [] [0] 1 rfl (by decide) rfl) rfl hl.1 rfl (Nat.le_of_ble_eq_true rfl) d_Ho_node_1 ⟨Nat.le_of_ble_eq_true rfl, Nat.le_of_ble_eq_true rfl⟩) hP hD hS hA [] [0] 1 rfl (by decide) rfl rfl (fun r1 u2 H locs hu2 hP hD hS => ?_)
  subst hu2
  have hP : va_P D classes (cat [[(h, .inr (12, fHo q x o16 o17 o18 o19 o20))]]) H := hP
  have hD : va_D A (cat [[(h, .inr (12, fHo q x o16 o17 o18 o19 o20))]]) := hD
  refine lv_if_eq (pc := 4) (tgt := 20) hx hb d_Ho_node_4 (by decide) (fun c1 => ?_) (fun c1 => absurd (hg) c1)
  refine lv_iconst (pc := 20) (v := -1) hx hb d_Ho_node_20 (by decide) ?_
  refine W.widen (k := 0) (n := 0) (Nat.le_of_ble_eq_true rfl) (Nat.le_of_ble_eq_true rfl) ?_
  exact W.iret (v := ((-1))) hx hb hr (fun t ht hW => ⟨⟨((-1)), (), rfl, (by unfold sp_Ho_node_no; rfl), by rw [ht]; exact hP, va_K.moved hW.alike hK, hD⟩, hS.F ht⟩) hS.2.2 d_Ho_node_21
def sp_Ho_node_nn  : Int32 := (-1)
set_option maxRecDepth 100000 in
set_option maxHeartbeats 4000000 in
/-- DrawingHouse.node(III)I -/
theorem c_Ho_node_nn (l : Launch) (D : va_G) (kA : Nat → ClassId) (h : Nat) (q : Nat → Nat) (x : Nat → Int32) (o16 o17 o18 o19 o20 : Option Nat) (g : Nat → Nat → Nat) (qg : Nat → Nat) (xg : Nat → Int32) (og : Option Nat) (j : Nat) (hj : j < 4) (i1 w1 : Int32) (hv : sp_Gr_hasNode xg i1 = 0)  : Ci l y_Ho_node z_Ho_node { frames := 1, cells := 0, slots := 0, locals := 24 } D classes (TY kA) [.ref h, .int (nI j), .int i1, .int w1] [[(h, .inr (12, fHo q x o16 o17 o18 o19 o20))], [(q 0, .inl (kA 4, 4, .inr (.inr (.inr (.inr (rr (g 0)))))))], [(g 0 j, .inr (3, fGr qg xg og))]] (fun r (_ : Unit) => r = sp_Ho_node_nn ) (fun _ => [[(h, .inr (12, fHo q x o16 o17 o18 o19 o20))], [(q 0, .inl (kA 4, 4, .inr (.inr (.inr (.inr (rr (g 0)))))))], [(g 0 j, .inr (3, fGr qg xg og))]]) 0 0 := by
  intro sz
  refine k_met (cc := b_Ho_node) (maxL := 4) (ret := (some .int)) (by decide) rfl (Nat.le_of_ble_eq_true rfl) (fun p e s m below meth c ls X hl hB => ?_)
  obtain ⟨hsz, hP, hK, hD0, hN⟩ := hB
  subst hsz
  have hD := hD0.self (sz := s.heap.size)
  generalize hAe : va_A (cat [[(h, .inr (12, fHo q x o16 o17 o18 o19 o20))], [(q 0, .inl (kA 4, 4, .inr (.inr (.inr (.inr (rr (g 0)))))))], [(g 0 j, .inr (3, fGr qg xg og))]]) s.heap.size = A at hD ⊢
  have hA : ∀ q : Nat, s.heap.size ≤ q → A q := fun q h => by rw [← hAe]; exact Or.inr h
  have hS : va_S A s.heap s.heap [] := va_S.rf
  obtain ⟨hx, hb, hml, hown, hts, hr, hlk, hnm⟩ := id X
  have hl : lv_has ls 4 [(0, .ref h), (1, .int (nI j)), (2, .int i1), (3, .int w1)] := hl
  have hP : va_P D classes (cat [[(h, .inr (12, fHo q x o16 o17 o18 o19 o20))], [(q 0, .inl (kA 4, 4, .inr (.inr (.inr (.inr (rr (g 0)))))))], [(g 0 j, .inr (3, fGr qg xg og))]]) s.heap := hP
  have hK : va_K D classes (TY kA) s := hK
  refine lv_iload_n (pc := 0) hx hb d_Ho_node_0 rfl (lv_at hl 1 rfl) ?_
  refine k_goI (gr := [[(h, .inr (12, fHo q x o16 o17 o18 o19 o20))], [(q 0, .inl (kA 4, 4, .inr (.inr (.inr (.inr (rr (g 0)))))))], [(g 0 j, .inr (3, fGr qg xg og))]]) (k_rS (pc := 1) (As := [.int (nI j)]) (rest := []) X (c_Ho_isPlace l D kA (nI j) s.heap.size) rfl wm_633 wm_1 wm_631 wm_632 1 (by decide +kernel) ⟨Nat.le_of_ble_eq_true rfl, Nat.le_of_ble_eq_true rfl⟩ rfl rfl (k_pre hN hK hP hD [] [0, 1, 2] 3 rfl (by decide) rfl) rfl hl.1 rfl (Nat.le_of_ble_eq_true rfl) d_Ho_node_1 ⟨Nat.le_of_ble_eq_true rfl, Nat.le_of_ble_eq_true rfl⟩) hP hD hS hA [] [0, 1, 2] 3 rfl (by decide) rfl rfl (fun r1 u2 H locs hu2 hP hD hS => ?_)
  subst hu2
  have hP : va_P D classes (cat [[(h, .inr (12, fHo q x o16 o17 o18 o19 o20))], [(q 0, .inl (kA 4, 4, .inr (.inr (.inr (.inr (rr (g 0)))))))], [(g 0 j, .inr (3, fGr qg xg og))]]) H := hP
  have hD : va_D A (cat [[(h, .inr (12, fHo q x o16 o17 o18 o19 o20))], [(q 0, .inl (kA 4, 4, .inr (.inr (.inr (.inr (rr (g 0)))))))], [(g 0 j, .inr (3, fGr qg xg og))]]) := hD
  refine lv_if_eq (pc := 4) (tgt := 20) hx hb d_Ho_node_4 (by decide) (fun c1 => absurd c1 (fun e => absurd ((place_ok hj).symm.trans e) (by decide))) (fun c1 => ?_)
  refine lv_aload_n (pc := 7) hx hb d_Ho_node_7 rfl (lv_at hl 0 rfl) ?_
  refine k_get (pc := 8) X hK hP 0 rfl rfl i_Ho 0 (by decide) wm_555 rfl rfl d_Ho_node_8 ?_
  refine lv_iload_n (pc := 11) hx hb d_Ho_node_11 rfl (lv_at hl 1 rfl) ?_
  refine k_ald (pc := 12) hx hb hK hP 1 4 rfl rfl (j) rfl (by omega) (by decide) (rr_at (by omega)) d_Ho_node_12 ?_
  refine lv_iload_n (pc := 13) hx hb d_Ho_node_13 rfl (lv_at hl 2 rfl) ?_
  refine k_goI (gr := [[(h, .inr (12, fHo q x o16 o17 o18 o19 o20))], [(q 0, .inl (kA 4, 4, .inr (.inr (.inr (.inr (rr (g 0)))))))]]) (k_rV (pc := 14) (As := [.int i1]) (rest := []) X (c_Gr_hasNode l D kA (g 0 j) qg xg og i1 H.size) rfl wm_921 wm_3 wm_918 wm_919 wm_920 1 (by decide +kernel) ⟨Nat.le_of_ble_eq_true rfl, Nat.le_of_ble_eq_true rfl⟩ rfl rfl (va_recv hK hP (ci := 3) (q0 := 2) rfl rfl) (k_pre hN hK hP hD [2] [0, 1] 3 rfl (by decide) rfl) rfl hl.1 rfl (Nat.le_of_ble_eq_true rfl) d_Ho_node_14 ⟨Nat.le_of_ble_eq_true rfl, Nat.le_of_ble_eq_true rfl⟩) hP hD hS hA [2] [0, 1] 3 rfl (by decide) rfl rfl (fun r3 u4 H locs hu4 hP hD hS => ?_)
  subst hu4
  have hP : va_P D classes (cat [[(h, .inr (12, fHo q x o16 o17 o18 o19 o20))], [(q 0, .inl (kA 4, 4, .inr (.inr (.inr (.inr (rr (g 0)))))))], [(g 0 j, .inr (3, fGr qg xg og))]]) H := hP
  have hD : va_D A (cat [[(h, .inr (12, fHo q x o16 o17 o18 o19 o20))], [(q 0, .inl (kA 4, 4, .inr (.inr (.inr (.inr (rr (g 0)))))))], [(g 0 j, .inr (3, fGr qg xg og))]]) := hD
  refine lv_if_ne (pc := 17) (tgt := 22) hx hb d_Ho_node_17 (by decide) (fun c1 => absurd (hv) c1) (fun c1 => ?_)
  refine lv_iconst (pc := 20) (v := -1) hx hb d_Ho_node_20 (by decide) ?_
  refine W.widen (k := 0) (n := 0) (Nat.le_of_ble_eq_true rfl) (Nat.le_of_ble_eq_true rfl) ?_
  exact W.iret (v := ((-1))) hx hb hr (fun t ht hW => ⟨⟨((-1)), (), rfl, (by unfold sp_Ho_node_nn; rfl), by rw [ht]; exact hP, va_K.moved hW.alike hK, hD⟩, hS.F ht⟩) hS.2.2 d_Ho_node_21
def sp_Ho_edge_no  : Int32 := (-1)
set_option maxRecDepth 100000 in
set_option maxHeartbeats 4000000 in
/-- DrawingHouse.edge(III)I -/
theorem c_Ho_edge_no (l : Launch) (D : va_G) (kA : Nat → ClassId) (h : Nat) (q : Nat → Nat) (x : Nat → Int32) (o16 o17 o18 o19 o20 : Option Nat) (gp i1 w1 : Int32) (hg : sp_Ho_isPlace gp = 0)  : Ci l y_Ho_edge z_Ho_edge { frames := 1, cells := 0, slots := 0, locals := 24 } D classes (TY kA) [.ref h, .int gp, .int i1, .int w1] [[(h, .inr (12, fHo q x o16 o17 o18 o19 o20))]] (fun r (_ : Unit) => r = sp_Ho_edge_no ) (fun _ => [[(h, .inr (12, fHo q x o16 o17 o18 o19 o20))]]) 0 0 := by
  intro sz
  refine k_met (cc := b_Ho_edge) (maxL := 4) (ret := (some .int)) (by decide) rfl (Nat.le_of_ble_eq_true rfl) (fun p e s m below meth c ls X hl hB => ?_)
  obtain ⟨hsz, hP, hK, hD0, hN⟩ := hB
  subst hsz
  have hD := hD0.self (sz := s.heap.size)
  generalize hAe : va_A (cat [[(h, .inr (12, fHo q x o16 o17 o18 o19 o20))]]) s.heap.size = A at hD ⊢
  have hA : ∀ q : Nat, s.heap.size ≤ q → A q := fun q h => by rw [← hAe]; exact Or.inr h
  have hS : va_S A s.heap s.heap [] := va_S.rf
  obtain ⟨hx, hb, hml, hown, hts, hr, hlk, hnm⟩ := id X
  have hl : lv_has ls 4 [(0, .ref h), (1, .int gp), (2, .int i1), (3, .int w1)] := hl
  have hP : va_P D classes (cat [[(h, .inr (12, fHo q x o16 o17 o18 o19 o20))]]) s.heap := hP
  have hK : va_K D classes (TY kA) s := hK
  refine lv_iload_n (pc := 0) hx hb d_Ho_edge_0 rfl (lv_at hl 1 rfl) ?_
  refine k_goI (gr := [[(h, .inr (12, fHo q x o16 o17 o18 o19 o20))]]) (k_rS (pc := 1) (As := [.int gp]) (rest := []) X (c_Ho_isPlace l D kA gp s.heap.size) rfl wm_633 wm_1 wm_631 wm_632 1 (by decide +kernel) ⟨Nat.le_of_ble_eq_true rfl, Nat.le_of_ble_eq_true rfl⟩ rfl rfl (k_pre hN hK hP hD [] [0] 1 rfl (by decide) rfl) rfl hl.1 rfl (Nat.le_of_ble_eq_true rfl) d_Ho_edge_1 ⟨Nat.le_of_ble_eq_true rfl, Nat.le_of_ble_eq_true rfl⟩) hP hD hS hA [] [0] 1 rfl (by decide) rfl rfl (fun r1 u2 H locs hu2 hP hD hS => ?_)
  subst hu2
  have hP : va_P D classes (cat [[(h, .inr (12, fHo q x o16 o17 o18 o19 o20))]]) H := hP
  have hD : va_D A (cat [[(h, .inr (12, fHo q x o16 o17 o18 o19 o20))]]) := hD
  refine lv_if_eq (pc := 4) (tgt := 20) hx hb d_Ho_edge_4 (by decide) (fun c1 => ?_) (fun c1 => absurd (hg) c1)
  refine lv_iconst (pc := 20) (v := -1) hx hb d_Ho_edge_20 (by decide) ?_
  refine W.widen (k := 0) (n := 0) (Nat.le_of_ble_eq_true rfl) (Nat.le_of_ble_eq_true rfl) ?_
  exact W.iret (v := ((-1))) hx hb hr (fun t ht hW => ⟨⟨((-1)), (), rfl, (by unfold sp_Ho_edge_no; rfl), by rw [ht]; exact hP, va_K.moved hW.alike hK, hD⟩, hS.F ht⟩) hS.2.2 d_Ho_edge_21
def sp_Ho_edge_nn  : Int32 := (-1)
set_option maxRecDepth 100000 in
set_option maxHeartbeats 4000000 in
/-- DrawingHouse.edge(III)I -/
theorem c_Ho_edge_nn (l : Launch) (D : va_G) (kA : Nat → ClassId) (h : Nat) (q : Nat → Nat) (x : Nat → Int32) (o16 o17 o18 o19 o20 : Option Nat) (g : Nat → Nat → Nat) (qg : Nat → Nat) (xg : Nat → Int32) (og : Option Nat) (j : Nat) (hj : j < 4) (i1 w1 : Int32) (hv : sp_Gr_hasEdge xg i1 = 0)  : Ci l y_Ho_edge z_Ho_edge { frames := 1, cells := 0, slots := 0, locals := 24 } D classes (TY kA) [.ref h, .int (nI j), .int i1, .int w1] [[(h, .inr (12, fHo q x o16 o17 o18 o19 o20))], [(q 0, .inl (kA 4, 4, .inr (.inr (.inr (.inr (rr (g 0)))))))], [(g 0 j, .inr (3, fGr qg xg og))]] (fun r (_ : Unit) => r = sp_Ho_edge_nn ) (fun _ => [[(h, .inr (12, fHo q x o16 o17 o18 o19 o20))], [(q 0, .inl (kA 4, 4, .inr (.inr (.inr (.inr (rr (g 0)))))))], [(g 0 j, .inr (3, fGr qg xg og))]]) 0 0 := by
  intro sz
  refine k_met (cc := b_Ho_edge) (maxL := 4) (ret := (some .int)) (by decide) rfl (Nat.le_of_ble_eq_true rfl) (fun p e s m below meth c ls X hl hB => ?_)
  obtain ⟨hsz, hP, hK, hD0, hN⟩ := hB
  subst hsz
  have hD := hD0.self (sz := s.heap.size)
  generalize hAe : va_A (cat [[(h, .inr (12, fHo q x o16 o17 o18 o19 o20))], [(q 0, .inl (kA 4, 4, .inr (.inr (.inr (.inr (rr (g 0)))))))], [(g 0 j, .inr (3, fGr qg xg og))]]) s.heap.size = A at hD ⊢
  have hA : ∀ q : Nat, s.heap.size ≤ q → A q := fun q h => by rw [← hAe]; exact Or.inr h
  have hS : va_S A s.heap s.heap [] := va_S.rf
  obtain ⟨hx, hb, hml, hown, hts, hr, hlk, hnm⟩ := id X
  have hl : lv_has ls 4 [(0, .ref h), (1, .int (nI j)), (2, .int i1), (3, .int w1)] := hl
  have hP : va_P D classes (cat [[(h, .inr (12, fHo q x o16 o17 o18 o19 o20))], [(q 0, .inl (kA 4, 4, .inr (.inr (.inr (.inr (rr (g 0)))))))], [(g 0 j, .inr (3, fGr qg xg og))]]) s.heap := hP
  have hK : va_K D classes (TY kA) s := hK
  refine lv_iload_n (pc := 0) hx hb d_Ho_edge_0 rfl (lv_at hl 1 rfl) ?_
  refine k_goI (gr := [[(h, .inr (12, fHo q x o16 o17 o18 o19 o20))], [(q 0, .inl (kA 4, 4, .inr (.inr (.inr (.inr (rr (g 0)))))))], [(g 0 j, .inr (3, fGr qg xg og))]]) (k_rS (pc := 1) (As := [.int (nI j)]) (rest := []) X (c_Ho_isPlace l D kA (nI j) s.heap.size) rfl wm_633 wm_1 wm_631 wm_632 1 (by decide +kernel) ⟨Nat.le_of_ble_eq_true rfl, Nat.le_of_ble_eq_true rfl⟩ rfl rfl (k_pre hN hK hP hD [] [0, 1, 2] 3 rfl (by decide) rfl) rfl hl.1 rfl (Nat.le_of_ble_eq_true rfl) d_Ho_edge_1 ⟨Nat.le_of_ble_eq_true rfl, Nat.le_of_ble_eq_true rfl⟩) hP hD hS hA [] [0, 1, 2] 3 rfl (by decide) rfl rfl (fun r1 u2 H locs hu2 hP hD hS => ?_)
  subst hu2
  have hP : va_P D classes (cat [[(h, .inr (12, fHo q x o16 o17 o18 o19 o20))], [(q 0, .inl (kA 4, 4, .inr (.inr (.inr (.inr (rr (g 0)))))))], [(g 0 j, .inr (3, fGr qg xg og))]]) H := hP
  have hD : va_D A (cat [[(h, .inr (12, fHo q x o16 o17 o18 o19 o20))], [(q 0, .inl (kA 4, 4, .inr (.inr (.inr (.inr (rr (g 0)))))))], [(g 0 j, .inr (3, fGr qg xg og))]]) := hD
  refine lv_if_eq (pc := 4) (tgt := 20) hx hb d_Ho_edge_4 (by decide) (fun c1 => absurd c1 (fun e => absurd ((place_ok hj).symm.trans e) (by decide))) (fun c1 => ?_)
  refine lv_aload_n (pc := 7) hx hb d_Ho_edge_7 rfl (lv_at hl 0 rfl) ?_
  refine k_get (pc := 8) X hK hP 0 rfl rfl i_Ho 0 (by decide) wm_555 rfl rfl d_Ho_edge_8 ?_
  refine lv_iload_n (pc := 11) hx hb d_Ho_edge_11 rfl (lv_at hl 1 rfl) ?_
  refine k_ald (pc := 12) hx hb hK hP 1 4 rfl rfl (j) rfl (by omega) (by decide) (rr_at (by omega)) d_Ho_edge_12 ?_
  refine lv_iload_n (pc := 13) hx hb d_Ho_edge_13 rfl (lv_at hl 2 rfl) ?_
  refine k_goI (gr := [[(h, .inr (12, fHo q x o16 o17 o18 o19 o20))], [(q 0, .inl (kA 4, 4, .inr (.inr (.inr (.inr (rr (g 0)))))))]]) (k_rV (pc := 14) (As := [.int i1]) (rest := []) X (c_Gr_hasEdge l D kA (g 0 j) qg xg og i1 H.size) rfl wm_930 wm_3 wm_927 wm_928 wm_929 1 (by decide +kernel) ⟨Nat.le_of_ble_eq_true rfl, Nat.le_of_ble_eq_true rfl⟩ rfl rfl (va_recv hK hP (ci := 3) (q0 := 2) rfl rfl) (k_pre hN hK hP hD [2] [0, 1] 3 rfl (by decide) rfl) rfl hl.1 rfl (Nat.le_of_ble_eq_true rfl) d_Ho_edge_14 ⟨Nat.le_of_ble_eq_true rfl, Nat.le_of_ble_eq_true rfl⟩) hP hD hS hA [2] [0, 1] 3 rfl (by decide) rfl rfl (fun r3 u4 H locs hu4 hP hD hS => ?_)
  subst hu4
  have hP : va_P D classes (cat [[(h, .inr (12, fHo q x o16 o17 o18 o19 o20))], [(q 0, .inl (kA 4, 4, .inr (.inr (.inr (.inr (rr (g 0)))))))], [(g 0 j, .inr (3, fGr qg xg og))]]) H := hP
  have hD : va_D A (cat [[(h, .inr (12, fHo q x o16 o17 o18 o19 o20))], [(q 0, .inl (kA 4, 4, .inr (.inr (.inr (.inr (rr (g 0)))))))], [(g 0 j, .inr (3, fGr qg xg og))]]) := hD
  refine lv_if_ne (pc := 17) (tgt := 22) hx hb d_Ho_edge_17 (by decide) (fun c1 => absurd (hv) c1) (fun c1 => ?_)
  refine lv_iconst (pc := 20) (v := -1) hx hb d_Ho_edge_20 (by decide) ?_
  refine W.widen (k := 0) (n := 0) (Nat.le_of_ble_eq_true rfl) (Nat.le_of_ble_eq_true rfl) ?_
  exact W.iret (v := ((-1))) hx hb hr (fun t ht hW => ⟨⟨((-1)), (), rfl, (by unfold sp_Ho_edge_nn; rfl), by rw [ht]; exact hP, va_K.moved hW.alike hK, hD⟩, hS.F ht⟩) hS.2.2 d_Ho_edge_21
def sp_Ho_group_no  : Int32 := (-1)
set_option maxRecDepth 100000 in
set_option maxHeartbeats 4000000 in
/-- DrawingHouse.group(III)I -/
theorem c_Ho_group_no (l : Launch) (D : va_G) (kA : Nat → ClassId) (h : Nat) (q : Nat → Nat) (x : Nat → Int32) (o16 o17 o18 o19 o20 : Option Nat) (gp i1 w1 : Int32) (hg : sp_Ho_isPlace gp = 0)  : Ci l y_Ho_group z_Ho_group { frames := 1, cells := 0, slots := 0, locals := 24 } D classes (TY kA) [.ref h, .int gp, .int i1, .int w1] [[(h, .inr (12, fHo q x o16 o17 o18 o19 o20))]] (fun r (_ : Unit) => r = sp_Ho_group_no ) (fun _ => [[(h, .inr (12, fHo q x o16 o17 o18 o19 o20))]]) 0 0 := by
  intro sz
  refine k_met (cc := b_Ho_group) (maxL := 4) (ret := (some .int)) (by decide) rfl (Nat.le_of_ble_eq_true rfl) (fun p e s m below meth c ls X hl hB => ?_)
  obtain ⟨hsz, hP, hK, hD0, hN⟩ := hB
  subst hsz
  have hD := hD0.self (sz := s.heap.size)
  generalize hAe : va_A (cat [[(h, .inr (12, fHo q x o16 o17 o18 o19 o20))]]) s.heap.size = A at hD ⊢
  have hA : ∀ q : Nat, s.heap.size ≤ q → A q := fun q h => by rw [← hAe]; exact Or.inr h
  have hS : va_S A s.heap s.heap [] := va_S.rf
  obtain ⟨hx, hb, hml, hown, hts, hr, hlk, hnm⟩ := id X
  have hl : lv_has ls 4 [(0, .ref h), (1, .int gp), (2, .int i1), (3, .int w1)] := hl
  have hP : va_P D classes (cat [[(h, .inr (12, fHo q x o16 o17 o18 o19 o20))]]) s.heap := hP
  have hK : va_K D classes (TY kA) s := hK
  refine lv_iload_n (pc := 0) hx hb d_Ho_group_0 rfl (lv_at hl 1 rfl) ?_
  refine k_goI (gr := [[(h, .inr (12, fHo q x o16 o17 o18 o19 o20))]]) (k_rS (pc := 1) (As := [.int gp]) (rest := []) X (c_Ho_isPlace l D kA gp s.heap.size) rfl wm_633 wm_1 wm_631 wm_632 1 (by decide +kernel) ⟨Nat.le_of_ble_eq_true rfl, Nat.le_of_ble_eq_true rfl⟩ rfl rfl (k_pre hN hK hP hD [] [0] 1 rfl (by decide) rfl) rfl hl.1 rfl (Nat.le_of_ble_eq_true rfl) d_Ho_group_1 ⟨Nat.le_of_ble_eq_true rfl, Nat.le_of_ble_eq_true rfl⟩) hP hD hS hA [] [0] 1 rfl (by decide) rfl rfl (fun r1 u2 H locs hu2 hP hD hS => ?_)
  subst hu2
  have hP : va_P D classes (cat [[(h, .inr (12, fHo q x o16 o17 o18 o19 o20))]]) H := hP
  have hD : va_D A (cat [[(h, .inr (12, fHo q x o16 o17 o18 o19 o20))]]) := hD
  refine lv_if_eq (pc := 4) (tgt := 20) hx hb d_Ho_group_4 (by decide) (fun c1 => ?_) (fun c1 => absurd (hg) c1)
  refine lv_iconst (pc := 20) (v := -1) hx hb d_Ho_group_20 (by decide) ?_
  refine W.widen (k := 0) (n := 0) (Nat.le_of_ble_eq_true rfl) (Nat.le_of_ble_eq_true rfl) ?_
  exact W.iret (v := ((-1))) hx hb hr (fun t ht hW => ⟨⟨((-1)), (), rfl, (by unfold sp_Ho_group_no; rfl), by rw [ht]; exact hP, va_K.moved hW.alike hK, hD⟩, hS.F ht⟩) hS.2.2 d_Ho_group_21
def sp_Ho_group_nn  : Int32 := (-1)
set_option maxRecDepth 100000 in
set_option maxHeartbeats 4000000 in
/-- DrawingHouse.group(III)I -/
theorem c_Ho_group_nn (l : Launch) (D : va_G) (kA : Nat → ClassId) (h : Nat) (q : Nat → Nat) (x : Nat → Int32) (o16 o17 o18 o19 o20 : Option Nat) (g : Nat → Nat → Nat) (qg : Nat → Nat) (xg : Nat → Int32) (og : Option Nat) (j : Nat) (hj : j < 4) (i1 w1 : Int32) (hv : sp_Gr_hasGroup xg i1 = 0)  : Ci l y_Ho_group z_Ho_group { frames := 1, cells := 0, slots := 0, locals := 24 } D classes (TY kA) [.ref h, .int (nI j), .int i1, .int w1] [[(h, .inr (12, fHo q x o16 o17 o18 o19 o20))], [(q 0, .inl (kA 4, 4, .inr (.inr (.inr (.inr (rr (g 0)))))))], [(g 0 j, .inr (3, fGr qg xg og))]] (fun r (_ : Unit) => r = sp_Ho_group_nn ) (fun _ => [[(h, .inr (12, fHo q x o16 o17 o18 o19 o20))], [(q 0, .inl (kA 4, 4, .inr (.inr (.inr (.inr (rr (g 0)))))))], [(g 0 j, .inr (3, fGr qg xg og))]]) 0 0 := by
  intro sz
  refine k_met (cc := b_Ho_group) (maxL := 4) (ret := (some .int)) (by decide) rfl (Nat.le_of_ble_eq_true rfl) (fun p e s m below meth c ls X hl hB => ?_)
  obtain ⟨hsz, hP, hK, hD0, hN⟩ := hB
  subst hsz
  have hD := hD0.self (sz := s.heap.size)
  generalize hAe : va_A (cat [[(h, .inr (12, fHo q x o16 o17 o18 o19 o20))], [(q 0, .inl (kA 4, 4, .inr (.inr (.inr (.inr (rr (g 0)))))))], [(g 0 j, .inr (3, fGr qg xg og))]]) s.heap.size = A at hD ⊢
  have hA : ∀ q : Nat, s.heap.size ≤ q → A q := fun q h => by rw [← hAe]; exact Or.inr h
  have hS : va_S A s.heap s.heap [] := va_S.rf
  obtain ⟨hx, hb, hml, hown, hts, hr, hlk, hnm⟩ := id X
  have hl : lv_has ls 4 [(0, .ref h), (1, .int (nI j)), (2, .int i1), (3, .int w1)] := hl
  have hP : va_P D classes (cat [[(h, .inr (12, fHo q x o16 o17 o18 o19 o20))], [(q 0, .inl (kA 4, 4, .inr (.inr (.inr (.inr (rr (g 0)))))))], [(g 0 j, .inr (3, fGr qg xg og))]]) s.heap := hP
  have hK : va_K D classes (TY kA) s := hK
  refine lv_iload_n (pc := 0) hx hb d_Ho_group_0 rfl (lv_at hl 1 rfl) ?_
  refine k_goI (gr := [[(h, .inr (12, fHo q x o16 o17 o18 o19 o20))], [(q 0, .inl (kA 4, 4, .inr (.inr (.inr (.inr (rr (g 0)))))))], [(g 0 j, .inr (3, fGr qg xg og))]]) (k_rS (pc := 1) (As := [.int (nI j)]) (rest := []) X (c_Ho_isPlace l D kA (nI j) s.heap.size) rfl wm_633 wm_1 wm_631 wm_632 1 (by decide +kernel) ⟨Nat.le_of_ble_eq_true rfl, Nat.le_of_ble_eq_true rfl⟩ rfl rfl (k_pre hN hK hP hD [] [0, 1, 2] 3 rfl (by decide) rfl) rfl hl.1 rfl (Nat.le_of_ble_eq_true rfl) d_Ho_group_1 ⟨Nat.le_of_ble_eq_true rfl, Nat.le_of_ble_eq_true rfl⟩) hP hD hS hA [] [0, 1, 2] 3 rfl (by decide) rfl rfl (fun r1 u2 H locs hu2 hP hD hS => ?_)
  subst hu2
  have hP : va_P D classes (cat [[(h, .inr (12, fHo q x o16 o17 o18 o19 o20))], [(q 0, .inl (kA 4, 4, .inr (.inr (.inr (.inr (rr (g 0)))))))], [(g 0 j, .inr (3, fGr qg xg og))]]) H := hP
  have hD : va_D A (cat [[(h, .inr (12, fHo q x o16 o17 o18 o19 o20))], [(q 0, .inl (kA 4, 4, .inr (.inr (.inr (.inr (rr (g 0)))))))], [(g 0 j, .inr (3, fGr qg xg og))]]) := hD
  refine lv_if_eq (pc := 4) (tgt := 20) hx hb d_Ho_group_4 (by decide) (fun c1 => absurd c1 (fun e => absurd ((place_ok hj).symm.trans e) (by decide))) (fun c1 => ?_)
  refine lv_aload_n (pc := 7) hx hb d_Ho_group_7 rfl (lv_at hl 0 rfl) ?_
  refine k_get (pc := 8) X hK hP 0 rfl rfl i_Ho 0 (by decide) wm_555 rfl rfl d_Ho_group_8 ?_
  refine lv_iload_n (pc := 11) hx hb d_Ho_group_11 rfl (lv_at hl 1 rfl) ?_
  refine k_ald (pc := 12) hx hb hK hP 1 4 rfl rfl (j) rfl (by omega) (by decide) (rr_at (by omega)) d_Ho_group_12 ?_
  refine lv_iload_n (pc := 13) hx hb d_Ho_group_13 rfl (lv_at hl 2 rfl) ?_
  refine k_goI (gr := [[(h, .inr (12, fHo q x o16 o17 o18 o19 o20))], [(q 0, .inl (kA 4, 4, .inr (.inr (.inr (.inr (rr (g 0)))))))]]) (k_rV (pc := 14) (As := [.int i1]) (rest := []) X (c_Gr_hasGroup l D kA (g 0 j) qg xg og i1 H.size) rfl wm_942 wm_3 wm_939 wm_940 wm_941 1 (by decide +kernel) ⟨Nat.le_of_ble_eq_true rfl, Nat.le_of_ble_eq_true rfl⟩ rfl rfl (va_recv hK hP (ci := 3) (q0 := 2) rfl rfl) (k_pre hN hK hP hD [2] [0, 1] 3 rfl (by decide) rfl) rfl hl.1 rfl (Nat.le_of_ble_eq_true rfl) d_Ho_group_14 ⟨Nat.le_of_ble_eq_true rfl, Nat.le_of_ble_eq_true rfl⟩) hP hD hS hA [2] [0, 1] 3 rfl (by decide) rfl rfl (fun r3 u4 H locs hu4 hP hD hS => ?_)
  subst hu4
  have hP : va_P D classes (cat [[(h, .inr (12, fHo q x o16 o17 o18 o19 o20))], [(q 0, .inl (kA 4, 4, .inr (.inr (.inr (.inr (rr (g 0)))))))], [(g 0 j, .inr (3, fGr qg xg og))]]) H := hP
  have hD : va_D A (cat [[(h, .inr (12, fHo q x o16 o17 o18 o19 o20))], [(q 0, .inl (kA 4, 4, .inr (.inr (.inr (.inr (rr (g 0)))))))], [(g 0 j, .inr (3, fGr qg xg og))]]) := hD
  refine lv_if_ne (pc := 17) (tgt := 22) hx hb d_Ho_group_17 (by decide) (fun c1 => absurd (hv) c1) (fun c1 => ?_)
  refine lv_iconst (pc := 20) (v := -1) hx hb d_Ho_group_20 (by decide) ?_
  refine W.widen (k := 0) (n := 0) (Nat.le_of_ble_eq_true rfl) (Nat.le_of_ble_eq_true rfl) ?_
  exact W.iret (v := ((-1))) hx hb hr (fun t ht hW => ⟨⟨((-1)), (), rfl, (by unfold sp_Ho_group_nn; rfl), by rw [ht]; exact hP, va_K.moved hW.alike hK, hD⟩, hS.F ht⟩) hS.2.2 d_Ho_group_21
def sp_Mo_node_no  : Int32 := (-1)
set_option maxRecDepth 100000 in
set_option maxHeartbeats 4000000 in
/-- DrawingHouseModel.node(III)I -/
theorem c_Mo_node_no (l : Launch) (D : va_G) (kA : Nat → ClassId) (h : Nat) (q : Nat → Nat) (x : Nat → Int32) (y : Nat → Int64) (gp i1 w1 : Int32) (hg : sp_Mo_isPlace gp = 0)  : Ci l y_Mo_node z_Mo_node { frames := 2, cells := 0, slots := 0, locals := 43 } D classes (TY kA) [.ref h, .int gp, .int i1, .int w1] [[(h, .inr (13, mF q x y))]] (fun r (_ : Unit) => r = sp_Mo_node_no ) (fun _ => [[(h, .inr (13, mF q x y))]]) 0 0 := by
  intro sz
  refine k_met (cc := b_Mo_node) (maxL := 7) (ret := (some .int)) (by decide) rfl (Nat.le_of_ble_eq_true rfl) (fun p e s m below meth c ls X hl hB => ?_)
  obtain ⟨hsz, hP, hK, hD0, hN⟩ := hB
  subst hsz
  have hD := hD0.self (sz := s.heap.size)
  generalize hAe : va_A (cat [[(h, .inr (13, mF q x y))]]) s.heap.size = A at hD ⊢
  have hA : ∀ q : Nat, s.heap.size ≤ q → A q := fun q h => by rw [← hAe]; exact Or.inr h
  have hS : va_S A s.heap s.heap [] := va_S.rf
  obtain ⟨hx, hb, hml, hown, hts, hr, hlk, hnm⟩ := id X
  have hl : lv_has ls 7 [(0, .ref h), (1, .int gp), (2, .int i1), (3, .int w1)] := hl
  have hP : va_P D classes (cat [[(h, .inr (13, mF q x y))]]) s.heap := hP
  have hK : va_K D classes (TY kA) s := hK
  refine lv_iload_n (pc := 0) hx hb d_Mo_node_0 rfl (lv_at hl 1 rfl) ?_
  refine k_goI (gr := [[(h, .inr (13, mF q x y))]]) (k_rS (pc := 1) (As := [.int gp]) (rest := []) X (c_Mo_isPlace l D kA gp s.heap.size) rfl wm_2978 wm_9 wm_2976 wm_2977 1 (by decide +kernel) ⟨Nat.le_of_ble_eq_true rfl, Nat.le_of_ble_eq_true rfl⟩ rfl rfl (k_pre hN hK hP hD [] [0] 1 rfl (by decide) rfl) rfl hl.1 rfl (Nat.le_of_ble_eq_true rfl) d_Mo_node_1 ⟨Nat.le_of_ble_eq_true rfl, Nat.le_of_ble_eq_true rfl⟩) hP hD hS hA [] [0] 1 rfl (by decide) rfl rfl (fun r1 u2 H locs hu2 hP hD hS => ?_)
  subst hu2
  have hP : va_P D classes (cat [[(h, .inr (13, mF q x y))]]) H := hP
  have hD : va_D A (cat [[(h, .inr (13, mF q x y))]]) := hD
  refine lv_if_ne (pc := 4) (tgt := 9) hx hb d_Mo_node_4 (by decide) (fun c1 => absurd (hg) c1) (fun c1 => ?_)
  refine lv_iconst (pc := 7) (v := -1) hx hb d_Mo_node_7 (by decide) ?_
  refine W.widen (k := 0) (n := 0) (Nat.le_of_ble_eq_true rfl) (Nat.le_of_ble_eq_true rfl) ?_
  exact W.iret (v := ((-1))) hx hb hr (fun t ht hW => ⟨⟨((-1)), (), rfl, (by unfold sp_Mo_node_no; rfl), by rw [ht]; exact hP, va_K.moved hW.alike hK, hD⟩, hS.F ht⟩) hS.2.2 d_Mo_node_8
def sp_Mo_node_nn  : Int32 := (-1)
set_option maxRecDepth 100000 in
set_option maxHeartbeats 4000000 in
/-- DrawingHouseModel.node(III)I -/
theorem c_Mo_node_nn (l : Launch) (D : va_G) (kA : Nat → ClassId) (h : Nat) (q : Nat → Nat) (x : Nat → Int32) (y : Nat → Int64) (f al : Nat → Int32) (j k : Nat) (hj : j < 4) (hk : k < 31) (hf : f j = nI k) (nn : Nat) (hz : al (539 * (31 * j + k)) = nI nn) (i1 w1 : Int32) (hv : sp_Mo_in i1 0 (nI nn - 1) = 0)  : Ci l y_Mo_node z_Mo_node { frames := 2, cells := 0, slots := 0, locals := 43 } D classes (TY kA) [.ref h, .int (nI j), .int i1, .int w1] [[(h, .inr (13, mF q x y))], [(q 3, .inl (kA 0, 4, .inl f))], [(q 2, .inl (kA 0, 66836, .inl al))]] (fun r (_ : Unit) => r = sp_Mo_node_nn ) (fun _ => [[(h, .inr (13, mF q (va_up x 5 (nI (539 * (31 * j + k)))) y))], [(q 3, .inl (kA 0, 4, .inl f))], [(q 2, .inl (kA 0, 66836, .inl al))]]) 0 0 := by
  intro sz
  refine k_met (cc := b_Mo_node) (maxL := 7) (ret := (some .int)) (by decide) rfl (Nat.le_of_ble_eq_true rfl) (fun p e s m below meth c ls X hl hB => ?_)
  obtain ⟨hsz, hP, hK, hD0, hN⟩ := hB
  subst hsz
  have hD := hD0.self (sz := s.heap.size)
  generalize hAe : va_A (cat [[(h, .inr (13, mF q x y))], [(q 3, .inl (kA 0, 4, .inl f))], [(q 2, .inl (kA 0, 66836, .inl al))]]) s.heap.size = A at hD ⊢
  have hA : ∀ q : Nat, s.heap.size ≤ q → A q := fun q h => by rw [← hAe]; exact Or.inr h
  have hS : va_S A s.heap s.heap [] := va_S.rf
  obtain ⟨hx, hb, hml, hown, hts, hr, hlk, hnm⟩ := id X
  have hl : lv_has ls 7 [(0, .ref h), (1, .int (nI j)), (2, .int i1), (3, .int w1)] := hl
  have hP : va_P D classes (cat [[(h, .inr (13, mF q x y))], [(q 3, .inl (kA 0, 4, .inl f))], [(q 2, .inl (kA 0, 66836, .inl al))]]) s.heap := hP
  have hK : va_K D classes (TY kA) s := hK
  refine lv_iload_n (pc := 0) hx hb d_Mo_node_0 rfl (lv_at hl 1 rfl) ?_
  refine k_goI (gr := [[(h, .inr (13, mF q x y))], [(q 3, .inl (kA 0, 4, .inl f))], [(q 2, .inl (kA 0, 66836, .inl al))]]) (k_rS (pc := 1) (As := [.int (nI j)]) (rest := []) X (c_Mo_isPlace l D kA (nI j) s.heap.size) rfl wm_2978 wm_9 wm_2976 wm_2977 1 (by decide +kernel) ⟨Nat.le_of_ble_eq_true rfl, Nat.le_of_ble_eq_true rfl⟩ rfl rfl (k_pre hN hK hP hD [] [0, 1, 2] 3 rfl (by decide) rfl) rfl hl.1 rfl (Nat.le_of_ble_eq_true rfl) d_Mo_node_1 ⟨Nat.le_of_ble_eq_true rfl, Nat.le_of_ble_eq_true rfl⟩) hP hD hS hA [] [0, 1, 2] 3 rfl (by decide) rfl rfl (fun r1 u2 H locs hu2 hP hD hS => ?_)
  subst hu2
  have hP : va_P D classes (cat [[(h, .inr (13, mF q x y))], [(q 3, .inl (kA 0, 4, .inl f))], [(q 2, .inl (kA 0, 66836, .inl al))]]) H := hP
  have hD : va_D A (cat [[(h, .inr (13, mF q x y))], [(q 3, .inl (kA 0, 4, .inl f))], [(q 2, .inl (kA 0, 66836, .inl al))]]) := hD
  refine lv_if_ne (pc := 4) (tgt := 9) hx hb d_Mo_node_4 (by decide) (fun c1 => ?_) (fun c1 => absurd c1 (fun e => absurd ((placeM_ok hj).symm.trans e) (by decide)))
  refine lv_aload_n (pc := 9) hx hb d_Mo_node_9 rfl (lv_at hl 0 rfl) ?_
  refine lv_iload_n (pc := 10) hx hb d_Mo_node_10 rfl (lv_at hl 1 rfl) ?_
  refine k_goV (gr := [[(q 2, .inl (kA 0, 66836, .inl al))]]) (k_rV (pc := 11) (As := [.int (nI j)]) (rest := []) X (c_Mo_take l D kA h q x y f j k hj hf H.size) rfl wm_3091 wm_9 wm_3088 wm_3090 wv_14_2 1 (by decide +kernel) ⟨Nat.le_of_ble_eq_true rfl, Nat.le_of_ble_eq_true rfl⟩ rfl rfl (va_recv hK hP (ci := 13) (q0 := 0) rfl rfl) (k_pre hN hK hP hD [0, 1] [2] 3 rfl (by decide) rfl) rfl hl.1 rfl (Nat.le_of_ble_eq_true rfl) d_Mo_node_11 ⟨Nat.le_of_ble_eq_true rfl, Nat.le_of_ble_eq_true rfl⟩) hP hD hS hA [0, 1] [2] 3 rfl (by decide) rfl rfl (fun u3 H locs hu3 hP hD hS => ?_)
  have hP : va_P D classes (cat [[(q 2, .inl (kA 0, 66836, .inl al))], [(h, .inr (13, mF q (va_up x 5 (nI (539 * (31 * j + k)))) y))], [(q 3, .inl (kA 0, 4, .inl f))]]) H := hP
  have hD : va_D A (cat [[(q 2, .inl (kA 0, 66836, .inl al))], [(h, .inr (13, mF q (va_up x 5 (nI (539 * (31 * j + k)))) y))], [(q 3, .inl (kA 0, 4, .inl f))]]) := hD
  refine lv_iload_n (pc := 14) hx hb d_Mo_node_14 rfl (lv_at hl 2 rfl) ?_
  refine lv_iconst (pc := 15) (v := 0) hx hb d_Mo_node_15 (by decide) ?_
  refine lv_aload_n (pc := 16) hx hb d_Mo_node_16 rfl (lv_at hl 0 rfl) ?_
  refine k_goI (gr := [[(q 3, .inl (kA 0, 4, .inl f))]]) (k_rV (pc := 17) (As := []) (rest := [.int 0, .int i1]) X (c_Mo_nodes l D kA h q x y al (539 * (31 * j + k)) (by omega) H.size) rfl wm_3025 wm_9 wm_3022 wm_3024 wv_13_3 0 (by decide +kernel) ⟨Nat.le_of_ble_eq_true rfl, Nat.le_of_ble_eq_true rfl⟩ rfl rfl (va_recv hK hP (ci := 13) (q0 := 1) rfl rfl) (k_pre hN hK hP hD [1, 0] [2] 3 rfl (by decide) rfl) rfl hl.1 rfl (Nat.le_of_ble_eq_true rfl) d_Mo_node_17 ⟨Nat.le_of_ble_eq_true rfl, Nat.le_of_ble_eq_true rfl⟩) hP hD hS hA [1, 0] [2] 3 rfl (by decide) rfl rfl (fun r4 u5 H locs hu5 hP hD hS => ?_)
  subst hu5
  have hP : va_P D classes (cat [[(q 3, .inl (kA 0, 4, .inl f))], [(h, .inr (13, mF q (va_up x 5 (nI (539 * (31 * j + k)))) y))], [(q 2, .inl (kA 0, 66836, .inl al))]]) H := hP
  have hD : va_D A (cat [[(q 3, .inl (kA 0, 4, .inl f))], [(h, .inr (13, mF q (va_up x 5 (nI (539 * (31 * j + k)))) y))], [(q 2, .inl (kA 0, 66836, .inl al))]]) := hD
  refine k_cst (v := nI nn) (hz) ?_
  refine lv_iconst (pc := 20) (v := 1) hx hb d_Mo_node_20 (by decide) ?_
  refine lv_isub (pc := 21) hx hb d_Mo_node_21 ?_
  refine k_goI (gr := [[(q 3, .inl (kA 0, 4, .inl f))], [(h, .inr (13, mF q (va_up x 5 (nI (539 * (31 * j + k)))) y))], [(q 2, .inl (kA 0, 66836, .inl al))]]) (k_rS (pc := 22) (As := [.int i1, .int 0, .int ((nI nn) - 1)]) (rest := []) X (c_Mo_in l D kA i1 0 ((nI nn) - 1) H.size) rfl wm_2971 wm_9 wm_2969 wm_2970 3 (by decide +kernel) ⟨Nat.le_of_ble_eq_true rfl, Nat.le_of_ble_eq_true rfl⟩ rfl rfl (k_pre hN hK hP hD [] [0, 1, 2] 3 rfl (by decide) rfl) rfl hl.1 rfl (Nat.le_of_ble_eq_true rfl) d_Mo_node_22 ⟨Nat.le_of_ble_eq_true rfl, Nat.le_of_ble_eq_true rfl⟩) hP hD hS hA [] [0, 1, 2] 3 rfl (by decide) rfl rfl (fun r6 u7 H locs hu7 hP hD hS => ?_)
  subst hu7
  have hP : va_P D classes (cat [[(q 3, .inl (kA 0, 4, .inl f))], [(h, .inr (13, mF q (va_up x 5 (nI (539 * (31 * j + k)))) y))], [(q 2, .inl (kA 0, 66836, .inl al))]]) H := hP
  have hD : va_D A (cat [[(q 3, .inl (kA 0, 4, .inl f))], [(h, .inr (13, mF q (va_up x 5 (nI (539 * (31 * j + k)))) y))], [(q 2, .inl (kA 0, 66836, .inl al))]]) := hD
  refine lv_if_ne (pc := 25) (tgt := 30) hx hb d_Mo_node_25 (by decide) (fun c1 => absurd (hv) c1) (fun c1 => ?_)
  refine lv_iconst (pc := 28) (v := -1) hx hb d_Mo_node_28 (by decide) ?_
  obtain ⟨hP, hD⟩ := k_ord (gc := [[(h, .inr (13, mF q (va_up x 5 (nI (539 * (31 * j + k)))) y))], [(q 3, .inl (kA 0, 4, .inl f))], [(q 2, .inl (kA 0, 66836, .inl al))]]) hP hD [1, 0, 2] 3 rfl (by decide) rfl
  refine W.widen (k := 0) (n := 0) (Nat.le_of_ble_eq_true rfl) (Nat.le_of_ble_eq_true rfl) ?_
  exact W.iret (v := ((-1))) hx hb hr (fun t ht hW => ⟨⟨((-1)), (), rfl, (by unfold sp_Mo_node_nn; rfl), by rw [ht]; exact hP, va_K.moved hW.alike hK, hD⟩, hS.F ht⟩) hS.2.2 d_Mo_node_29
def sp_Mo_edge_no  : Int32 := (-1)
set_option maxRecDepth 100000 in
set_option maxHeartbeats 4000000 in
/-- DrawingHouseModel.edge(III)I -/
theorem c_Mo_edge_no (l : Launch) (D : va_G) (kA : Nat → ClassId) (h : Nat) (q : Nat → Nat) (x : Nat → Int32) (y : Nat → Int64) (gp i1 w1 : Int32) (hg : sp_Mo_isPlace gp = 0)  : Ci l y_Mo_edge z_Mo_edge { frames := 2, cells := 0, slots := 0, locals := 43 } D classes (TY kA) [.ref h, .int gp, .int i1, .int w1] [[(h, .inr (13, mF q x y))]] (fun r (_ : Unit) => r = sp_Mo_edge_no ) (fun _ => [[(h, .inr (13, mF q x y))]]) 0 0 := by
  intro sz
  refine k_met (cc := b_Mo_edge) (maxL := 5) (ret := (some .int)) (by decide) rfl (Nat.le_of_ble_eq_true rfl) (fun p e s m below meth c ls X hl hB => ?_)
  obtain ⟨hsz, hP, hK, hD0, hN⟩ := hB
  subst hsz
  have hD := hD0.self (sz := s.heap.size)
  generalize hAe : va_A (cat [[(h, .inr (13, mF q x y))]]) s.heap.size = A at hD ⊢
  have hA : ∀ q : Nat, s.heap.size ≤ q → A q := fun q h => by rw [← hAe]; exact Or.inr h
  have hS : va_S A s.heap s.heap [] := va_S.rf
  obtain ⟨hx, hb, hml, hown, hts, hr, hlk, hnm⟩ := id X
  have hl : lv_has ls 5 [(0, .ref h), (1, .int gp), (2, .int i1), (3, .int w1)] := hl
  have hP : va_P D classes (cat [[(h, .inr (13, mF q x y))]]) s.heap := hP
  have hK : va_K D classes (TY kA) s := hK
  refine lv_iload_n (pc := 0) hx hb d_Mo_edge_0 rfl (lv_at hl 1 rfl) ?_
  refine k_goI (gr := [[(h, .inr (13, mF q x y))]]) (k_rS (pc := 1) (As := [.int gp]) (rest := []) X (c_Mo_isPlace l D kA gp s.heap.size) rfl wm_2978 wm_9 wm_2976 wm_2977 1 (by decide +kernel) ⟨Nat.le_of_ble_eq_true rfl, Nat.le_of_ble_eq_true rfl⟩ rfl rfl (k_pre hN hK hP hD [] [0] 1 rfl (by decide) rfl) rfl hl.1 rfl (Nat.le_of_ble_eq_true rfl) d_Mo_edge_1 ⟨Nat.le_of_ble_eq_true rfl, Nat.le_of_ble_eq_true rfl⟩) hP hD hS hA [] [0] 1 rfl (by decide) rfl rfl (fun r1 u2 H locs hu2 hP hD hS => ?_)
  subst hu2
  have hP : va_P D classes (cat [[(h, .inr (13, mF q x y))]]) H := hP
  have hD : va_D A (cat [[(h, .inr (13, mF q x y))]]) := hD
  refine lv_if_ne (pc := 4) (tgt := 9) hx hb d_Mo_edge_4 (by decide) (fun c1 => absurd (hg) c1) (fun c1 => ?_)
  refine lv_iconst (pc := 7) (v := -1) hx hb d_Mo_edge_7 (by decide) ?_
  refine W.widen (k := 0) (n := 0) (Nat.le_of_ble_eq_true rfl) (Nat.le_of_ble_eq_true rfl) ?_
  exact W.iret (v := ((-1))) hx hb hr (fun t ht hW => ⟨⟨((-1)), (), rfl, (by unfold sp_Mo_edge_no; rfl), by rw [ht]; exact hP, va_K.moved hW.alike hK, hD⟩, hS.F ht⟩) hS.2.2 d_Mo_edge_8
def sp_Mo_edge_nn  : Int32 := (-1)
set_option maxRecDepth 100000 in
set_option maxHeartbeats 4000000 in
/-- DrawingHouseModel.edge(III)I -/
theorem c_Mo_edge_nn (l : Launch) (D : va_G) (kA : Nat → ClassId) (h : Nat) (q : Nat → Nat) (x : Nat → Int32) (y : Nat → Int64) (f al : Nat → Int32) (j k : Nat) (hj : j < 4) (hk : k < 31) (hf : f j = nI k) (nn : Nat) (hz : al (539 * (31 * j + k) + 1) = nI nn) (i1 w1 : Int32) (hv : sp_Mo_in i1 0 (nI nn - 1) = 0)  : Ci l y_Mo_edge z_Mo_edge { frames := 2, cells := 0, slots := 0, locals := 43 } D classes (TY kA) [.ref h, .int (nI j), .int i1, .int w1] [[(h, .inr (13, mF q x y))], [(q 3, .inl (kA 0, 4, .inl f))], [(q 2, .inl (kA 0, 66836, .inl al))]] (fun r (_ : Unit) => r = sp_Mo_edge_nn ) (fun _ => [[(h, .inr (13, mF q (va_up x 5 (nI (539 * (31 * j + k)))) y))], [(q 3, .inl (kA 0, 4, .inl f))], [(q 2, .inl (kA 0, 66836, .inl al))]]) 0 0 := by
  intro sz
  refine k_met (cc := b_Mo_edge) (maxL := 5) (ret := (some .int)) (by decide) rfl (Nat.le_of_ble_eq_true rfl) (fun p e s m below meth c ls X hl hB => ?_)
  obtain ⟨hsz, hP, hK, hD0, hN⟩ := hB
  subst hsz
  have hD := hD0.self (sz := s.heap.size)
  generalize hAe : va_A (cat [[(h, .inr (13, mF q x y))], [(q 3, .inl (kA 0, 4, .inl f))], [(q 2, .inl (kA 0, 66836, .inl al))]]) s.heap.size = A at hD ⊢
  have hA : ∀ q : Nat, s.heap.size ≤ q → A q := fun q h => by rw [← hAe]; exact Or.inr h
  have hS : va_S A s.heap s.heap [] := va_S.rf
  obtain ⟨hx, hb, hml, hown, hts, hr, hlk, hnm⟩ := id X
  have hl : lv_has ls 5 [(0, .ref h), (1, .int (nI j)), (2, .int i1), (3, .int w1)] := hl
  have hP : va_P D classes (cat [[(h, .inr (13, mF q x y))], [(q 3, .inl (kA 0, 4, .inl f))], [(q 2, .inl (kA 0, 66836, .inl al))]]) s.heap := hP
  have hK : va_K D classes (TY kA) s := hK
  refine lv_iload_n (pc := 0) hx hb d_Mo_edge_0 rfl (lv_at hl 1 rfl) ?_
  refine k_goI (gr := [[(h, .inr (13, mF q x y))], [(q 3, .inl (kA 0, 4, .inl f))], [(q 2, .inl (kA 0, 66836, .inl al))]]) (k_rS (pc := 1) (As := [.int (nI j)]) (rest := []) X (c_Mo_isPlace l D kA (nI j) s.heap.size) rfl wm_2978 wm_9 wm_2976 wm_2977 1 (by decide +kernel) ⟨Nat.le_of_ble_eq_true rfl, Nat.le_of_ble_eq_true rfl⟩ rfl rfl (k_pre hN hK hP hD [] [0, 1, 2] 3 rfl (by decide) rfl) rfl hl.1 rfl (Nat.le_of_ble_eq_true rfl) d_Mo_edge_1 ⟨Nat.le_of_ble_eq_true rfl, Nat.le_of_ble_eq_true rfl⟩) hP hD hS hA [] [0, 1, 2] 3 rfl (by decide) rfl rfl (fun r1 u2 H locs hu2 hP hD hS => ?_)
  subst hu2
  have hP : va_P D classes (cat [[(h, .inr (13, mF q x y))], [(q 3, .inl (kA 0, 4, .inl f))], [(q 2, .inl (kA 0, 66836, .inl al))]]) H := hP
  have hD : va_D A (cat [[(h, .inr (13, mF q x y))], [(q 3, .inl (kA 0, 4, .inl f))], [(q 2, .inl (kA 0, 66836, .inl al))]]) := hD
  refine lv_if_ne (pc := 4) (tgt := 9) hx hb d_Mo_edge_4 (by decide) (fun c1 => ?_) (fun c1 => absurd c1 (fun e => absurd ((placeM_ok hj).symm.trans e) (by decide)))
  refine lv_aload_n (pc := 9) hx hb d_Mo_edge_9 rfl (lv_at hl 0 rfl) ?_
  refine lv_iload_n (pc := 10) hx hb d_Mo_edge_10 rfl (lv_at hl 1 rfl) ?_
  refine k_goV (gr := [[(q 2, .inl (kA 0, 66836, .inl al))]]) (k_rV (pc := 11) (As := [.int (nI j)]) (rest := []) X (c_Mo_take l D kA h q x y f j k hj hf H.size) rfl wm_3091 wm_9 wm_3088 wm_3090 wv_14_2 1 (by decide +kernel) ⟨Nat.le_of_ble_eq_true rfl, Nat.le_of_ble_eq_true rfl⟩ rfl rfl (va_recv hK hP (ci := 13) (q0 := 0) rfl rfl) (k_pre hN hK hP hD [0, 1] [2] 3 rfl (by decide) rfl) rfl hl.1 rfl (Nat.le_of_ble_eq_true rfl) d_Mo_edge_11 ⟨Nat.le_of_ble_eq_true rfl, Nat.le_of_ble_eq_true rfl⟩) hP hD hS hA [0, 1] [2] 3 rfl (by decide) rfl rfl (fun u3 H locs hu3 hP hD hS => ?_)
  have hP : va_P D classes (cat [[(q 2, .inl (kA 0, 66836, .inl al))], [(h, .inr (13, mF q (va_up x 5 (nI (539 * (31 * j + k)))) y))], [(q 3, .inl (kA 0, 4, .inl f))]]) H := hP
  have hD : va_D A (cat [[(q 2, .inl (kA 0, 66836, .inl al))], [(h, .inr (13, mF q (va_up x 5 (nI (539 * (31 * j + k)))) y))], [(q 3, .inl (kA 0, 4, .inl f))]]) := hD
  refine lv_iload_n (pc := 14) hx hb d_Mo_edge_14 rfl (lv_at hl 2 rfl) ?_
  refine lv_iconst (pc := 15) (v := 0) hx hb d_Mo_edge_15 (by decide) ?_
  refine lv_aload_n (pc := 16) hx hb d_Mo_edge_16 rfl (lv_at hl 0 rfl) ?_
  refine k_goI (gr := [[(q 3, .inl (kA 0, 4, .inl f))]]) (k_rV (pc := 17) (As := []) (rest := [.int 0, .int i1]) X (c_Mo_edges l D kA h q x y al (539 * (31 * j + k)) (by omega) H.size) rfl wm_3037 wm_9 wm_3034 wm_3036 wv_13_6 0 (by decide +kernel) ⟨Nat.le_of_ble_eq_true rfl, Nat.le_of_ble_eq_true rfl⟩ rfl rfl (va_recv hK hP (ci := 13) (q0 := 1) rfl rfl) (k_pre hN hK hP hD [1, 0] [2] 3 rfl (by decide) rfl) rfl hl.1 rfl (Nat.le_of_ble_eq_true rfl) d_Mo_edge_17 ⟨Nat.le_of_ble_eq_true rfl, Nat.le_of_ble_eq_true rfl⟩) hP hD hS hA [1, 0] [2] 3 rfl (by decide) rfl rfl (fun r4 u5 H locs hu5 hP hD hS => ?_)
  subst hu5
  have hP : va_P D classes (cat [[(q 3, .inl (kA 0, 4, .inl f))], [(h, .inr (13, mF q (va_up x 5 (nI (539 * (31 * j + k)))) y))], [(q 2, .inl (kA 0, 66836, .inl al))]]) H := hP
  have hD : va_D A (cat [[(q 3, .inl (kA 0, 4, .inl f))], [(h, .inr (13, mF q (va_up x 5 (nI (539 * (31 * j + k)))) y))], [(q 2, .inl (kA 0, 66836, .inl al))]]) := hD
  refine k_cst (v := nI nn) (hz) ?_
  refine lv_iconst (pc := 20) (v := 1) hx hb d_Mo_edge_20 (by decide) ?_
  refine lv_isub (pc := 21) hx hb d_Mo_edge_21 ?_
  refine k_goI (gr := [[(q 3, .inl (kA 0, 4, .inl f))], [(h, .inr (13, mF q (va_up x 5 (nI (539 * (31 * j + k)))) y))], [(q 2, .inl (kA 0, 66836, .inl al))]]) (k_rS (pc := 22) (As := [.int i1, .int 0, .int ((nI nn) - 1)]) (rest := []) X (c_Mo_in l D kA i1 0 ((nI nn) - 1) H.size) rfl wm_2971 wm_9 wm_2969 wm_2970 3 (by decide +kernel) ⟨Nat.le_of_ble_eq_true rfl, Nat.le_of_ble_eq_true rfl⟩ rfl rfl (k_pre hN hK hP hD [] [0, 1, 2] 3 rfl (by decide) rfl) rfl hl.1 rfl (Nat.le_of_ble_eq_true rfl) d_Mo_edge_22 ⟨Nat.le_of_ble_eq_true rfl, Nat.le_of_ble_eq_true rfl⟩) hP hD hS hA [] [0, 1, 2] 3 rfl (by decide) rfl rfl (fun r6 u7 H locs hu7 hP hD hS => ?_)
  subst hu7
  have hP : va_P D classes (cat [[(q 3, .inl (kA 0, 4, .inl f))], [(h, .inr (13, mF q (va_up x 5 (nI (539 * (31 * j + k)))) y))], [(q 2, .inl (kA 0, 66836, .inl al))]]) H := hP
  have hD : va_D A (cat [[(q 3, .inl (kA 0, 4, .inl f))], [(h, .inr (13, mF q (va_up x 5 (nI (539 * (31 * j + k)))) y))], [(q 2, .inl (kA 0, 66836, .inl al))]]) := hD
  refine lv_if_ne (pc := 25) (tgt := 30) hx hb d_Mo_edge_25 (by decide) (fun c1 => absurd (hv) c1) (fun c1 => ?_)
  refine lv_iconst (pc := 28) (v := -1) hx hb d_Mo_edge_28 (by decide) ?_
  obtain ⟨hP, hD⟩ := k_ord (gc := [[(h, .inr (13, mF q (va_up x 5 (nI (539 * (31 * j + k)))) y))], [(q 3, .inl (kA 0, 4, .inl f))], [(q 2, .inl (kA 0, 66836, .inl al))]]) hP hD [1, 0, 2] 3 rfl (by decide) rfl
  refine W.widen (k := 0) (n := 0) (Nat.le_of_ble_eq_true rfl) (Nat.le_of_ble_eq_true rfl) ?_
  exact W.iret (v := ((-1))) hx hb hr (fun t ht hW => ⟨⟨((-1)), (), rfl, (by unfold sp_Mo_edge_nn; rfl), by rw [ht]; exact hP, va_K.moved hW.alike hK, hD⟩, hS.F ht⟩) hS.2.2 d_Mo_edge_29
def sp_Mo_group_no  : Int32 := (-1)
set_option maxRecDepth 100000 in
set_option maxHeartbeats 4000000 in
/-- DrawingHouseModel.group(III)I -/
theorem c_Mo_group_no (l : Launch) (D : va_G) (kA : Nat → ClassId) (h : Nat) (q : Nat → Nat) (x : Nat → Int32) (y : Nat → Int64) (gp i1 w1 : Int32) (hg : sp_Mo_isPlace gp = 0)  : Ci l y_Mo_group z_Mo_group { frames := 2, cells := 0, slots := 0, locals := 43 } D classes (TY kA) [.ref h, .int gp, .int i1, .int w1] [[(h, .inr (13, mF q x y))]] (fun r (_ : Unit) => r = sp_Mo_group_no ) (fun _ => [[(h, .inr (13, mF q x y))]]) 0 0 := by
  intro sz
  refine k_met (cc := b_Mo_group) (maxL := 4) (ret := (some .int)) (by decide) rfl (Nat.le_of_ble_eq_true rfl) (fun p e s m below meth c ls X hl hB => ?_)
  obtain ⟨hsz, hP, hK, hD0, hN⟩ := hB
  subst hsz
  have hD := hD0.self (sz := s.heap.size)
  generalize hAe : va_A (cat [[(h, .inr (13, mF q x y))]]) s.heap.size = A at hD ⊢
  have hA : ∀ q : Nat, s.heap.size ≤ q → A q := fun q h => by rw [← hAe]; exact Or.inr h
  have hS : va_S A s.heap s.heap [] := va_S.rf
  obtain ⟨hx, hb, hml, hown, hts, hr, hlk, hnm⟩ := id X
  have hl : lv_has ls 4 [(0, .ref h), (1, .int gp), (2, .int i1), (3, .int w1)] := hl
  have hP : va_P D classes (cat [[(h, .inr (13, mF q x y))]]) s.heap := hP
  have hK : va_K D classes (TY kA) s := hK
  refine lv_iload_n (pc := 0) hx hb d_Mo_group_0 rfl (lv_at hl 1 rfl) ?_
  refine k_goI (gr := [[(h, .inr (13, mF q x y))]]) (k_rS (pc := 1) (As := [.int gp]) (rest := []) X (c_Mo_isPlace l D kA gp s.heap.size) rfl wm_2978 wm_9 wm_2976 wm_2977 1 (by decide +kernel) ⟨Nat.le_of_ble_eq_true rfl, Nat.le_of_ble_eq_true rfl⟩ rfl rfl (k_pre hN hK hP hD [] [0] 1 rfl (by decide) rfl) rfl hl.1 rfl (Nat.le_of_ble_eq_true rfl) d_Mo_group_1 ⟨Nat.le_of_ble_eq_true rfl, Nat.le_of_ble_eq_true rfl⟩) hP hD hS hA [] [0] 1 rfl (by decide) rfl rfl (fun r1 u2 H locs hu2 hP hD hS => ?_)
  subst hu2
  have hP : va_P D classes (cat [[(h, .inr (13, mF q x y))]]) H := hP
  have hD : va_D A (cat [[(h, .inr (13, mF q x y))]]) := hD
  refine lv_if_ne (pc := 4) (tgt := 9) hx hb d_Mo_group_4 (by decide) (fun c1 => absurd (hg) c1) (fun c1 => ?_)
  refine lv_iconst (pc := 7) (v := -1) hx hb d_Mo_group_7 (by decide) ?_
  refine W.widen (k := 0) (n := 0) (Nat.le_of_ble_eq_true rfl) (Nat.le_of_ble_eq_true rfl) ?_
  exact W.iret (v := ((-1))) hx hb hr (fun t ht hW => ⟨⟨((-1)), (), rfl, (by unfold sp_Mo_group_no; rfl), by rw [ht]; exact hP, va_K.moved hW.alike hK, hD⟩, hS.F ht⟩) hS.2.2 d_Mo_group_8
def sp_Mo_group_nn  : Int32 := (-1)
set_option maxRecDepth 100000 in
set_option maxHeartbeats 4000000 in
/-- DrawingHouseModel.group(III)I -/
theorem c_Mo_group_nn (l : Launch) (D : va_G) (kA : Nat → ClassId) (h : Nat) (q : Nat → Nat) (x : Nat → Int32) (y : Nat → Int64) (f al : Nat → Int32) (j k : Nat) (hj : j < 4) (hk : k < 31) (hf : f j = nI k) (nn : Nat) (hz : al (539 * (31 * j + k) + 2) = nI nn) (i1 w1 : Int32) (hv : sp_Mo_in i1 0 (nI nn - 1) = 0)  : Ci l y_Mo_group z_Mo_group { frames := 2, cells := 0, slots := 0, locals := 43 } D classes (TY kA) [.ref h, .int (nI j), .int i1, .int w1] [[(h, .inr (13, mF q x y))], [(q 3, .inl (kA 0, 4, .inl f))], [(q 2, .inl (kA 0, 66836, .inl al))]] (fun r (_ : Unit) => r = sp_Mo_group_nn ) (fun _ => [[(h, .inr (13, mF q (va_up x 5 (nI (539 * (31 * j + k)))) y))], [(q 3, .inl (kA 0, 4, .inl f))], [(q 2, .inl (kA 0, 66836, .inl al))]]) 0 0 := by
  intro sz
  refine k_met (cc := b_Mo_group) (maxL := 4) (ret := (some .int)) (by decide) rfl (Nat.le_of_ble_eq_true rfl) (fun p e s m below meth c ls X hl hB => ?_)
  obtain ⟨hsz, hP, hK, hD0, hN⟩ := hB
  subst hsz
  have hD := hD0.self (sz := s.heap.size)
  generalize hAe : va_A (cat [[(h, .inr (13, mF q x y))], [(q 3, .inl (kA 0, 4, .inl f))], [(q 2, .inl (kA 0, 66836, .inl al))]]) s.heap.size = A at hD ⊢
  have hA : ∀ q : Nat, s.heap.size ≤ q → A q := fun q h => by rw [← hAe]; exact Or.inr h
  have hS : va_S A s.heap s.heap [] := va_S.rf
  obtain ⟨hx, hb, hml, hown, hts, hr, hlk, hnm⟩ := id X
  have hl : lv_has ls 4 [(0, .ref h), (1, .int (nI j)), (2, .int i1), (3, .int w1)] := hl
  have hP : va_P D classes (cat [[(h, .inr (13, mF q x y))], [(q 3, .inl (kA 0, 4, .inl f))], [(q 2, .inl (kA 0, 66836, .inl al))]]) s.heap := hP
  have hK : va_K D classes (TY kA) s := hK
  refine lv_iload_n (pc := 0) hx hb d_Mo_group_0 rfl (lv_at hl 1 rfl) ?_
  refine k_goI (gr := [[(h, .inr (13, mF q x y))], [(q 3, .inl (kA 0, 4, .inl f))], [(q 2, .inl (kA 0, 66836, .inl al))]]) (k_rS (pc := 1) (As := [.int (nI j)]) (rest := []) X (c_Mo_isPlace l D kA (nI j) s.heap.size) rfl wm_2978 wm_9 wm_2976 wm_2977 1 (by decide +kernel) ⟨Nat.le_of_ble_eq_true rfl, Nat.le_of_ble_eq_true rfl⟩ rfl rfl (k_pre hN hK hP hD [] [0, 1, 2] 3 rfl (by decide) rfl) rfl hl.1 rfl (Nat.le_of_ble_eq_true rfl) d_Mo_group_1 ⟨Nat.le_of_ble_eq_true rfl, Nat.le_of_ble_eq_true rfl⟩) hP hD hS hA [] [0, 1, 2] 3 rfl (by decide) rfl rfl (fun r1 u2 H locs hu2 hP hD hS => ?_)
  subst hu2
  have hP : va_P D classes (cat [[(h, .inr (13, mF q x y))], [(q 3, .inl (kA 0, 4, .inl f))], [(q 2, .inl (kA 0, 66836, .inl al))]]) H := hP
  have hD : va_D A (cat [[(h, .inr (13, mF q x y))], [(q 3, .inl (kA 0, 4, .inl f))], [(q 2, .inl (kA 0, 66836, .inl al))]]) := hD
  refine lv_if_ne (pc := 4) (tgt := 9) hx hb d_Mo_group_4 (by decide) (fun c1 => ?_) (fun c1 => absurd c1 (fun e => absurd ((placeM_ok hj).symm.trans e) (by decide)))
  refine lv_aload_n (pc := 9) hx hb d_Mo_group_9 rfl (lv_at hl 0 rfl) ?_
  refine lv_iload_n (pc := 10) hx hb d_Mo_group_10 rfl (lv_at hl 1 rfl) ?_
  refine k_goV (gr := [[(q 2, .inl (kA 0, 66836, .inl al))]]) (k_rV (pc := 11) (As := [.int (nI j)]) (rest := []) X (c_Mo_take l D kA h q x y f j k hj hf H.size) rfl wm_3091 wm_9 wm_3088 wm_3090 wv_14_2 1 (by decide +kernel) ⟨Nat.le_of_ble_eq_true rfl, Nat.le_of_ble_eq_true rfl⟩ rfl rfl (va_recv hK hP (ci := 13) (q0 := 0) rfl rfl) (k_pre hN hK hP hD [0, 1] [2] 3 rfl (by decide) rfl) rfl hl.1 rfl (Nat.le_of_ble_eq_true rfl) d_Mo_group_11 ⟨Nat.le_of_ble_eq_true rfl, Nat.le_of_ble_eq_true rfl⟩) hP hD hS hA [0, 1] [2] 3 rfl (by decide) rfl rfl (fun u3 H locs hu3 hP hD hS => ?_)
  have hP : va_P D classes (cat [[(q 2, .inl (kA 0, 66836, .inl al))], [(h, .inr (13, mF q (va_up x 5 (nI (539 * (31 * j + k)))) y))], [(q 3, .inl (kA 0, 4, .inl f))]]) H := hP
  have hD : va_D A (cat [[(q 2, .inl (kA 0, 66836, .inl al))], [(h, .inr (13, mF q (va_up x 5 (nI (539 * (31 * j + k)))) y))], [(q 3, .inl (kA 0, 4, .inl f))]]) := hD
  refine lv_iload_n (pc := 14) hx hb d_Mo_group_14 rfl (lv_at hl 2 rfl) ?_
  refine lv_iconst (pc := 15) (v := 0) hx hb d_Mo_group_15 (by decide) ?_
  refine lv_aload_n (pc := 16) hx hb d_Mo_group_16 rfl (lv_at hl 0 rfl) ?_
  refine k_goI (gr := [[(q 3, .inl (kA 0, 4, .inl f))]]) (k_rV (pc := 17) (As := []) (rest := [.int 0, .int i1]) X (c_Mo_groups l D kA h q x y al (539 * (31 * j + k)) (by omega) H.size) rfl wm_3070 wm_9 wm_3067 wm_3069 wv_13_14 0 (by decide +kernel) ⟨Nat.le_of_ble_eq_true rfl, Nat.le_of_ble_eq_true rfl⟩ rfl rfl (va_recv hK hP (ci := 13) (q0 := 1) rfl rfl) (k_pre hN hK hP hD [1, 0] [2] 3 rfl (by decide) rfl) rfl hl.1 rfl (Nat.le_of_ble_eq_true rfl) d_Mo_group_17 ⟨Nat.le_of_ble_eq_true rfl, Nat.le_of_ble_eq_true rfl⟩) hP hD hS hA [1, 0] [2] 3 rfl (by decide) rfl rfl (fun r4 u5 H locs hu5 hP hD hS => ?_)
  subst hu5
  have hP : va_P D classes (cat [[(q 3, .inl (kA 0, 4, .inl f))], [(h, .inr (13, mF q (va_up x 5 (nI (539 * (31 * j + k)))) y))], [(q 2, .inl (kA 0, 66836, .inl al))]]) H := hP
  have hD : va_D A (cat [[(q 3, .inl (kA 0, 4, .inl f))], [(h, .inr (13, mF q (va_up x 5 (nI (539 * (31 * j + k)))) y))], [(q 2, .inl (kA 0, 66836, .inl al))]]) := hD
  refine k_cst (v := nI nn) (hz) ?_
  refine lv_iconst (pc := 20) (v := 1) hx hb d_Mo_group_20 (by decide) ?_
  refine lv_isub (pc := 21) hx hb d_Mo_group_21 ?_
  refine k_goI (gr := [[(q 3, .inl (kA 0, 4, .inl f))], [(h, .inr (13, mF q (va_up x 5 (nI (539 * (31 * j + k)))) y))], [(q 2, .inl (kA 0, 66836, .inl al))]]) (k_rS (pc := 22) (As := [.int i1, .int 0, .int ((nI nn) - 1)]) (rest := []) X (c_Mo_in l D kA i1 0 ((nI nn) - 1) H.size) rfl wm_2971 wm_9 wm_2969 wm_2970 3 (by decide +kernel) ⟨Nat.le_of_ble_eq_true rfl, Nat.le_of_ble_eq_true rfl⟩ rfl rfl (k_pre hN hK hP hD [] [0, 1, 2] 3 rfl (by decide) rfl) rfl hl.1 rfl (Nat.le_of_ble_eq_true rfl) d_Mo_group_22 ⟨Nat.le_of_ble_eq_true rfl, Nat.le_of_ble_eq_true rfl⟩) hP hD hS hA [] [0, 1, 2] 3 rfl (by decide) rfl rfl (fun r6 u7 H locs hu7 hP hD hS => ?_)
  subst hu7
  have hP : va_P D classes (cat [[(q 3, .inl (kA 0, 4, .inl f))], [(h, .inr (13, mF q (va_up x 5 (nI (539 * (31 * j + k)))) y))], [(q 2, .inl (kA 0, 66836, .inl al))]]) H := hP
  have hD : va_D A (cat [[(q 3, .inl (kA 0, 4, .inl f))], [(h, .inr (13, mF q (va_up x 5 (nI (539 * (31 * j + k)))) y))], [(q 2, .inl (kA 0, 66836, .inl al))]]) := hD
  refine lv_if_ne (pc := 25) (tgt := 30) hx hb d_Mo_group_25 (by decide) (fun c1 => absurd (hv) c1) (fun c1 => ?_)
  refine lv_iconst (pc := 28) (v := -1) hx hb d_Mo_group_28 (by decide) ?_
  obtain ⟨hP, hD⟩ := k_ord (gc := [[(h, .inr (13, mF q (va_up x 5 (nI (539 * (31 * j + k)))) y))], [(q 3, .inl (kA 0, 4, .inl f))], [(q 2, .inl (kA 0, 66836, .inl al))]]) hP hD [1, 0, 2] 3 rfl (by decide) rfl
  refine W.widen (k := 0) (n := 0) (Nat.le_of_ble_eq_true rfl) (Nat.le_of_ble_eq_true rfl) ?_
  exact W.iret (v := ((-1))) hx hb hr (fun t ht hW => ⟨⟨((-1)), (), rfl, (by unfold sp_Mo_group_nn; rfl), by rw [ht]; exact hP, va_K.moved hW.alike hK, hD⟩, hS.F ht⟩) hS.2.2 d_Mo_group_29
