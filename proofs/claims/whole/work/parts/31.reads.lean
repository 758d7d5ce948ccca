theorem wm_199 : (Cond.fieldLink "DrawingHouse" (135 : Nat) "DrawingHouse$Reader" "fault" "I" : Cond) ∈ lw_g := lw_gi (lw_c1 (List.mem_of_getElem? (i := 199) rfl)) rfl
theorem wm_201 : (Cond.fieldLink "DrawingHouse" (138 : Nat) "DrawingHouse$Reader" "faultPlace" "I" : Cond) ∈ lw_g := lw_gi (lw_c1 (List.mem_of_getElem? (i := 201) rfl)) rfl
theorem wm_633 : (Cond.code ({ cls := "DrawingHouse", name := "isPlace", desc := "(I)Z" } : MethodName) prog_1_method_30_code (1 : Nat) (Option.some ClassFile.FieldType.boolean) : Cond) ∈ lw_g := lw_gi (lw_c3 (List.mem_of_getElem? (i := 153) rfl)) rfl
theorem wm_802 : (Cond.code ({ cls := "DrawingHouse", name := "fault", desc := "(I)I" } : MethodName) prog_1_method_4_code (2 : Nat) (Option.some ClassFile.FieldType.int) : Cond) ∈ lw_g := lw_gi (lw_c4 (List.mem_of_getElem? (i := 82) rfl)) rfl
theorem wm_921 : (Cond.code ({ cls := "DrawingHouse$Graph", name := "hasNode", desc := "(I)Z" } : MethodName) prog_5_method_4_code (2 : Nat) (Option.some ClassFile.FieldType.boolean) : Cond) ∈ lw_g := lw_gi (lw_c4 (List.mem_of_getElem? (i := 201) rfl)) rfl
theorem wm_930 : (Cond.code ({ cls := "DrawingHouse$Graph", name := "hasEdge", desc := "(I)Z" } : MethodName) prog_5_method_5_code (2 : Nat) (Option.some ClassFile.FieldType.boolean) : Cond) ∈ lw_g := lw_gi (lw_c4 (List.mem_of_getElem? (i := 210) rfl)) rfl
theorem wm_942 : (Cond.code ({ cls := "DrawingHouse$Graph", name := "hasGroup", desc := "(I)Z" } : MethodName) prog_5_method_6_code (2 : Nat) (Option.some ClassFile.FieldType.boolean) : Cond) ∈ lw_g := lw_gi (lw_c4 (List.mem_of_getElem? (i := 222) rfl)) rfl
theorem wm_2440 : (Cond.fieldLink "DrawingHouseModel" (409 : Nat) "DrawingHouseModel" "isTold" "Z" : Cond) ∈ lw_g := lw_gi (lw_c11 (List.mem_of_getElem? (i := 40) rfl)) rfl
theorem wm_2441 : (Cond.fieldLink "DrawingHouseModel" (413 : Nat) "DrawingHouseModel" "fault" "I" : Cond) ∈ lw_g := lw_gi (lw_c11 (List.mem_of_getElem? (i := 41) rfl)) rfl
theorem wm_2442 : (Cond.fieldLink "DrawingHouseModel" (416 : Nat) "DrawingHouseModel" "faultPlace" "I" : Cond) ∈ lw_g := lw_gi (lw_c11 (List.mem_of_getElem? (i := 42) rfl)) rfl
theorem wm_2968 : (Cond.code ({ cls := "DrawingHouseModel", name := "fault", desc := "(I)I" } : MethodName) prog_15_method_24_code (2 : Nat) (Option.some ClassFile.FieldType.int) : Cond) ∈ lw_g := lw_gi (lw_c13 (List.mem_of_getElem? (i := 88) rfl)) rfl
theorem wm_2969 : (Cond.methodLink "DrawingHouseModel" (387 : Nat) ({ cls := "DrawingHouseModel", name := "in", desc := "(III)Z" } : MethodName) : Cond) ∈ lw_g := lw_gi (lw_c13 (List.mem_of_getElem? (i := 89) rfl)) rfl
theorem wm_2970 : (Cond.static ({ cls := "DrawingHouseModel", name := "in", desc := "(III)Z" } : MethodName) : Cond) ∈ lw_g := lw_gi (lw_c13 (List.mem_of_getElem? (i := 90) rfl)) rfl
theorem wm_2971 : (Cond.code ({ cls := "DrawingHouseModel", name := "in", desc := "(III)Z" } : MethodName) prog_15_method_3_code (3 : Nat) (Option.some ClassFile.FieldType.boolean) : Cond) ∈ lw_g := lw_gi (lw_c13 (List.mem_of_getElem? (i := 91) rfl)) rfl
theorem wm_2978 : (Cond.code ({ cls := "DrawingHouseModel", name := "isPlace", desc := "(I)Z" } : MethodName) prog_15_method_9_code (1 : Nat) (Option.some ClassFile.FieldType.boolean) : Cond) ∈ lw_g := lw_gi (lw_c13 (List.mem_of_getElem? (i := 98) rfl)) rfl
abbrev b_Ho_isPlace : ByteArray := prog_1_method_30_code
def y_Ho_isPlace : MethodName := ⟨"DrawingHouse", "isPlace", "(I)Z"⟩
abbrev z_Ho_isPlace : List Cond := Cond.code y_Ho_isPlace b_Ho_isPlace 1 (some .boolean) :: lw_g
theorem d_Ho_isPlace_0 : decode b_Ho_isPlace 0 = .ok (.iload_n 0, 1) := by decide +kernel
theorem d_Ho_isPlace_1 : decode b_Ho_isPlace 1 = .ok (.ifCond .lt 12, 3) := by decide +kernel
theorem d_Ho_isPlace_4 : decode b_Ho_isPlace 4 = .ok (.iload_n 0, 1) := by decide +kernel
theorem d_Ho_isPlace_5 : decode b_Ho_isPlace 5 = .ok (.iconst 4, 1) := by decide +kernel
theorem d_Ho_isPlace_6 : decode b_Ho_isPlace 6 = .ok (.if_icmp .ge 7, 3) := by decide +kernel
theorem d_Ho_isPlace_9 : decode b_Ho_isPlace 9 = .ok (.iconst 1, 1) := by decide +kernel
theorem d_Ho_isPlace_10 : decode b_Ho_isPlace 10 = .ok (.goto 4, 3) := by decide +kernel
theorem d_Ho_isPlace_13 : decode b_Ho_isPlace 13 = .ok (.iconst 0, 1) := by decide +kernel
theorem d_Ho_isPlace_14 : decode b_Ho_isPlace 14 = .ok (.ireturn, 1) := by decide +kernel
abbrev b_Mo_in : ByteArray := prog_15_method_3_code
def y_Mo_in : MethodName := ⟨"DrawingHouseModel", "in", "(III)Z"⟩
abbrev z_Mo_in : List Cond := Cond.code y_Mo_in b_Mo_in 3 (some .boolean) :: lw_g
theorem d_Mo_in_0 : decode b_Mo_in 0 = .ok (.iload_n 0, 1) := by decide +kernel
theorem d_Mo_in_1 : decode b_Mo_in 1 = .ok (.iload_n 1, 1) := by decide +kernel
theorem d_Mo_in_2 : decode b_Mo_in 2 = .ok (.if_icmp .lt 12, 3) := by decide +kernel
theorem d_Mo_in_5 : decode b_Mo_in 5 = .ok (.iload_n 0, 1) := by decide +kernel
theorem d_Mo_in_6 : decode b_Mo_in 6 = .ok (.iload_n 2, 1) := by decide +kernel
theorem d_Mo_in_7 : decode b_Mo_in 7 = .ok (.if_icmp .gt 7, 3) := by decide +kernel
theorem d_Mo_in_10 : decode b_Mo_in 10 = .ok (.iconst 1, 1) := by decide +kernel
theorem d_Mo_in_11 : decode b_Mo_in 11 = .ok (.goto 4, 3) := by decide +kernel
theorem d_Mo_in_14 : decode b_Mo_in 14 = .ok (.iconst 0, 1) := by decide +kernel
theorem d_Mo_in_15 : decode b_Mo_in 15 = .ok (.ireturn, 1) := by decide +kernel
abbrev b_Mo_isPlace : ByteArray := prog_15_method_9_code
def y_Mo_isPlace : MethodName := ⟨"DrawingHouseModel", "isPlace", "(I)Z"⟩
abbrev z_Mo_isPlace : List Cond := Cond.code y_Mo_isPlace b_Mo_isPlace 1 (some .boolean) :: lw_g
theorem d_Mo_isPlace_0 : decode b_Mo_isPlace 0 = .ok (.iload_n 0, 1) := by decide +kernel
theorem d_Mo_isPlace_1 : decode b_Mo_isPlace 1 = .ok (.iconst 0, 1) := by decide +kernel
theorem d_Mo_isPlace_2 : decode b_Mo_isPlace 2 = .ok (.iconst 3, 1) := by decide +kernel
theorem d_Mo_isPlace_3 : decode b_Mo_isPlace 3 = .ok (.invokestatic 387, 3) := by decide +kernel
theorem d_Mo_isPlace_6 : decode b_Mo_isPlace 6 = .ok (.ireturn, 1) := by decide +kernel
abbrev b_Gr_hasNode : ByteArray := prog_5_method_4_code
def y_Gr_hasNode : MethodName := ⟨"DrawingHouse$Graph", "hasNode", "(I)Z"⟩
abbrev z_Gr_hasNode : List Cond := Cond.code y_Gr_hasNode b_Gr_hasNode 2 (some .boolean) :: lw_g
theorem d_Gr_hasNode_0 : decode b_Gr_hasNode 0 = .ok (.iload_n 1, 1) := by decide +kernel
theorem d_Gr_hasNode_1 : decode b_Gr_hasNode 1 = .ok (.ifCond .lt 15, 3) := by decide +kernel
theorem d_Gr_hasNode_4 : decode b_Gr_hasNode 4 = .ok (.iload_n 1, 1) := by decide +kernel
theorem d_Gr_hasNode_5 : decode b_Gr_hasNode 5 = .ok (.aload_n 0, 1) := by decide +kernel
theorem d_Gr_hasNode_6 : decode b_Gr_hasNode 6 = .ok (.getfield 9, 3) := by decide +kernel
theorem d_Gr_hasNode_9 : decode b_Gr_hasNode 9 = .ok (.if_icmp .ge 7, 3) := by decide +kernel
theorem d_Gr_hasNode_12 : decode b_Gr_hasNode 12 = .ok (.iconst 1, 1) := by decide +kernel
theorem d_Gr_hasNode_13 : decode b_Gr_hasNode 13 = .ok (.goto 4, 3) := by decide +kernel
theorem d_Gr_hasNode_16 : decode b_Gr_hasNode 16 = .ok (.iconst 0, 1) := by decide +kernel
theorem d_Gr_hasNode_17 : decode b_Gr_hasNode 17 = .ok (.ireturn, 1) := by decide +kernel
abbrev b_Gr_hasEdge : ByteArray := prog_5_method_5_code
def y_Gr_hasEdge : MethodName := ⟨"DrawingHouse$Graph", "hasEdge", "(I)Z"⟩
abbrev z_Gr_hasEdge : List Cond := Cond.code y_Gr_hasEdge b_Gr_hasEdge 2 (some .boolean) :: lw_g
theorem d_Gr_hasEdge_0 : decode b_Gr_hasEdge 0 = .ok (.iload_n 1, 1) := by decide +kernel
theorem d_Gr_hasEdge_1 : decode b_Gr_hasEdge 1 = .ok (.ifCond .lt 15, 3) := by decide +kernel
theorem d_Gr_hasEdge_4 : decode b_Gr_hasEdge 4 = .ok (.iload_n 1, 1) := by decide +kernel
theorem d_Gr_hasEdge_5 : decode b_Gr_hasEdge 5 = .ok (.aload_n 0, 1) := by decide +kernel
theorem d_Gr_hasEdge_6 : decode b_Gr_hasEdge 6 = .ok (.getfield 15, 3) := by decide +kernel
theorem d_Gr_hasEdge_9 : decode b_Gr_hasEdge 9 = .ok (.if_icmp .ge 7, 3) := by decide +kernel
theorem d_Gr_hasEdge_12 : decode b_Gr_hasEdge 12 = .ok (.iconst 1, 1) := by decide +kernel
theorem d_Gr_hasEdge_13 : decode b_Gr_hasEdge 13 = .ok (.goto 4, 3) := by decide +kernel
theorem d_Gr_hasEdge_16 : decode b_Gr_hasEdge 16 = .ok (.iconst 0, 1) := by decide +kernel
theorem d_Gr_hasEdge_17 : decode b_Gr_hasEdge 17 = .ok (.ireturn, 1) := by decide +kernel
abbrev b_Gr_hasGroup : ByteArray := prog_5_method_6_code
def y_Gr_hasGroup : MethodName := ⟨"DrawingHouse$Graph", "hasGroup", "(I)Z"⟩
abbrev z_Gr_hasGroup : List Cond := Cond.code y_Gr_hasGroup b_Gr_hasGroup 2 (some .boolean) :: lw_g
theorem d_Gr_hasGroup_0 : decode b_Gr_hasGroup 0 = .ok (.iload_n 1, 1) := by decide +kernel
theorem d_Gr_hasGroup_1 : decode b_Gr_hasGroup 1 = .ok (.ifCond .lt 15, 3) := by decide +kernel
theorem d_Gr_hasGroup_4 : decode b_Gr_hasGroup 4 = .ok (.iload_n 1, 1) := by decide +kernel
theorem d_Gr_hasGroup_5 : decode b_Gr_hasGroup 5 = .ok (.aload_n 0, 1) := by decide +kernel
theorem d_Gr_hasGroup_6 : decode b_Gr_hasGroup 6 = .ok (.getfield 18, 3) := by decide +kernel
theorem d_Gr_hasGroup_9 : decode b_Gr_hasGroup 9 = .ok (.if_icmp .ge 7, 3) := by decide +kernel
theorem d_Gr_hasGroup_12 : decode b_Gr_hasGroup 12 = .ok (.iconst 1, 1) := by decide +kernel
theorem d_Gr_hasGroup_13 : decode b_Gr_hasGroup 13 = .ok (.goto 4, 3) := by decide +kernel
theorem d_Gr_hasGroup_16 : decode b_Gr_hasGroup 16 = .ok (.iconst 0, 1) := by decide +kernel
theorem d_Gr_hasGroup_17 : decode b_Gr_hasGroup 17 = .ok (.ireturn, 1) := by decide +kernel
abbrev b_Ho_fault : ByteArray := prog_1_method_4_code
def y_Ho_fault : MethodName := ⟨"DrawingHouse", "fault", "(I)I"⟩
abbrev z_Ho_fault : List Cond := Cond.code y_Ho_fault b_Ho_fault 2 (some .int) :: lw_g
theorem d_Ho_fault_0 : decode b_Ho_fault 0 = .ok (.iload_n 1, 1) := by decide +kernel
theorem d_Ho_fault_1 : decode b_Ho_fault 1 = .ok (.ifCond .ne 11, 3) := by decide +kernel
theorem d_Ho_fault_4 : decode b_Ho_fault 4 = .ok (.aload_n 0, 1) := by decide +kernel
theorem d_Ho_fault_5 : decode b_Ho_fault 5 = .ok (.getfield 38, 3) := by decide +kernel
theorem d_Ho_fault_8 : decode b_Ho_fault 8 = .ok (.getfield 135, 3) := by decide +kernel
theorem d_Ho_fault_11 : decode b_Ho_fault 11 = .ok (.ireturn, 1) := by decide +kernel
theorem d_Ho_fault_12 : decode b_Ho_fault 12 = .ok (.iload_n 1, 1) := by decide +kernel
theorem d_Ho_fault_13 : decode b_Ho_fault 13 = .ok (.iconst 1, 1) := by decide +kernel
theorem d_Ho_fault_14 : decode b_Ho_fault 14 = .ok (.if_icmp .ne 13, 3) := by decide +kernel
theorem d_Ho_fault_17 : decode b_Ho_fault 17 = .ok (.aload_n 0, 1) := by decide +kernel
theorem d_Ho_fault_18 : decode b_Ho_fault 18 = .ok (.getfield 38, 3) := by decide +kernel
theorem d_Ho_fault_21 : decode b_Ho_fault 21 = .ok (.getfield 138, 3) := by decide +kernel
theorem d_Ho_fault_24 : decode b_Ho_fault 24 = .ok (.goto 4, 3) := by decide +kernel
theorem d_Ho_fault_27 : decode b_Ho_fault 27 = .ok (.iconst (-1), 1) := by decide +kernel
theorem d_Ho_fault_28 : decode b_Ho_fault 28 = .ok (.ireturn, 1) := by decide +kernel
abbrev b_Mo_fault : ByteArray := prog_15_method_24_code
def y_Mo_fault : MethodName := ⟨"DrawingHouseModel", "fault", "(I)I"⟩
abbrev z_Mo_fault : List Cond := Cond.code y_Mo_fault b_Mo_fault 2 (some .int) :: lw_g
theorem d_Mo_fault_0 : decode b_Mo_fault 0 = .ok (.aload_n 0, 1) := by decide +kernel
theorem d_Mo_fault_1 : decode b_Mo_fault 1 = .ok (.getfield 409, 3) := by decide +kernel
theorem d_Mo_fault_4 : decode b_Mo_fault 4 = .ok (.ifCond .eq 12, 3) := by decide +kernel
theorem d_Mo_fault_7 : decode b_Mo_fault 7 = .ok (.iload_n 1, 1) := by decide +kernel
theorem d_Mo_fault_8 : decode b_Mo_fault 8 = .ok (.iconst 0, 1) := by decide +kernel
theorem d_Mo_fault_9 : decode b_Mo_fault 9 = .ok (.iconst 1, 1) := by decide +kernel
theorem d_Mo_fault_10 : decode b_Mo_fault 10 = .ok (.invokestatic 387, 3) := by decide +kernel
theorem d_Mo_fault_13 : decode b_Mo_fault 13 = .ok (.ifCond .ne 7, 3) := by decide +kernel
theorem d_Mo_fault_16 : decode b_Mo_fault 16 = .ok (.iconst (-1), 1) := by decide +kernel
theorem d_Mo_fault_17 : decode b_Mo_fault 17 = .ok (.goto 29, 3) := by decide +kernel
theorem d_Mo_fault_20 : decode b_Mo_fault 20 = .ok (.iload_n 1, 1) := by decide +kernel
theorem d_Mo_fault_21 : decode b_Mo_fault 21 = .ok (.ifCond .ne 10, 3) := by decide +kernel
theorem d_Mo_fault_24 : decode b_Mo_fault 24 = .ok (.aload_n 0, 1) := by decide +kernel
theorem d_Mo_fault_25 : decode b_Mo_fault 25 = .ok (.getfield 413, 3) := by decide +kernel
theorem d_Mo_fault_28 : decode b_Mo_fault 28 = .ok (.goto 18, 3) := by decide +kernel
theorem d_Mo_fault_31 : decode b_Mo_fault 31 = .ok (.aload_n 0, 1) := by decide +kernel
theorem d_Mo_fault_32 : decode b_Mo_fault 32 = .ok (.getfield 413, 3) := by decide +kernel
theorem d_Mo_fault_35 : decode b_Mo_fault 35 = .ok (.ifCond .ne 7, 3) := by decide +kernel
theorem d_Mo_fault_38 : decode b_Mo_fault 38 = .ok (.iconst (-1), 1) := by decide +kernel
theorem d_Mo_fault_39 : decode b_Mo_fault 39 = .ok (.goto 7, 3) := by decide +kernel
theorem d_Mo_fault_42 : decode b_Mo_fault 42 = .ok (.aload_n 0, 1) := by decide +kernel
theorem d_Mo_fault_43 : decode b_Mo_fault 43 = .ok (.getfield 416, 3) := by decide +kernel
theorem d_Mo_fault_46 : decode b_Mo_fault 46 = .ok (.ireturn, 1) := by decide +kernel
def fGr (q : Nat → Nat) (x : Nat → Int32) (o16 : Option Nat) : List Value := [.int (x 0), .int (x 1), .int (x 2), .ref (q 3), .ref (q 4), .ref (q 5), .ref (q 6), .ref (q 7), .ref (q 8), .ref (q 9), .ref (q 10), .ref (q 11), .ref (q 12), .ref (q 13), .ref (q 14), .ref (q 15), va_rf o16, .int (x 17), .int (x 18)]
def fRe (q : Nat → Nat) (x : Nat → Int32) : List Value := [.ref (q 0), .int (x 1), .int (x 2), .int (x 3), .ref (q 4), .int (x 5), .int (x 6), .int (x 7), .int (x 8), .int (x 9), .ref (q 10), .int (x 11)]
def fHo (q : Nat → Nat) (x : Nat → Int32) (o16 : Option Nat) (o17 : Option Nat) (o18 : Option Nat) (o19 : Option Nat) (o20 : Option Nat) : List Value := [.ref (q 0), .ref (q 1), .ref (q 2), .ref (q 3), .ref (q 4), .ref (q 5), .ref (q 6), .int (x 7), .int (x 8), .ref (q 9), .ref (q 10), .int (x 11), .int (x 12), .ref (q 13), .int (x 14), .int (x 15), va_rf o16, va_rf o17, va_rf o18, va_rf o19, va_rf o20]
def sp_Ho_isPlace (g : Int32) : Int32 := if g < 0 then 0 else if 4 ≤ g then 0 else 1
set_option maxRecDepth 100000 in
set_option maxHeartbeats 4000000 in
/-- DrawingHouse.isPlace(I)Z -/
theorem c_Ho_isPlace (l : Launch) (D : va_G) (kA : Nat → ClassId) (g : Int32)  : Ci l y_Ho_isPlace z_Ho_isPlace { frames := 0, cells := 0, slots := 0, locals := 0 } D classes (TY kA) [.int g] [] (fun r (_ : Unit) => r = sp_Ho_isPlace g) (fun _ => []) 0 0 := by
  intro sz
  refine k_met (cc := b_Ho_isPlace) (maxL := 1) (ret := (some .boolean)) (by decide) rfl (Nat.le_of_ble_eq_true rfl) (fun p e s m below meth c ls X hl hB => ?_)
  obtain ⟨hsz, hP, hK, hD0, hN⟩ := hB
  subst hsz
  have hD := hD0.self (sz := s.heap.size)
  generalize hAe : va_A (cat []) s.heap.size = A at hD ⊢
  have hA : ∀ q : Nat, s.heap.size ≤ q → A q := fun q h => by rw [← hAe]; exact Or.inr h
  have hS : va_S A s.heap s.heap [] := va_S.rf
  obtain ⟨hx, hb, hml, hown, hts, hr, hlk, hnm⟩ := id X
  have hl : lv_has ls 1 [(0, .int g)] := hl
  have hP : va_P D classes (cat []) s.heap := hP
  have hK : va_K D classes (TY kA) s := hK
  refine lv_iload_n (pc := 0) hx hb d_Ho_isPlace_0 rfl (lv_at hl 0 rfl) ?_
  refine lv_if_lt (pc := 1) (tgt := 13) hx hb d_Ho_isPlace_1 (by decide) (fun ck1 => ?_) (fun ck1 => ?_)
  · refine lv_iconst (pc := 13) (v := 0) hx hb d_Ho_isPlace_13 (by decide) ?_
    refine W.widen (k := 0) (n := 0) (Nat.le_of_ble_eq_true rfl) (Nat.le_of_ble_eq_true rfl) ?_
    exact W.zret (v := 0) hx hb hr rfl (fun t ht hW => ⟨⟨0, (), rfl, (by unfold sp_Ho_isPlace; rw [if_pos ck1]), by rw [ht]; exact hP, va_K.moved hW.alike hK, hD⟩, hS.F ht⟩) hS.2.2 d_Ho_isPlace_14
  · refine lv_iload_n (pc := 4) hx hb d_Ho_isPlace_4 rfl (lv_at hl 0 rfl) ?_
    refine lv_iconst (pc := 5) (v := 4) hx hb d_Ho_isPlace_5 (by decide) ?_
    refine lv_icmp_ge (pc := 6) (tgt := 13) hx hb d_Ho_isPlace_6 (by decide) (fun ck2 => ?_) (fun ck2 => ?_)
    · refine lv_iconst (pc := 13) (v := 0) hx hb d_Ho_isPlace_13 (by decide) ?_
      refine W.widen (k := 0) (n := 0) (Nat.le_of_ble_eq_true rfl) (Nat.le_of_ble_eq_true rfl) ?_
      exact W.zret (v := 0) hx hb hr rfl (fun t ht hW => ⟨⟨0, (), rfl, (by unfold sp_Ho_isPlace; rw [if_neg ck1, if_pos ck2]), by rw [ht]; exact hP, va_K.moved hW.alike hK, hD⟩, hS.F ht⟩) hS.2.2 d_Ho_isPlace_14
    · refine lv_iconst (pc := 9) (v := 1) hx hb d_Ho_isPlace_9 (by decide) ?_
      refine lv_goto (pc := 10) (tgt := 14) hx hb d_Ho_isPlace_10 (by decide) ?_
      refine W.widen (k := 0) (n := 0) (Nat.le_of_ble_eq_true rfl) (Nat.le_of_ble_eq_true rfl) ?_
      exact W.zret (v := 1) hx hb hr rfl (fun t ht hW => ⟨⟨1, (), rfl, (by unfold sp_Ho_isPlace; rw [if_neg ck1, if_neg ck2]), by rw [ht]; exact hP, va_K.moved hW.alike hK, hD⟩, hS.F ht⟩) hS.2.2 d_Ho_isPlace_14
def sp_Mo_in (v : Int32) (lo : Int32) (hi : Int32) : Int32 := if v < lo then 0 else if hi < v then 0 else 1
set_option maxRecDepth 100000 in
set_option maxHeartbeats 4000000 in
/-- DrawingHouseModel.in(III)Z -/
theorem c_Mo_in (l : Launch) (D : va_G) (kA : Nat → ClassId) (v lo hi : Int32)  : Ci l y_Mo_in z_Mo_in { frames := 0, cells := 0, slots := 0, locals := 0 } D classes (TY kA) [.int v, .int lo, .int hi] [] (fun r (_ : Unit) => r = sp_Mo_in v lo hi) (fun _ => []) 0 0 := by
  intro sz
  refine k_met (cc := b_Mo_in) (maxL := 3) (ret := (some .boolean)) (by decide) rfl (Nat.le_of_ble_eq_true rfl) (fun p e s m below meth c ls X hl hB => ?_)
  obtain ⟨hsz, hP, hK, hD0, hN⟩ := hB
  subst hsz
  have hD := hD0.self (sz := s.heap.size)
  generalize hAe : va_A (cat []) s.heap.size = A at hD ⊢
  have hA : ∀ q : Nat, s.heap.size ≤ q → A q := fun q h => by rw [← hAe]; exact Or.inr h
  have hS : va_S A s.heap s.heap [] := va_S.rf
  obtain ⟨hx, hb, hml, hown, hts, hr, hlk, hnm⟩ := id X
  have hl : lv_has ls 3 [(0, .int v), (1, .int lo), (2, .int hi)] := hl
  have hP : va_P D classes (cat []) s.heap := hP
  have hK : va_K D classes (TY kA) s := hK
  refine lv_iload_n (pc := 0) hx hb d_Mo_in_0 rfl (lv_at hl 0 rfl) ?_
  refine lv_iload_n (pc := 1) hx hb d_Mo_in_1 rfl (lv_at hl 1 rfl) ?_
  refine lv_icmp_lt (pc := 2) (tgt := 14) hx hb d_Mo_in_2 (by decide) (fun ck1 => ?_) (fun ck1 => ?_)
  · refine lv_iconst (pc := 14) (v := 0) hx hb d_Mo_in_14 (by decide) ?_
    refine W.widen (k := 0) (n := 0) (Nat.le_of_ble_eq_true rfl) (Nat.le_of_ble_eq_true rfl) ?_
    exact W.zret (v := 0) hx hb hr rfl (fun t ht hW => ⟨⟨0, (), rfl, (by unfold sp_Mo_in; rw [if_pos ck1]), by rw [ht]; exact hP, va_K.moved hW.alike hK, hD⟩, hS.F ht⟩) hS.2.2 d_Mo_in_15
  · refine lv_iload_n (pc := 5) hx hb d_Mo_in_5 rfl (lv_at hl 0 rfl) ?_
    refine lv_iload_n (pc := 6) hx hb d_Mo_in_6 rfl (lv_at hl 2 rfl) ?_
    refine lv_icmp_gt (pc := 7) (tgt := 14) hx hb d_Mo_in_7 (by decide) (fun ck2 => ?_) (fun ck2 => ?_)
    · refine lv_iconst (pc := 14) (v := 0) hx hb d_Mo_in_14 (by decide) ?_
      refine W.widen (k := 0) (n := 0) (Nat.le_of_ble_eq_true rfl) (Nat.le_of_ble_eq_true rfl) ?_
      exact W.zret (v := 0) hx hb hr rfl (fun t ht hW => ⟨⟨0, (), rfl, (by unfold sp_Mo_in; rw [if_neg ck1, if_pos ck2]), by rw [ht]; exact hP, va_K.moved hW.alike hK, hD⟩, hS.F ht⟩) hS.2.2 d_Mo_in_15
    · refine lv_iconst (pc := 10) (v := 1) hx hb d_Mo_in_10 (by decide) ?_
      refine lv_goto (pc := 11) (tgt := 15) hx hb d_Mo_in_11 (by decide) ?_
      refine W.widen (k := 0) (n := 0) (Nat.le_of_ble_eq_true rfl) (Nat.le_of_ble_eq_true rfl) ?_
      exact W.zret (v := 1) hx hb hr rfl (fun t ht hW => ⟨⟨1, (), rfl, (by unfold sp_Mo_in; rw [if_neg ck1, if_neg ck2]), by rw [ht]; exact hP, va_K.moved hW.alike hK, hD⟩, hS.F ht⟩) hS.2.2 d_Mo_in_15
def sp_Mo_isPlace (g : Int32) : Int32 := sp_Mo_in g 0 3
set_option maxRecDepth 100000 in
set_option maxHeartbeats 4000000 in
/-- DrawingHouseModel.isPlace(I)Z -/
theorem c_Mo_isPlace (l : Launch) (D : va_G) (kA : Nat → ClassId) (g : Int32)  : Ci l y_Mo_isPlace z_Mo_isPlace { frames := 1, cells := 0, slots := 0, locals := 22 } D classes (TY kA) [.int g] [] (fun r (_ : Unit) => r = sp_Mo_isPlace g) (fun _ => []) 0 0 := by
  intro sz
  refine k_met (cc := b_Mo_isPlace) (maxL := 1) (ret := (some .boolean)) (by decide) rfl (Nat.le_of_ble_eq_true rfl) (fun p e s m below meth c ls X hl hB => ?_)
  obtain ⟨hsz, hP, hK, hD0, hN⟩ := hB
  subst hsz
  have hD := hD0.self (sz := s.heap.size)
  generalize hAe : va_A (cat []) s.heap.size = A at hD ⊢
  have hA : ∀ q : Nat, s.heap.size ≤ q → A q := fun q h => by rw [← hAe]; exact Or.inr h
  have hS : va_S A s.heap s.heap [] := va_S.rf
  obtain ⟨hx, hb, hml, hown, hts, hr, hlk, hnm⟩ := id X
  have hl : lv_has ls 1 [(0, .int g)] := hl
  have hP : va_P D classes (cat []) s.heap := hP
  have hK : va_K D classes (TY kA) s := hK
  refine lv_iload_n (pc := 0) hx hb d_Mo_isPlace_0 rfl (lv_at hl 0 rfl) ?_
  refine lv_iconst (pc := 1) (v := 0) hx hb d_Mo_isPlace_1 (by decide) ?_
  refine lv_iconst (pc := 2) (v := 3) hx hb d_Mo_isPlace_2 (by decide) ?_
  refine k_goI (gr := []) (k_rS (pc := 3) (As := [.int g, .int 0, .int 3]) (rest := []) X (c_Mo_in l D kA g 0 3 s.heap.size) rfl wm_2971 wm_9 wm_2969 wm_2970 3 (by decide +kernel) ⟨Nat.le_of_ble_eq_true rfl, Nat.le_of_ble_eq_true rfl⟩ rfl rfl (k_pre hN hK hP hD [] [] 0 rfl (by decide) rfl) rfl hl.1 rfl (Nat.le_of_ble_eq_true rfl) d_Mo_isPlace_3 ⟨Nat.le_of_ble_eq_true rfl, Nat.le_of_ble_eq_true rfl⟩) hP hD hS hA [] [] 0 rfl (by decide) rfl rfl (fun r1 u2 H locs hu2 hP hD hS => ?_)
  subst hu2
  have hP : va_P D classes (cat []) H := hP
  have hD : va_D A (cat []) := hD
  refine W.widen (k := 0) (n := 0) (Nat.le_of_ble_eq_true rfl) (Nat.le_of_ble_eq_true rfl) ?_
  exact W.zret (v := (sp_Mo_in g 0 3)) hx hb hr (by unfold sp_Mo_in; (repeat' split) <;> rfl) (fun t ht hW => ⟨⟨(sp_Mo_in g 0 3), (), rfl, (by unfold sp_Mo_isPlace; rfl), by rw [ht]; exact hP, va_K.moved hW.alike hK, hD⟩, hS.F ht⟩) hS.2.2 d_Mo_isPlace_6
def sp_Gr_hasNode (x : Nat → Int32) (i : Int32) : Int32 := if i < 0 then 0 else if (x 0) ≤ i then 0 else 1
set_option maxRecDepth 100000 in
set_option maxHeartbeats 4000000 in
/-- DrawingHouse$Graph.hasNode(I)Z -/
theorem c_Gr_hasNode (l : Launch) (D : va_G) (kA : Nat → ClassId) (h : Nat) (q : Nat → Nat) (x : Nat → Int32) (o16 : Option Nat) (i : Int32)  : Ci l y_Gr_hasNode z_Gr_hasNode { frames := 0, cells := 0, slots := 0, locals := 0 } D classes (TY kA) [.ref h, .int i] [[(h, .inr (3, fGr q x o16))]] (fun r (_ : Unit) => r = sp_Gr_hasNode x i) (fun _ => [[(h, .inr (3, fGr q x o16))]]) 0 0 := by
  intro sz
  refine k_met (cc := b_Gr_hasNode) (maxL := 2) (ret := (some .boolean)) (by decide) rfl (Nat.le_of_ble_eq_true rfl) (fun p e s m below meth c ls X hl hB => ?_)
  obtain ⟨hsz, hP, hK, hD0, hN⟩ := hB
  subst hsz
  have hD := hD0.self (sz := s.heap.size)
  generalize hAe : va_A (cat [[(h, .inr (3, fGr q x o16))]]) s.heap.size = A at hD ⊢
  have hA : ∀ q : Nat, s.heap.size ≤ q → A q := fun q h => by rw [← hAe]; exact Or.inr h
  have hS : va_S A s.heap s.heap [] := va_S.rf
  obtain ⟨hx, hb, hml, hown, hts, hr, hlk, hnm⟩ := id X
  have hl : lv_has ls 2 [(0, .ref h), (1, .int i)] := hl
  have hP : va_P D classes (cat [[(h, .inr (3, fGr q x o16))]]) s.heap := hP
  have hK : va_K D classes (TY kA) s := hK
  refine lv_iload_n (pc := 0) hx hb d_Gr_hasNode_0 rfl (lv_at hl 1 rfl) ?_
  refine lv_if_lt (pc := 1) (tgt := 16) hx hb d_Gr_hasNode_1 (by decide) (fun ck1 => ?_) (fun ck1 => ?_)
  · refine lv_iconst (pc := 16) (v := 0) hx hb d_Gr_hasNode_16 (by decide) ?_
    refine W.widen (k := 0) (n := 0) (Nat.le_of_ble_eq_true rfl) (Nat.le_of_ble_eq_true rfl) ?_
    exact W.zret (v := 0) hx hb hr rfl (fun t ht hW => ⟨⟨0, (), rfl, (by unfold sp_Gr_hasNode; rw [if_pos ck1]), by rw [ht]; exact hP, va_K.moved hW.alike hK, hD⟩, hS.F ht⟩) hS.2.2 d_Gr_hasNode_17
  · refine lv_iload_n (pc := 4) hx hb d_Gr_hasNode_4 rfl (lv_at hl 1 rfl) ?_
    refine lv_aload_n (pc := 5) hx hb d_Gr_hasNode_5 rfl (lv_at hl 0 rfl) ?_
    refine k_get (pc := 6) X hK hP 0 rfl rfl i_Gr 0 (by decide) wm_56 rfl rfl d_Gr_hasNode_6 ?_
    refine lv_icmp_ge (pc := 9) (tgt := 16) hx hb d_Gr_hasNode_9 (by decide) (fun ck2 => ?_) (fun ck2 => ?_)
    · refine lv_iconst (pc := 16) (v := 0) hx hb d_Gr_hasNode_16 (by decide) ?_
      refine W.widen (k := 0) (n := 0) (Nat.le_of_ble_eq_true rfl) (Nat.le_of_ble_eq_true rfl) ?_
      exact W.zret (v := 0) hx hb hr rfl (fun t ht hW => ⟨⟨0, (), rfl, (by unfold sp_Gr_hasNode; rw [if_neg ck1, if_pos ck2]), by rw [ht]; exact hP, va_K.moved hW.alike hK, hD⟩, hS.F ht⟩) hS.2.2 d_Gr_hasNode_17
    · refine lv_iconst (pc := 12) (v := 1) hx hb d_Gr_hasNode_12 (by decide) ?_
      refine lv_goto (pc := 13) (tgt := 17) hx hb d_Gr_hasNode_13 (by decide) ?_
      refine W.widen (k := 0) (n := 0) (Nat.le_of_ble_eq_true rfl) (Nat.le_of_ble_eq_true rfl) ?_
      exact W.zret (v := 1) hx hb hr rfl (fun t ht hW => ⟨⟨1, (), rfl, (by unfold sp_Gr_hasNode; rw [if_neg ck1, if_neg ck2]), by rw [ht]; exact hP, va_K.moved hW.alike hK, hD⟩, hS.F ht⟩) hS.2.2 d_Gr_hasNode_17
def sp_Gr_hasEdge (x : Nat → Int32) (i : Int32) : Int32 := if i < 0 then 0 else if (x 1) ≤ i then 0 else 1
set_option maxRecDepth 100000 in
set_option maxHeartbeats 4000000 in
/-- DrawingHouse$Graph.hasEdge(I)Z -/
theorem c_Gr_hasEdge (l : Launch) (D : va_G) (kA : Nat → ClassId) (h : Nat) (q : Nat → Nat) (x : Nat → Int32) (o16 : Option Nat) (i : Int32)  : Ci l y_Gr_hasEdge z_Gr_hasEdge { frames := 0, cells := 0, slots := 0, locals := 0 } D classes (TY kA) [.ref h, .int i] [[(h, .inr (3, fGr q x o16))]] (fun r (_ : Unit) => r = sp_Gr_hasEdge x i) (fun _ => [[(h, .inr (3, fGr q x o16))]]) 0 0 := by
  intro sz
  refine k_met (cc := b_Gr_hasEdge) (maxL := 2) (ret := (some .boolean)) (by decide) rfl (Nat.le_of_ble_eq_true rfl) (fun p e s m below meth c ls X hl hB => ?_)
  obtain ⟨hsz, hP, hK, hD0, hN⟩ := hB
  subst hsz
  have hD := hD0.self (sz := s.heap.size)
  generalize hAe : va_A (cat [[(h, .inr (3, fGr q x o16))]]) s.heap.size = A at hD ⊢
  have hA : ∀ q : Nat, s.heap.size ≤ q → A q := fun q h => by rw [← hAe]; exact Or.inr h
  have hS : va_S A s.heap s.heap [] := va_S.rf
  obtain ⟨hx, hb, hml, hown, hts, hr, hlk, hnm⟩ := id X
  have hl : lv_has ls 2 [(0, .ref h), (1, .int i)] := hl
  have hP : va_P D classes (cat [[(h, .inr (3, fGr q x o16))]]) s.heap := hP
  have hK : va_K D classes (TY kA) s := hK
  refine lv_iload_n (pc := 0) hx hb d_Gr_hasEdge_0 rfl (lv_at hl 1 rfl) ?_
  refine lv_if_lt (pc := 1) (tgt := 16) hx hb d_Gr_hasEdge_1 (by decide) (fun ck1 => ?_) (fun ck1 => ?_)
  · refine lv_iconst (pc := 16) (v := 0) hx hb d_Gr_hasEdge_16 (by decide) ?_
    refine W.widen (k := 0) (n := 0) (Nat.le_of_ble_eq_true rfl) (Nat.le_of_ble_eq_true rfl) ?_
    exact W.zret (v := 0) hx hb hr rfl (fun t ht hW => ⟨⟨0, (), rfl, (by unfold sp_Gr_hasEdge; rw [if_pos ck1]), by rw [ht]; exact hP, va_K.moved hW.alike hK, hD⟩, hS.F ht⟩) hS.2.2 d_Gr_hasEdge_17
  · refine lv_iload_n (pc := 4) hx hb d_Gr_hasEdge_4 rfl (lv_at hl 1 rfl) ?_
    refine lv_aload_n (pc := 5) hx hb d_Gr_hasEdge_5 rfl (lv_at hl 0 rfl) ?_
    refine k_get (pc := 6) X hK hP 0 rfl rfl i_Gr 1 (by decide) wm_68 rfl rfl d_Gr_hasEdge_6 ?_
    refine lv_icmp_ge (pc := 9) (tgt := 16) hx hb d_Gr_hasEdge_9 (by decide) (fun ck2 => ?_) (fun ck2 => ?_)
    · refine lv_iconst (pc := 16) (v := 0) hx hb d_Gr_hasEdge_16 (by decide) ?_
      refine W.widen (k := 0) (n := 0) (Nat.le_of_ble_eq_true rfl) (Nat.le_of_ble_eq_true rfl) ?_
      exact W.zret (v := 0) hx hb hr rfl (fun t ht hW => ⟨⟨0, (), rfl, (by unfold sp_Gr_hasEdge; rw [if_neg ck1, if_pos ck2]), by rw [ht]; exact hP, va_K.moved hW.alike hK, hD⟩, hS.F ht⟩) hS.2.2 d_Gr_hasEdge_17
    · refine lv_iconst (pc := 12) (v := 1) hx hb d_Gr_hasEdge_12 (by decide) ?_
      refine lv_goto (pc := 13) (tgt := 17) hx hb d_Gr_hasEdge_13 (by decide) ?_
      refine W.widen (k := 0) (n := 0) (Nat.le_of_ble_eq_true rfl) (Nat.le_of_ble_eq_true rfl) ?_
      exact W.zret (v := 1) hx hb hr rfl (fun t ht hW => ⟨⟨1, (), rfl, (by unfold sp_Gr_hasEdge; rw [if_neg ck1, if_neg ck2]), by rw [ht]; exact hP, va_K.moved hW.alike hK, hD⟩, hS.F ht⟩) hS.2.2 d_Gr_hasEdge_17
def sp_Gr_hasGroup (x : Nat → Int32) (i : Int32) : Int32 := if i < 0 then 0 else if (x 2) ≤ i then 0 else 1
set_option maxRecDepth 100000 in
set_option maxHeartbeats 4000000 in
/-- DrawingHouse$Graph.hasGroup(I)Z -/
theorem c_Gr_hasGroup (l : Launch) (D : va_G) (kA : Nat → ClassId) (h : Nat) (q : Nat → Nat) (x : Nat → Int32) (o16 : Option Nat) (i : Int32)  : Ci l y_Gr_hasGroup z_Gr_hasGroup { frames := 0, cells := 0, slots := 0, locals := 0 } D classes (TY kA) [.ref h, .int i] [[(h, .inr (3, fGr q x o16))]] (fun r (_ : Unit) => r = sp_Gr_hasGroup x i) (fun _ => [[(h, .inr (3, fGr q x o16))]]) 0 0 := by
  intro sz
  refine k_met (cc := b_Gr_hasGroup) (maxL := 2) (ret := (some .boolean)) (by decide) rfl (Nat.le_of_ble_eq_true rfl) (fun p e s m below meth c ls X hl hB => ?_)
  obtain ⟨hsz, hP, hK, hD0, hN⟩ := hB
  subst hsz
  have hD := hD0.self (sz := s.heap.size)
  generalize hAe : va_A (cat [[(h, .inr (3, fGr q x o16))]]) s.heap.size = A at hD ⊢
  have hA : ∀ q : Nat, s.heap.size ≤ q → A q := fun q h => by rw [← hAe]; exact Or.inr h
  have hS : va_S A s.heap s.heap [] := va_S.rf
  obtain ⟨hx, hb, hml, hown, hts, hr, hlk, hnm⟩ := id X
  have hl : lv_has ls 2 [(0, .ref h), (1, .int i)] := hl
  have hP : va_P D classes (cat [[(h, .inr (3, fGr q x o16))]]) s.heap := hP
  have hK : va_K D classes (TY kA) s := hK
  refine lv_iload_n (pc := 0) hx hb d_Gr_hasGroup_0 rfl (lv_at hl 1 rfl) ?_
  refine lv_if_lt (pc := 1) (tgt := 16) hx hb d_Gr_hasGroup_1 (by decide) (fun ck1 => ?_) (fun ck1 => ?_)
  · refine lv_iconst (pc := 16) (v := 0) hx hb d_Gr_hasGroup_16 (by decide) ?_
    refine W.widen (k := 0) (n := 0) (Nat.le_of_ble_eq_true rfl) (Nat.le_of_ble_eq_true rfl) ?_
    exact W.zret (v := 0) hx hb hr rfl (fun t ht hW => ⟨⟨0, (), rfl, (by unfold sp_Gr_hasGroup; rw [if_pos ck1]), by rw [ht]; exact hP, va_K.moved hW.alike hK, hD⟩, hS.F ht⟩) hS.2.2 d_Gr_hasGroup_17
  · refine lv_iload_n (pc := 4) hx hb d_Gr_hasGroup_4 rfl (lv_at hl 1 rfl) ?_
    refine lv_aload_n (pc := 5) hx hb d_Gr_hasGroup_5 rfl (lv_at hl 0 rfl) ?_
    refine k_get (pc := 6) X hK hP 0 rfl rfl i_Gr 2 (by decide) wm_79 rfl rfl d_Gr_hasGroup_6 ?_
    refine lv_icmp_ge (pc := 9) (tgt := 16) hx hb d_Gr_hasGroup_9 (by decide) (fun ck2 => ?_) (fun ck2 => ?_)
    · refine lv_iconst (pc := 16) (v := 0) hx hb d_Gr_hasGroup_16 (by decide) ?_
      refine W.widen (k := 0) (n := 0) (Nat.le_of_ble_eq_true rfl) (Nat.le_of_ble_eq_true rfl) ?_
      exact W.zret (v := 0) hx hb hr rfl (fun t ht hW => ⟨⟨0, (), rfl, (by unfold sp_Gr_hasGroup; rw [if_neg ck1, if_pos ck2]), by rw [ht]; exact hP, va_K.moved hW.alike hK, hD⟩, hS.F ht⟩) hS.2.2 d_Gr_hasGroup_17
    · refine lv_iconst (pc := 12) (v := 1) hx hb d_Gr_hasGroup_12 (by decide) ?_
      refine lv_goto (pc := 13) (tgt := 17) hx hb d_Gr_hasGroup_13 (by decide) ?_
      refine W.widen (k := 0) (n := 0) (Nat.le_of_ble_eq_true rfl) (Nat.le_of_ble_eq_true rfl) ?_
      exact W.zret (v := 1) hx hb hr rfl (fun t ht hW => ⟨⟨1, (), rfl, (by unfold sp_Gr_hasGroup; rw [if_neg ck1, if_neg ck2]), by rw [ht]; exact hP, va_K.moved hW.alike hK, hD⟩, hS.F ht⟩) hS.2.2 d_Gr_hasGroup_17
def sp_Ho_fault (x1 : Nat → Int32) (i : Int32) : Int32 := if i = 0 then x1 2 else if i = 1 then x1 3 else (-1)
set_option maxRecDepth 100000 in
set_option maxHeartbeats 4000000 in
/-- DrawingHouse.fault(I)I -/
theorem c_Ho_fault (l : Launch) (D : va_G) (kA : Nat → ClassId) (h : Nat) (q : Nat → Nat) (x : Nat → Int32) (o16 o17 o18 o19 o20 : Option Nat) (q1 : Nat → Nat) (x1 : Nat → Int32) (i : Int32)  : Ci l y_Ho_fault z_Ho_fault { frames := 0, cells := 0, slots := 0, locals := 0 } D classes (TY kA) [.ref h, .int i] [[(h, .inr (12, fHo q x o16 o17 o18 o19 o20))], [(q 4, .inr (8, fRe q1 x1))]] (fun r (_ : Unit) => r = sp_Ho_fault x1 i) (fun _ => [[(h, .inr (12, fHo q x o16 o17 o18 o19 o20))], [(q 4, .inr (8, fRe q1 x1))]]) 0 0 := by
  intro sz
  refine k_met (cc := b_Ho_fault) (maxL := 2) (ret := (some .int)) (by decide) rfl (Nat.le_of_ble_eq_true rfl) (fun p e s m below meth c ls X hl hB => ?_)
  obtain ⟨hsz, hP, hK, hD0, hN⟩ := hB
  subst hsz
  have hD := hD0.self (sz := s.heap.size)
  generalize hAe : va_A (cat [[(h, .inr (12, fHo q x o16 o17 o18 o19 o20))], [(q 4, .inr (8, fRe q1 x1))]]) s.heap.size = A at hD ⊢
  have hA : ∀ q : Nat, s.heap.size ≤ q → A q := fun q h => by rw [← hAe]; exact Or.inr h
  have hS : va_S A s.heap s.heap [] := va_S.rf
  obtain ⟨hx, hb, hml, hown, hts, hr, hlk, hnm⟩ := id X
  have hl : lv_has ls 2 [(0, .ref h), (1, .int i)] := hl
  have hP : va_P D classes (cat [[(h, .inr (12, fHo q x o16 o17 o18 o19 o20))], [(q 4, .inr (8, fRe q1 x1))]]) s.heap := hP
  have hK : va_K D classes (TY kA) s := hK
  refine lv_iload_n (pc := 0) hx hb d_Ho_fault_0 rfl (lv_at hl 1 rfl) ?_
  refine lv_if_ne (pc := 1) (tgt := 12) hx hb d_Ho_fault_1 (by decide) (fun ck1 => ?_) (fun ck1 => ?_)
  · refine lv_iload_n (pc := 12) hx hb d_Ho_fault_12 rfl (lv_at hl 1 rfl) ?_
    refine lv_iconst (pc := 13) (v := 1) hx hb d_Ho_fault_13 (by decide) ?_
    refine lv_icmp_ne (pc := 14) (tgt := 27) hx hb d_Ho_fault_14 (by decide) (fun ck2 => ?_) (fun ck2 => ?_)
    · refine lv_iconst (pc := 27) (v := -1) hx hb d_Ho_fault_27 (by decide) ?_
      refine W.widen (k := 0) (n := 0) (Nat.le_of_ble_eq_true rfl) (Nat.le_of_ble_eq_true rfl) ?_
      exact W.iret (v := ((-1))) hx hb hr (fun t ht hW => ⟨⟨((-1)), (), rfl, (by unfold sp_Ho_fault; rw [if_neg ck1, if_neg ck2]), by rw [ht]; exact hP, va_K.moved hW.alike hK, hD⟩, hS.F ht⟩) hS.2.2 d_Ho_fault_28
    · refine lv_aload_n (pc := 17) hx hb d_Ho_fault_17 rfl (lv_at hl 0 rfl) ?_
      refine k_get (pc := 18) X hK hP 0 rfl rfl i_Ho 4 (by decide) wm_559 rfl rfl d_Ho_fault_18 ?_
      refine k_get (pc := 21) X hK hP 1 rfl rfl i_Re 3 (by decide) wm_201 rfl rfl d_Ho_fault_21 ?_
      refine lv_goto (pc := 24) (tgt := 28) hx hb d_Ho_fault_24 (by decide) ?_
      refine W.widen (k := 0) (n := 0) (Nat.le_of_ble_eq_true rfl) (Nat.le_of_ble_eq_true rfl) ?_
      exact W.iret (v := (x1 3)) hx hb hr (fun t ht hW => ⟨⟨(x1 3), (), rfl, (by unfold sp_Ho_fault; rw [if_neg ck1, if_pos ck2]), by rw [ht]; exact hP, va_K.moved hW.alike hK, hD⟩, hS.F ht⟩) hS.2.2 d_Ho_fault_28
  · refine lv_aload_n (pc := 4) hx hb d_Ho_fault_4 rfl (lv_at hl 0 rfl) ?_
    refine k_get (pc := 5) X hK hP 0 rfl rfl i_Ho 4 (by decide) wm_559 rfl rfl d_Ho_fault_5 ?_
    refine k_get (pc := 8) X hK hP 1 rfl rfl i_Re 2 (by decide) wm_199 rfl rfl d_Ho_fault_8 ?_
    refine W.widen (k := 0) (n := 0) (Nat.le_of_ble_eq_true rfl) (Nat.le_of_ble_eq_true rfl) ?_
    exact W.iret (v := (x1 2)) hx hb hr (fun t ht hW => ⟨⟨(x1 2), (), rfl, (by unfold sp_Ho_fault; rw [if_pos ck1]), by rw [ht]; exact hP, va_K.moved hW.alike hK, hD⟩, hS.F ht⟩) hS.2.2 d_Ho_fault_11
def sp_Mo_fault (x : Nat → Int32) (i : Int32) : Int32 := if (x 7) = 0 then (-1) else if (sp_Mo_in i 0 1) = 0 then (-1) else if i = 0 then x 8 else if (x 8) = 0 then (-1) else x 9
set_option maxRecDepth 100000 in
set_option maxHeartbeats 4000000 in
/-- DrawingHouseModel.fault(I)I -/
theorem c_Mo_fault (l : Launch) (D : va_G) (kA : Nat → ClassId) (h : Nat) (q : Nat → Nat) (x : Nat → Int32) (y : Nat → Int64) (i : Int32)  : Ci l y_Mo_fault z_Mo_fault { frames := 1, cells := 0, slots := 0, locals := 22 } D classes (TY kA) [.ref h, .int i] [[(h, .inr (13, mF q x y))]] (fun r (_ : Unit) => r = sp_Mo_fault x i) (fun _ => [[(h, .inr (13, mF q x y))]]) 0 0 := by
  intro sz
  refine k_met (cc := b_Mo_fault) (maxL := 2) (ret := (some .int)) (by decide) rfl (Nat.le_of_ble_eq_true rfl) (fun p e s m below meth c ls X hl hB => ?_)
  obtain ⟨hsz, hP, hK, hD0, hN⟩ := hB
  subst hsz
  have hD := hD0.self (sz := s.heap.size)
  generalize hAe : va_A (cat [[(h, .inr (13, mF q x y))]]) s.heap.size = A at hD ⊢
  have hA : ∀ q : Nat, s.heap.size ≤ q → A q := fun q h => by rw [← hAe]; exact Or.inr h
  have hS : va_S A s.heap s.heap [] := va_S.rf
  obtain ⟨hx, hb, hml, hown, hts, hr, hlk, hnm⟩ := id X
  have hl : lv_has ls 2 [(0, .ref h), (1, .int i)] := hl
  have hP : va_P D classes (cat [[(h, .inr (13, mF q x y))]]) s.heap := hP
  have hK : va_K D classes (TY kA) s := hK
  refine lv_aload_n (pc := 0) hx hb d_Mo_fault_0 rfl (lv_at hl 0 rfl) ?_
  refine k_get (pc := 1) X hK hP 0 rfl rfl i_Mo 7 (by decide) wm_2440 rfl rfl d_Mo_fault_1 ?_
  refine lv_if_eq (pc := 4) (tgt := 16) hx hb d_Mo_fault_4 (by decide) (fun ck1 => ?_) (fun ck1 => ?_)
  · refine lv_iconst (pc := 16) (v := -1) hx hb d_Mo_fault_16 (by decide) ?_
    refine lv_goto (pc := 17) (tgt := 46) hx hb d_Mo_fault_17 (by decide) ?_
    refine W.widen (k := 0) (n := 0) (Nat.le_of_ble_eq_true rfl) (Nat.le_of_ble_eq_true rfl) ?_
    exact W.iret (v := ((-1))) hx hb hr (fun t ht hW => ⟨⟨((-1)), (), rfl, (by unfold sp_Mo_fault; rw [if_pos ck1]), by rw [ht]; exact hP, va_K.moved hW.alike hK, hD⟩, hS.F ht⟩) hS.2.2 d_Mo_fault_46
  · refine lv_iload_n (pc := 7) hx hb d_Mo_fault_7 rfl (lv_at hl 1 rfl) ?_
    refine lv_iconst (pc := 8) (v := 0) hx hb d_Mo_fault_8 (by decide) ?_
    refine lv_iconst (pc := 9) (v := 1) hx hb d_Mo_fault_9 (by decide) ?_
    refine k_goI (gr := [[(h, .inr (13, mF q x y))]]) (k_rS (pc := 10) (As := [.int i, .int 0, .int 1]) (rest := []) X (c_Mo_in l D kA i 0 1 s.heap.size) rfl wm_2971 wm_9 wm_2969 wm_2970 3 (by decide +kernel) ⟨Nat.le_of_ble_eq_true rfl, Nat.le_of_ble_eq_true rfl⟩ rfl rfl (k_pre hN hK hP hD [] [0] 1 rfl (by decide) rfl) rfl hl.1 rfl (Nat.le_of_ble_eq_true rfl) d_Mo_fault_10 ⟨Nat.le_of_ble_eq_true rfl, Nat.le_of_ble_eq_true rfl⟩) hP hD hS hA [] [0] 1 rfl (by decide) rfl rfl (fun r1 u2 H locs hu2 hP hD hS => ?_)
    subst hu2
    have hP : va_P D classes (cat [[(h, .inr (13, mF q x y))]]) H := hP
    have hD : va_D A (cat [[(h, .inr (13, mF q x y))]]) := hD
    refine lv_if_ne (pc := 13) (tgt := 20) hx hb d_Mo_fault_13 (by decide) (fun ck2 => ?_) (fun ck2 => ?_)
    · refine lv_iload_n (pc := 20) hx hb d_Mo_fault_20 rfl (lv_at hl 1 rfl) ?_
      refine lv_if_ne (pc := 21) (tgt := 31) hx hb d_Mo_fault_21 (by decide) (fun ck3 => ?_) (fun ck3 => ?_)
      · refine lv_aload_n (pc := 31) hx hb d_Mo_fault_31 rfl (lv_at hl 0 rfl) ?_
        refine k_get (pc := 32) X hK hP 0 rfl rfl i_Mo 8 (by decide) wm_2441 rfl rfl d_Mo_fault_32 ?_
        refine lv_if_ne (pc := 35) (tgt := 42) hx hb d_Mo_fault_35 (by decide) (fun ck4 => ?_) (fun ck4 => ?_)
        · refine lv_aload_n (pc := 42) hx hb d_Mo_fault_42 rfl (lv_at hl 0 rfl) ?_
          refine k_get (pc := 43) X hK hP 0 rfl rfl i_Mo 9 (by decide) wm_2442 rfl rfl d_Mo_fault_43 ?_
          refine W.widen (k := 0) (n := 0) (Nat.le_of_ble_eq_true rfl) (Nat.le_of_ble_eq_true rfl) ?_
          exact W.iret (v := (x 9)) hx hb hr (fun t ht hW => ⟨⟨(x 9), (), rfl, (by unfold sp_Mo_fault; rw [if_neg ck1, if_neg ck2, if_neg ck3, if_neg ck4]), by rw [ht]; exact hP, va_K.moved hW.alike hK, hD⟩, hS.F ht⟩) hS.2.2 d_Mo_fault_46
        · refine lv_iconst (pc := 38) (v := -1) hx hb d_Mo_fault_38 (by decide) ?_
          refine lv_goto (pc := 39) (tgt := 46) hx hb d_Mo_fault_39 (by decide) ?_
          refine W.widen (k := 0) (n := 0) (Nat.le_of_ble_eq_true rfl) (Nat.le_of_ble_eq_true rfl) ?_
          exact W.iret (v := ((-1))) hx hb hr (fun t ht hW => ⟨⟨((-1)), (), rfl, (by unfold sp_Mo_fault; rw [if_neg ck1, if_neg ck2, if_neg ck3, if_pos ck4]), by rw [ht]; exact hP, va_K.moved hW.alike hK, hD⟩, hS.F ht⟩) hS.2.2 d_Mo_fault_46
      · refine lv_aload_n (pc := 24) hx hb d_Mo_fault_24 rfl (lv_at hl 0 rfl) ?_
        refine k_get (pc := 25) X hK hP 0 rfl rfl i_Mo 8 (by decide) wm_2441 rfl rfl d_Mo_fault_25 ?_
        refine lv_goto (pc := 28) (tgt := 46) hx hb d_Mo_fault_28 (by decide) ?_
        refine W.widen (k := 0) (n := 0) (Nat.le_of_ble_eq_true rfl) (Nat.le_of_ble_eq_true rfl) ?_
        exact W.iret (v := (x 8)) hx hb hr (fun t ht hW => ⟨⟨(x 8), (), rfl, (by unfold sp_Mo_fault; rw [if_neg ck1, if_neg ck2, if_pos ck3]), by rw [ht]; exact hP, va_K.moved hW.alike hK, hD⟩, hS.F ht⟩) hS.2.2 d_Mo_fault_46
    · refine lv_iconst (pc := 16) (v := -1) hx hb d_Mo_fault_16 (by decide) ?_
      refine lv_goto (pc := 17) (tgt := 46) hx hb d_Mo_fault_17 (by decide) ?_
      refine W.widen (k := 0) (n := 0) (Nat.le_of_ble_eq_true rfl) (Nat.le_of_ble_eq_true rfl) ?_
      exact W.iret (v := ((-1))) hx hb hr (fun t ht hW => ⟨⟨((-1)), (), rfl, (by unfold sp_Mo_fault; rw [if_neg ck1, if_pos ck2]), by rw [ht]; exact hP, va_K.moved hW.alike hK, hD⟩, hS.F ht⟩) hS.2.2 d_Mo_fault_46
