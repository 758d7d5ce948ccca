theorem wm_2438 : (Cond.fieldLink "DrawingHouseModel" (391 : Nat) "DrawingHouseModel" "\x72" "I" : Cond) ∈ lw_g := lw_gi (lw_c11 (List.mem_of_getElem? (i := 38) rfl)) rfl
theorem wm_3025 : (Cond.code ({ cls := "DrawingHouseModel", name := "nodes", desc := "()I" } : MethodName) prog_15_method_11_code (1 : Nat) (Option.some ClassFile.FieldType.int) : Cond) ∈ lw_g := lw_gi (lw_c13 (List.mem_of_getElem? (i := 145) rfl)) rfl
theorem wm_3029 : (Cond.code ({ cls := "DrawingHouseModel", name := "longOf", desc := "(I)I" } : MethodName) prog_15_method_20_code (2 : Nat) (Option.some ClassFile.FieldType.int) : Cond) ∈ lw_g := lw_gi (lw_c13 (List.mem_of_getElem? (i := 149) rfl)) rfl
theorem wm_3037 : (Cond.code ({ cls := "DrawingHouseModel", name := "edges", desc := "()I" } : MethodName) prog_15_method_12_code (1 : Nat) (Option.some ClassFile.FieldType.int) : Cond) ∈ lw_g := lw_gi (lw_c13 (List.mem_of_getElem? (i := 157) rfl)) rfl
theorem wm_3045 : (Cond.code ({ cls := "DrawingHouseModel", name := "tail", desc := "(I)I" } : MethodName) prog_15_method_14_code (2 : Nat) (Option.some ClassFile.FieldType.int) : Cond) ∈ lw_g := lw_gi (lw_c13 (List.mem_of_getElem? (i := 165) rfl)) rfl
theorem wm_3049 : (Cond.code ({ cls := "DrawingHouseModel", name := "head", desc := "(I)I" } : MethodName) prog_15_method_15_code (2 : Nat) (Option.some ClassFile.FieldType.int) : Cond) ∈ lw_g := lw_gi (lw_c13 (List.mem_of_getElem? (i := 169) rfl)) rfl
theorem wm_3070 : (Cond.code ({ cls := "DrawingHouseModel", name := "groups", desc := "()I" } : MethodName) prog_15_method_13_code (1 : Nat) (Option.some ClassFile.FieldType.int) : Cond) ∈ lw_g := lw_gi (lw_c13 (List.mem_of_getElem? (i := 190) rfl)) rfl
theorem wm_3091 : (Cond.code ({ cls := "DrawingHouseModel", name := "take", desc := "(I)V" } : MethodName) prog_15_method_10_code (2 : Nat) (Option.none : Option ClassFile.FieldType) : Cond) ∈ lw_g := lw_gi (lw_c13 (List.mem_of_getElem? (i := 211) rfl)) rfl
theorem wm_3299 : (Cond.code ({ cls := "DrawingHouseModel", name := "one", desc := "(I)I" } : MethodName) prog_15_method_17_code (2 : Nat) (Option.some ClassFile.FieldType.int) : Cond) ∈ lw_g := lw_gi (lw_c14 (List.mem_of_getElem? (i := 179) rfl)) rfl
theorem wm_3307 : (Cond.code ({ cls := "DrawingHouseModel", name := "size", desc := "(I)I" } : MethodName) prog_15_method_18_code (2 : Nat) (Option.some ClassFile.FieldType.int) : Cond) ∈ lw_g := lw_gi (lw_c14 (List.mem_of_getElem? (i := 187) rfl)) rfl
theorem wm_3311 : (Cond.code ({ cls := "DrawingHouseModel", name := "groupOf", desc := "(I)I" } : MethodName) prog_15_method_19_code (2 : Nat) (Option.some ClassFile.FieldType.int) : Cond) ∈ lw_g := lw_gi (lw_c14 (List.mem_of_getElem? (i := 191) rfl)) rfl
theorem wm_3339 : (Cond.code ({ cls := "DrawingHouseModel", name := "weight", desc := "(I)I" } : MethodName) prog_15_method_16_code (2 : Nat) (Option.some ClassFile.FieldType.int) : Cond) ∈ lw_g := lw_gi (lw_c14 (List.mem_of_getElem? (i := 219) rfl)) rfl
abbrev b_Mo_take : ByteArray := prog_15_method_10_code
def y_Mo_take : MethodName := ⟨"DrawingHouseModel", "take", "(I)V"⟩
abbrev z_Mo_take : List Cond := Cond.code y_Mo_take b_Mo_take 2 none :: lw_g
theorem d_Mo_take_0 : decode b_Mo_take 0 = .ok (.aload_n 0, 1) := by decide +kernel
theorem d_Mo_take_1 : decode b_Mo_take 1 = .ok (.iload_n 1, 1) := by decide +kernel
theorem d_Mo_take_2 : decode b_Mo_take 2 = .ok (.aload_n 0, 1) := by decide +kernel
theorem d_Mo_take_3 : decode b_Mo_take 3 = .ok (.getfield 20, 3) := by decide +kernel
theorem d_Mo_take_6 : decode b_Mo_take 6 = .ok (.iload_n 1, 1) := by decide +kernel
theorem d_Mo_take_7 : decode b_Mo_take 7 = .ok (.iaload, 1) := by decide +kernel
theorem d_Mo_take_8 : decode b_Mo_take 8 = .ok (.invokestatic 372, 3) := by decide +kernel
theorem d_Mo_take_11 : decode b_Mo_take 11 = .ok (.putfield 391, 3) := by decide +kernel
theorem d_Mo_take_14 : decode b_Mo_take 14 = .ok (.return_, 1) := by decide +kernel
abbrev b_Mo_nodes : ByteArray := prog_15_method_11_code
def y_Mo_nodes : MethodName := ⟨"DrawingHouseModel", "nodes", "()I"⟩
abbrev z_Mo_nodes : List Cond := Cond.code y_Mo_nodes b_Mo_nodes 1 (some .int) :: lw_g
theorem d_Mo_nodes_0 : decode b_Mo_nodes 0 = .ok (.aload_n 0, 1) := by decide +kernel
theorem d_Mo_nodes_1 : decode b_Mo_nodes 1 = .ok (.getfield 16, 3) := by decide +kernel
theorem d_Mo_nodes_4 : decode b_Mo_nodes 4 = .ok (.aload_n 0, 1) := by decide +kernel
theorem d_Mo_nodes_5 : decode b_Mo_nodes 5 = .ok (.getfield 391, 3) := by decide +kernel
theorem d_Mo_nodes_8 : decode b_Mo_nodes 8 = .ok (.iaload, 1) := by decide +kernel
theorem d_Mo_nodes_9 : decode b_Mo_nodes 9 = .ok (.ireturn, 1) := by decide +kernel
abbrev b_Mo_edges : ByteArray := prog_15_method_12_code
def y_Mo_edges : MethodName := ⟨"DrawingHouseModel", "edges", "()I"⟩
abbrev z_Mo_edges : List Cond := Cond.code y_Mo_edges b_Mo_edges 1 (some .int) :: lw_g
theorem d_Mo_edges_0 : decode b_Mo_edges 0 = .ok (.aload_n 0, 1) := by decide +kernel
theorem d_Mo_edges_1 : decode b_Mo_edges 1 = .ok (.getfield 16, 3) := by decide +kernel
theorem d_Mo_edges_4 : decode b_Mo_edges 4 = .ok (.aload_n 0, 1) := by decide +kernel
theorem d_Mo_edges_5 : decode b_Mo_edges 5 = .ok (.getfield 391, 3) := by decide +kernel
theorem d_Mo_edges_8 : decode b_Mo_edges 8 = .ok (.iconst 1, 1) := by decide +kernel
theorem d_Mo_edges_9 : decode b_Mo_edges 9 = .ok (.iadd, 1) := by decide +kernel
theorem d_Mo_edges_10 : decode b_Mo_edges 10 = .ok (.iaload, 1) := by decide +kernel
theorem d_Mo_edges_11 : decode b_Mo_edges 11 = .ok (.ireturn, 1) := by decide +kernel
abbrev b_Mo_groups : ByteArray := prog_15_method_13_code
def y_Mo_groups : MethodName := ⟨"DrawingHouseModel", "groups", "()I"⟩
abbrev z_Mo_groups : List Cond := Cond.code y_Mo_groups b_Mo_groups 1 (some .int) :: lw_g
theorem d_Mo_groups_0 : decode b_Mo_groups 0 = .ok (.aload_n 0, 1) := by decide +kernel
theorem d_Mo_groups_1 : decode b_Mo_groups 1 = .ok (.getfield 16, 3) := by decide +kernel
theorem d_Mo_groups_4 : decode b_Mo_groups 4 = .ok (.aload_n 0, 1) := by decide +kernel
theorem d_Mo_groups_5 : decode b_Mo_groups 5 = .ok (.getfield 391, 3) := by decide +kernel
theorem d_Mo_groups_8 : decode b_Mo_groups 8 = .ok (.iconst 2, 1) := by decide +kernel
theorem d_Mo_groups_9 : decode b_Mo_groups 9 = .ok (.iadd, 1) := by decide +kernel
theorem d_Mo_groups_10 : decode b_Mo_groups 10 = .ok (.iaload, 1) := by decide +kernel
theorem d_Mo_groups_11 : decode b_Mo_groups 11 = .ok (.ireturn, 1) := by decide +kernel
abbrev b_Mo_tail : ByteArray := prog_15_method_14_code
def y_Mo_tail : MethodName := ⟨"DrawingHouseModel", "tail", "(I)I"⟩
abbrev z_Mo_tail : List Cond := Cond.code y_Mo_tail b_Mo_tail 2 (some .int) :: lw_g
theorem d_Mo_tail_0 : decode b_Mo_tail 0 = .ok (.aload_n 0, 1) := by decide +kernel
theorem d_Mo_tail_1 : decode b_Mo_tail 1 = .ok (.getfield 16, 3) := by decide +kernel
theorem d_Mo_tail_4 : decode b_Mo_tail 4 = .ok (.aload_n 0, 1) := by decide +kernel
theorem d_Mo_tail_5 : decode b_Mo_tail 5 = .ok (.getfield 391, 3) := by decide +kernel
theorem d_Mo_tail_8 : decode b_Mo_tail 8 = .ok (.sipush 267, 3) := by decide +kernel
theorem d_Mo_tail_11 : decode b_Mo_tail 11 = .ok (.iadd, 1) := by decide +kernel
theorem d_Mo_tail_12 : decode b_Mo_tail 12 = .ok (.iload_n 1, 1) := by decide +kernel
theorem d_Mo_tail_13 : decode b_Mo_tail 13 = .ok (.iadd, 1) := by decide +kernel
theorem d_Mo_tail_14 : decode b_Mo_tail 14 = .ok (.iaload, 1) := by decide +kernel
theorem d_Mo_tail_15 : decode b_Mo_tail 15 = .ok (.ireturn, 1) := by decide +kernel
abbrev b_Mo_head : ByteArray := prog_15_method_15_code
def y_Mo_head : MethodName := ⟨"DrawingHouseModel", "head", "(I)I"⟩
abbrev z_Mo_head : List Cond := Cond.code y_Mo_head b_Mo_head 2 (some .int) :: lw_g
theorem d_Mo_head_0 : decode b_Mo_head 0 = .ok (.aload_n 0, 1) := by decide +kernel
theorem d_Mo_head_1 : decode b_Mo_head 1 = .ok (.getfield 16, 3) := by decide +kernel
theorem d_Mo_head_4 : decode b_Mo_head 4 = .ok (.aload_n 0, 1) := by decide +kernel
theorem d_Mo_head_5 : decode b_Mo_head 5 = .ok (.getfield 391, 3) := by decide +kernel
theorem d_Mo_head_8 : decode b_Mo_head 8 = .ok (.sipush 315, 3) := by decide +kernel
theorem d_Mo_head_11 : decode b_Mo_head 11 = .ok (.iadd, 1) := by decide +kernel
theorem d_Mo_head_12 : decode b_Mo_head 12 = .ok (.iload_n 1, 1) := by decide +kernel
theorem d_Mo_head_13 : decode b_Mo_head 13 = .ok (.iadd, 1) := by decide +kernel
theorem d_Mo_head_14 : decode b_Mo_head 14 = .ok (.iaload, 1) := by decide +kernel
theorem d_Mo_head_15 : decode b_Mo_head 15 = .ok (.ireturn, 1) := by decide +kernel
abbrev b_Mo_weight : ByteArray := prog_15_method_16_code
def y_Mo_weight : MethodName := ⟨"DrawingHouseModel", "weight", "(I)I"⟩
abbrev z_Mo_weight : List Cond := Cond.code y_Mo_weight b_Mo_weight 2 (some .int) :: lw_g
theorem d_Mo_weight_0 : decode b_Mo_weight 0 = .ok (.aload_n 0, 1) := by decide +kernel
theorem d_Mo_weight_1 : decode b_Mo_weight 1 = .ok (.getfield 16, 3) := by decide +kernel
theorem d_Mo_weight_4 : decode b_Mo_weight 4 = .ok (.aload_n 0, 1) := by decide +kernel
theorem d_Mo_weight_5 : decode b_Mo_weight 5 = .ok (.getfield 391, 3) := by decide +kernel
theorem d_Mo_weight_8 : decode b_Mo_weight 8 = .ok (.sipush 363, 3) := by decide +kernel
theorem d_Mo_weight_11 : decode b_Mo_weight 11 = .ok (.iadd, 1) := by decide +kernel
theorem d_Mo_weight_12 : decode b_Mo_weight 12 = .ok (.iload_n 1, 1) := by decide +kernel
theorem d_Mo_weight_13 : decode b_Mo_weight 13 = .ok (.iadd, 1) := by decide +kernel
theorem d_Mo_weight_14 : decode b_Mo_weight 14 = .ok (.iaload, 1) := by decide +kernel
theorem d_Mo_weight_15 : decode b_Mo_weight 15 = .ok (.ireturn, 1) := by decide +kernel
abbrev b_Mo_one : ByteArray := prog_15_method_17_code
def y_Mo_one : MethodName := ⟨"DrawingHouseModel", "one", "(I)I"⟩
abbrev z_Mo_one : List Cond := Cond.code y_Mo_one b_Mo_one 2 (some .int) :: lw_g
theorem d_Mo_one_0 : decode b_Mo_one 0 = .ok (.aload_n 0, 1) := by decide +kernel
theorem d_Mo_one_1 : decode b_Mo_one 1 = .ok (.getfield 16, 3) := by decide +kernel
theorem d_Mo_one_4 : decode b_Mo_one 4 = .ok (.aload_n 0, 1) := by decide +kernel
theorem d_Mo_one_5 : decode b_Mo_one 5 = .ok (.getfield 391, 3) := by decide +kernel
theorem d_Mo_one_8 : decode b_Mo_one 8 = .ok (.sipush 411, 3) := by decide +kernel
theorem d_Mo_one_11 : decode b_Mo_one 11 = .ok (.iadd, 1) := by decide +kernel
theorem d_Mo_one_12 : decode b_Mo_one 12 = .ok (.iload_n 1, 1) := by decide +kernel
theorem d_Mo_one_13 : decode b_Mo_one 13 = .ok (.iadd, 1) := by decide +kernel
theorem d_Mo_one_14 : decode b_Mo_one 14 = .ok (.iaload, 1) := by decide +kernel
theorem d_Mo_one_15 : decode b_Mo_one 15 = .ok (.ireturn, 1) := by decide +kernel
abbrev b_Mo_size : ByteArray := prog_15_method_18_code
def y_Mo_size : MethodName := ⟨"DrawingHouseModel", "size", "(I)I"⟩
abbrev z_Mo_size : List Cond := Cond.code y_Mo_size b_Mo_size 2 (some .int) :: lw_g
theorem d_Mo_size_0 : decode b_Mo_size 0 = .ok (.aload_n 0, 1) := by decide +kernel
theorem d_Mo_size_1 : decode b_Mo_size 1 = .ok (.getfield 16, 3) := by decide +kernel
theorem d_Mo_size_4 : decode b_Mo_size 4 = .ok (.aload_n 0, 1) := by decide +kernel
theorem d_Mo_size_5 : decode b_Mo_size 5 = .ok (.getfield 391, 3) := by decide +kernel
theorem d_Mo_size_8 : decode b_Mo_size 8 = .ok (.sipush 219, 3) := by decide +kernel
theorem d_Mo_size_11 : decode b_Mo_size 11 = .ok (.iadd, 1) := by decide +kernel
theorem d_Mo_size_12 : decode b_Mo_size 12 = .ok (.iload_n 1, 1) := by decide +kernel
theorem d_Mo_size_13 : decode b_Mo_size 13 = .ok (.iadd, 1) := by decide +kernel
theorem d_Mo_size_14 : decode b_Mo_size 14 = .ok (.iaload, 1) := by decide +kernel
theorem d_Mo_size_15 : decode b_Mo_size 15 = .ok (.ireturn, 1) := by decide +kernel
abbrev b_Mo_groupOf : ByteArray := prog_15_method_19_code
def y_Mo_groupOf : MethodName := ⟨"DrawingHouseModel", "groupOf", "(I)I"⟩
abbrev z_Mo_groupOf : List Cond := Cond.code y_Mo_groupOf b_Mo_groupOf 2 (some .int) :: lw_g
theorem d_Mo_groupOf_0 : decode b_Mo_groupOf 0 = .ok (.aload_n 0, 1) := by decide +kernel
theorem d_Mo_groupOf_1 : decode b_Mo_groupOf 1 = .ok (.getfield 16, 3) := by decide +kernel
theorem d_Mo_groupOf_4 : decode b_Mo_groupOf 4 = .ok (.aload_n 0, 1) := by decide +kernel
theorem d_Mo_groupOf_5 : decode b_Mo_groupOf 5 = .ok (.getfield 391, 3) := by decide +kernel
theorem d_Mo_groupOf_8 : decode b_Mo_groupOf 8 = .ok (.sipush 243, 3) := by decide +kernel
theorem d_Mo_groupOf_11 : decode b_Mo_groupOf 11 = .ok (.iadd, 1) := by decide +kernel
theorem d_Mo_groupOf_12 : decode b_Mo_groupOf 12 = .ok (.iload_n 1, 1) := by decide +kernel
theorem d_Mo_groupOf_13 : decode b_Mo_groupOf 13 = .ok (.iadd, 1) := by decide +kernel
theorem d_Mo_groupOf_14 : decode b_Mo_groupOf 14 = .ok (.iaload, 1) := by decide +kernel
theorem d_Mo_groupOf_15 : decode b_Mo_groupOf 15 = .ok (.ireturn, 1) := by decide +kernel
abbrev b_Mo_longOf : ByteArray := prog_15_method_20_code
def y_Mo_longOf : MethodName := ⟨"DrawingHouseModel", "longOf", "(I)I"⟩
abbrev z_Mo_longOf : List Cond := Cond.code y_Mo_longOf b_Mo_longOf 2 (some .int) :: lw_g
theorem d_Mo_longOf_0 : decode b_Mo_longOf 0 = .ok (.aload_n 0, 1) := by decide +kernel
theorem d_Mo_longOf_1 : decode b_Mo_longOf 1 = .ok (.getfield 16, 3) := by decide +kernel
theorem d_Mo_longOf_4 : decode b_Mo_longOf 4 = .ok (.aload_n 0, 1) := by decide +kernel
theorem d_Mo_longOf_5 : decode b_Mo_longOf 5 = .ok (.getfield 391, 3) := by decide +kernel
theorem d_Mo_longOf_8 : decode b_Mo_longOf 8 = .ok (.sipush 195, 3) := by decide +kernel
theorem d_Mo_longOf_11 : decode b_Mo_longOf 11 = .ok (.iadd, 1) := by decide +kernel
theorem d_Mo_longOf_12 : decode b_Mo_longOf 12 = .ok (.iload_n 1, 1) := by decide +kernel
theorem d_Mo_longOf_13 : decode b_Mo_longOf 13 = .ok (.iadd, 1) := by decide +kernel
theorem d_Mo_longOf_14 : decode b_Mo_longOf 14 = .ok (.iaload, 1) := by decide +kernel
theorem d_Mo_longOf_15 : decode b_Mo_longOf 15 = .ok (.ireturn, 1) := by decide +kernel
set_option maxRecDepth 100000 in
set_option maxHeartbeats 4000000 in
/-- take(g) -/
theorem c_Mo_take (l : Launch) (D : va_G) (kA : Nat → ClassId) (h : Nat) (q : Nat → Nat) (x : Nat → Int32) (y : Nat → Int64) (f : Nat → Int32) (j k : Nat) (hj : j < 4) (hf : f j = nI k) : Cv l y_Mo_take z_Mo_take { frames := 1, cells := 0, slots := 0, locals := 21 } D classes (TY kA) [.ref h, .int (nI j)] [[(h, .inr (13, mF q x y))], [(q 3, .inl (kA 0, 4, .inl f))]] (fun _ : Unit => True) (fun _ => [[(h, .inr (13, mF q (va_up x 5 (nI (539 * (31 * j + k)))) y))], [(q 3, .inl (kA 0, 4, .inl f))]]) 0 0 := by
  intro sz
  refine k_met (cc := b_Mo_take) (maxL := 2) (ret := none) (by decide) rfl (Nat.le_of_ble_eq_true rfl) (fun p e s m below meth c ls X hl hB => ?_)
  obtain ⟨hsz, hP, hK, hD0, hN⟩ := hB
  subst hsz
  have hD := hD0.self (sz := s.heap.size)
  generalize hAe : va_A (cat [[(h, .inr (13, mF q x y))], [(q 3, .inl (kA 0, 4, .inl f))]]) s.heap.size = A at hD ⊢
  have hA : ∀ q : Nat, s.heap.size ≤ q → A q := fun q h => by rw [← hAe]; exact Or.inr h
  have hS : va_S A s.heap s.heap [] := va_S.rf
  obtain ⟨hx, hb, hml, hown, hts, hr, hlk, hnm⟩ := id X
  have hl : lv_has ls 2 [(0, .ref h), (1, .int (nI j))] := hl
  have hP : va_P D classes (cat [[(h, .inr (13, mF q x y))], [(q 3, .inl (kA 0, 4, .inl f))]]) s.heap := hP
  have hK : va_K D classes (TY kA) s := hK
  refine lv_aload_n (pc := 0) hx hb d_Mo_take_0 rfl (lv_at hl 0 rfl) ?_
  refine lv_iload_n (pc := 1) hx hb d_Mo_take_1 rfl (lv_at hl 1 rfl) ?_
  refine lv_aload_n (pc := 2) hx hb d_Mo_take_2 rfl (lv_at hl 0 rfl) ?_
  refine k_get (pc := 3) X hK hP 0 rfl rfl i_Mo 3 (by decide) wm_2436 rfl rfl d_Mo_take_3 ?_
  refine lv_iload_n (pc := 6) hx hb d_Mo_take_6 rfl (lv_at hl 1 rfl) ?_
  refine k_ild (pc := 7) hx hb hK hP 1 0 rfl rfl (j) rfl (by omega) (by decide) d_Mo_take_7 ?_
  refine k_cst (v := nI k) (hf) ?_
  refine k_goI (gr := [[(h, .inr (13, mF q x y))], [(q 3, .inl (kA 0, 4, .inl f))]]) (k_rS (pc := 8) (As := [.int (nI j), .int (nI k)]) (rest := [.ref h]) X (c_Mo_rowOf l D kA j k s.heap.size) rfl wm_2420 wm_9 wm_2418 wm_2419 2 (by decide +kernel) ⟨Nat.le_of_ble_eq_true rfl, Nat.le_of_ble_eq_true rfl⟩ rfl rfl (k_pre hN hK hP hD [] [0, 1] 2 rfl (by decide) rfl) rfl hl.1 rfl (Nat.le_of_ble_eq_true rfl) d_Mo_take_8 ⟨Nat.le_of_ble_eq_true rfl, Nat.le_of_ble_eq_true rfl⟩) hP hD hS hA [] [0, 1] 2 rfl (by decide) rfl rfl (fun r1 u2 H locs hu2 hP hD hS => ?_)
  subst hu2
  have hP : va_P D classes (cat [[(h, .inr (13, mF q x y))], [(q 3, .inl (kA 0, 4, .inl f))]]) H := hP
  have hD : va_D A (cat [[(h, .inr (13, mF q x y))], [(q 3, .inl (kA 0, 4, .inl f))]]) := hD
  refine k_put (pc := 11) X hK hP hD hS 0 rfl rfl i_Mo t_Mo t_Mo_ok n_Mo 5 (by decide) wm_2438 rfl (Or.inl rfl) rfl rfl (Nat.le_of_ble_eq_true rfl) d_Mo_take_11 (fun H locs hP hD hS => ?_)
  have hP : va_P D classes (cat [[(h, .inr (13, mF q (va_up x 5 (nI (539 * (31 * j + k)))) y))], [(q 3, .inl (kA 0, 4, .inl f))]]) H := hP
  have hD : va_D A (cat [[(h, .inr (13, mF q (va_up x 5 (nI (539 * (31 * j + k)))) y))], [(q 3, .inl (kA 0, 4, .inl f))]]) := hD
  obtain ⟨hP, hD⟩ := k_ord (gc := [[(h, .inr (13, mF q (va_up x 5 (nI (539 * (31 * j + k)))) y))], [(q 3, .inl (kA 0, 4, .inl f))]]) hP hD [0, 1] 2 rfl (by decide) rfl
  refine W.widen (k := 0) (n := 0) (Nat.le_of_ble_eq_true rfl) (Nat.le_of_ble_eq_true rfl) ?_
  exact W.vret hx hb hr (fun t ht hW => ⟨⟨(), rfl, trivial, by rw [ht]; exact hP, va_K.moved hW.alike hK, hD⟩, hS.F ht⟩) hS.2.2 d_Mo_take_14
def sp_Mo_nodes (al : Nat → Int32) (ro : Nat) : Int32 := al ro
set_option maxRecDepth 100000 in
set_option maxHeartbeats 4000000 in
/-- DrawingHouseModel.nodes()I -/
theorem c_Mo_nodes (l : Launch) (D : va_G) (kA : Nat → ClassId) (h : Nat) (q : Nat → Nat) (x : Nat → Int32) (y : Nat → Int64) (al : Nat → Int32) (ro : Nat) (hro : ro + 539 ≤ 66836)  : Ci l y_Mo_nodes z_Mo_nodes { frames := 0, cells := 0, slots := 0, locals := 0 } D classes (TY kA) [.ref h] [[(h, .inr (13, mF q (va_up x 5 (nI ro)) y))], [(q 2, .inl (kA 0, 66836, .inl al))]] (fun r (_ : Unit) => r = sp_Mo_nodes al ro) (fun _ => [[(h, .inr (13, mF q (va_up x 5 (nI ro)) y))], [(q 2, .inl (kA 0, 66836, .inl al))]]) 0 0 := by
  intro sz
  refine k_met (cc := b_Mo_nodes) (maxL := 1) (ret := (some .int)) (by decide) rfl (Nat.le_of_ble_eq_true rfl) (fun p e s m below meth c ls X hl hB => ?_)
  obtain ⟨hsz, hP, hK, hD0, hN⟩ := hB
  subst hsz
  have hD := hD0.self (sz := s.heap.size)
  generalize hAe : va_A (cat [[(h, .inr (13, mF q (va_up x 5 (nI ro)) y))], [(q 2, .inl (kA 0, 66836, .inl al))]]) s.heap.size = A at hD ⊢
  have hA : ∀ q : Nat, s.heap.size ≤ q → A q := fun q h => by rw [← hAe]; exact Or.inr h
  have hS : va_S A s.heap s.heap [] := va_S.rf
  obtain ⟨hx, hb, hml, hown, hts, hr, hlk, hnm⟩ := id X
  have hl : lv_has ls 1 [(0, .ref h)] := hl
  have hP : va_P D classes (cat [[(h, .inr (13, mF q (va_up x 5 (nI ro)) y))], [(q 2, .inl (kA 0, 66836, .inl al))]]) s.heap := hP
  have hK : va_K D classes (TY kA) s := hK
  refine lv_aload_n (pc := 0) hx hb d_Mo_nodes_0 rfl (lv_at hl 0 rfl) ?_
  refine k_get (pc := 1) (v := .ref (q 2)) X hK hP 0 rfl rfl i_Mo 2 (by decide) wm_2435 rfl rfl d_Mo_nodes_1 ?_
  refine lv_aload_n (pc := 4) hx hb d_Mo_nodes_4 rfl (lv_at hl 0 rfl) ?_
  refine k_get (pc := 5) (v := .int (nI ro)) X hK hP 0 rfl rfl i_Mo 5 (by decide) wm_2438 rfl rfl d_Mo_nodes_5 ?_
  refine k_ild (pc := 8) hx hb hK hP 1 0 rfl rfl (ro) rfl (by omega) (by decide) d_Mo_nodes_8 ?_
  refine W.widen (k := 0) (n := 0) (Nat.le_of_ble_eq_true rfl) (Nat.le_of_ble_eq_true rfl) ?_
  exact W.iret (v := (al ro)) hx hb hr (fun t ht hW => ⟨⟨(al ro), (), rfl, (by unfold sp_Mo_nodes; rfl), by rw [ht]; exact hP, va_K.moved hW.alike hK, hD⟩, hS.F ht⟩) hS.2.2 d_Mo_nodes_9
def sp_Mo_edges (al : Nat → Int32) (ro : Nat) : Int32 := al (ro + 1)
set_option maxRecDepth 100000 in
set_option maxHeartbeats 4000000 in
/-- DrawingHouseModel.edges()I -/
theorem c_Mo_edges (l : Launch) (D : va_G) (kA : Nat → ClassId) (h : Nat) (q : Nat → Nat) (x : Nat → Int32) (y : Nat → Int64) (al : Nat → Int32) (ro : Nat) (hro : ro + 539 ≤ 66836)  : Ci l y_Mo_edges z_Mo_edges { frames := 0, cells := 0, slots := 0, locals := 0 } D classes (TY kA) [.ref h] [[(h, .inr (13, mF q (va_up x 5 (nI ro)) y))], [(q 2, .inl (kA 0, 66836, .inl al))]] (fun r (_ : Unit) => r = sp_Mo_edges al ro) (fun _ => [[(h, .inr (13, mF q (va_up x 5 (nI ro)) y))], [(q 2, .inl (kA 0, 66836, .inl al))]]) 0 0 := by
  intro sz
  refine k_met (cc := b_Mo_edges) (maxL := 1) (ret := (some .int)) (by decide) rfl (Nat.le_of_ble_eq_true rfl) (fun p e s m below meth c ls X hl hB => ?_)
  obtain ⟨hsz, hP, hK, hD0, hN⟩ := hB
  subst hsz
  have hD := hD0.self (sz := s.heap.size)
  generalize hAe : va_A (cat [[(h, .inr (13, mF q (va_up x 5 (nI ro)) y))], [(q 2, .inl (kA 0, 66836, .inl al))]]) s.heap.size = A at hD ⊢
  have hA : ∀ q : Nat, s.heap.size ≤ q → A q := fun q h => by rw [← hAe]; exact Or.inr h
  have hS : va_S A s.heap s.heap [] := va_S.rf
  obtain ⟨hx, hb, hml, hown, hts, hr, hlk, hnm⟩ := id X
  have hl : lv_has ls 1 [(0, .ref h)] := hl
  have hP : va_P D classes (cat [[(h, .inr (13, mF q (va_up x 5 (nI ro)) y))], [(q 2, .inl (kA 0, 66836, .inl al))]]) s.heap := hP
  have hK : va_K D classes (TY kA) s := hK
  refine lv_aload_n (pc := 0) hx hb d_Mo_edges_0 rfl (lv_at hl 0 rfl) ?_
  refine k_get (pc := 1) (v := .ref (q 2)) X hK hP 0 rfl rfl i_Mo 2 (by decide) wm_2435 rfl rfl d_Mo_edges_1 ?_
  refine lv_aload_n (pc := 4) hx hb d_Mo_edges_4 rfl (lv_at hl 0 rfl) ?_
  refine k_get (pc := 5) (v := .int (nI ro)) X hK hP 0 rfl rfl i_Mo 5 (by decide) wm_2438 rfl rfl d_Mo_edges_5 ?_
  refine lv_iconst (pc := 8) (v := 1) hx hb d_Mo_edges_8 (by decide) ?_
  refine k_add (pc := 9) (x := ro) (y := 1) hx hb d_Mo_edges_9 ?_
  refine k_ild (pc := 10) hx hb hK hP 1 0 rfl rfl (ro + 1) rfl (by omega) (by decide) d_Mo_edges_10 ?_
  refine W.widen (k := 0) (n := 0) (Nat.le_of_ble_eq_true rfl) (Nat.le_of_ble_eq_true rfl) ?_
  exact W.iret (v := (al (ro + 1))) hx hb hr (fun t ht hW => ⟨⟨(al (ro + 1)), (), rfl, (by unfold sp_Mo_edges; rfl), by rw [ht]; exact hP, va_K.moved hW.alike hK, hD⟩, hS.F ht⟩) hS.2.2 d_Mo_edges_11
def sp_Mo_groups (al : Nat → Int32) (ro : Nat) : Int32 := al (ro + 2)
set_option maxRecDepth 100000 in
set_option maxHeartbeats 4000000 in
/-- DrawingHouseModel.groups()I -/
theorem c_Mo_groups (l : Launch) (D : va_G) (kA : Nat → ClassId) (h : Nat) (q : Nat → Nat) (x : Nat → Int32) (y : Nat → Int64) (al : Nat → Int32) (ro : Nat) (hro : ro + 539 ≤ 66836)  : Ci l y_Mo_groups z_Mo_groups { frames := 0, cells := 0, slots := 0, locals := 0 } D classes (TY kA) [.ref h] [[(h, .inr (13, mF q (va_up x 5 (nI ro)) y))], [(q 2, .inl (kA 0, 66836, .inl al))]] (fun r (_ : Unit) => r = sp_Mo_groups al ro) (fun _ => [[(h, .inr (13, mF q (va_up x 5 (nI ro)) y))], [(q 2, .inl (kA 0, 66836, .inl al))]]) 0 0 := by
  intro sz
  refine k_met (cc := b_Mo_groups) (maxL := 1) (ret := (some .int)) (by decide) rfl (Nat.le_of_ble_eq_true rfl) (fun p e s m below meth c ls X hl hB => ?_)
  obtain ⟨hsz, hP, hK, hD0, hN⟩ := hB
  subst hsz
  have hD := hD0.self (sz := s.heap.size)
  generalize hAe : va_A (cat [[(h, .inr (13, mF q (va_up x 5 (nI ro)) y))], [(q 2, .inl (kA 0, 66836, .inl al))]]) s.heap.size = A at hD ⊢
  have hA : ∀ q : Nat, s.heap.size ≤ q → A q := fun q h => by rw [← hAe]; exact Or.inr h
  have hS : va_S A s.heap s.heap [] := va_S.rf
  obtain ⟨hx, hb, hml, hown, hts, hr, hlk, hnm⟩ := id X
  have hl : lv_has ls 1 [(0, .ref h)] := hl
  have hP : va_P D classes (cat [[(h, .inr (13, mF q (va_up x 5 (nI ro)) y))], [(q 2, .inl (kA 0, 66836, .inl al))]]) s.heap := hP
  have hK : va_K D classes (TY kA) s := hK
  refine lv_aload_n (pc := 0) hx hb d_Mo_groups_0 rfl (lv_at hl 0 rfl) ?_
  refine k_get (pc := 1) (v := .ref (q 2)) X hK hP 0 rfl rfl i_Mo 2 (by decide) wm_2435 rfl rfl d_Mo_groups_1 ?_
  refine lv_aload_n (pc := 4) hx hb d_Mo_groups_4 rfl (lv_at hl 0 rfl) ?_
  refine k_get (pc := 5) (v := .int (nI ro)) X hK hP 0 rfl rfl i_Mo 5 (by decide) wm_2438 rfl rfl d_Mo_groups_5 ?_
  refine lv_iconst (pc := 8) (v := 2) hx hb d_Mo_groups_8 (by decide) ?_
  refine k_add (pc := 9) (x := ro) (y := 2) hx hb d_Mo_groups_9 ?_
  refine k_ild (pc := 10) hx hb hK hP 1 0 rfl rfl (ro + 2) rfl (by omega) (by decide) d_Mo_groups_10 ?_
  refine W.widen (k := 0) (n := 0) (Nat.le_of_ble_eq_true rfl) (Nat.le_of_ble_eq_true rfl) ?_
  exact W.iret (v := (al (ro + 2))) hx hb hr (fun t ht hW => ⟨⟨(al (ro + 2)), (), rfl, (by unfold sp_Mo_groups; rfl), by rw [ht]; exact hP, va_K.moved hW.alike hK, hD⟩, hS.F ht⟩) hS.2.2 d_Mo_groups_11
def sp_Mo_tail (al : Nat → Int32) (ro : Nat) (i : Nat) : Int32 := al ((ro + 267) + i)
set_option maxRecDepth 100000 in
set_option maxHeartbeats 4000000 in
/-- DrawingHouseModel.tail(I)I -/
theorem c_Mo_tail (l : Launch) (D : va_G) (kA : Nat → ClassId) (h : Nat) (q : Nat → Nat) (x : Nat → Int32) (y : Nat → Int64) (al : Nat → Int32) (ro i : Nat) (hro : ro + 539 ≤ 66836) (hi : i < 48)  : Ci l y_Mo_tail z_Mo_tail { frames := 0, cells := 0, slots := 0, locals := 0 } D classes (TY kA) [.ref h, .int (nI i)] [[(h, .inr (13, mF q (va_up x 5 (nI ro)) y))], [(q 2, .inl (kA 0, 66836, .inl al))]] (fun r (_ : Unit) => r = sp_Mo_tail al ro i) (fun _ => [[(h, .inr (13, mF q (va_up x 5 (nI ro)) y))], [(q 2, .inl (kA 0, 66836, .inl al))]]) 0 0 := by
  intro sz
  refine k_met (cc := b_Mo_tail) (maxL := 2) (ret := (some .int)) (by decide) rfl (Nat.le_of_ble_eq_true rfl) (fun p e s m below meth c ls X hl hB => ?_)
  obtain ⟨hsz, hP, hK, hD0, hN⟩ := hB
  subst hsz
  have hD := hD0.self (sz := s.heap.size)
  generalize hAe : va_A (cat [[(h, .inr (13, mF q (va_up x 5 (nI ro)) y))], [(q 2, .inl (kA 0, 66836, .inl al))]]) s.heap.size = A at hD ⊢
  have hA : ∀ q : Nat, s.heap.size ≤ q → A q := fun q h => by rw [← hAe]; exact Or.inr h
  have hS : va_S A s.heap s.heap [] := va_S.rf
  obtain ⟨hx, hb, hml, hown, hts, hr, hlk, hnm⟩ := id X
  have hl : lv_has ls 2 [(0, .ref h), (1, .int (nI i))] := hl
  have hP : va_P D classes (cat [[(h, .inr (13, mF q (va_up x 5 (nI ro)) y))], [(q 2, .inl (kA 0, 66836, .inl al))]]) s.heap := hP
  have hK : va_K D classes (TY kA) s := hK
  refine lv_aload_n (pc := 0) hx hb d_Mo_tail_0 rfl (lv_at hl 0 rfl) ?_
  refine k_get (pc := 1) (v := .ref (q 2)) X hK hP 0 rfl rfl i_Mo 2 (by decide) wm_2435 rfl rfl d_Mo_tail_1 ?_
  refine lv_aload_n (pc := 4) hx hb d_Mo_tail_4 rfl (lv_at hl 0 rfl) ?_
  refine k_get (pc := 5) (v := .int (nI ro)) X hK hP 0 rfl rfl i_Mo 5 (by decide) wm_2438 rfl rfl d_Mo_tail_5 ?_
  refine lv_sipush (pc := 8) (v := 267) hx hb d_Mo_tail_8 (by decide) ?_
  refine k_add (pc := 11) (x := ro) (y := 267) hx hb d_Mo_tail_11 ?_
  refine lv_iload_n (pc := 12) hx hb d_Mo_tail_12 rfl (lv_at hl 1 rfl) ?_
  refine k_add (pc := 13) (x := ro + 267) (y := i) hx hb d_Mo_tail_13 ?_
  refine k_ild (pc := 14) hx hb hK hP 1 0 rfl rfl ((ro + 267) + i) rfl (by omega) (by decide) d_Mo_tail_14 ?_
  refine W.widen (k := 0) (n := 0) (Nat.le_of_ble_eq_true rfl) (Nat.le_of_ble_eq_true rfl) ?_
  exact W.iret (v := (al ((ro + 267) + i))) hx hb hr (fun t ht hW => ⟨⟨(al ((ro + 267) + i)), (), rfl, (by unfold sp_Mo_tail; rfl), by rw [ht]; exact hP, va_K.moved hW.alike hK, hD⟩, hS.F ht⟩) hS.2.2 d_Mo_tail_15
def sp_Mo_head (al : Nat → Int32) (ro : Nat) (i : Nat) : Int32 := al ((ro + 315) + i)
set_option maxRecDepth 100000 in
set_option maxHeartbeats 4000000 in
/-- DrawingHouseModel.head(I)I -/
theorem c_Mo_head (l : Launch) (D : va_G) (kA : Nat → ClassId) (h : Nat) (q : Nat → Nat) (x : Nat → Int32) (y : Nat → Int64) (al : Nat → Int32) (ro i : Nat) (hro : ro + 539 ≤ 66836) (hi : i < 48)  : Ci l y_Mo_head z_Mo_head { frames := 0, cells := 0, slots := 0, locals := 0 } D classes (TY kA) [.ref h, .int (nI i)] [[(h, .inr (13, mF q (va_up x 5 (nI ro)) y))], [(q 2, .inl (kA 0, 66836, .inl al))]] (fun r (_ : Unit) => r = sp_Mo_head al ro i) (fun _ => [[(h, .inr (13, mF q (va_up x 5 (nI ro)) y))], [(q 2, .inl (kA 0, 66836, .inl al))]]) 0 0 := by
  intro sz
  refine k_met (cc := b_Mo_head) (maxL := 2) (ret := (some .int)) (by decide) rfl (Nat.le_of_ble_eq_true rfl) (fun p e s m below meth c ls X hl hB => ?_)
  obtain ⟨hsz, hP, hK, hD0, hN⟩ := hB
  subst hsz
  have hD := hD0.self (sz := s.heap.size)
  generalize hAe : va_A (cat [[(h, .inr (13, mF q (va_up x 5 (nI ro)) y))], [(q 2, .inl (kA 0, 66836, .inl al))]]) s.heap.size = A at hD ⊢
  have hA : ∀ q : Nat, s.heap.size ≤ q → A q := fun q h => by rw [← hAe]; exact Or.inr h
  have hS : va_S A s.heap s.heap [] := va_S.rf
  obtain ⟨hx, hb, hml, hown, hts, hr, hlk, hnm⟩ := id X
  have hl : lv_has ls 2 [(0, .ref h), (1, .int (nI i))] := hl
  have hP : va_P D classes (cat [[(h, .inr (13, mF q (va_up x 5 (nI ro)) y))], [(q 2, .inl (kA 0, 66836, .inl al))]]) s.heap := hP
  have hK : va_K D classes (TY kA) s := hK
  refine lv_aload_n (pc := 0) hx hb d_Mo_head_0 rfl (lv_at hl 0 rfl) ?_
  refine k_get (pc := 1) (v := .ref (q 2)) X hK hP 0 rfl rfl i_Mo 2 (by decide) wm_2435 rfl rfl d_Mo_head_1 ?_
  refine lv_aload_n (pc := 4) hx hb d_Mo_head_4 rfl (lv_at hl 0 rfl) ?_
  refine k_get (pc := 5) (v := .int (nI ro)) X hK hP 0 rfl rfl i_Mo 5 (by decide) wm_2438 rfl rfl d_Mo_head_5 ?_
  refine lv_sipush (pc := 8) (v := 315) hx hb d_Mo_head_8 (by decide) ?_
  refine k_add (pc := 11) (x := ro) (y := 315) hx hb d_Mo_head_11 ?_
  refine lv_iload_n (pc := 12) hx hb d_Mo_head_12 rfl (lv_at hl 1 rfl) ?_
  refine k_add (pc := 13) (x := ro + 315) (y := i) hx hb d_Mo_head_13 ?_
  refine k_ild (pc := 14) hx hb hK hP 1 0 rfl rfl ((ro + 315) + i) rfl (by omega) (by decide) d_Mo_head_14 ?_
  refine W.widen (k := 0) (n := 0) (Nat.le_of_ble_eq_true rfl) (Nat.le_of_ble_eq_true rfl) ?_
  exact W.iret (v := (al ((ro + 315) + i))) hx hb hr (fun t ht hW => ⟨⟨(al ((ro + 315) + i)), (), rfl, (by unfold sp_Mo_head; rfl), by rw [ht]; exact hP, va_K.moved hW.alike hK, hD⟩, hS.F ht⟩) hS.2.2 d_Mo_head_15
def sp_Mo_weight (al : Nat → Int32) (ro : Nat) (i : Nat) : Int32 := al ((ro + 363) + i)
set_option maxRecDepth 100000 in
set_option maxHeartbeats 4000000 in
/-- DrawingHouseModel.weight(I)I -/
theorem c_Mo_weight (l : Launch) (D : va_G) (kA : Nat → ClassId) (h : Nat) (q : Nat → Nat) (x : Nat → Int32) (y : Nat → Int64) (al : Nat → Int32) (ro i : Nat) (hro : ro + 539 ≤ 66836) (hi : i < 48)  : Ci l y_Mo_weight z_Mo_weight { frames := 0, cells := 0, slots := 0, locals := 0 } D classes (TY kA) [.ref h, .int (nI i)] [[(h, .inr (13, mF q (va_up x 5 (nI ro)) y))], [(q 2, .inl (kA 0, 66836, .inl al))]] (fun r (_ : Unit) => r = sp_Mo_weight al ro i) (fun _ => [[(h, .inr (13, mF q (va_up x 5 (nI ro)) y))], [(q 2, .inl (kA 0, 66836, .inl al))]]) 0 0 := by
  intro sz
  refine k_met (cc := b_Mo_weight) (maxL := 2) (ret := (some .int)) (by decide) rfl (Nat.le_of_ble_eq_true rfl) (fun p e s m below meth c ls X hl hB => ?_)
  obtain ⟨hsz, hP, hK, hD0, hN⟩ := hB
  subst hsz
  have hD := hD0.self (sz := s.heap.size)
  generalize hAe : va_A (cat [[(h, .inr (13, mF q (va_up x 5 (nI ro)) y))], [(q 2, .inl (kA 0, 66836, .inl al))]]) s.heap.size = A at hD ⊢
  have hA : ∀ q : Nat, s.heap.size ≤ q → A q := fun q h => by rw [← hAe]; exact Or.inr h
  have hS : va_S A s.heap s.heap [] := va_S.rf
  obtain ⟨hx, hb, hml, hown, hts, hr, hlk, hnm⟩ := id X
  have hl : lv_has ls 2 [(0, .ref h), (1, .int (nI i))] := hl
  have hP : va_P D classes (cat [[(h, .inr (13, mF q (va_up x 5 (nI ro)) y))], [(q 2, .inl (kA 0, 66836, .inl al))]]) s.heap := hP
  have hK : va_K D classes (TY kA) s := hK
  refine lv_aload_n (pc := 0) hx hb d_Mo_weight_0 rfl (lv_at hl 0 rfl) ?_
  refine k_get (pc := 1) (v := .ref (q 2)) X hK hP 0 rfl rfl i_Mo 2 (by decide) wm_2435 rfl rfl d_Mo_weight_1 ?_
  refine lv_aload_n (pc := 4) hx hb d_Mo_weight_4 rfl (lv_at hl 0 rfl) ?_
  refine k_get (pc := 5) (v := .int (nI ro)) X hK hP 0 rfl rfl i_Mo 5 (by decide) wm_2438 rfl rfl d_Mo_weight_5 ?_
  refine lv_sipush (pc := 8) (v := 363) hx hb d_Mo_weight_8 (by decide) ?_
  refine k_add (pc := 11) (x := ro) (y := 363) hx hb d_Mo_weight_11 ?_
  refine lv_iload_n (pc := 12) hx hb d_Mo_weight_12 rfl (lv_at hl 1 rfl) ?_
  refine k_add (pc := 13) (x := ro + 363) (y := i) hx hb d_Mo_weight_13 ?_
  refine k_ild (pc := 14) hx hb hK hP 1 0 rfl rfl ((ro + 363) + i) rfl (by omega) (by decide) d_Mo_weight_14 ?_
  refine W.widen (k := 0) (n := 0) (Nat.le_of_ble_eq_true rfl) (Nat.le_of_ble_eq_true rfl) ?_
  exact W.iret (v := (al ((ro + 363) + i))) hx hb hr (fun t ht hW => ⟨⟨(al ((ro + 363) + i)), (), rfl, (by unfold sp_Mo_weight; rfl), by rw [ht]; exact hP, va_K.moved hW.alike hK, hD⟩, hS.F ht⟩) hS.2.2 d_Mo_weight_15
def sp_Mo_one (al : Nat → Int32) (ro : Nat) (i : Nat) : Int32 := al ((ro + 411) + i)
set_option maxRecDepth 100000 in
set_option maxHeartbeats 4000000 in
/-- DrawingHouseModel.one(I)I -/
theorem c_Mo_one (l : Launch) (D : va_G) (kA : Nat → ClassId) (h : Nat) (q : Nat → Nat) (x : Nat → Int32) (y : Nat → Int64) (al : Nat → Int32) (ro i : Nat) (hro : ro + 539 ≤ 66836) (hi : i < 48)  : Ci l y_Mo_one z_Mo_one { frames := 0, cells := 0, slots := 0, locals := 0 } D classes (TY kA) [.ref h, .int (nI i)] [[(h, .inr (13, mF q (va_up x 5 (nI ro)) y))], [(q 2, .inl (kA 0, 66836, .inl al))]] (fun r (_ : Unit) => r = sp_Mo_one al ro i) (fun _ => [[(h, .inr (13, mF q (va_up x 5 (nI ro)) y))], [(q 2, .inl (kA 0, 66836, .inl al))]]) 0 0 := by
  intro sz
  refine k_met (cc := b_Mo_one) (maxL := 2) (ret := (some .int)) (by decide) rfl (Nat.le_of_ble_eq_true rfl) (fun p e s m below meth c ls X hl hB => ?_)
  obtain ⟨hsz, hP, hK, hD0, hN⟩ := hB
  subst hsz
  have hD := hD0.self (sz := s.heap.size)
  generalize hAe : va_A (cat [[(h, .inr (13, mF q (va_up x 5 (nI ro)) y))], [(q 2, .inl (kA 0, 66836, .inl al))]]) s.heap.size = A at hD ⊢
  have hA : ∀ q : Nat, s.heap.size ≤ q → A q := fun q h => by rw [← hAe]; exact Or.inr h
  have hS : va_S A s.heap s.heap [] := va_S.rf
  obtain ⟨hx, hb, hml, hown, hts, hr, hlk, hnm⟩ := id X
  have hl : lv_has ls 2 [(0, .ref h), (1, .int (nI i))] := hl
  have hP : va_P D classes (cat [[(h, .inr (13, mF q (va_up x 5 (nI ro)) y))], [(q 2, .inl (kA 0, 66836, .inl al))]]) s.heap := hP
  have hK : va_K D classes (TY kA) s := hK
  refine lv_aload_n (pc := 0) hx hb d_Mo_one_0 rfl (lv_at hl 0 rfl) ?_
  refine k_get (pc := 1) (v := .ref (q 2)) X hK hP 0 rfl rfl i_Mo 2 (by decide) wm_2435 rfl rfl d_Mo_one_1 ?_
  refine lv_aload_n (pc := 4) hx hb d_Mo_one_4 rfl (lv_at hl 0 rfl) ?_
  refine k_get (pc := 5) (v := .int (nI ro)) X hK hP 0 rfl rfl i_Mo 5 (by decide) wm_2438 rfl rfl d_Mo_one_5 ?_
  refine lv_sipush (pc := 8) (v := 411) hx hb d_Mo_one_8 (by decide) ?_
  refine k_add (pc := 11) (x := ro) (y := 411) hx hb d_Mo_one_11 ?_
  refine lv_iload_n (pc := 12) hx hb d_Mo_one_12 rfl (lv_at hl 1 rfl) ?_
  refine k_add (pc := 13) (x := ro + 411) (y := i) hx hb d_Mo_one_13 ?_
  refine k_ild (pc := 14) hx hb hK hP 1 0 rfl rfl ((ro + 411) + i) rfl (by omega) (by decide) d_Mo_one_14 ?_
  refine W.widen (k := 0) (n := 0) (Nat.le_of_ble_eq_true rfl) (Nat.le_of_ble_eq_true rfl) ?_
  exact W.iret (v := (al ((ro + 411) + i))) hx hb hr (fun t ht hW => ⟨⟨(al ((ro + 411) + i)), (), rfl, (by unfold sp_Mo_one; rfl), by rw [ht]; exact hP, va_K.moved hW.alike hK, hD⟩, hS.F ht⟩) hS.2.2 d_Mo_one_15
def sp_Mo_size (al : Nat → Int32) (ro : Nat) (i : Nat) : Int32 := al ((ro + 219) + i)
set_option maxRecDepth 100000 in
set_option maxHeartbeats 4000000 in
/-- DrawingHouseModel.size(I)I -/
theorem c_Mo_size (l : Launch) (D : va_G) (kA : Nat → ClassId) (h : Nat) (q : Nat → Nat) (x : Nat → Int32) (y : Nat → Int64) (al : Nat → Int32) (ro i : Nat) (hro : ro + 539 ≤ 66836) (hi : i < 24)  : Ci l y_Mo_size z_Mo_size { frames := 0, cells := 0, slots := 0, locals := 0 } D classes (TY kA) [.ref h, .int (nI i)] [[(h, .inr (13, mF q (va_up x 5 (nI ro)) y))], [(q 2, .inl (kA 0, 66836, .inl al))]] (fun r (_ : Unit) => r = sp_Mo_size al ro i) (fun _ => [[(h, .inr (13, mF q (va_up x 5 (nI ro)) y))], [(q 2, .inl (kA 0, 66836, .inl al))]]) 0 0 := by
  intro sz
  refine k_met (cc := b_Mo_size) (maxL := 2) (ret := (some .int)) (by decide) rfl (Nat.le_of_ble_eq_true rfl) (fun p e s m below meth c ls X hl hB => ?_)
  obtain ⟨hsz, hP, hK, hD0, hN⟩ := hB
  subst hsz
  have hD := hD0.self (sz := s.heap.size)
  generalize hAe : va_A (cat [[(h, .inr (13, mF q (va_up x 5 (nI ro)) y))], [(q 2, .inl (kA 0, 66836, .inl al))]]) s.heap.size = A at hD ⊢
  have hA : ∀ q : Nat, s.heap.size ≤ q → A q := fun q h => by rw [← hAe]; exact Or.inr h
  have hS : va_S A s.heap s.heap [] := va_S.rf
  obtain ⟨hx, hb, hml, hown, hts, hr, hlk, hnm⟩ := id X
  have hl : lv_has ls 2 [(0, .ref h), (1, .int (nI i))] := hl
  have hP : va_P D classes (cat [[(h, .inr (13, mF q (va_up x 5 (nI ro)) y))], [(q 2, .inl (kA 0, 66836, .inl al))]]) s.heap := hP
  have hK : va_K D classes (TY kA) s := hK
  refine lv_aload_n (pc := 0) hx hb d_Mo_size_0 rfl (lv_at hl 0 rfl) ?_
  refine k_get (pc := 1) (v := .ref (q 2)) X hK hP 0 rfl rfl i_Mo 2 (by decide) wm_2435 rfl rfl d_Mo_size_1 ?_
  refine lv_aload_n (pc := 4) hx hb d_Mo_size_4 rfl (lv_at hl 0 rfl) ?_
  refine k_get (pc := 5) (v := .int (nI ro)) X hK hP 0 rfl rfl i_Mo 5 (by decide) wm_2438 rfl rfl d_Mo_size_5 ?_
  refine lv_sipush (pc := 8) (v := 219) hx hb d_Mo_size_8 (by decide) ?_
  refine k_add (pc := 11) (x := ro) (y := 219) hx hb d_Mo_size_11 ?_
  refine lv_iload_n (pc := 12) hx hb d_Mo_size_12 rfl (lv_at hl 1 rfl) ?_
  refine k_add (pc := 13) (x := ro + 219) (y := i) hx hb d_Mo_size_13 ?_
  refine k_ild (pc := 14) hx hb hK hP 1 0 rfl rfl ((ro + 219) + i) rfl (by omega) (by decide) d_Mo_size_14 ?_
  refine W.widen (k := 0) (n := 0) (Nat.le_of_ble_eq_true rfl) (Nat.le_of_ble_eq_true rfl) ?_
  exact W.iret (v := (al ((ro + 219) + i))) hx hb hr (fun t ht hW => ⟨⟨(al ((ro + 219) + i)), (), rfl, (by unfold sp_Mo_size; rfl), by rw [ht]; exact hP, va_K.moved hW.alike hK, hD⟩, hS.F ht⟩) hS.2.2 d_Mo_size_15
def sp_Mo_groupOf (al : Nat → Int32) (ro : Nat) (i : Nat) : Int32 := al ((ro + 243) + i)
set_option maxRecDepth 100000 in
set_option maxHeartbeats 4000000 in
/-- DrawingHouseModel.groupOf(I)I -/
theorem c_Mo_groupOf (l : Launch) (D : va_G) (kA : Nat → ClassId) (h : Nat) (q : Nat → Nat) (x : Nat → Int32) (y : Nat → Int64) (al : Nat → Int32) (ro i : Nat) (hro : ro + 539 ≤ 66836) (hi : i < 24)  : Ci l y_Mo_groupOf z_Mo_groupOf { frames := 0, cells := 0, slots := 0, locals := 0 } D classes (TY kA) [.ref h, .int (nI i)] [[(h, .inr (13, mF q (va_up x 5 (nI ro)) y))], [(q 2, .inl (kA 0, 66836, .inl al))]] (fun r (_ : Unit) => r = sp_Mo_groupOf al ro i) (fun _ => [[(h, .inr (13, mF q (va_up x 5 (nI ro)) y))], [(q 2, .inl (kA 0, 66836, .inl al))]]) 0 0 := by
  intro sz
  refine k_met (cc := b_Mo_groupOf) (maxL := 2) (ret := (some .int)) (by decide) rfl (Nat.le_of_ble_eq_true rfl) (fun p e s m below meth c ls X hl hB => ?_)
  obtain ⟨hsz, hP, hK, hD0, hN⟩ := hB
  subst hsz
  have hD := hD0.self (sz := s.heap.size)
  generalize hAe : va_A (cat [[(h, .inr (13, mF q (va_up x 5 (nI ro)) y))], [(q 2, .inl (kA 0, 66836, .inl al))]]) s.heap.size = A at hD ⊢
  have hA : ∀ q : Nat, s.heap.size ≤ q → A q := fun q h => by rw [← hAe]; exact Or.inr h
  have hS : va_S A s.heap s.heap [] := va_S.rf
  obtain ⟨hx, hb, hml, hown, hts, hr, hlk, hnm⟩ := id X
  have hl : lv_has ls 2 [(0, .ref h), (1, .int (nI i))] := hl
  have hP : va_P D classes (cat [[(h, .inr (13, mF q (va_up x 5 (nI ro)) y))], [(q 2, .inl (kA 0, 66836, .inl al))]]) s.heap := hP
  have hK : va_K D classes (TY kA) s := hK
  refine lv_aload_n (pc := 0) hx hb d_Mo_groupOf_0 rfl (lv_at hl 0 rfl) ?_
  refine k_get (pc := 1) (v := .ref (q 2)) X hK hP 0 rfl rfl i_Mo 2 (by decide) wm_2435 rfl rfl d_Mo_groupOf_1 ?_
  refine lv_aload_n (pc := 4) hx hb d_Mo_groupOf_4 rfl (lv_at hl 0 rfl) ?_
  refine k_get (pc := 5) (v := .int (nI ro)) X hK hP 0 rfl rfl i_Mo 5 (by decide) wm_2438 rfl rfl d_Mo_groupOf_5 ?_
  refine lv_sipush (pc := 8) (v := 243) hx hb d_Mo_groupOf_8 (by decide) ?_
  refine k_add (pc := 11) (x := ro) (y := 243) hx hb d_Mo_groupOf_11 ?_
  refine lv_iload_n (pc := 12) hx hb d_Mo_groupOf_12 rfl (lv_at hl 1 rfl) ?_
  refine k_add (pc := 13) (x := ro + 243) (y := i) hx hb d_Mo_groupOf_13 ?_
  refine k_ild (pc := 14) hx hb hK hP 1 0 rfl rfl ((ro + 243) + i) rfl (by omega) (by decide) d_Mo_groupOf_14 ?_
  refine W.widen (k := 0) (n := 0) (Nat.le_of_ble_eq_true rfl) (Nat.le_of_ble_eq_true rfl) ?_
  exact W.iret (v := (al ((ro + 243) + i))) hx hb hr (fun t ht hW => ⟨⟨(al ((ro + 243) + i)), (), rfl, (by unfold sp_Mo_groupOf; rfl), by rw [ht]; exact hP, va_K.moved hW.alike hK, hD⟩, hS.F ht⟩) hS.2.2 d_Mo_groupOf_15
def sp_Mo_longOf (al : Nat → Int32) (ro : Nat) (i : Nat) : Int32 := al ((ro + 195) + i)
set_option maxRecDepth 100000 in
set_option maxHeartbeats 4000000 in
/-- DrawingHouseModel.longOf(I)I -/
theorem c_Mo_longOf (l : Launch) (D : va_G) (kA : Nat → ClassId) (h : Nat) (q : Nat → Nat) (x : Nat → Int32) (y : Nat → Int64) (al : Nat → Int32) (ro i : Nat) (hro : ro + 539 ≤ 66836) (hi : i < 24)  : Ci l y_Mo_longOf z_Mo_longOf { frames := 0, cells := 0, slots := 0, locals := 0 } D classes (TY kA) [.ref h, .int (nI i)] [[(h, .inr (13, mF q (va_up x 5 (nI ro)) y))], [(q 2, .inl (kA 0, 66836, .inl al))]] (fun r (_ : Unit) => r = sp_Mo_longOf al ro i) (fun _ => [[(h, .inr (13, mF q (va_up x 5 (nI ro)) y))], [(q 2, .inl (kA 0, 66836, .inl al))]]) 0 0 := by
  intro sz
  refine k_met (cc := b_Mo_longOf) (maxL := 2) (ret := (some .int)) (by decide) rfl (Nat.le_of_ble_eq_true rfl) (fun p e s m below meth c ls X hl hB => ?_)
  obtain ⟨hsz, hP, hK, hD0, hN⟩ := hB
  subst hsz
  have hD := hD0.self (sz := s.heap.size)
  generalize hAe : va_A (cat [[(h, .inr (13, mF q (va_up x 5 (nI ro)) y))], [(q 2, .inl (kA 0, 66836, .inl al))]]) s.heap.size = A at hD ⊢
  have hA : ∀ q : Nat, s.heap.size ≤ q → A q := fun q h => by rw [← hAe]; exact Or.inr h
  have hS : va_S A s.heap s.heap [] := va_S.rf
  obtain ⟨hx, hb, hml, hown, hts, hr, hlk, hnm⟩ := id X
  have hl : lv_has ls 2 [(0, .ref h), (1, .int (nI i))] := hl
  have hP : va_P D classes (cat [[(h, .inr (13, mF q (va_up x 5 (nI ro)) y))], [(q 2, .inl (kA 0, 66836, .inl al))]]) s.heap := hP
  have hK : va_K D classes (TY kA) s := hK
  refine lv_aload_n (pc := 0) hx hb d_Mo_longOf_0 rfl (lv_at hl 0 rfl) ?_
  refine k_get (pc := 1) (v := .ref (q 2)) X hK hP 0 rfl rfl i_Mo 2 (by decide) wm_2435 rfl rfl d_Mo_longOf_1 ?_
  refine lv_aload_n (pc := 4) hx hb d_Mo_longOf_4 rfl (lv_at hl 0 rfl) ?_
  refine k_get (pc := 5) (v := .int (nI ro)) X hK hP 0 rfl rfl i_Mo 5 (by decide) wm_2438 rfl rfl d_Mo_longOf_5 ?_
  refine lv_sipush (pc := 8) (v := 195) hx hb d_Mo_longOf_8 (by decide) ?_
  refine k_add (pc := 11) (x := ro) (y := 195) hx hb d_Mo_longOf_11 ?_
  refine lv_iload_n (pc := 12) hx hb d_Mo_longOf_12 rfl (lv_at hl 1 rfl) ?_
  refine k_add (pc := 13) (x := ro + 195) (y := i) hx hb d_Mo_longOf_13 ?_
  refine k_ild (pc := 14) hx hb hK hP 1 0 rfl rfl ((ro + 195) + i) rfl (by omega) (by decide) d_Mo_longOf_14 ?_
  refine W.widen (k := 0) (n := 0) (Nat.le_of_ble_eq_true rfl) (Nat.le_of_ble_eq_true rfl) ?_
  exact W.iret (v := (al ((ro + 195) + i))) hx hb hr (fun t ht hW => ⟨⟨(al ((ro + 195) + i)), (), rfl, (by unfold sp_Mo_longOf; rfl), by rw [ht]; exact hP, va_K.moved hW.alike hK, hD⟩, hS.F ht⟩) hS.2.2 d_Mo_longOf_15
