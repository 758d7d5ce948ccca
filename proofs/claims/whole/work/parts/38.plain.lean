theorem wm_62 : (Cond.fieldLink "DrawingHouse" (132 : Nat) "DrawingHouse$Graph" "nodes" "I" : Cond) ∈ lw_g := lw_gi (lw_c1 (List.mem_of_getElem? (i := 62) rfl)) rfl
theorem wm_918 : (Cond.methodLink "DrawingHouse" (166 : Nat) ({ cls := "DrawingHouse$Graph", name := "hasNode", desc := "(I)Z" } : MethodName) : Cond) ∈ lw_g := lw_gi (lw_c4 (List.mem_of_getElem? (i := 198) rfl)) rfl
theorem wm_919 : (Cond.instanceMethod ({ cls := "DrawingHouse$Graph", name := "hasNode", desc := "(I)Z" } : MethodName) : Cond) ∈ lw_g := lw_gi (lw_c4 (List.mem_of_getElem? (i := 199) rfl)) rfl
theorem wm_920 : (Cond.selects "DrawingHouse$Graph" ({ cls := "DrawingHouse$Graph", name := "hasNode", desc := "(I)Z" } : MethodName) ({ cls := "DrawingHouse$Graph", name := "hasNode", desc := "(I)Z" } : MethodName) : Cond) ∈ lw_g := lw_gi (lw_c4 (List.mem_of_getElem? (i := 200) rfl)) rfl
theorem wm_1001 : (Cond.code ({ cls := "DrawingHouse", name := "back", desc := "(II)Z" } : MethodName) prog_1_method_11_code (3 : Nat) (Option.some ClassFile.FieldType.boolean) : Cond) ∈ lw_g := lw_gi (lw_c5 (List.mem_of_getElem? (i := 41) rfl)) rfl
theorem wm_1002 : (Cond.methodLink "DrawingHouse" (244 : Nat) ({ cls := "DrawingHouse$Graph", name := "step", desc := "(I)Z" } : MethodName) : Cond) ∈ lw_g := lw_gi (lw_c5 (List.mem_of_getElem? (i := 42) rfl)) rfl
theorem wm_1003 : (Cond.instanceMethod ({ cls := "DrawingHouse$Graph", name := "step", desc := "(I)Z" } : MethodName) : Cond) ∈ lw_g := lw_gi (lw_c5 (List.mem_of_getElem? (i := 43) rfl)) rfl
theorem wm_1004 : (Cond.selects "DrawingHouse$Graph" ({ cls := "DrawingHouse$Graph", name := "step", desc := "(I)Z" } : MethodName) ({ cls := "DrawingHouse$Graph", name := "step", desc := "(I)Z" } : MethodName) : Cond) ∈ lw_g := lw_gi (lw_c5 (List.mem_of_getElem? (i := 44) rfl)) rfl
theorem wm_1005 : (Cond.code ({ cls := "DrawingHouse$Graph", name := "step", desc := "(I)Z" } : MethodName) prog_5_method_25_code (2 : Nat) (Option.some ClassFile.FieldType.boolean) : Cond) ∈ lw_g := lw_gi (lw_c5 (List.mem_of_getElem? (i := 45) rfl)) rfl
theorem wm_1017 : (Cond.code ({ cls := "DrawingHouse", name := "far", desc := "(III)I" } : MethodName) prog_1_method_12_code (4 : Nat) (Option.some ClassFile.FieldType.int) : Cond) ∈ lw_g := lw_gi (lw_c5 (List.mem_of_getElem? (i := 57) rfl)) rfl
theorem wm_1185 : (Cond.code ({ cls := "DrawingHouse", name := "draw", desc := "(III)I" } : MethodName) prog_1_method_17_code (5 : Nat) (Option.some ClassFile.FieldType.int) : Cond) ∈ lw_g := lw_gi (lw_c5 (List.mem_of_getElem? (i := 225) rfl)) rfl
abbrev b_Gr_step : ByteArray := prog_5_method_25_code
def y_Gr_step : MethodName := ⟨"DrawingHouse$Graph", "step", "(I)Z"⟩
abbrev z_Gr_step : List Cond := Cond.code y_Gr_step b_Gr_step 2 (some .boolean) :: lw_g
theorem d_Gr_step_0 : decode b_Gr_step 0 = .ok (.aload_n 0, 1) := by decide +kernel
theorem d_Gr_step_1 : decode b_Gr_step 1 = .ok (.getfield 62, 3) := by decide +kernel
theorem d_Gr_step_4 : decode b_Gr_step 4 = .ok (.ifnonnull 5, 3) := by decide +kernel
theorem d_Gr_step_7 : decode b_Gr_step 7 = .ok (.iconst 0, 1) := by decide +kernel
theorem d_Gr_step_8 : decode b_Gr_step 8 = .ok (.ireturn, 1) := by decide +kernel
abbrev b_Ho_back : ByteArray := prog_1_method_11_code
def y_Ho_back : MethodName := ⟨"DrawingHouse", "back", "(II)Z"⟩
abbrev z_Ho_back : List Cond := Cond.code y_Ho_back b_Ho_back 3 (some .boolean) :: lw_g
theorem d_Ho_back_0 : decode b_Ho_back 0 = .ok (.iload_n 1, 1) := by decide +kernel
theorem d_Ho_back_1 : decode b_Ho_back 1 = .ok (.invokestatic 115, 3) := by decide +kernel
theorem d_Ho_back_4 : decode b_Ho_back 4 = .ok (.ifCond .eq 16, 3) := by decide +kernel
theorem d_Ho_back_20 : decode b_Ho_back 20 = .ok (.iconst 0, 1) := by decide +kernel
theorem d_Ho_back_21 : decode b_Ho_back 21 = .ok (.ireturn, 1) := by decide +kernel
theorem d_Ho_back_7 : decode b_Ho_back 7 = .ok (.aload_n 0, 1) := by decide +kernel
theorem d_Ho_back_8 : decode b_Ho_back 8 = .ok (.getfield 13, 3) := by decide +kernel
theorem d_Ho_back_11 : decode b_Ho_back 11 = .ok (.iload_n 1, 1) := by decide +kernel
theorem d_Ho_back_12 : decode b_Ho_back 12 = .ok (.aaload, 1) := by decide +kernel
theorem d_Ho_back_13 : decode b_Ho_back 13 = .ok (.iload_n 2, 1) := by decide +kernel
theorem d_Ho_back_14 : decode b_Ho_back 14 = .ok (.invokevirtual 244, 3) := by decide +kernel
theorem d_Ho_back_17 : decode b_Ho_back 17 = .ok (.ifCond .ne 5, 3) := by decide +kernel
abbrev b_Ho_far : ByteArray := prog_1_method_12_code
def y_Ho_far : MethodName := ⟨"DrawingHouse", "far", "(III)I"⟩
abbrev z_Ho_far : List Cond := Cond.code y_Ho_far b_Ho_far 4 (some .int) :: lw_g
theorem d_Ho_far_0 : decode b_Ho_far 0 = .ok (.iload_n 1, 1) := by decide +kernel
theorem d_Ho_far_1 : decode b_Ho_far 1 = .ok (.invokestatic 115, 3) := by decide +kernel
theorem d_Ho_far_4 : decode b_Ho_far 4 = .ok (.ifCond .eq 29, 3) := by decide +kernel
theorem d_Ho_far_33 : decode b_Ho_far 33 = .ok (.iconst (-1), 1) := by decide +kernel
theorem d_Ho_far_34 : decode b_Ho_far 34 = .ok (.ireturn, 1) := by decide +kernel
theorem d_Ho_far_7 : decode b_Ho_far 7 = .ok (.aload_n 0, 1) := by decide +kernel
theorem d_Ho_far_8 : decode b_Ho_far 8 = .ok (.getfield 13, 3) := by decide +kernel
theorem d_Ho_far_11 : decode b_Ho_far 11 = .ok (.iload_n 1, 1) := by decide +kernel
theorem d_Ho_far_12 : decode b_Ho_far 12 = .ok (.aaload, 1) := by decide +kernel
theorem d_Ho_far_13 : decode b_Ho_far 13 = .ok (.iload_n 2, 1) := by decide +kernel
theorem d_Ho_far_14 : decode b_Ho_far 14 = .ok (.invokevirtual 166, 3) := by decide +kernel
theorem d_Ho_far_17 : decode b_Ho_far 17 = .ok (.ifCond .eq 16, 3) := by decide +kernel
theorem d_Ho_far_20 : decode b_Ho_far 20 = .ok (.aload_n 0, 1) := by decide +kernel
theorem d_Ho_far_21 : decode b_Ho_far 21 = .ok (.getfield 13, 3) := by decide +kernel
theorem d_Ho_far_24 : decode b_Ho_far 24 = .ok (.iload_n 1, 1) := by decide +kernel
theorem d_Ho_far_25 : decode b_Ho_far 25 = .ok (.aaload, 1) := by decide +kernel
theorem d_Ho_far_26 : decode b_Ho_far 26 = .ok (.iload_n 3, 1) := by decide +kernel
theorem d_Ho_far_27 : decode b_Ho_far 27 = .ok (.invokevirtual 166, 3) := by decide +kernel
theorem d_Ho_far_30 : decode b_Ho_far 30 = .ok (.ifCond .ne 5, 3) := by decide +kernel
abbrev b_Ho_draw : ByteArray := prog_1_method_17_code
def y_Ho_draw : MethodName := ⟨"DrawingHouse", "draw", "(III)I"⟩
abbrev z_Ho_draw : List Cond := Cond.code y_Ho_draw b_Ho_draw 5 (some .int) :: lw_g
theorem d_Ho_draw_0 : decode b_Ho_draw 0 = .ok (.iload_n 1, 1) := by decide +kernel
theorem d_Ho_draw_1 : decode b_Ho_draw 1 = .ok (.invokestatic 115, 3) := by decide +kernel
theorem d_Ho_draw_4 : decode b_Ho_draw 4 = .ok (.ifCond .eq 25, 3) := by decide +kernel
theorem d_Ho_draw_29 : decode b_Ho_draw 29 = .ok (.iconst (-1), 1) := by decide +kernel
theorem d_Ho_draw_30 : decode b_Ho_draw 30 = .ok (.ireturn, 1) := by decide +kernel
theorem d_Ho_draw_7 : decode b_Ho_draw 7 = .ok (.iload_n 2, 1) := by decide +kernel
theorem d_Ho_draw_8 : decode b_Ho_draw 8 = .ok (.ifCond .lt 21, 3) := by decide +kernel
theorem d_Ho_draw_11 : decode b_Ho_draw 11 = .ok (.iload_n 2, 1) := by decide +kernel
theorem d_Ho_draw_12 : decode b_Ho_draw 12 = .ok (.bipush 7, 2) := by decide +kernel
theorem d_Ho_draw_14 : decode b_Ho_draw 14 = .ok (.if_icmp .gt 15, 3) := by decide +kernel
theorem d_Ho_draw_17 : decode b_Ho_draw 17 = .ok (.aload_n 0, 1) := by decide +kernel
theorem d_Ho_draw_18 : decode b_Ho_draw 18 = .ok (.getfield 13, 3) := by decide +kernel
theorem d_Ho_draw_21 : decode b_Ho_draw 21 = .ok (.iload_n 1, 1) := by decide +kernel
theorem d_Ho_draw_22 : decode b_Ho_draw 22 = .ok (.aaload, 1) := by decide +kernel
theorem d_Ho_draw_23 : decode b_Ho_draw 23 = .ok (.getfield 132, 3) := by decide +kernel
theorem d_Ho_draw_26 : decode b_Ho_draw 26 = .ok (.ifCond .ne 5, 3) := by decide +kernel
def sp_Gr_step_np  : Int32 := 0
set_option maxRecDepth 100000 in
set_option maxHeartbeats 4000000 in
/-- DrawingHouse$Graph.step(I)Z -/
theorem c_Gr_step_np (l : Launch) (D : va_G) (kA : Nat → ClassId) (h : Nat) (q : Nat → Nat) (x : Nat → Int32) (re : Int32)  : Ci l y_Gr_step z_Gr_step { frames := 0, cells := 0, slots := 0, locals := 0 } D classes (TY kA) [.ref h, .int re] [[(h, .inr (3, fGr q x none))]] (fun r (_ : Unit) => r = sp_Gr_step_np ) (fun _ => [[(h, .inr (3, fGr q x none))]]) 0 0 := by
  intro sz
  refine k_met (cc := b_Gr_step) (maxL := 2) (ret := (some .boolean)) (by decide) rfl (Nat.le_of_ble_eq_true rfl) (fun p e s m below meth c ls X hl hB => ?_)
  obtain ⟨hsz, hP, hK, hD0, hN⟩ := hB
  subst hsz
  have hD := hD0.self (sz := s.heap.size)
  generalize hAe : va_A (cat [[(h, .inr (3, fGr q x none))]]) s.heap.size = A at hD ⊢
  have hA : ∀ q : Nat, s.heap.size ≤ q → A q := fun q h => by rw [← hAe]; exact Or.inr h
  have hS : va_S A s.heap s.heap [] := va_S.rf
  obtain ⟨hx, hb, hml, hown, hts, hr, hlk, hnm⟩ := id X
  have hl : lv_has ls 2 [(0, .ref h), (1, .int re)] := hl
  have hP : va_P D classes (cat [[(h, .inr (3, fGr q x none))]]) s.heap := hP
  have hK : va_K D classes (TY kA) s := hK
  refine lv_aload_n (pc := 0) hx hb d_Gr_step_0 rfl (lv_at hl 0 rfl) ?_
  refine k_get (pc := 1) X hK hP 0 rfl rfl i_Gr 16 (by decide) wm_148 rfl rfl d_Gr_step_1 ?_
  refine lv_ifnonnullN (pc := 4) hx hb d_Gr_step_4 ?_
  refine lv_iconst (pc := 7) (v := 0) hx hb d_Gr_step_7 (by decide) ?_
  refine W.widen (k := 0) (n := 0) (Nat.le_of_ble_eq_true rfl) (Nat.le_of_ble_eq_true rfl) ?_
  exact W.zret (v := 0) hx hb hr rfl (fun t ht hW => ⟨⟨0, (), rfl, (by unfold sp_Gr_step_np; rfl), by rw [ht]; exact hP, va_K.moved hW.alike hK, hD⟩, hS.F ht⟩) hS.2.2 d_Gr_step_8
def sp_Ho_back_no  : Int32 := 0
set_option maxRecDepth 100000 in
set_option maxHeartbeats 4000000 in
/-- DrawingHouse.back(II)Z -/
theorem c_Ho_back_no (l : Launch) (D : va_G) (kA : Nat → ClassId) (h : Nat) (q : Nat → Nat) (x : Nat → Int32) (o16 o17 o18 o19 o20 : Option Nat) (gp re : Int32) (hg : sp_Ho_isPlace gp = 0)  : Ci l y_Ho_back z_Ho_back { frames := 1, cells := 0, slots := 0, locals := 24 } D classes (TY kA) [.ref h, .int gp, .int re] [[(h, .inr (12, fHo q x o16 o17 o18 o19 o20))]] (fun r (_ : Unit) => r = sp_Ho_back_no ) (fun _ => [[(h, .inr (12, fHo q x o16 o17 o18 o19 o20))]]) 0 0 := by
  intro sz
  refine k_met (cc := b_Ho_back) (maxL := 3) (ret := (some .boolean)) (by decide) rfl (Nat.le_of_ble_eq_true rfl) (fun p e s m below meth c ls X hl hB => ?_)
  obtain ⟨hsz, hP, hK, hD0, hN⟩ := hB
  subst hsz
  have hD := hD0.self (sz := s.heap.size)
  generalize hAe : va_A (cat [[(h, .inr (12, fHo q x o16 o17 o18 o19 o20))]]) s.heap.size = A at hD ⊢
  have hA : ∀ q : Nat, s.heap.size ≤ q → A q := fun q h => by rw [← hAe]; exact Or.inr h
  have hS : va_S A s.heap s.heap [] := va_S.rf
  obtain ⟨hx, hb, hml, hown, hts, hr, hlk, hnm⟩ := id X
  have hl : lv_has ls 3 [(0, .ref h), (1, .int gp), (2, .int re)] := hl
  have hP : va_P D classes (cat [[(h, .inr (12, fHo q x o16 o17 o18 o19 o20))]]) s.heap := hP
  have hK : va_K D classes (TY kA) s := hK
  refine lv_iload_n (pc := 0) hx hb d_Ho_back_0 rfl (lv_at hl 1 rfl) ?_
  refine k_goI (gr := [[(h, .inr (12, fHo q x o16 o17 o18 o19 o20))]]) (k_rS (pc := 1) (As := [.int gp]) (rest := []) X (c_Ho_isPlace l D kA gp s.heap.size) rfl wm_633 wm_1 wm_631 wm_632 1 (by decide +kernel) ⟨Nat.le_of_ble_eq_true rfl, Nat.le_of_ble_eq_true rfl⟩ rfl rfl (k_pre hN hK hP hD [] [0] 1 rfl (by decide) rfl) rfl hl.1 rfl (Nat.le_of_ble_eq_true rfl) d_Ho_back_1 ⟨Nat.le_of_ble_eq_true rfl, Nat.le_of_ble_eq_true rfl⟩) hP hD hS hA [] [0] 1 rfl (by decide) rfl rfl (fun r1 u2 H locs hu2 hP hD hS => ?_)
  subst hu2
  have hP : va_P D classes (cat [[(h, .inr (12, fHo q x o16 o17 o18 o19 o20))]]) H := hP
  have hD : va_D A (cat [[(h, .inr (12, fHo q x o16 o17 o18 o19 o20))]]) := hD
  refine lv_if_eq (pc := 4) (tgt := 20) hx hb d_Ho_back_4 (by decide) (fun c1 => ?_) (fun c1 => absurd (hg) c1)
  refine lv_iconst (pc := 20) (v := 0) hx hb d_Ho_back_20 (by decide) ?_
  refine W.widen (k := 0) (n := 0) (Nat.le_of_ble_eq_true rfl) (Nat.le_of_ble_eq_true rfl) ?_
  exact W.zret (v := 0) hx hb hr rfl (fun t ht hW => ⟨⟨0, (), rfl, (by unfold sp_Ho_back_no; rfl), by rw [ht]; exact hP, va_K.moved hW.alike hK, hD⟩, hS.F ht⟩) hS.2.2 d_Ho_back_21
def sp_Ho_back_np  : Int32 := 0
set_option maxRecDepth 100000 in
set_option maxHeartbeats 4000000 in
/-- DrawingHouse.back(II)Z -/
theorem c_Ho_back_np (l : Launch) (D : va_G) (kA : Nat → ClassId) (h : Nat) (q : Nat → Nat) (x : Nat → Int32) (o16 o17 o18 o19 o20 : Option Nat) (g : Nat → Nat → Nat) (qg : Nat → Nat) (xg : Nat → Int32) (j : Nat) (hj : j < 4) (re : Int32)  : Ci l y_Ho_back z_Ho_back { frames := 1, cells := 0, slots := 0, locals := 24 } D classes (TY kA) [.ref h, .int (nI j), .int re] [[(h, .inr (12, fHo q x o16 o17 o18 o19 o20))], [(q 0, .inl (kA 4, 4, .inr (.inr (.inr (.inr (rr (g 0)))))))], [(g 0 j, .inr (3, fGr qg xg none))]] (fun r (_ : Unit) => r = sp_Ho_back_np ) (fun _ => [[(h, .inr (12, fHo q x o16 o17 o18 o19 o20))], [(q 0, .inl (kA 4, 4, .inr (.inr (.inr (.inr (rr (g 0)))))))], [(g 0 j, .inr (3, fGr qg xg none))]]) 0 0 := by
  intro sz
  refine k_met (cc := b_Ho_back) (maxL := 3) (ret := (some .boolean)) (by decide) rfl (Nat.le_of_ble_eq_true rfl) (fun p e s m below meth c ls X hl hB => ?_)
  obtain ⟨hsz, hP, hK, hD0, hN⟩ := hB
  subst hsz
  have hD := hD0.self (sz := s.heap.size)
  generalize hAe : va_A (cat [[(h, .inr (12, fHo q x o16 o17 o18 o19 o20))], [(q 0, .inl (kA 4, 4, .inr (.inr (.inr (.inr (rr (g 0)))))))], [(g 0 j, .inr (3, fGr qg xg none))]]) s.heap.size = A at hD ⊢
  have hA : ∀ q : Nat, s.heap.size ≤ q → A q := fun q h => by rw [← hAe]; exact Or.inr h
  have hS : va_S A s.heap s.heap [] := va_S.rf
  obtain ⟨hx, hb, hml, hown, hts, hr, hlk, hnm⟩ := id X
  have hl : lv_has ls 3 [(0, .ref h), (1, .int (nI j)), (2, .int re)] := hl
  have hP : va_P D classes (cat [[(h, .inr (12, fHo q x o16 o17 o18 o19 o20))], [(q 0, .inl (kA 4, 4, .inr (.inr (.inr (.inr (rr (g 0)))))))], [(g 0 j, .inr (3, fGr qg xg none))]]) s.heap := hP
  have hK : va_K D classes (TY kA) s := hK
  refine lv_iload_n (pc := 0) hx hb d_Ho_back_0 rfl (lv_at hl 1 rfl) ?_
  refine k_goI (gr := [[(h, .inr (12, fHo q x o16 o17 o18 o19 o20))], [(q 0, .inl (kA 4, 4, .inr (.inr (.inr (.inr (rr (g 0)))))))], [(g 0 j, .inr (3, fGr qg xg none))]]) (k_rS (pc := 1) (As := [.int (nI j)]) (rest := []) X (c_Ho_isPlace l D kA (nI j) s.heap.size) rfl wm_633 wm_1 wm_631 wm_632 1 (by decide +kernel) ⟨Nat.le_of_ble_eq_true rfl, Nat.le_of_ble_eq_true rfl⟩ rfl rfl (k_pre hN hK hP hD [] [0, 1, 2] 3 rfl (by decide) rfl) rfl hl.1 rfl (Nat.le_of_ble_eq_true rfl) d_Ho_back_1 ⟨Nat.le_of_ble_eq_true rfl, Nat.le_of_ble_eq_true rfl⟩) hP hD hS hA [] [0, 1, 2] 3 rfl (by decide) rfl rfl (fun r1 u2 H locs hu2 hP hD hS => ?_)
  subst hu2
  have hP : va_P D classes (cat [[(h, .inr (12, fHo q x o16 o17 o18 o19 o20))], [(q 0, .inl (kA 4, 4, .inr (.inr (.inr (.inr (rr (g 0)))))))], [(g 0 j, .inr (3, fGr qg xg none))]]) H := hP
  have hD : va_D A (cat [[(h, .inr (12, fHo q x o16 o17 o18 o19 o20))], [(q 0, .inl (kA 4, 4, .inr (.inr (.inr (.inr (rr (g 0)))))))], [(g 0 j, .inr (3, fGr qg xg none))]]) := hD
  refine lv_if_eq (pc := 4) (tgt := 20) hx hb d_Ho_back_4 (by decide) (fun c1 => absurd c1 (fun e => absurd ((place_ok hj).symm.trans e) (by decide))) (fun c1 => ?_)
  refine lv_aload_n (pc := 7) hx hb d_Ho_back_7 rfl (lv_at hl 0 rfl) ?_
  refine k_get (pc := 8) X hK hP 0 rfl rfl i_Ho 0 (by decide) wm_555 rfl rfl d_Ho_back_8 ?_
  refine lv_iload_n (pc := 11) hx hb d_Ho_back_11 rfl (lv_at hl 1 rfl) ?_
  refine k_ald (pc := 12) hx hb hK hP 1 4 rfl rfl (j) rfl (by omega) (by decide) (rr_at (by omega)) d_Ho_back_12 ?_
  refine lv_iload_n (pc := 13) hx hb d_Ho_back_13 rfl (lv_at hl 2 rfl) ?_
  refine k_goI (gr := [[(h, .inr (12, fHo q x o16 o17 o18 o19 o20))], [(q 0, .inl (kA 4, 4, .inr (.inr (.inr (.inr (rr (g 0)))))))]]) (k_rV (pc := 14) (As := [.int re]) (rest := []) X (c_Gr_step_np l D kA (g 0 j) qg xg re H.size) rfl wm_1005 wm_3 wm_1002 wm_1003 wm_1004 1 (by decide +kernel) ⟨Nat.le_of_ble_eq_true rfl, Nat.le_of_ble_eq_true rfl⟩ rfl rfl (va_recv hK hP (ci := 3) (q0 := 2) rfl rfl) (k_pre hN hK hP hD [2] [0, 1] 3 rfl (by decide) rfl) rfl hl.1 rfl (Nat.le_of_ble_eq_true rfl) d_Ho_back_14 ⟨Nat.le_of_ble_eq_true rfl, Nat.le_of_ble_eq_true rfl⟩) hP hD hS hA [2] [0, 1] 3 rfl (by decide) rfl rfl (fun r3 u4 H locs hu4 hP hD hS => ?_)
  subst hu4
  refine k_cst (v := 0) (by rfl) ?_
  have hP : va_P D classes (cat [[(h, .inr (12, fHo q x o16 o17 o18 o19 o20))], [(q 0, .inl (kA 4, 4, .inr (.inr (.inr (.inr (rr (g 0)))))))], [(g 0 j, .inr (3, fGr qg xg none))]]) H := hP
  have hD : va_D A (cat [[(h, .inr (12, fHo q x o16 o17 o18 o19 o20))], [(q 0, .inl (kA 4, 4, .inr (.inr (.inr (.inr (rr (g 0)))))))], [(g 0 j, .inr (3, fGr qg xg none))]]) := hD
  refine lv_if_ne (pc := 17) (tgt := 22) hx hb d_Ho_back_17 (by decide) (fun c1 => absurd (by decide) c1) (fun c1 => ?_)
  refine lv_iconst (pc := 20) (v := 0) hx hb d_Ho_back_20 (by decide) ?_
  refine W.widen (k := 0) (n := 0) (Nat.le_of_ble_eq_true rfl) (Nat.le_of_ble_eq_true rfl) ?_
  exact W.zret (v := 0) hx hb hr rfl (fun t ht hW => ⟨⟨0, (), rfl, (by unfold sp_Ho_back_np; rfl), by rw [ht]; exact hP, va_K.moved hW.alike hK, hD⟩, hS.F ht⟩) hS.2.2 d_Ho_back_21
def sp_Ho_far_no  : Int32 := (-1)
set_option maxRecDepth 100000 in
set_option maxHeartbeats 4000000 in
/-- DrawingHouse.far(III)I -/
theorem c_Ho_far_no (l : Launch) (D : va_G) (kA : Nat → ClassId) (h : Nat) (q : Nat → Nat) (x : Nat → Int32) (o16 o17 o18 o19 o20 : Option Nat) (gp a1 a2 : Int32) (hg : sp_Ho_isPlace gp = 0)  : Ci l y_Ho_far z_Ho_far { frames := 1, cells := 0, slots := 0, locals := 24 } D classes (TY kA) [.ref h, .int gp, .int a1, .int a2] [[(h, .inr (12, fHo q x o16 o17 o18 o19 o20))]] (fun r (_ : Unit) => r = sp_Ho_far_no ) (fun _ => [[(h, .inr (12, fHo q x o16 o17 o18 o19 o20))]]) 0 0 := by
  intro sz
  refine k_met (cc := b_Ho_far) (maxL := 4) (ret := (some .int)) (by decide) rfl (Nat.le_of_ble_eq_true rfl) (fun p e s m below meth c ls X hl hB => ?_)
  obtain ⟨hsz, hP, hK, hD0, hN⟩ := hB
  subst hsz
  have hD := hD0.self (sz := s.heap.size)
  generalize hAe : va_A (cat [[(h, .inr (12, fHo q x o16 o17 o18 o19 o20))]]) s.heap.size = A at hD ⊢
  have hA : ∀ q : Nat, s.heap.size ≤ q → A q := fun q h => by rw [← hAe]; exact Or.inr h
  have hS : va_S A s.heap s.heap [] := va_S.rf
  obtain ⟨hx, hb, hml, hown, hts, hr, hlk, hnm⟩ := id X
  have hl : lv_has ls 4 [(0, .ref h), (1, .int gp), (2, .int a1), (3, .int a2)] := hl
  have hP : va_P D classes (cat [[(h, .inr (12, fHo q x o16 o17 o18 o19 o20))]]) s.heap := hP
  have hK : va_K D classes (TY kA) s := hK
  refine lv_iload_n (pc := 0) hx hb d_Ho_far_0 rfl (lv_at hl 1 rfl) ?_
  refine k_goI (gr := [[(h, .inr (12, fHo q x o16 o17 o18 o19 o20))]]) (k_rS (pc := 1) (As := [.int gp]) (rest := []) X (c_Ho_isPlace l D kA gp s.heap.size) rfl wm_633 wm_1 wm_631 wm_632 1 (by decide +kernel) ⟨Nat.le_of_ble_eq_true rfl, Nat.le_of_ble_eq_true rfl⟩ rfl rfl (k_pre hN hK hP hD [] [0] 1 rfl (by decide) rfl) rfl hl.1 rfl (Nat.le_of_ble_eq_true rfl) d_Ho_far_1 ⟨Nat.le_of_ble_eq_true rfl, Nat.le_of_ble_eq_true rfl⟩) hP hD hS hA [] [0] 1 rfl (by decide) rfl rfl (fun r1 u2 H locs hu2 hP hD hS => ?_)
  subst hu2
  have hP : va_P D classes (cat [[(h, .inr (12, fHo q x o16 o17 o18 o19 o20))]]) H := hP
  have hD : va_D A (cat [[(h, .inr (12, fHo q x o16 o17 o18 o19 o20))]]) := hD
  refine lv_if_eq (pc := 4) (tgt := 33) hx hb d_Ho_far_4 (by decide) (fun c1 => ?_) (fun c1 => absurd (hg) c1)
  refine lv_iconst (pc := 33) (v := -1) hx hb d_Ho_far_33 (by decide) ?_
  refine W.widen (k := 0) (n := 0) (Nat.le_of_ble_eq_true rfl) (Nat.le_of_ble_eq_true rfl) ?_
  exact W.iret (v := ((-1))) hx hb hr (fun t ht hW => ⟨⟨((-1)), (), rfl, (by unfold sp_Ho_far_no; rfl), by rw [ht]; exact hP, va_K.moved hW.alike hK, hD⟩, hS.F ht⟩) hS.2.2 d_Ho_far_34
def sp_Ho_far_n1  : Int32 := (-1)
set_option maxRecDepth 100000 in
set_option maxHeartbeats 4000000 in
/-- DrawingHouse.far(III)I -/
theorem c_Ho_far_n1 (l : Launch) (D : va_G) (kA : Nat → ClassId) (h : Nat) (q : Nat → Nat) (x : Nat → Int32) (o16 o17 o18 o19 o20 : Option Nat) (g : Nat → Nat → Nat) (qg : Nat → Nat) (xg : Nat → Int32) (og : Option Nat) (j : Nat) (hj : j < 4) (a1 a2 : Int32) (hv : sp_Gr_hasNode xg a1 = 0)  : Ci l y_Ho_far z_Ho_far { frames := 1, cells := 0, slots := 0, locals := 24 } D classes (TY kA) [.ref h, .int (nI j), .int a1, .int a2] [[(h, .inr (12, fHo q x o16 o17 o18 o19 o20))], [(q 0, .inl (kA 4, 4, .inr (.inr (.inr (.inr (rr (g 0)))))))], [(g 0 j, .inr (3, fGr qg xg og))]] (fun r (_ : Unit) => r = sp_Ho_far_n1 ) (fun _ => [[(h, .inr (12, fHo q x o16 o17 o18 o19 o20))], [(q 0, .inl (kA 4, 4, .inr (.inr (.inr (.inr (rr (g 0)))))))], [(g 0 j, .inr (3, fGr qg xg og))]]) 0 0 := by
  intro sz
  refine k_met (cc := b_Ho_far) (maxL := 4) (ret := (some .int)) (by decide) rfl (Nat.le_of_ble_eq_true rfl) (fun p e s m below meth c ls X hl hB => ?_)
  obtain ⟨hsz, hP, hK, hD0, hN⟩ := hB
  subst hsz
  have hD := hD0.self (sz := s.heap.size)
  generalize hAe : va_A (cat [[(h, .inr (12, fHo q x o16 o17 o18 o19 o20))], [(q 0, .inl (kA 4, 4, .inr (.inr (.inr (.inr (rr (g 0)))))))], [(g 0 j, .inr (3, fGr qg xg og))]]) s.heap.size = A at hD ⊢
  have hA : ∀ q : Nat, s.heap.size ≤ q → A q := fun q h => by rw [← hAe]; exact Or.inr h
  have hS : va_S A s.heap s.heap [] := va_S.rf
  obtain ⟨hx, hb, hml, hown, hts, hr, hlk, hnm⟩ := id X
  have hl : lv_has ls 4 [(0, .ref h), (1, .int (nI j)), (2, .int a1), (3, .int a2)] := hl
  have hP : va_P D classes (cat [[(h, .inr (12, fHo q x o16 o17 o18 o19 o20))], [(q 0, .inl (kA 4, 4, .inr (.inr (.inr (.inr (rr (g 0)))))))], [(g 0 j, .inr (3, fGr qg xg og))]]) s.heap := hP
  have hK : va_K D classes (TY kA) s := hK
  refine lv_iload_n (pc := 0) hx hb d_Ho_far_0 rfl (lv_at hl 1 rfl) ?_
  refine k_goI (gr := [[(h, .inr (12, fHo q x o16 o17 o18 o19 o20))], [(q 0, .inl (kA 4, 4, .inr (.inr (.inr (.inr (rr (g 0)))))))], [(g 0 j, .inr (3, fGr qg xg og))]]) (k_rS (pc := 1) (As := [.int (nI j)]) (rest := []) X (c_Ho_isPlace l D kA (nI j) s.heap.size) rfl wm_633 wm_1 wm_631 wm_632 1 (by decide +kernel) ⟨Nat.le_of_ble_eq_true rfl, Nat.le_of_ble_eq_true rfl⟩ rfl rfl (k_pre hN hK hP hD [] [0, 1, 2] 3 rfl (by decide) rfl) rfl hl.1 rfl (Nat.le_of_ble_eq_true rfl) d_Ho_far_1 ⟨Nat.le_of_ble_eq_true rfl, Nat.le_of_ble_eq_true rfl⟩) hP hD hS hA [] [0, 1, 2] 3 rfl (by decide) rfl rfl (fun r1 u2 H locs hu2 hP hD hS => ?_)
  subst hu2
  have hP : va_P D classes (cat [[(h, .inr (12, fHo q x o16 o17 o18 o19 o20))], [(q 0, .inl (kA 4, 4, .inr (.inr (.inr (.inr (rr (g 0)))))))], [(g 0 j, .inr (3, fGr qg xg og))]]) H := hP
  have hD : va_D A (cat [[(h, .inr (12, fHo q x o16 o17 o18 o19 o20))], [(q 0, .inl (kA 4, 4, .inr (.inr (.inr (.inr (rr (g 0)))))))], [(g 0 j, .inr (3, fGr qg xg og))]]) := hD
  refine lv_if_eq (pc := 4) (tgt := 33) hx hb d_Ho_far_4 (by decide) (fun c1 => absurd c1 (fun e => absurd ((place_ok hj).symm.trans e) (by decide))) (fun c1 => ?_)
  refine lv_aload_n (pc := 7) hx hb d_Ho_far_7 rfl (lv_at hl 0 rfl) ?_
  refine k_get (pc := 8) X hK hP 0 rfl rfl i_Ho 0 (by decide) wm_555 rfl rfl d_Ho_far_8 ?_
  refine lv_iload_n (pc := 11) hx hb d_Ho_far_11 rfl (lv_at hl 1 rfl) ?_
  refine k_ald (pc := 12) hx hb hK hP 1 4 rfl rfl (j) rfl (by omega) (by decide) (rr_at (by omega)) d_Ho_far_12 ?_
  refine lv_iload_n (pc := 13) hx hb d_Ho_far_13 rfl (lv_at hl 2 rfl) ?_
  refine k_goI (gr := [[(h, .inr (12, fHo q x o16 o17 o18 o19 o20))], [(q 0, .inl (kA 4, 4, .inr (.inr (.inr (.inr (rr (g 0)))))))]]) (k_rV (pc := 14) (As := [.int a1]) (rest := []) X (c_Gr_hasNode l D kA (g 0 j) qg xg og a1 H.size) rfl wm_921 wm_3 wm_918 wm_919 wm_920 1 (by decide +kernel) ⟨Nat.le_of_ble_eq_true rfl, Nat.le_of_ble_eq_true rfl⟩ rfl rfl (va_recv hK hP (ci := 3) (q0 := 2) rfl rfl) (k_pre hN hK hP hD [2] [0, 1] 3 rfl (by decide) rfl) rfl hl.1 rfl (Nat.le_of_ble_eq_true rfl) d_Ho_far_14 ⟨Nat.le_of_ble_eq_true rfl, Nat.le_of_ble_eq_true rfl⟩) hP hD hS hA [2] [0, 1] 3 rfl (by decide) rfl rfl (fun r3 u4 H locs hu4 hP hD hS => ?_)
  subst hu4
  have hP : va_P D classes (cat [[(h, .inr (12, fHo q x o16 o17 o18 o19 o20))], [(q 0, .inl (kA 4, 4, .inr (.inr (.inr (.inr (rr (g 0)))))))], [(g 0 j, .inr (3, fGr qg xg og))]]) H := hP
  have hD : va_D A (cat [[(h, .inr (12, fHo q x o16 o17 o18 o19 o20))], [(q 0, .inl (kA 4, 4, .inr (.inr (.inr (.inr (rr (g 0)))))))], [(g 0 j, .inr (3, fGr qg xg og))]]) := hD
  refine lv_if_eq (pc := 17) (tgt := 33) hx hb d_Ho_far_17 (by decide) (fun c1 => ?_) (fun c1 => absurd (hv) c1)
  refine lv_iconst (pc := 33) (v := -1) hx hb d_Ho_far_33 (by decide) ?_
  refine W.widen (k := 0) (n := 0) (Nat.le_of_ble_eq_true rfl) (Nat.le_of_ble_eq_true rfl) ?_
  exact W.iret (v := ((-1))) hx hb hr (fun t ht hW => ⟨⟨((-1)), (), rfl, (by unfold sp_Ho_far_n1; rfl), by rw [ht]; exact hP, va_K.moved hW.alike hK, hD⟩, hS.F ht⟩) hS.2.2 d_Ho_far_34
def sp_Ho_far_n2  : Int32 := (-1)
set_option maxRecDepth 100000 in
set_option maxHeartbeats 4000000 in
/-- DrawingHouse.far(III)I -/
theorem c_Ho_far_n2 (l : Launch) (D : va_G) (kA : Nat → ClassId) (h : Nat) (q : Nat → Nat) (x : Nat → Int32) (o16 o17 o18 o19 o20 : Option Nat) (g : Nat → Nat → Nat) (qg : Nat → Nat) (xg : Nat → Int32) (og : Option Nat) (j : Nat) (hj : j < 4) (a1 a2 : Int32) (hu : ¬ sp_Gr_hasNode xg a1 = 0) (hv : sp_Gr_hasNode xg a2 = 0)  : Ci l y_Ho_far z_Ho_far { frames := 1, cells := 0, slots := 0, locals := 24 } D classes (TY kA) [.ref h, .int (nI j), .int a1, .int a2] [[(h, .inr (12, fHo q x o16 o17 o18 o19 o20))], [(q 0, .inl (kA 4, 4, .inr (.inr (.inr (.inr (rr (g 0)))))))], [(g 0 j, .inr (3, fGr qg xg og))]] (fun r (_ : Unit) => r = sp_Ho_far_n2 ) (fun _ => [[(h, .inr (12, fHo q x o16 o17 o18 o19 o20))], [(q 0, .inl (kA 4, 4, .inr (.inr (.inr (.inr (rr (g 0)))))))], [(g 0 j, .inr (3, fGr qg xg og))]]) 0 0 := by
  intro sz
  refine k_met (cc := b_Ho_far) (maxL := 4) (ret := (some .int)) (by decide) rfl (Nat.le_of_ble_eq_true rfl) (fun p e s m below meth c ls X hl hB => ?_)
  obtain ⟨hsz, hP, hK, hD0, hN⟩ := hB
  subst hsz
  have hD := hD0.self (sz := s.heap.size)
  generalize hAe : va_A (cat [[(h, .inr (12, fHo q x o16 o17 o18 o19 o20))], [(q 0, .inl (kA 4, 4, .inr (.inr (.inr (.inr (rr (g 0)))))))], [(g 0 j, .inr (3, fGr qg xg og))]]) s.heap.size = A at hD ⊢
  have hA : ∀ q : Nat, s.heap.size ≤ q → A q := fun q h => by rw [← hAe]; exact Or.inr h
  have hS : va_S A s.heap s.heap [] := va_S.rf
  obtain ⟨hx, hb, hml, hown, hts, hr, hlk, hnm⟩ := id X
  have hl : lv_has ls 4 [(0, .ref h), (1, .int (nI j)), (2, .int a1), (3, .int a2)] := hl
  have hP : va_P D classes (cat [[(h, .inr (12, fHo q x o16 o17 o18 o19 o20))], [(q 0, .inl (kA 4, 4, .inr (.inr (.inr (.inr (rr (g 0)))))))], [(g 0 j, .inr (3, fGr qg xg og))]]) s.heap := hP
  have hK : va_K D classes (TY kA) s := hK
  refine lv_iload_n (pc := 0) hx hb d_Ho_far_0 rfl (lv_at hl 1 rfl) ?_
  refine k_goI (gr := [[(h, .inr (12, fHo q x o16 o17 o18 o19 o20))], [(q 0, .inl (kA 4, 4, .inr (.inr (.inr (.inr (rr (g 0)))))))], [(g 0 j, .inr (3, fGr qg xg og))]]) (k_rS (pc := 1) (As := [.int (nI j)]) (rest := []) X (c_Ho_isPlace l D kA (nI j) s.heap.size) rfl wm_633 wm_1 wm_631 wm_632 1 (by decide +kernel) ⟨Nat.le_of_ble_eq_true rfl, Nat.le_of_ble_eq_true rfl⟩ rfl rfl (k_pre hN hK hP hD [] [0, 1, 2] 3 rfl (by decide) rfl) rfl hl.1 rfl (Nat.le_of_ble_eq_true rfl) d_Ho_far_1 ⟨Nat.le_of_ble_eq_true rfl, Nat.le_of_ble_eq_true rfl⟩) hP hD hS hA [] [0, 1, 2] 3 rfl (by decide) rfl rfl (fun r1 u2 H locs hu2 hP hD hS => ?_)
  subst hu2
  have hP : va_P D classes (cat [[(h, .inr (12, fHo q x o16 o17 o18 o19 o20))], [(q 0, .inl (kA 4, 4, .inr (.inr (.inr (.inr (rr (g 0)))))))], [(g 0 j, .inr (3, fGr qg xg og))]]) H := hP
  have hD : va_D A (cat [[(h, .inr (12, fHo q x o16 o17 o18 o19 o20))], [(q 0, .inl (kA 4, 4, .inr (.inr (.inr (.inr (rr (g 0)))))))], [(g 0 j, .inr (3, fGr qg xg og))]]) := hD
  refine lv_if_eq (pc := 4) (tgt := 33) hx hb d_Ho_far_4 (by decide) (fun c1 => absurd c1 (fun e => absurd ((place_ok hj).symm.trans e) (by decide))) (fun c1 => ?_)
  refine lv_aload_n (pc := 7) hx hb d_Ho_far_7 rfl (lv_at hl 0 rfl) ?_
  refine k_get (pc := 8) X hK hP 0 rfl rfl i_Ho 0 (by decide) wm_555 rfl rfl d_Ho_far_8 ?_
  refine lv_iload_n (pc := 11) hx hb d_Ho_far_11 rfl (lv_at hl 1 rfl) ?_
  refine k_ald (pc := 12) hx hb hK hP 1 4 rfl rfl (j) rfl (by omega) (by decide) (rr_at (by omega)) d_Ho_far_12 ?_
  refine lv_iload_n (pc := 13) hx hb d_Ho_far_13 rfl (lv_at hl 2 rfl) ?_
  refine k_goI (gr := [[(h, .inr (12, fHo q x o16 o17 o18 o19 o20))], [(q 0, .inl (kA 4, 4, .inr (.inr (.inr (.inr (rr (g 0)))))))]]) (k_rV (pc := 14) (As := [.int a1]) (rest := []) X (c_Gr_hasNode l D kA (g 0 j) qg xg og a1 H.size) rfl wm_921 wm_3 wm_918 wm_919 wm_920 1 (by decide +kernel) ⟨Nat.le_of_ble_eq_true rfl, Nat.le_of_ble_eq_true rfl⟩ rfl rfl (va_recv hK hP (ci := 3) (q0 := 2) rfl rfl) (k_pre hN hK hP hD [2] [0, 1] 3 rfl (by decide) rfl) rfl hl.1 rfl (Nat.le_of_ble_eq_true rfl) d_Ho_far_14 ⟨Nat.le_of_ble_eq_true rfl, Nat.le_of_ble_eq_true rfl⟩) hP hD hS hA [2] [0, 1] 3 rfl (by decide) rfl rfl (fun r3 u4 H locs hu4 hP hD hS => ?_)
  subst hu4
  have hP : va_P D classes (cat [[(h, .inr (12, fHo q x o16 o17 o18 o19 o20))], [(q 0, .inl (kA 4, 4, .inr (.inr (.inr (.inr (rr (g 0)))))))], [(g 0 j, .inr (3, fGr qg xg og))]]) H := hP
  have hD : va_D A (cat [[(h, .inr (12, fHo q x o16 o17 o18 o19 o20))], [(q 0, .inl (kA 4, 4, .inr (.inr (.inr (.inr (rr (g 0)))))))], [(g 0 j, .inr (3, fGr qg xg og))]]) := hD
  refine lv_if_eq (pc := 17) (tgt := 33) hx hb d_Ho_far_17 (by decide) (fun c1 => absurd c1 (hu)) (fun c1 => ?_)
  refine lv_aload_n (pc := 20) hx hb d_Ho_far_20 rfl (lv_at hl 0 rfl) ?_
  refine k_get (pc := 21) X hK hP 0 rfl rfl i_Ho 0 (by decide) wm_555 rfl rfl d_Ho_far_21 ?_
  refine lv_iload_n (pc := 24) hx hb d_Ho_far_24 rfl (lv_at hl 1 rfl) ?_
  refine k_ald (pc := 25) hx hb hK hP 1 4 rfl rfl (j) rfl (by omega) (by decide) (rr_at (by omega)) d_Ho_far_25 ?_
  refine lv_iload_n (pc := 26) hx hb d_Ho_far_26 rfl (lv_at hl 3 rfl) ?_
  refine k_goI (gr := [[(h, .inr (12, fHo q x o16 o17 o18 o19 o20))], [(q 0, .inl (kA 4, 4, .inr (.inr (.inr (.inr (rr (g 0)))))))]]) (k_rV (pc := 27) (As := [.int a2]) (rest := []) X (c_Gr_hasNode l D kA (g 0 j) qg xg og a2 H.size) rfl wm_921 wm_3 wm_918 wm_919 wm_920 1 (by decide +kernel) ⟨Nat.le_of_ble_eq_true rfl, Nat.le_of_ble_eq_true rfl⟩ rfl rfl (va_recv hK hP (ci := 3) (q0 := 2) rfl rfl) (k_pre hN hK hP hD [2] [0, 1] 3 rfl (by decide) rfl) rfl hl.1 rfl (Nat.le_of_ble_eq_true rfl) d_Ho_far_27 ⟨Nat.le_of_ble_eq_true rfl, Nat.le_of_ble_eq_true rfl⟩) hP hD hS hA [2] [0, 1] 3 rfl (by decide) rfl rfl (fun r5 u6 H locs hu6 hP hD hS => ?_)
  subst hu6
  have hP : va_P D classes (cat [[(h, .inr (12, fHo q x o16 o17 o18 o19 o20))], [(q 0, .inl (kA 4, 4, .inr (.inr (.inr (.inr (rr (g 0)))))))], [(g 0 j, .inr (3, fGr qg xg og))]]) H := hP
  have hD : va_D A (cat [[(h, .inr (12, fHo q x o16 o17 o18 o19 o20))], [(q 0, .inl (kA 4, 4, .inr (.inr (.inr (.inr (rr (g 0)))))))], [(g 0 j, .inr (3, fGr qg xg og))]]) := hD
  refine lv_if_ne (pc := 30) (tgt := 35) hx hb d_Ho_far_30 (by decide) (fun c1 => absurd (hv) c1) (fun c1 => ?_)
  refine lv_iconst (pc := 33) (v := -1) hx hb d_Ho_far_33 (by decide) ?_
  refine W.widen (k := 0) (n := 0) (Nat.le_of_ble_eq_true rfl) (Nat.le_of_ble_eq_true rfl) ?_
  exact W.iret (v := ((-1))) hx hb hr (fun t ht hW => ⟨⟨((-1)), (), rfl, (by unfold sp_Ho_far_n2; rfl), by rw [ht]; exact hP, va_K.moved hW.alike hK, hD⟩, hS.F ht⟩) hS.2.2 d_Ho_far_34
def sp_Ho_draw_no  : Int32 := (-1)
set_option maxRecDepth 100000 in
set_option maxHeartbeats 4000000 in
/-- DrawingHouse.draw(III)I -/
theorem c_Ho_draw_no (l : Launch) (D : va_G) (kA : Nat → ClassId) (h : Nat) (q : Nat → Nat) (x : Nat → Int32) (o16 o17 o18 o19 o20 : Option Nat) (gp wy da : Int32) (hg : sp_Ho_isPlace gp = 0)  : Ci l y_Ho_draw z_Ho_draw { frames := 1, cells := 0, slots := 0, locals := 24 } D classes (TY kA) [.ref h, .int gp, .int wy, .int da] [[(h, .inr (12, fHo q x o16 o17 o18 o19 o20))]] (fun r (_ : Unit) => r = sp_Ho_draw_no ) (fun _ => [[(h, .inr (12, fHo q x o16 o17 o18 o19 o20))]]) 0 0 := by
  intro sz
  refine k_met (cc := b_Ho_draw) (maxL := 5) (ret := (some .int)) (by decide) rfl (Nat.le_of_ble_eq_true rfl) (fun p e s m below meth c ls X hl hB => ?_)
  obtain ⟨hsz, hP, hK, hD0, hN⟩ := hB
  subst hsz
  have hD := hD0.self (sz := s.heap.size)
  generalize hAe : va_A (cat [[(h, .inr (12, fHo q x o16 o17 o18 o19 o20))]]) s.heap.size = A at hD ⊢
  have hA : ∀ q : Nat, s.heap.size ≤ q → A q := fun q h => by rw [← hAe]; exact Or.inr h
  have hS : va_S A s.heap s.heap [] := va_S.rf
  obtain ⟨hx, hb, hml, hown, hts, hr, hlk, hnm⟩ := id X
  have hl : lv_has ls 5 [(0, .ref h), (1, .int gp), (2, .int wy), (3, .int da)] := hl
  have hP : va_P D classes (cat [[(h, .inr (12, fHo q x o16 o17 o18 o19 o20))]]) s.heap := hP
  have hK : va_K D classes (TY kA) s := hK
  refine lv_iload_n (pc := 0) hx hb d_Ho_draw_0 rfl (lv_at hl 1 rfl) ?_
  refine k_goI (gr := [[(h, .inr (12, fHo q x o16 o17 o18 o19 o20))]]) (k_rS (pc := 1) (As := [.int gp]) (rest := []) X (c_Ho_isPlace l D kA gp s.heap.size) rfl wm_633 wm_1 wm_631 wm_632 1 (by decide +kernel) ⟨Nat.le_of_ble_eq_true rfl, Nat.le_of_ble_eq_true rfl⟩ rfl rfl (k_pre hN hK hP hD [] [0] 1 rfl (by decide) rfl) rfl hl.1 rfl (Nat.le_of_ble_eq_true rfl) d_Ho_draw_1 ⟨Nat.le_of_ble_eq_true rfl, Nat.le_of_ble_eq_true rfl⟩) hP hD hS hA [] [0] 1 rfl (by decide) rfl rfl (fun r1 u2 H locs hu2 hP hD hS => ?_)
  subst hu2
  have hP : va_P D classes (cat [[(h, .inr (12, fHo q x o16 o17 o18 o19 o20))]]) H := hP
  have hD : va_D A (cat [[(h, .inr (12, fHo q x o16 o17 o18 o19 o20))]]) := hD
  refine lv_if_eq (pc := 4) (tgt := 29) hx hb d_Ho_draw_4 (by decide) (fun c1 => ?_) (fun c1 => absurd (hg) c1)
  refine lv_iconst (pc := 29) (v := -1) hx hb d_Ho_draw_29 (by decide) ?_
  refine W.widen (k := 0) (n := 0) (Nat.le_of_ble_eq_true rfl) (Nat.le_of_ble_eq_true rfl) ?_
  exact W.iret (v := ((-1))) hx hb hr (fun t ht hW => ⟨⟨((-1)), (), rfl, (by unfold sp_Ho_draw_no; rfl), by rw [ht]; exact hP, va_K.moved hW.alike hK, hD⟩, hS.F ht⟩) hS.2.2 d_Ho_draw_30
def sp_Ho_draw_em (wy : Int32) : Int32 := if wy < 0 then (-1) else if 7 < wy then (-1) else (-1)
set_option maxRecDepth 100000 in
set_option maxHeartbeats 4000000 in
/-- DrawingHouse.draw(III)I -/
theorem c_Ho_draw_em (l : Launch) (D : va_G) (kA : Nat → ClassId) (h : Nat) (q : Nat → Nat) (x : Nat → Int32) (o16 o17 o18 o19 o20 : Option Nat) (g : Nat → Nat → Nat) (qg : Nat → Nat) (xg : Nat → Int32) (og : Option Nat) (j : Nat) (hj : j < 4) (wy da : Int32)  : Ci l y_Ho_draw z_Ho_draw { frames := 1, cells := 0, slots := 0, locals := 24 } D classes (TY kA) [.ref h, .int (nI j), .int wy, .int da] [[(h, .inr (12, fHo q x o16 o17 o18 o19 o20))], [(q 0, .inl (kA 4, 4, .inr (.inr (.inr (.inr (rr (g 0)))))))], [(g 0 j, .inr (3, fGr qg (va_up xg 0 0) og))]] (fun r (_ : Unit) => r = sp_Ho_draw_em wy) (fun _ => [[(h, .inr (12, fHo q x o16 o17 o18 o19 o20))], [(q 0, .inl (kA 4, 4, .inr (.inr (.inr (.inr (rr (g 0)))))))], [(g 0 j, .inr (3, fGr qg (va_up xg 0 0) og))]]) 0 0 := by
  intro sz
  refine k_met (cc := b_Ho_draw) (maxL := 5) (ret := (some .int)) (by decide) rfl (Nat.le_of_ble_eq_true rfl) (fun p e s m below meth c ls X hl hB => ?_)
  obtain ⟨hsz, hP, hK, hD0, hN⟩ := hB
  subst hsz
  have hD := hD0.self (sz := s.heap.size)
  generalize hAe : va_A (cat [[(h, .inr (12, fHo q x o16 o17 o18 o19 o20))], [(q 0, .inl (kA 4, 4, .inr (.inr (.inr (.inr (rr (g 0)))))))], [(g 0 j, .inr (3, fGr qg (va_up xg 0 0) og))]]) s.heap.size = A at hD ⊢
  have hA : ∀ q : Nat, s.heap.size ≤ q → A q := fun q h => by rw [← hAe]; exact Or.inr h
  have hS : va_S A s.heap s.heap [] := va_S.rf
  obtain ⟨hx, hb, hml, hown, hts, hr, hlk, hnm⟩ := id X
  have hl : lv_has ls 5 [(0, .ref h), (1, .int (nI j)), (2, .int wy), (3, .int da)] := hl
  have hP : va_P D classes (cat [[(h, .inr (12, fHo q x o16 o17 o18 o19 o20))], [(q 0, .inl (kA 4, 4, .inr (.inr (.inr (.inr (rr (g 0)))))))], [(g 0 j, .inr (3, fGr qg (va_up xg 0 0) og))]]) s.heap := hP
  have hK : va_K D classes (TY kA) s := hK
  refine lv_iload_n (pc := 0) hx hb d_Ho_draw_0 rfl (lv_at hl 1 rfl) ?_
  refine k_goI (gr := [[(h, .inr (12, fHo q x o16 o17 o18 o19 o20))], [(q 0, .inl (kA 4, 4, .inr (.inr (.inr (.inr (rr (g 0)))))))], [(g 0 j, .inr (3, fGr qg (va_up xg 0 0) og))]]) (k_rS (pc := 1) (As := [.int (nI j)]) (rest := []) X (c_Ho_isPlace l D kA (nI j) s.heap.size) rfl wm_633 wm_1 wm_631 wm_632 1 (by decide +kernel) ⟨Nat.le_of_ble_eq_true rfl, Nat.le_of_ble_eq_true rfl⟩ rfl rfl (k_pre hN hK hP hD [] [0, 1, 2] 3 rfl (by decide) rfl) rfl hl.1 rfl (Nat.le_of_ble_eq_true rfl) d_Ho_draw_1 ⟨Nat.le_of_ble_eq_true rfl, Nat.le_of_ble_eq_true rfl⟩) hP hD hS hA [] [0, 1, 2] 3 rfl (by decide) rfl rfl (fun r1 u2 H locs hu2 hP hD hS => ?_)
  subst hu2
  have hP : va_P D classes (cat [[(h, .inr (12, fHo q x o16 o17 o18 o19 o20))], [(q 0, .inl (kA 4, 4, .inr (.inr (.inr (.inr (rr (g 0)))))))], [(g 0 j, .inr (3, fGr qg (va_up xg 0 0) og))]]) H := hP
  have hD : va_D A (cat [[(h, .inr (12, fHo q x o16 o17 o18 o19 o20))], [(q 0, .inl (kA 4, 4, .inr (.inr (.inr (.inr (rr (g 0)))))))], [(g 0 j, .inr (3, fGr qg (va_up xg 0 0) og))]]) := hD
  refine lv_if_eq (pc := 4) (tgt := 29) hx hb d_Ho_draw_4 (by decide) (fun c1 => absurd c1 (fun e => absurd ((place_ok hj).symm.trans e) (by decide))) (fun c1 => ?_)
  refine lv_iload_n (pc := 7) hx hb d_Ho_draw_7 rfl (lv_at hl 2 rfl) ?_
  refine lv_if_lt (pc := 8) (tgt := 29) hx hb d_Ho_draw_8 (by decide) (fun ck1 => ?_) (fun ck1 => ?_)
  · refine lv_iconst (pc := 29) (v := -1) hx hb d_Ho_draw_29 (by decide) ?_
    refine W.widen (k := 0) (n := 0) (Nat.le_of_ble_eq_true rfl) (Nat.le_of_ble_eq_true rfl) ?_
    exact W.iret (v := ((-1))) hx hb hr (fun t ht hW => ⟨⟨((-1)), (), rfl, (by unfold sp_Ho_draw_em; rw [if_pos ck1]), by rw [ht]; exact hP, va_K.moved hW.alike hK, hD⟩, hS.F ht⟩) hS.2.2 d_Ho_draw_30
  · refine lv_iload_n (pc := 11) hx hb d_Ho_draw_11 rfl (lv_at hl 2 rfl) ?_
    refine lv_bipush (pc := 12) (v := 7) hx hb d_Ho_draw_12 (by decide) ?_
    refine lv_icmp_gt (pc := 14) (tgt := 29) hx hb d_Ho_draw_14 (by decide) (fun ck2 => ?_) (fun ck2 => ?_)
    · refine lv_iconst (pc := 29) (v := -1) hx hb d_Ho_draw_29 (by decide) ?_
      refine W.widen (k := 0) (n := 0) (Nat.le_of_ble_eq_true rfl) (Nat.le_of_ble_eq_true rfl) ?_
      exact W.iret (v := ((-1))) hx hb hr (fun t ht hW => ⟨⟨((-1)), (), rfl, (by unfold sp_Ho_draw_em; rw [if_neg ck1, if_pos ck2]), by rw [ht]; exact hP, va_K.moved hW.alike hK, hD⟩, hS.F ht⟩) hS.2.2 d_Ho_draw_30
    · refine lv_aload_n (pc := 17) hx hb d_Ho_draw_17 rfl (lv_at hl 0 rfl) ?_
      refine k_get (pc := 18) X hK hP 0 rfl rfl i_Ho 0 (by decide) wm_555 rfl rfl d_Ho_draw_18 ?_
      refine lv_iload_n (pc := 21) hx hb d_Ho_draw_21 rfl (lv_at hl 1 rfl) ?_
      refine k_ald (pc := 22) hx hb hK hP 1 4 rfl rfl (j) rfl (by omega) (by decide) (rr_at (by omega)) d_Ho_draw_22 ?_
      refine k_get (pc := 23) (v := .int 0) X hK hP 2 rfl rfl i_Gr 0 (by decide) wm_62 rfl rfl d_Ho_draw_23 ?_
      refine lv_if_ne (pc := 26) (tgt := 31) hx hb d_Ho_draw_26 (by decide) (fun c1 => absurd (by decide) c1) (fun c1 => ?_)
      refine lv_iconst (pc := 29) (v := -1) hx hb d_Ho_draw_29 (by decide) ?_
      refine W.widen (k := 0) (n := 0) (Nat.le_of_ble_eq_true rfl) (Nat.le_of_ble_eq_true rfl) ?_
      exact W.iret (v := ((-1))) hx hb hr (fun t ht hW => ⟨⟨((-1)), (), rfl, (by unfold sp_Ho_draw_em; rw [if_neg ck1, if_neg ck2]), by rw [ht]; exact hP, va_K.moved hW.alike hK, hD⟩, hS.F ht⟩) hS.2.2 d_Ho_draw_30
