theorem wm_950 : (Cond.code ({ cls := "DrawingHouse", name := "letter", desc := "(IIII)I" } : MethodName) prog_1_method_9_code (6 : Nat) (Option.some ClassFile.FieldType.int) : Cond) ∈ lw_g := lw_gi (lw_c4 (List.mem_of_getElem? (i := 230) rfl)) rfl
theorem wm_2326 : (Cond.code ({ cls := "DrawingHouse", name := "shade", desc := "(IIII)I" } : MethodName) prog_1_method_25_code (5 : Nat) (Option.some ClassFile.FieldType.int) : Cond) ∈ lw_g := lw_gi (lw_c10 (List.mem_of_getElem? (i := 166) rfl)) rfl
theorem wm_2408 : (Cond.code ({ cls := "DrawingHouse", name := "dot", desc := "(II)I" } : MethodName) prog_1_method_29_code (3 : Nat) (Option.some ClassFile.FieldType.int) : Cond) ∈ lw_g := lw_gi (lw_c11 (List.mem_of_getElem? (i := 8) rfl)) rfl
theorem wm_2605 : (Cond.fieldLink "DrawingHouseModel" (1329 : Nat) "DrawingHouseModel" "dotWide" "I" : Cond) ∈ lw_g := lw_gi (lw_c11 (List.mem_of_getElem? (i := 205) rfl)) rfl
theorem wm_2606 : (Cond.fieldLink "DrawingHouseModel" (1332 : Nat) "DrawingHouseModel" "dotTall" "I" : Cond) ∈ lw_g := lw_gi (lw_c11 (List.mem_of_getElem? (i := 206) rfl)) rfl
theorem wm_3359 : (Cond.code ({ cls := "DrawingHouseModel", name := "letter", desc := "(IIII)I" } : MethodName) prog_15_method_104_code (5 : Nat) (Option.some ClassFile.FieldType.int) : Cond) ∈ lw_g := lw_gi (lw_c14 (List.mem_of_getElem? (i := 239) rfl)) rfl
theorem wm_3897 : (Cond.code ({ cls := "DrawingHouseModel", name := "shade", desc := "(IIII)I" } : MethodName) prog_15_method_231_code (5 : Nat) (Option.some ClassFile.FieldType.int) : Cond) ∈ lw_g := lw_gi (lw_c17 (List.mem_of_getElem? (i := 57) rfl)) rfl
theorem wm_3968 : (Cond.code ({ cls := "DrawingHouseModel", name := "dot", desc := "(II)I" } : MethodName) prog_15_method_246_code (3 : Nat) (Option.some ClassFile.FieldType.int) : Cond) ∈ lw_g := lw_gi (lw_c17 (List.mem_of_getElem? (i := 128) rfl)) rfl
abbrev b_Ho_dot : ByteArray := prog_1_method_29_code
def y_Ho_dot : MethodName := ⟨"DrawingHouse", "dot", "(II)I"⟩
abbrev z_Ho_dot : List Cond := Cond.code y_Ho_dot b_Ho_dot 3 (some .int) :: lw_g
theorem d_Ho_dot_0 : decode b_Ho_dot 0 = .ok (.iload_n 1, 1) := by decide +kernel
theorem d_Ho_dot_1 : decode b_Ho_dot 1 = .ok (.ifCond .lt 23, 3) := by decide +kernel
theorem d_Ho_dot_24 : decode b_Ho_dot 24 = .ok (.iconst (-1), 1) := by decide +kernel
theorem d_Ho_dot_25 : decode b_Ho_dot 25 = .ok (.ireturn, 1) := by decide +kernel
theorem d_Ho_dot_4 : decode b_Ho_dot 4 = .ok (.iload_n 1, 1) := by decide +kernel
theorem d_Ho_dot_5 : decode b_Ho_dot 5 = .ok (.aload_n 0, 1) := by decide +kernel
theorem d_Ho_dot_6 : decode b_Ho_dot 6 = .ok (.getfield 76, 3) := by decide +kernel
theorem d_Ho_dot_9 : decode b_Ho_dot 9 = .ok (.if_icmp .ge 15, 3) := by decide +kernel
theorem d_Ho_dot_12 : decode b_Ho_dot 12 = .ok (.iload_n 2, 1) := by decide +kernel
theorem d_Ho_dot_13 : decode b_Ho_dot 13 = .ok (.ifCond .lt 11, 3) := by decide +kernel
theorem d_Ho_dot_16 : decode b_Ho_dot 16 = .ok (.iload_n 2, 1) := by decide +kernel
theorem d_Ho_dot_17 : decode b_Ho_dot 17 = .ok (.aload_n 0, 1) := by decide +kernel
theorem d_Ho_dot_18 : decode b_Ho_dot 18 = .ok (.getfield 79, 3) := by decide +kernel
theorem d_Ho_dot_21 : decode b_Ho_dot 21 = .ok (.if_icmp .lt 5, 3) := by decide +kernel
abbrev b_Mo_dot : ByteArray := prog_15_method_246_code
def y_Mo_dot : MethodName := ⟨"DrawingHouseModel", "dot", "(II)I"⟩
abbrev z_Mo_dot : List Cond := Cond.code y_Mo_dot b_Mo_dot 3 (some .int) :: lw_g
theorem d_Mo_dot_0 : decode b_Mo_dot 0 = .ok (.iload_n 1, 1) := by decide +kernel
theorem d_Mo_dot_1 : decode b_Mo_dot 1 = .ok (.iconst 0, 1) := by decide +kernel
theorem d_Mo_dot_2 : decode b_Mo_dot 2 = .ok (.aload_n 0, 1) := by decide +kernel
theorem d_Mo_dot_3 : decode b_Mo_dot 3 = .ok (.getfield 1329, 3) := by decide +kernel
theorem d_Mo_dot_6 : decode b_Mo_dot 6 = .ok (.iconst 1, 1) := by decide +kernel
theorem d_Mo_dot_7 : decode b_Mo_dot 7 = .ok (.isub, 1) := by decide +kernel
theorem d_Mo_dot_8 : decode b_Mo_dot 8 = .ok (.invokestatic 387, 3) := by decide +kernel
theorem d_Mo_dot_11 : decode b_Mo_dot 11 = .ok (.ifCond .eq 31, 3) := by decide +kernel
theorem d_Mo_dot_42 : decode b_Mo_dot 42 = .ok (.iconst (-1), 1) := by decide +kernel
theorem d_Mo_dot_43 : decode b_Mo_dot 43 = .ok (.ireturn, 1) := by decide +kernel
theorem d_Mo_dot_14 : decode b_Mo_dot 14 = .ok (.iload_n 2, 1) := by decide +kernel
theorem d_Mo_dot_15 : decode b_Mo_dot 15 = .ok (.iconst 0, 1) := by decide +kernel
theorem d_Mo_dot_16 : decode b_Mo_dot 16 = .ok (.aload_n 0, 1) := by decide +kernel
theorem d_Mo_dot_17 : decode b_Mo_dot 17 = .ok (.getfield 1332, 3) := by decide +kernel
theorem d_Mo_dot_20 : decode b_Mo_dot 20 = .ok (.iconst 1, 1) := by decide +kernel
theorem d_Mo_dot_21 : decode b_Mo_dot 21 = .ok (.isub, 1) := by decide +kernel
theorem d_Mo_dot_22 : decode b_Mo_dot 22 = .ok (.invokestatic 387, 3) := by decide +kernel
theorem d_Mo_dot_25 : decode b_Mo_dot 25 = .ok (.ifCond .eq 17, 3) := by decide +kernel
abbrev b_Ho_letter : ByteArray := prog_1_method_9_code
def y_Ho_letter : MethodName := ⟨"DrawingHouse", "letter", "(IIII)I"⟩
abbrev z_Ho_letter : List Cond := Cond.code y_Ho_letter b_Ho_letter 6 (some .int) :: lw_g
theorem d_Ho_letter_0 : decode b_Ho_letter 0 = .ok (.iload_n 1, 1) := by decide +kernel
theorem d_Ho_letter_1 : decode b_Ho_letter 1 = .ok (.invokestatic 115, 3) := by decide +kernel
theorem d_Ho_letter_4 : decode b_Ho_letter 4 = .ok (.ifCond .eq 8, 3) := by decide +kernel
theorem d_Ho_letter_12 : decode b_Ho_letter 12 = .ok (.iconst (-1), 1) := by decide +kernel
theorem d_Ho_letter_13 : decode b_Ho_letter 13 = .ok (.ireturn, 1) := by decide +kernel
abbrev b_Mo_letter : ByteArray := prog_15_method_104_code
def y_Mo_letter : MethodName := ⟨"DrawingHouseModel", "letter", "(IIII)I"⟩
abbrev z_Mo_letter : List Cond := Cond.code y_Mo_letter b_Mo_letter 5 (some .int) :: lw_g
theorem d_Mo_letter_0 : decode b_Mo_letter 0 = .ok (.iload_n 1, 1) := by decide +kernel
theorem d_Mo_letter_1 : decode b_Mo_letter 1 = .ok (.invokestatic 521, 3) := by decide +kernel
theorem d_Mo_letter_4 : decode b_Mo_letter 4 = .ok (.ifCond .eq 12, 3) := by decide +kernel
theorem d_Mo_letter_16 : decode b_Mo_letter 16 = .ok (.iconst (-1), 1) := by decide +kernel
theorem d_Mo_letter_17 : decode b_Mo_letter 17 = .ok (.ireturn, 1) := by decide +kernel
abbrev b_Ho_shade : ByteArray := prog_1_method_25_code
def y_Ho_shade : MethodName := ⟨"DrawingHouse", "shade", "(IIII)I"⟩
abbrev z_Ho_shade : List Cond := Cond.code y_Ho_shade b_Ho_shade 5 (some .int) :: lw_g
theorem d_Ho_shade_0 : decode b_Ho_shade 0 = .ok (.iload_n 1, 1) := by decide +kernel
theorem d_Ho_shade_1 : decode b_Ho_shade 1 = .ok (.invokestatic 115, 3) := by decide +kernel
theorem d_Ho_shade_4 : decode b_Ho_shade 4 = .ok (.ifCond .eq 14, 3) := by decide +kernel
theorem d_Ho_shade_18 : decode b_Ho_shade 18 = .ok (.iconst (-1), 1) := by decide +kernel
theorem d_Ho_shade_19 : decode b_Ho_shade 19 = .ok (.ireturn, 1) := by decide +kernel
abbrev b_Mo_shade : ByteArray := prog_15_method_231_code
def y_Mo_shade : MethodName := ⟨"DrawingHouseModel", "shade", "(IIII)I"⟩
abbrev z_Mo_shade : List Cond := Cond.code y_Mo_shade b_Mo_shade 5 (some .int) :: lw_g
theorem d_Mo_shade_0 : decode b_Mo_shade 0 = .ok (.iload_n 1, 1) := by decide +kernel
theorem d_Mo_shade_1 : decode b_Mo_shade 1 = .ok (.invokestatic 521, 3) := by decide +kernel
theorem d_Mo_shade_4 : decode b_Mo_shade 4 = .ok (.ifCond .eq 22, 3) := by decide +kernel
theorem d_Mo_shade_26 : decode b_Mo_shade 26 = .ok (.iconst (-1), 1) := by decide +kernel
theorem d_Mo_shade_27 : decode b_Mo_shade 27 = .ok (.ireturn, 1) := by decide +kernel
def sp_Ho_dot_a  : Int32 := (-1)
set_option maxRecDepth 100000 in
set_option maxHeartbeats 4000000 in
/-- DrawingHouse.dot(II)I -/
theorem c_Ho_dot_a (l : Launch) (D : va_G) (kA : Nat → ClassId) (h : Nat) (q : Nat → Nat) (x : Nat → Int32) (o16 o17 o18 o19 o20 : Option Nat) (i1 i2 : Int32) (h0 : i1 < 0)  : Ci l y_Ho_dot z_Ho_dot { frames := 0, cells := 0, slots := 0, locals := 0 } D classes (TY kA) [.ref h, .int i1, .int i2] [[(h, .inr (12, fHo q x o16 o17 o18 o19 o20))]] (fun r (_ : Unit) => r = sp_Ho_dot_a ) (fun _ => [[(h, .inr (12, fHo q x o16 o17 o18 o19 o20))]]) 0 0 := by
  intro sz
  refine k_met (cc := b_Ho_dot) (maxL := 3) (ret := (some .int)) (by decide) rfl (Nat.le_of_ble_eq_true rfl) (fun p e s m below meth c ls X hl hB => ?_)
  obtain ⟨hsz, hP, hK, hD0, hN⟩ := hB
  subst hsz
  have hD := hD0.self (sz := s.heap.size)
  generalize hAe : va_A (cat [[(h, .inr (12, fHo q x o16 o17 o18 o19 o20))]]) s.heap.size = A at hD ⊢
  have hA : ∀ q : Nat, s.heap.size ≤ q → A q := fun q h => by rw [← hAe]; exact Or.inr h
  have hS : va_S A s.heap s.heap [] := va_S.rf
  obtain ⟨hx, hb, hml, hown, hts, hr, hlk, hnm⟩ := id X
  have hl : lv_has ls 3 [(0, .ref h), (1, .int i1), (2, .int i2)] := hl
  have hP : va_P D classes (cat [[(h, .inr (12, fHo q x o16 o17 o18 o19 o20))]]) s.heap := hP
  have hK : va_K D classes (TY kA) s := hK
  refine lv_iload_n (pc := 0) hx hb d_Ho_dot_0 rfl (lv_at hl 1 rfl) ?_
  refine lv_if_lt (pc := 1) (tgt := 24) hx hb d_Ho_dot_1 (by decide) (fun c1 => ?_) (fun c1 => absurd (h0) c1)
  refine lv_iconst (pc := 24) (v := -1) hx hb d_Ho_dot_24 (by decide) ?_
  refine W.widen (k := 0) (n := 0) (Nat.le_of_ble_eq_true rfl) (Nat.le_of_ble_eq_true rfl) ?_
  exact W.iret (v := ((-1))) hx hb hr (fun t ht hW => ⟨⟨((-1)), (), rfl, (by unfold sp_Ho_dot_a; rfl), by rw [ht]; exact hP, va_K.moved hW.alike hK, hD⟩, hS.F ht⟩) hS.2.2 d_Ho_dot_25
def sp_Ho_dot_b  : Int32 := (-1)
set_option maxRecDepth 100000 in
set_option maxHeartbeats 4000000 in
/-- DrawingHouse.dot(II)I -/
theorem c_Ho_dot_b (l : Launch) (D : va_G) (kA : Nat → ClassId) (h : Nat) (q : Nat → Nat) (x : Nat → Int32) (o16 o17 o18 o19 o20 : Option Nat) (i1 i2 : Int32) (h0 : ¬ i1 < 0) (h1 : x 14 ≤ i1)  : Ci l y_Ho_dot z_Ho_dot { frames := 0, cells := 0, slots := 0, locals := 0 } D classes (TY kA) [.ref h, .int i1, .int i2] [[(h, .inr (12, fHo q x o16 o17 o18 o19 o20))]] (fun r (_ : Unit) => r = sp_Ho_dot_b ) (fun _ => [[(h, .inr (12, fHo q x o16 o17 o18 o19 o20))]]) 0 0 := by
  intro sz
  refine k_met (cc := b_Ho_dot) (maxL := 3) (ret := (some .int)) (by decide) rfl (Nat.le_of_ble_eq_true rfl) (fun p e s m below meth c ls X hl hB => ?_)
  obtain ⟨hsz, hP, hK, hD0, hN⟩ := hB
  subst hsz
  have hD := hD0.self (sz := s.heap.size)
  generalize hAe : va_A (cat [[(h, .inr (12, fHo q x o16 o17 o18 o19 o20))]]) s.heap.size = A at hD ⊢
  have hA : ∀ q : Nat, s.heap.size ≤ q → A q := fun q h => by rw [← hAe]; exact Or.inr h
  have hS : va_S A s.heap s.heap [] := va_S.rf
  obtain ⟨hx, hb, hml, hown, hts, hr, hlk, hnm⟩ := id X
  have hl : lv_has ls 3 [(0, .ref h), (1, .int i1), (2, .int i2)] := hl
  have hP : va_P D classes (cat [[(h, .inr (12, fHo q x o16 o17 o18 o19 o20))]]) s.heap := hP
  have hK : va_K D classes (TY kA) s := hK
  refine lv_iload_n (pc := 0) hx hb d_Ho_dot_0 rfl (lv_at hl 1 rfl) ?_
  refine lv_if_lt (pc := 1) (tgt := 24) hx hb d_Ho_dot_1 (by decide) (fun c1 => absurd c1 (h0)) (fun c1 => ?_)
  refine lv_iload_n (pc := 4) hx hb d_Ho_dot_4 rfl (lv_at hl 1 rfl) ?_
  refine lv_aload_n (pc := 5) hx hb d_Ho_dot_5 rfl (lv_at hl 0 rfl) ?_
  refine k_get (pc := 6) X hK hP 0 rfl rfl i_Ho 14 (by decide) wm_569 rfl rfl d_Ho_dot_6 ?_
  refine lv_icmp_ge (pc := 9) (tgt := 24) hx hb d_Ho_dot_9 (by decide) (fun c1 => ?_) (fun c1 => absurd (h1) c1)
  refine lv_iconst (pc := 24) (v := -1) hx hb d_Ho_dot_24 (by decide) ?_
  refine W.widen (k := 0) (n := 0) (Nat.le_of_ble_eq_true rfl) (Nat.le_of_ble_eq_true rfl) ?_
  exact W.iret (v := ((-1))) hx hb hr (fun t ht hW => ⟨⟨((-1)), (), rfl, (by unfold sp_Ho_dot_b; rfl), by rw [ht]; exact hP, va_K.moved hW.alike hK, hD⟩, hS.F ht⟩) hS.2.2 d_Ho_dot_25
def sp_Ho_dot_c  : Int32 := (-1)
set_option maxRecDepth 100000 in
set_option maxHeartbeats 4000000 in
/-- DrawingHouse.dot(II)I -/
theorem c_Ho_dot_c (l : Launch) (D : va_G) (kA : Nat → ClassId) (h : Nat) (q : Nat → Nat) (x : Nat → Int32) (o16 o17 o18 o19 o20 : Option Nat) (i1 i2 : Int32) (h0 : ¬ i1 < 0) (h1 : ¬ x 14 ≤ i1) (h2 : i2 < 0)  : Ci l y_Ho_dot z_Ho_dot { frames := 0, cells := 0, slots := 0, locals := 0 } D classes (TY kA) [.ref h, .int i1, .int i2] [[(h, .inr (12, fHo q x o16 o17 o18 o19 o20))]] (fun r (_ : Unit) => r = sp_Ho_dot_c ) (fun _ => [[(h, .inr (12, fHo q x o16 o17 o18 o19 o20))]]) 0 0 := by
  intro sz
  refine k_met (cc := b_Ho_dot) (maxL := 3) (ret := (some .int)) (by decide) rfl (Nat.le_of_ble_eq_true rfl) (fun p e s m below meth c ls X hl hB => ?_)
  obtain ⟨hsz, hP, hK, hD0, hN⟩ := hB
  subst hsz
  have hD := hD0.self (sz := s.heap.size)
  generalize hAe : va_A (cat [[(h, .inr (12, fHo q x o16 o17 o18 o19 o20))]]) s.heap.size = A at hD ⊢
  have hA : ∀ q : Nat, s.heap.size ≤ q → A q := fun q h => by rw [← hAe]; exact Or.inr h
  have hS : va_S A s.heap s.heap [] := va_S.rf
  obtain ⟨hx, hb, hml, hown, hts, hr, hlk, hnm⟩ := id X
  have hl : lv_has ls 3 [(0, .ref h), (1, .int i1), (2, .int i2)] := hl
  have hP : va_P D classes (cat [[(h, .inr (12, fHo q x o16 o17 o18 o19 o20))]]) s.heap := hP
  have hK : va_K D classes (TY kA) s := hK
  refine lv_iload_n (pc := 0) hx hb d_Ho_dot_0 rfl (lv_at hl 1 rfl) ?_
  refine lv_if_lt (pc := 1) (tgt := 24) hx hb d_Ho_dot_1 (by decide) (fun c1 => absurd c1 (h0)) (fun c1 => ?_)
  refine lv_iload_n (pc := 4) hx hb d_Ho_dot_4 rfl (lv_at hl 1 rfl) ?_
  refine lv_aload_n (pc := 5) hx hb d_Ho_dot_5 rfl (lv_at hl 0 rfl) ?_
  refine k_get (pc := 6) X hK hP 0 rfl rfl i_Ho 14 (by decide) wm_569 rfl rfl d_Ho_dot_6 ?_
  refine lv_icmp_ge (pc := 9) (tgt := 24) hx hb d_Ho_dot_9 (by decide) (fun c1 => absurd c1 (h1)) (fun c1 => ?_)
  refine lv_iload_n (pc := 12) hx hb d_Ho_dot_12 rfl (lv_at hl 2 rfl) ?_
  refine lv_if_lt (pc := 13) (tgt := 24) hx hb d_Ho_dot_13 (by decide) (fun c1 => ?_) (fun c1 => absurd (h2) c1)
  refine lv_iconst (pc := 24) (v := -1) hx hb d_Ho_dot_24 (by decide) ?_
  refine W.widen (k := 0) (n := 0) (Nat.le_of_ble_eq_true rfl) (Nat.le_of_ble_eq_true rfl) ?_
  exact W.iret (v := ((-1))) hx hb hr (fun t ht hW => ⟨⟨((-1)), (), rfl, (by unfold sp_Ho_dot_c; rfl), by rw [ht]; exact hP, va_K.moved hW.alike hK, hD⟩, hS.F ht⟩) hS.2.2 d_Ho_dot_25
def sp_Ho_dot_d  : Int32 := (-1)
set_option maxRecDepth 100000 in
set_option maxHeartbeats 4000000 in
/-- DrawingHouse.dot(II)I -/
theorem c_Ho_dot_d (l : Launch) (D : va_G) (kA : Nat → ClassId) (h : Nat) (q : Nat → Nat) (x : Nat → Int32) (o16 o17 o18 o19 o20 : Option Nat) (i1 i2 : Int32) (h0 : ¬ i1 < 0) (h1 : ¬ x 14 ≤ i1) (h2 : ¬ i2 < 0) (h3 : ¬ i2 < x 15)  : Ci l y_Ho_dot z_Ho_dot { frames := 0, cells := 0, slots := 0, locals := 0 } D classes (TY kA) [.ref h, .int i1, .int i2] [[(h, .inr (12, fHo q x o16 o17 o18 o19 o20))]] (fun r (_ : Unit) => r = sp_Ho_dot_d ) (fun _ => [[(h, .inr (12, fHo q x o16 o17 o18 o19 o20))]]) 0 0 := by
  intro sz
  refine k_met (cc := b_Ho_dot) (maxL := 3) (ret := (some .int)) (by decide) rfl (Nat.le_of_ble_eq_true rfl) (fun p e s m below meth c ls X hl hB => ?_)
  obtain ⟨hsz, hP, hK, hD0, hN⟩ := hB
  subst hsz
  have hD := hD0.self (sz := s.heap.size)
  generalize hAe : va_A (cat [[(h, .inr (12, fHo q x o16 o17 o18 o19 o20))]]) s.heap.size = A at hD ⊢
  have hA : ∀ q : Nat, s.heap.size ≤ q → A q := fun q h => by rw [← hAe]; exact Or.inr h
  have hS : va_S A s.heap s.heap [] := va_S.rf
  obtain ⟨hx, hb, hml, hown, hts, hr, hlk, hnm⟩ := id X
  have hl : lv_has ls 3 [(0, .ref h), (1, .int i1), (2, .int i2)] := hl
  have hP : va_P D classes (cat [[(h, .inr (12, fHo q x o16 o17 o18 o19 o20))]]) s.heap := hP
  have hK : va_K D classes (TY kA) s := hK
  refine lv_iload_n (pc := 0) hx hb d_Ho_dot_0 rfl (lv_at hl 1 rfl) ?_
  refine lv_if_lt (pc := 1) (tgt := 24) hx hb d_Ho_dot_1 (by decide) (fun c1 => absurd c1 (h0)) (fun c1 => ?_)
  refine lv_iload_n (pc := 4) hx hb d_Ho_dot_4 rfl (lv_at hl 1 rfl) ?_
  refine lv_aload_n (pc := 5) hx hb d_Ho_dot_5 rfl (lv_at hl 0 rfl) ?_
  refine k_get (pc := 6) X hK hP 0 rfl rfl i_Ho 14 (by decide) wm_569 rfl rfl d_Ho_dot_6 ?_
  refine lv_icmp_ge (pc := 9) (tgt := 24) hx hb d_Ho_dot_9 (by decide) (fun c1 => absurd c1 (h1)) (fun c1 => ?_)
  refine lv_iload_n (pc := 12) hx hb d_Ho_dot_12 rfl (lv_at hl 2 rfl) ?_
  refine lv_if_lt (pc := 13) (tgt := 24) hx hb d_Ho_dot_13 (by decide) (fun c1 => absurd c1 (h2)) (fun c1 => ?_)
  refine lv_iload_n (pc := 16) hx hb d_Ho_dot_16 rfl (lv_at hl 2 rfl) ?_
  refine lv_aload_n (pc := 17) hx hb d_Ho_dot_17 rfl (lv_at hl 0 rfl) ?_
  refine k_get (pc := 18) X hK hP 0 rfl rfl i_Ho 15 (by decide) wm_570 rfl rfl d_Ho_dot_18 ?_
  refine lv_icmp_lt (pc := 21) (tgt := 26) hx hb d_Ho_dot_21 (by decide) (fun c1 => absurd c1 (h3)) (fun c1 => ?_)
  refine lv_iconst (pc := 24) (v := -1) hx hb d_Ho_dot_24 (by decide) ?_
  refine W.widen (k := 0) (n := 0) (Nat.le_of_ble_eq_true rfl) (Nat.le_of_ble_eq_true rfl) ?_
  exact W.iret (v := ((-1))) hx hb hr (fun t ht hW => ⟨⟨((-1)), (), rfl, (by unfold sp_Ho_dot_d; rfl), by rw [ht]; exact hP, va_K.moved hW.alike hK, hD⟩, hS.F ht⟩) hS.2.2 d_Ho_dot_25
def sp_Mo_dot_a  : Int32 := (-1)
set_option maxRecDepth 100000 in
set_option maxHeartbeats 4000000 in
/-- DrawingHouseModel.dot(II)I -/
theorem c_Mo_dot_a (l : Launch) (D : va_G) (kA : Nat → ClassId) (h : Nat) (q : Nat → Nat) (x : Nat → Int32) (y : Nat → Int64) (i1 i2 : Int32) (hv : sp_Mo_in i1 0 ((x 173) - 1) = 0)  : Ci l y_Mo_dot z_Mo_dot { frames := 1, cells := 0, slots := 0, locals := 22 } D classes (TY kA) [.ref h, .int i1, .int i2] [[(h, .inr (13, mF q x y))]] (fun r (_ : Unit) => r = sp_Mo_dot_a ) (fun _ => [[(h, .inr (13, mF q x y))]]) 0 0 := by
  intro sz
  refine k_met (cc := b_Mo_dot) (maxL := 3) (ret := (some .int)) (by decide) rfl (Nat.le_of_ble_eq_true rfl) (fun p e s m below meth c ls X hl hB => ?_)
  obtain ⟨hsz, hP, hK, hD0, hN⟩ := hB
  subst hsz
  have hD := hD0.self (sz := s.heap.size)
  generalize hAe : va_A (cat [[(h, .inr (13, mF q x y))]]) s.heap.size = A at hD ⊢
  have hA : ∀ q : Nat, s.heap.size ≤ q → A q := fun q h => by rw [← hAe]; exact Or.inr h
  have hS : va_S A s.heap s.heap [] := va_S.rf
  obtain ⟨hx, hb, hml, hown, hts, hr, hlk, hnm⟩ := id X
  have hl : lv_has ls 3 [(0, .ref h), (1, .int i1), (2, .int i2)] := hl
  have hP : va_P D classes (cat [[(h, .inr (13, mF q x y))]]) s.heap := hP
  have hK : va_K D classes (TY kA) s := hK
  refine lv_iload_n (pc := 0) hx hb d_Mo_dot_0 rfl (lv_at hl 1 rfl) ?_
  refine lv_iconst (pc := 1) (v := 0) hx hb d_Mo_dot_1 (by decide) ?_
  refine lv_aload_n (pc := 2) hx hb d_Mo_dot_2 rfl (lv_at hl 0 rfl) ?_
  refine k_get (pc := 3) X hK hP 0 rfl rfl i_Mo 173 (by decide) wm_2605 rfl rfl d_Mo_dot_3 ?_
  refine lv_iconst (pc := 6) (v := 1) hx hb d_Mo_dot_6 (by decide) ?_
  refine lv_isub (pc := 7) hx hb d_Mo_dot_7 ?_
  refine k_goI (gr := [[(h, .inr (13, mF q x y))]]) (k_rS (pc := 8) (As := [.int i1, .int 0, .int ((x 173) - 1)]) (rest := []) X (c_Mo_in l D kA i1 0 ((x 173) - 1) s.heap.size) rfl wm_2971 wm_9 wm_2969 wm_2970 3 (by decide +kernel) ⟨Nat.le_of_ble_eq_true rfl, Nat.le_of_ble_eq_true rfl⟩ rfl rfl (k_pre hN hK hP hD [] [0] 1 rfl (by decide) rfl) rfl hl.1 rfl (Nat.le_of_ble_eq_true rfl) d_Mo_dot_8 ⟨Nat.le_of_ble_eq_true rfl, Nat.le_of_ble_eq_true rfl⟩) hP hD hS hA [] [0] 1 rfl (by decide) rfl rfl (fun r1 u2 H locs hu2 hP hD hS => ?_)
  subst hu2
  have hP : va_P D classes (cat [[(h, .inr (13, mF q x y))]]) H := hP
  have hD : va_D A (cat [[(h, .inr (13, mF q x y))]]) := hD
  refine lv_if_eq (pc := 11) (tgt := 42) hx hb d_Mo_dot_11 (by decide) (fun c1 => ?_) (fun c1 => absurd (hv) c1)
  refine lv_iconst (pc := 42) (v := -1) hx hb d_Mo_dot_42 (by decide) ?_
  refine W.widen (k := 0) (n := 0) (Nat.le_of_ble_eq_true rfl) (Nat.le_of_ble_eq_true rfl) ?_
  exact W.iret (v := ((-1))) hx hb hr (fun t ht hW => ⟨⟨((-1)), (), rfl, (by unfold sp_Mo_dot_a; rfl), by rw [ht]; exact hP, va_K.moved hW.alike hK, hD⟩, hS.F ht⟩) hS.2.2 d_Mo_dot_43
def sp_Mo_dot_b  : Int32 := (-1)
set_option maxRecDepth 100000 in
set_option maxHeartbeats 4000000 in
/-- DrawingHouseModel.dot(II)I -/
theorem c_Mo_dot_b (l : Launch) (D : va_G) (kA : Nat → ClassId) (h : Nat) (q : Nat → Nat) (x : Nat → Int32) (y : Nat → Int64) (i1 i2 : Int32) (hu : ¬ sp_Mo_in i1 0 ((x 173) - 1) = 0) (hv : sp_Mo_in i2 0 ((x 174) - 1) = 0)  : Ci l y_Mo_dot z_Mo_dot { frames := 1, cells := 0, slots := 0, locals := 22 } D classes (TY kA) [.ref h, .int i1, .int i2] [[(h, .inr (13, mF q x y))]] (fun r (_ : Unit) => r = sp_Mo_dot_b ) (fun _ => [[(h, .inr (13, mF q x y))]]) 0 0 := by
  intro sz
  refine k_met (cc := b_Mo_dot) (maxL := 3) (ret := (some .int)) (by decide) rfl (Nat.le_of_ble_eq_true rfl) (fun p e s m below meth c ls X hl hB => ?_)
  obtain ⟨hsz, hP, hK, hD0, hN⟩ := hB
  subst hsz
  have hD := hD0.self (sz := s.heap.size)
  generalize hAe : va_A (cat [[(h, .inr (13, mF q x y))]]) s.heap.size = A at hD ⊢
  have hA : ∀ q : Nat, s.heap.size ≤ q → A q := fun q h => by rw [← hAe]; exact Or.inr h
  have hS : va_S A s.heap s.heap [] := va_S.rf
  obtain ⟨hx, hb, hml, hown, hts, hr, hlk, hnm⟩ := id X
  have hl : lv_has ls 3 [(0, .ref h), (1, .int i1), (2, .int i2)] := hl
  have hP : va_P D classes (cat [[(h, .inr (13, mF q x y))]]) s.heap := hP
  have hK : va_K D classes (TY kA) s := hK
  refine lv_iload_n (pc := 0) hx hb d_Mo_dot_0 rfl (lv_at hl 1 rfl) ?_
  refine lv_iconst (pc := 1) (v := 0) hx hb d_Mo_dot_1 (by decide) ?_
  refine lv_aload_n (pc := 2) hx hb d_Mo_dot_2 rfl (lv_at hl 0 rfl) ?_
  refine k_get (pc := 3) X hK hP 0 rfl rfl i_Mo 173 (by decide) wm_2605 rfl rfl d_Mo_dot_3 ?_
  refine lv_iconst (pc := 6) (v := 1) hx hb d_Mo_dot_6 (by decide) ?_
  refine lv_isub (pc := 7) hx hb d_Mo_dot_7 ?_
  refine k_goI (gr := [[(h, .inr (13, mF q x y))]]) (k_rS (pc := 8) (As := [.int i1, .int 0, .int ((x 173) - 1)]) (rest := []) X (c_Mo_in l D kA i1 0 ((x 173) - 1) s.heap.size) rfl wm_2971 wm_9 wm_2969 wm_2970 3 (by decide +kernel) ⟨Nat.le_of_ble_eq_true rfl, Nat.le_of_ble_eq_true rfl⟩ rfl rfl (k_pre hN hK hP hD [] [0] 1 rfl (by decide) rfl) rfl hl.1 rfl (Nat.le_of_ble_eq_true rfl) d_Mo_dot_8 ⟨Nat.le_of_ble_eq_true rfl, Nat.le_of_ble_eq_true rfl⟩) hP hD hS hA [] [0] 1 rfl (by decide) rfl rfl (fun r1 u2 H locs hu2 hP hD hS => ?_)
  subst hu2
  have hP : va_P D classes (cat [[(h, .inr (13, mF q x y))]]) H := hP
  have hD : va_D A (cat [[(h, .inr (13, mF q x y))]]) := hD
  refine lv_if_eq (pc := 11) (tgt := 42) hx hb d_Mo_dot_11 (by decide) (fun c1 => absurd c1 (hu)) (fun c1 => ?_)
  refine lv_iload_n (pc := 14) hx hb d_Mo_dot_14 rfl (lv_at hl 2 rfl) ?_
  refine lv_iconst (pc := 15) (v := 0) hx hb d_Mo_dot_15 (by decide) ?_
  refine lv_aload_n (pc := 16) hx hb d_Mo_dot_16 rfl (lv_at hl 0 rfl) ?_
  refine k_get (pc := 17) X hK hP 0 rfl rfl i_Mo 174 (by decide) wm_2606 rfl rfl d_Mo_dot_17 ?_
  refine lv_iconst (pc := 20) (v := 1) hx hb d_Mo_dot_20 (by decide) ?_
  refine lv_isub (pc := 21) hx hb d_Mo_dot_21 ?_
  refine k_goI (gr := [[(h, .inr (13, mF q x y))]]) (k_rS (pc := 22) (As := [.int i2, .int 0, .int ((x 174) - 1)]) (rest := []) X (c_Mo_in l D kA i2 0 ((x 174) - 1) H.size) rfl wm_2971 wm_9 wm_2969 wm_2970 3 (by decide +kernel) ⟨Nat.le_of_ble_eq_true rfl, Nat.le_of_ble_eq_true rfl⟩ rfl rfl (k_pre hN hK hP hD [] [0] 1 rfl (by decide) rfl) rfl hl.1 rfl (Nat.le_of_ble_eq_true rfl) d_Mo_dot_22 ⟨Nat.le_of_ble_eq_true rfl, Nat.le_of_ble_eq_true rfl⟩) hP hD hS hA [] [0] 1 rfl (by decide) rfl rfl (fun r3 u4 H locs hu4 hP hD hS => ?_)
  subst hu4
  have hP : va_P D classes (cat [[(h, .inr (13, mF q x y))]]) H := hP
  have hD : va_D A (cat [[(h, .inr (13, mF q x y))]]) := hD
  refine lv_if_eq (pc := 25) (tgt := 42) hx hb d_Mo_dot_25 (by decide) (fun c1 => ?_) (fun c1 => absurd (hv) c1)
  refine lv_iconst (pc := 42) (v := -1) hx hb d_Mo_dot_42 (by decide) ?_
  refine W.widen (k := 0) (n := 0) (Nat.le_of_ble_eq_true rfl) (Nat.le_of_ble_eq_true rfl) ?_
  exact W.iret (v := ((-1))) hx hb hr (fun t ht hW => ⟨⟨((-1)), (), rfl, (by unfold sp_Mo_dot_b; rfl), by rw [ht]; exact hP, va_K.moved hW.alike hK, hD⟩, hS.F ht⟩) hS.2.2 d_Mo_dot_43
def sp_Ho_letter_no  : Int32 := (-1)
set_option maxRecDepth 100000 in
set_option maxHeartbeats 4000000 in
/-- DrawingHouse.letter(IIII)I -/
theorem c_Ho_letter_no (l : Launch) (D : va_G) (kA : Nat → ClassId) (h : Nat) (q : Nat → Nat) (x : Nat → Int32) (o16 o17 o18 o19 o20 : Option Nat) (gp k1 i1 k2 : Int32) (hg : sp_Ho_isPlace gp = 0)  : Ci l y_Ho_letter z_Ho_letter { frames := 1, cells := 0, slots := 0, locals := 24 } D classes (TY kA) [.ref h, .int gp, .int k1, .int i1, .int k2] [[(h, .inr (12, fHo q x o16 o17 o18 o19 o20))]] (fun r (_ : Unit) => r = sp_Ho_letter_no ) (fun _ => [[(h, .inr (12, fHo q x o16 o17 o18 o19 o20))]]) 0 0 := by
  intro sz
  refine k_met (cc := b_Ho_letter) (maxL := 6) (ret := (some .int)) (by decide) rfl (Nat.le_of_ble_eq_true rfl) (fun p e s m below meth c ls X hl hB => ?_)
  obtain ⟨hsz, hP, hK, hD0, hN⟩ := hB
  subst hsz
  have hD := hD0.self (sz := s.heap.size)
  generalize hAe : va_A (cat [[(h, .inr (12, fHo q x o16 o17 o18 o19 o20))]]) s.heap.size = A at hD ⊢
  have hA : ∀ q : Nat, s.heap.size ≤ q → A q := fun q h => by rw [← hAe]; exact Or.inr h
  have hS : va_S A s.heap s.heap [] := va_S.rf
  obtain ⟨hx, hb, hml, hown, hts, hr, hlk, hnm⟩ := id X
  have hl : lv_has ls 6 [(0, .ref h), (1, .int gp), (2, .int k1), (3, .int i1), (4, .int k2)] := hl
  have hP : va_P D classes (cat [[(h, .inr (12, fHo q x o16 o17 o18 o19 o20))]]) s.heap := hP
  have hK : va_K D classes (TY kA) s := hK
  refine lv_iload_n (pc := 0) hx hb d_Ho_letter_0 rfl (lv_at hl 1 rfl) ?_
  refine k_goI (gr := [[(h, .inr (12, fHo q x o16 o17 o18 o19 o20))]]) (k_rS (pc := 1) (As := [.int gp]) (rest := []) X (c_Ho_isPlace l D kA gp s.heap.size) rfl wm_633 wm_1 wm_631 wm_632 1 (by decide +kernel) ⟨Nat.le_of_ble_eq_true rfl, Nat.le_of_ble_eq_true rfl⟩ rfl rfl (k_pre hN hK hP hD [] [0] 1 rfl (by decide) rfl) rfl hl.1 rfl (Nat.le_of_ble_eq_true rfl) d_Ho_letter_1 ⟨Nat.le_of_ble_eq_true rfl, Nat.le_of_ble_eq_true rfl⟩) hP hD hS hA [] [0] 1 rfl (by decide) rfl rfl (fun r1 u2 H locs hu2 hP hD hS => ?_)
  subst hu2
  have hP : va_P D classes (cat [[(h, .inr (12, fHo q x o16 o17 o18 o19 o20))]]) H := hP
  have hD : va_D A (cat [[(h, .inr (12, fHo q x o16 o17 o18 o19 o20))]]) := hD
  refine lv_if_eq (pc := 4) (tgt := 12) hx hb d_Ho_letter_4 (by decide) (fun c1 => ?_) (fun c1 => absurd (hg) c1)
  refine lv_iconst (pc := 12) (v := -1) hx hb d_Ho_letter_12 (by decide) ?_
  refine W.widen (k := 0) (n := 0) (Nat.le_of_ble_eq_true rfl) (Nat.le_of_ble_eq_true rfl) ?_
  exact W.iret (v := ((-1))) hx hb hr (fun t ht hW => ⟨⟨((-1)), (), rfl, (by unfold sp_Ho_letter_no; rfl), by rw [ht]; exact hP, va_K.moved hW.alike hK, hD⟩, hS.F ht⟩) hS.2.2 d_Ho_letter_13
def sp_Mo_letter_no  : Int32 := (-1)
set_option maxRecDepth 100000 in
set_option maxHeartbeats 4000000 in
/-- DrawingHouseModel.letter(IIII)I -/
theorem c_Mo_letter_no (l : Launch) (D : va_G) (kA : Nat → ClassId) (h : Nat) (q : Nat → Nat) (x : Nat → Int32) (y : Nat → Int64) (gp k1 i1 k2 : Int32) (hg : sp_Mo_isPlace gp = 0)  : Ci l y_Mo_letter z_Mo_letter { frames := 2, cells := 0, slots := 0, locals := 43 } D classes (TY kA) [.ref h, .int gp, .int k1, .int i1, .int k2] [[(h, .inr (13, mF q x y))]] (fun r (_ : Unit) => r = sp_Mo_letter_no ) (fun _ => [[(h, .inr (13, mF q x y))]]) 0 0 := by
  intro sz
  refine k_met (cc := b_Mo_letter) (maxL := 5) (ret := (some .int)) (by decide) rfl (Nat.le_of_ble_eq_true rfl) (fun p e s m below meth c ls X hl hB => ?_)
  obtain ⟨hsz, hP, hK, hD0, hN⟩ := hB
  subst hsz
  have hD := hD0.self (sz := s.heap.size)
  generalize hAe : va_A (cat [[(h, .inr (13, mF q x y))]]) s.heap.size = A at hD ⊢
  have hA : ∀ q : Nat, s.heap.size ≤ q → A q := fun q h => by rw [← hAe]; exact Or.inr h
  have hS : va_S A s.heap s.heap [] := va_S.rf
  obtain ⟨hx, hb, hml, hown, hts, hr, hlk, hnm⟩ := id X
  have hl : lv_has ls 5 [(0, .ref h), (1, .int gp), (2, .int k1), (3, .int i1), (4, .int k2)] := hl
  have hP : va_P D classes (cat [[(h, .inr (13, mF q x y))]]) s.heap := hP
  have hK : va_K D classes (TY kA) s := hK
  refine lv_iload_n (pc := 0) hx hb d_Mo_letter_0 rfl (lv_at hl 1 rfl) ?_
  refine k_goI (gr := [[(h, .inr (13, mF q x y))]]) (k_rS (pc := 1) (As := [.int gp]) (rest := []) X (c_Mo_isPlace l D kA gp s.heap.size) rfl wm_2978 wm_9 wm_2976 wm_2977 1 (by decide +kernel) ⟨Nat.le_of_ble_eq_true rfl, Nat.le_of_ble_eq_true rfl⟩ rfl rfl (k_pre hN hK hP hD [] [0] 1 rfl (by decide) rfl) rfl hl.1 rfl (Nat.le_of_ble_eq_true rfl) d_Mo_letter_1 ⟨Nat.le_of_ble_eq_true rfl, Nat.le_of_ble_eq_true rfl⟩) hP hD hS hA [] [0] 1 rfl (by decide) rfl rfl (fun r1 u2 H locs hu2 hP hD hS => ?_)
  subst hu2
  have hP : va_P D classes (cat [[(h, .inr (13, mF q x y))]]) H := hP
  have hD : va_D A (cat [[(h, .inr (13, mF q x y))]]) := hD
  refine lv_if_eq (pc := 4) (tgt := 16) hx hb d_Mo_letter_4 (by decide) (fun c1 => ?_) (fun c1 => absurd (hg) c1)
  refine lv_iconst (pc := 16) (v := -1) hx hb d_Mo_letter_16 (by decide) ?_
  refine W.widen (k := 0) (n := 0) (Nat.le_of_ble_eq_true rfl) (Nat.le_of_ble_eq_true rfl) ?_
  exact W.iret (v := ((-1))) hx hb hr (fun t ht hW => ⟨⟨((-1)), (), rfl, (by unfold sp_Mo_letter_no; rfl), by rw [ht]; exact hP, va_K.moved hW.alike hK, hD⟩, hS.F ht⟩) hS.2.2 d_Mo_letter_17
def sp_Ho_shade_no  : Int32 := (-1)
set_option maxRecDepth 100000 in
set_option maxHeartbeats 4000000 in
/-- DrawingHouse.shade(IIII)I -/
theorem c_Ho_shade_no (l : Launch) (D : va_G) (kA : Nat → ClassId) (h : Nat) (q : Nat → Nat) (x : Nat → Int32) (o16 o17 o18 o19 o20 : Option Nat) (gp k1 i1 k2 : Int32) (hg : sp_Ho_isPlace gp = 0)  : Ci l y_Ho_shade z_Ho_shade { frames := 1, cells := 0, slots := 0, locals := 24 } D classes (TY kA) [.ref h, .int gp, .int k1, .int i1, .int k2] [[(h, .inr (12, fHo q x o16 o17 o18 o19 o20))]] (fun r (_ : Unit) => r = sp_Ho_shade_no ) (fun _ => [[(h, .inr (12, fHo q x o16 o17 o18 o19 o20))]]) 0 0 := by
  intro sz
  refine k_met (cc := b_Ho_shade) (maxL := 5) (ret := (some .int)) (by decide) rfl (Nat.le_of_ble_eq_true rfl) (fun p e s m below meth c ls X hl hB => ?_)
  obtain ⟨hsz, hP, hK, hD0, hN⟩ := hB
  subst hsz
  have hD := hD0.self (sz := s.heap.size)
  generalize hAe : va_A (cat [[(h, .inr (12, fHo q x o16 o17 o18 o19 o20))]]) s.heap.size = A at hD ⊢
  have hA : ∀ q : Nat, s.heap.size ≤ q → A q := fun q h => by rw [← hAe]; exact Or.inr h
  have hS : va_S A s.heap s.heap [] := va_S.rf
  obtain ⟨hx, hb, hml, hown, hts, hr, hlk, hnm⟩ := id X
  have hl : lv_has ls 5 [(0, .ref h), (1, .int gp), (2, .int k1), (3, .int i1), (4, .int k2)] := hl
  have hP : va_P D classes (cat [[(h, .inr (12, fHo q x o16 o17 o18 o19 o20))]]) s.heap := hP
  have hK : va_K D classes (TY kA) s := hK
  refine lv_iload_n (pc := 0) hx hb d_Ho_shade_0 rfl (lv_at hl 1 rfl) ?_
  refine k_goI (gr := [[(h, .inr (12, fHo q x o16 o17 o18 o19 o20))]]) (k_rS (pc := 1) (As := [.int gp]) (rest := []) X (c_Ho_isPlace l D kA gp s.heap.size) rfl wm_633 wm_1 wm_631 wm_632 1 (by decide +kernel) ⟨Nat.le_of_ble_eq_true rfl, Nat.le_of_ble_eq_true rfl⟩ rfl rfl (k_pre hN hK hP hD [] [0] 1 rfl (by decide) rfl) rfl hl.1 rfl (Nat.le_of_ble_eq_true rfl) d_Ho_shade_1 ⟨Nat.le_of_ble_eq_true rfl, Nat.le_of_ble_eq_true rfl⟩) hP hD hS hA [] [0] 1 rfl (by decide) rfl rfl (fun r1 u2 H locs hu2 hP hD hS => ?_)
  subst hu2
  have hP : va_P D classes (cat [[(h, .inr (12, fHo q x o16 o17 o18 o19 o20))]]) H := hP
  have hD : va_D A (cat [[(h, .inr (12, fHo q x o16 o17 o18 o19 o20))]]) := hD
  refine lv_if_eq (pc := 4) (tgt := 18) hx hb d_Ho_shade_4 (by decide) (fun c1 => ?_) (fun c1 => absurd (hg) c1)
  refine lv_iconst (pc := 18) (v := -1) hx hb d_Ho_shade_18 (by decide) ?_
  refine W.widen (k := 0) (n := 0) (Nat.le_of_ble_eq_true rfl) (Nat.le_of_ble_eq_true rfl) ?_
  exact W.iret (v := ((-1))) hx hb hr (fun t ht hW => ⟨⟨((-1)), (), rfl, (by unfold sp_Ho_shade_no; rfl), by rw [ht]; exact hP, va_K.moved hW.alike hK, hD⟩, hS.F ht⟩) hS.2.2 d_Ho_shade_19
def sp_Mo_shade_no  : Int32 := (-1)
set_option maxRecDepth 100000 in
set_option maxHeartbeats 4000000 in
/-- DrawingHouseModel.shade(IIII)I -/
theorem c_Mo_shade_no (l : Launch) (D : va_G) (kA : Nat → ClassId) (h : Nat) (q : Nat → Nat) (x : Nat → Int32) (y : Nat → Int64) (gp k1 i1 k2 : Int32) (hg : sp_Mo_isPlace gp = 0)  : Ci l y_Mo_shade z_Mo_shade { frames := 2, cells := 0, slots := 0, locals := 43 } D classes (TY kA) [.ref h, .int gp, .int k1, .int i1, .int k2] [[(h, .inr (13, mF q x y))]] (fun r (_ : Unit) => r = sp_Mo_shade_no ) (fun _ => [[(h, .inr (13, mF q x y))]]) 0 0 := by
  intro sz
  refine k_met (cc := b_Mo_shade) (maxL := 5) (ret := (some .int)) (by decide) rfl (Nat.le_of_ble_eq_true rfl) (fun p e s m below meth c ls X hl hB => ?_)
  obtain ⟨hsz, hP, hK, hD0, hN⟩ := hB
  subst hsz
  have hD := hD0.self (sz := s.heap.size)
  generalize hAe : va_A (cat [[(h, .inr (13, mF q x y))]]) s.heap.size = A at hD ⊢
  have hA : ∀ q : Nat, s.heap.size ≤ q → A q := fun q h => by rw [← hAe]; exact Or.inr h
  have hS : va_S A s.heap s.heap [] := va_S.rf
  obtain ⟨hx, hb, hml, hown, hts, hr, hlk, hnm⟩ := id X
  have hl : lv_has ls 5 [(0, .ref h), (1, .int gp), (2, .int k1), (3, .int i1), (4, .int k2)] := hl
  have hP : va_P D classes (cat [[(h, .inr (13, mF q x y))]]) s.heap := hP
  have hK : va_K D classes (TY kA) s := hK
  refine lv_iload_n (pc := 0) hx hb d_Mo_shade_0 rfl (lv_at hl 1 rfl) ?_
  refine k_goI (gr := [[(h, .inr (13, mF q x y))]]) (k_rS (pc := 1) (As := [.int gp]) (rest := []) X (c_Mo_isPlace l D kA gp s.heap.size) rfl wm_2978 wm_9 wm_2976 wm_2977 1 (by decide +kernel) ⟨Nat.le_of_ble_eq_true rfl, Nat.le_of_ble_eq_true rfl⟩ rfl rfl (k_pre hN hK hP hD [] [0] 1 rfl (by decide) rfl) rfl hl.1 rfl (Nat.le_of_ble_eq_true rfl) d_Mo_shade_1 ⟨Nat.le_of_ble_eq_true rfl, Nat.le_of_ble_eq_true rfl⟩) hP hD hS hA [] [0] 1 rfl (by decide) rfl rfl (fun r1 u2 H locs hu2 hP hD hS => ?_)
  subst hu2
  have hP : va_P D classes (cat [[(h, .inr (13, mF q x y))]]) H := hP
  have hD : va_D A (cat [[(h, .inr (13, mF q x y))]]) := hD
  refine lv_if_eq (pc := 4) (tgt := 26) hx hb d_Mo_shade_4 (by decide) (fun c1 => ?_) (fun c1 => absurd (hg) c1)
  refine lv_iconst (pc := 26) (v := -1) hx hb d_Mo_shade_26 (by decide) ?_
  refine W.widen (k := 0) (n := 0) (Nat.le_of_ble_eq_true rfl) (Nat.le_of_ble_eq_true rfl) ?_
  exact W.iret (v := ((-1))) hx hb hr (fun t ht hW => ⟨⟨((-1)), (), rfl, (by unfold sp_Mo_shade_no; rfl), by rw [ht]; exact hP, va_K.moved hW.alike hK, hD⟩, hS.F ht⟩) hS.2.2 d_Mo_shade_27
