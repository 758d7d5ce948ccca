theorem wm_1044 : (Cond.code ({ cls := "DrawingHouse", name := "map", desc := "(I)I" } : MethodName) prog_1_method_14_code (2 : Nat) (Option.some ClassFile.FieldType.int) : Cond) ∈ lw_g := lw_gi (lw_c5 (List.mem_of_getElem? (i := 84) rfl)) rfl
theorem wm_2458 : (Cond.fieldLink "DrawingHouseModel" (581 : Nat) "DrawingHouseModel" "isMapped" "Z" : Cond) ∈ lw_g := lw_gi (lw_c11 (List.mem_of_getElem? (i := 58) rfl)) rfl
theorem wm_2459 : (Cond.fieldLink "DrawingHouseModel" (584 : Nat) "DrawingHouseModel" "mapNodes" "I" : Cond) ∈ lw_g := lw_gi (lw_c11 (List.mem_of_getElem? (i := 59) rfl)) rfl
theorem wm_2460 : (Cond.fieldLink "DrawingHouseModel" (572 : Nat) "DrawingHouseModel" "steps" "I" : Cond) ∈ lw_g := lw_gi (lw_c11 (List.mem_of_getElem? (i := 60) rfl)) rfl
theorem wm_2463 : (Cond.fieldLink "DrawingHouseModel" (575 : Nat) "DrawingHouseModel" "hasSteps" "Z" : Cond) ∈ lw_g := lw_gi (lw_c11 (List.mem_of_getElem? (i := 63) rfl)) rfl
theorem wm_3135 : (Cond.code ({ cls := "DrawingHouseModel", name := "map", desc := "(I)I" } : MethodName) prog_15_method_61_code (2 : Nat) (Option.some ClassFile.FieldType.int) : Cond) ∈ lw_g := lw_gi (lw_c14 (List.mem_of_getElem? (i := 15) rfl)) rfl
abbrev b_Ho_map : ByteArray := prog_1_method_14_code
def y_Ho_map : MethodName := ⟨"DrawingHouse", "map", "(I)I"⟩
abbrev z_Ho_map : List Cond := Cond.code y_Ho_map b_Ho_map 2 (some .int) :: lw_g
theorem d_Ho_map_0 : decode b_Ho_map 0 = .ok (.iload_n 1, 1) := by decide +kernel
theorem d_Ho_map_1 : decode b_Ho_map 1 = .ok (.iconst (-1), 1) := by decide +kernel
theorem d_Ho_map_2 : decode b_Ho_map 2 = .ok (.if_icmp .ne 8, 3) := by decide +kernel
theorem d_Ho_map_5 : decode b_Ho_map 5 = .ok (.aload_n 0, 1) := by decide +kernel
theorem d_Ho_map_6 : decode b_Ho_map 6 = .ok (.getfield 57, 3) := by decide +kernel
theorem d_Ho_map_9 : decode b_Ho_map 9 = .ok (.ireturn, 1) := by decide +kernel
theorem d_Ho_map_10 : decode b_Ho_map 10 = .ok (.iload_n 1, 1) := by decide +kernel
theorem d_Ho_map_11 : decode b_Ho_map 11 = .ok (.ifCond .lt 20, 3) := by decide +kernel
theorem d_Ho_map_14 : decode b_Ho_map 14 = .ok (.iload_n 1, 1) := by decide +kernel
theorem d_Ho_map_15 : decode b_Ho_map 15 = .ok (.aload_n 0, 1) := by decide +kernel
theorem d_Ho_map_16 : decode b_Ho_map 16 = .ok (.getfield 53, 3) := by decide +kernel
theorem d_Ho_map_19 : decode b_Ho_map 19 = .ok (.if_icmp .ge 12, 3) := by decide +kernel
theorem d_Ho_map_22 : decode b_Ho_map 22 = .ok (.aload_n 0, 1) := by decide +kernel
theorem d_Ho_map_23 : decode b_Ho_map 23 = .ok (.getfield 49, 3) := by decide +kernel
theorem d_Ho_map_26 : decode b_Ho_map 26 = .ok (.iload_n 1, 1) := by decide +kernel
theorem d_Ho_map_27 : decode b_Ho_map 27 = .ok (.iaload, 1) := by decide +kernel
theorem d_Ho_map_28 : decode b_Ho_map 28 = .ok (.goto 4, 3) := by decide +kernel
theorem d_Ho_map_31 : decode b_Ho_map 31 = .ok (.iconst (-1), 1) := by decide +kernel
theorem d_Ho_map_32 : decode b_Ho_map 32 = .ok (.ireturn, 1) := by decide +kernel
abbrev b_Mo_map : ByteArray := prog_15_method_61_code
def y_Mo_map : MethodName := ⟨"DrawingHouseModel", "map", "(I)I"⟩
abbrev z_Mo_map : List Cond := Cond.code y_Mo_map b_Mo_map 2 (some .int) :: lw_g
theorem d_Mo_map_0 : decode b_Mo_map 0 = .ok (.iload_n 1, 1) := by decide +kernel
theorem d_Mo_map_1 : decode b_Mo_map 1 = .ok (.iconst (-1), 1) := by decide +kernel
theorem d_Mo_map_2 : decode b_Mo_map 2 = .ok (.if_icmp .ne 19, 3) := by decide +kernel
theorem d_Mo_map_5 : decode b_Mo_map 5 = .ok (.aload_n 0, 1) := by decide +kernel
theorem d_Mo_map_6 : decode b_Mo_map 6 = .ok (.getfield 575, 3) := by decide +kernel
theorem d_Mo_map_9 : decode b_Mo_map 9 = .ok (.ifCond .eq 10, 3) := by decide +kernel
theorem d_Mo_map_12 : decode b_Mo_map 12 = .ok (.aload_n 0, 1) := by decide +kernel
theorem d_Mo_map_13 : decode b_Mo_map 13 = .ok (.getfield 572, 3) := by decide +kernel
theorem d_Mo_map_16 : decode b_Mo_map 16 = .ok (.goto 4, 3) := by decide +kernel
theorem d_Mo_map_19 : decode b_Mo_map 19 = .ok (.iconst (-1), 1) := by decide +kernel
theorem d_Mo_map_20 : decode b_Mo_map 20 = .ok (.ireturn, 1) := by decide +kernel
theorem d_Mo_map_21 : decode b_Mo_map 21 = .ok (.aload_n 0, 1) := by decide +kernel
theorem d_Mo_map_22 : decode b_Mo_map 22 = .ok (.getfield 581, 3) := by decide +kernel
theorem d_Mo_map_25 : decode b_Mo_map 25 = .ok (.ifCond .eq 26, 3) := by decide +kernel
theorem d_Mo_map_28 : decode b_Mo_map 28 = .ok (.iload_n 1, 1) := by decide +kernel
theorem d_Mo_map_29 : decode b_Mo_map 29 = .ok (.iconst 0, 1) := by decide +kernel
theorem d_Mo_map_30 : decode b_Mo_map 30 = .ok (.aload_n 0, 1) := by decide +kernel
theorem d_Mo_map_31 : decode b_Mo_map 31 = .ok (.getfield 584, 3) := by decide +kernel
theorem d_Mo_map_34 : decode b_Mo_map 34 = .ok (.iconst 1, 1) := by decide +kernel
theorem d_Mo_map_35 : decode b_Mo_map 35 = .ok (.isub, 1) := by decide +kernel
theorem d_Mo_map_36 : decode b_Mo_map 36 = .ok (.invokestatic 387, 3) := by decide +kernel
theorem d_Mo_map_39 : decode b_Mo_map 39 = .ok (.ifCond .eq 12, 3) := by decide +kernel
theorem d_Mo_map_42 : decode b_Mo_map 42 = .ok (.aload_n 0, 1) := by decide +kernel
theorem d_Mo_map_43 : decode b_Mo_map 43 = .ok (.getfield 51, 3) := by decide +kernel
theorem d_Mo_map_46 : decode b_Mo_map 46 = .ok (.iload_n 1, 1) := by decide +kernel
theorem d_Mo_map_47 : decode b_Mo_map 47 = .ok (.iaload, 1) := by decide +kernel
theorem d_Mo_map_48 : decode b_Mo_map 48 = .ok (.goto 4, 3) := by decide +kernel
theorem d_Mo_map_51 : decode b_Mo_map 51 = .ok (.iconst (-1), 1) := by decide +kernel
theorem d_Mo_map_52 : decode b_Mo_map 52 = .ok (.ireturn, 1) := by decide +kernel
theorem k_nm1 {j : Nat} (hj : j < 2 ^ 31) : ¬ nI j = -1 := fun e => by
  have h := nI_pos hj
  rw [e] at h
  exact h (by decide)
def sp_Ho_map_m1 (x : Nat → Int32) (f : Nat → Int32) : Int32 := x 8
set_option maxRecDepth 100000 in
set_option maxHeartbeats 4000000 in
/-- DrawingHouse.map(I)I -/
theorem c_Ho_map_m1 (l : Launch) (D : va_G) (kA : Nat → ClassId) (h : Nat) (q : Nat → Nat) (x : Nat → Int32) (o16 o17 o18 o19 o20 : Option Nat) (f : Nat → Int32) (n : Nat) (hn : n ≤ 24)   : Ci l y_Ho_map z_Ho_map { frames := 0, cells := 0, slots := 0, locals := 0 } D classes (TY kA) [.ref h, .int ((-1))] [[(h, .inr (12, fHo q (va_up x 7 (nI n)) o16 o17 o18 o19 o20))], [(q 6, .inl (kA 0, 24, .inl f))]] (fun r (_ : Unit) => r = sp_Ho_map_m1 x f) (fun _ => [[(h, .inr (12, fHo q (va_up x 7 (nI n)) o16 o17 o18 o19 o20))], [(q 6, .inl (kA 0, 24, .inl f))]]) 0 0 := by
  intro sz
  refine k_met (cc := b_Ho_map) (maxL := 2) (ret := (some .int)) (by decide) rfl (Nat.le_of_ble_eq_true rfl) (fun p e s m below meth c ls X hl hB => ?_)
  obtain ⟨hsz, hP, hK, hD0, hN⟩ := hB
  subst hsz
  have hD := hD0.self (sz := s.heap.size)
  generalize hAe : va_A (cat [[(h, .inr (12, fHo q (va_up x 7 (nI n)) o16 o17 o18 o19 o20))], [(q 6, .inl (kA 0, 24, .inl f))]]) s.heap.size = A at hD ⊢
  have hA : ∀ q : Nat, s.heap.size ≤ q → A q := fun q h => by rw [← hAe]; exact Or.inr h
  have hS : va_S A s.heap s.heap [] := va_S.rf
  obtain ⟨hx, hb, hml, hown, hts, hr, hlk, hnm⟩ := id X
  have hl : lv_has ls 2 [(0, .ref h), (1, .int ((-1)))] := hl
  have hP : va_P D classes (cat [[(h, .inr (12, fHo q (va_up x 7 (nI n)) o16 o17 o18 o19 o20))], [(q 6, .inl (kA 0, 24, .inl f))]]) s.heap := hP
  have hK : va_K D classes (TY kA) s := hK
  refine lv_iload_n (pc := 0) hx hb d_Ho_map_0 rfl (lv_at hl 1 rfl) ?_
  refine lv_iconst (pc := 1) (v := -1) hx hb d_Ho_map_1 (by decide) ?_
  refine lv_icmp_ne (pc := 2) (tgt := 10) hx hb d_Ho_map_2 (by decide) (fun c1 => absurd (by decide) c1) (fun _ => ?_)
  refine lv_aload_n (pc := 5) hx hb d_Ho_map_5 rfl (lv_at hl 0 rfl) ?_
  refine k_get (pc := 6) (v := .int (x 8)) X hK hP 0 rfl rfl i_Ho 8 (by decide) wm_563 rfl rfl d_Ho_map_6 ?_
  refine W.widen (k := 0) (n := 0) (Nat.le_of_ble_eq_true rfl) (Nat.le_of_ble_eq_true rfl) ?_
  exact W.iret (v := (x 8)) hx hb hr (fun t ht hW => ⟨⟨(x 8), (), rfl, (by unfold sp_Ho_map_m1; rfl), by rw [ht]; exact hP, va_K.moved hW.alike hK, hD⟩, hS.F ht⟩) hS.2.2 d_Ho_map_9
def sp_Ho_map_neg (x : Nat → Int32) (f : Nat → Int32) : Int32 := (-1)
set_option maxRecDepth 100000 in
set_option maxHeartbeats 4000000 in
/-- DrawingHouse.map(I)I -/
theorem c_Ho_map_neg (l : Launch) (D : va_G) (kA : Nat → ClassId) (h : Nat) (q : Nat → Nat) (x : Nat → Int32) (o16 o17 o18 o19 o20 : Option Nat) (f : Nat → Int32) (n : Nat) (hn : n ≤ 24) (i : Int32) (hm : ¬ i = -1) (h0 : i < 0)  : Ci l y_Ho_map z_Ho_map { frames := 0, cells := 0, slots := 0, locals := 0 } D classes (TY kA) [.ref h, .int i] [[(h, .inr (12, fHo q (va_up x 7 (nI n)) o16 o17 o18 o19 o20))], [(q 6, .inl (kA 0, 24, .inl f))]] (fun r (_ : Unit) => r = sp_Ho_map_neg x f) (fun _ => [[(h, .inr (12, fHo q (va_up x 7 (nI n)) o16 o17 o18 o19 o20))], [(q 6, .inl (kA 0, 24, .inl f))]]) 0 0 := by
  intro sz
  refine k_met (cc := b_Ho_map) (maxL := 2) (ret := (some .int)) (by decide) rfl (Nat.le_of_ble_eq_true rfl) (fun p e s m below meth c ls X hl hB => ?_)
  obtain ⟨hsz, hP, hK, hD0, hN⟩ := hB
  subst hsz
  have hD := hD0.self (sz := s.heap.size)
  generalize hAe : va_A (cat [[(h, .inr (12, fHo q (va_up x 7 (nI n)) o16 o17 o18 o19 o20))], [(q 6, .inl (kA 0, 24, .inl f))]]) s.heap.size = A at hD ⊢
  have hA : ∀ q : Nat, s.heap.size ≤ q → A q := fun q h => by rw [← hAe]; exact Or.inr h
  have hS : va_S A s.heap s.heap [] := va_S.rf
  obtain ⟨hx, hb, hml, hown, hts, hr, hlk, hnm⟩ := id X
  have hl : lv_has ls 2 [(0, .ref h), (1, .int i)] := hl
  have hP : va_P D classes (cat [[(h, .inr (12, fHo q (va_up x 7 (nI n)) o16 o17 o18 o19 o20))], [(q 6, .inl (kA 0, 24, .inl f))]]) s.heap := hP
  have hK : va_K D classes (TY kA) s := hK
  refine lv_iload_n (pc := 0) hx hb d_Ho_map_0 rfl (lv_at hl 1 rfl) ?_
  refine lv_iconst (pc := 1) (v := -1) hx hb d_Ho_map_1 (by decide) ?_
  refine lv_icmp_ne (pc := 2) (tgt := 10) hx hb d_Ho_map_2 (by decide) (fun c1 => ?_) (fun c1 => absurd c1 (hm))
  refine lv_iload_n (pc := 10) hx hb d_Ho_map_10 rfl (lv_at hl 1 rfl) ?_
  refine lv_if_lt (pc := 11) (tgt := 31) hx hb d_Ho_map_11 (by decide) (fun c1 => ?_) (fun c1 => absurd (h0) c1)
  refine lv_iconst (pc := 31) (v := -1) hx hb d_Ho_map_31 (by decide) ?_
  refine W.widen (k := 0) (n := 0) (Nat.le_of_ble_eq_true rfl) (Nat.le_of_ble_eq_true rfl) ?_
  exact W.iret (v := ((-1))) hx hb hr (fun t ht hW => ⟨⟨((-1)), (), rfl, (by unfold sp_Ho_map_neg; rfl), by rw [ht]; exact hP, va_K.moved hW.alike hK, hD⟩, hS.F ht⟩) hS.2.2 d_Ho_map_32
def sp_Ho_map_big (x : Nat → Int32) (f : Nat → Int32) : Int32 := (-1)
set_option maxRecDepth 100000 in
set_option maxHeartbeats 4000000 in
/-- DrawingHouse.map(I)I -/
theorem c_Ho_map_big (l : Launch) (D : va_G) (kA : Nat → ClassId) (h : Nat) (q : Nat → Nat) (x : Nat → Int32) (o16 o17 o18 o19 o20 : Option Nat) (f : Nat → Int32) (n : Nat) (hn : n ≤ 24) (i : Int32) (hm : ¬ i = -1) (h0 : ¬ i < 0) (h1 : nI n ≤ i)  : Ci l y_Ho_map z_Ho_map { frames := 0, cells := 0, slots := 0, locals := 0 } D classes (TY kA) [.ref h, .int i] [[(h, .inr (12, fHo q (va_up x 7 (nI n)) o16 o17 o18 o19 o20))], [(q 6, .inl (kA 0, 24, .inl f))]] (fun r (_ : Unit) => r = sp_Ho_map_big x f) (fun _ => [[(h, .inr (12, fHo q (va_up x 7 (nI n)) o16 o17 o18 o19 o20))], [(q 6, .inl (kA 0, 24, .inl f))]]) 0 0 := by
  intro sz
  refine k_met (cc := b_Ho_map) (maxL := 2) (ret := (some .int)) (by decide) rfl (Nat.le_of_ble_eq_true rfl) (fun p e s m below meth c ls X hl hB => ?_)
  obtain ⟨hsz, hP, hK, hD0, hN⟩ := hB
  subst hsz
  have hD := hD0.self (sz := s.heap.size)
  generalize hAe : va_A (cat [[(h, .inr (12, fHo q (va_up x 7 (nI n)) o16 o17 o18 o19 o20))], [(q 6, .inl (kA 0, 24, .inl f))]]) s.heap.size = A at hD ⊢
  have hA : ∀ q : Nat, s.heap.size ≤ q → A q := fun q h => by rw [← hAe]; exact Or.inr h
  have hS : va_S A s.heap s.heap [] := va_S.rf
  obtain ⟨hx, hb, hml, hown, hts, hr, hlk, hnm⟩ := id X
  have hl : lv_has ls 2 [(0, .ref h), (1, .int i)] := hl
  have hP : va_P D classes (cat [[(h, .inr (12, fHo q (va_up x 7 (nI n)) o16 o17 o18 o19 o20))], [(q 6, .inl (kA 0, 24, .inl f))]]) s.heap := hP
  have hK : va_K D classes (TY kA) s := hK
  refine lv_iload_n (pc := 0) hx hb d_Ho_map_0 rfl (lv_at hl 1 rfl) ?_
  refine lv_iconst (pc := 1) (v := -1) hx hb d_Ho_map_1 (by decide) ?_
  refine lv_icmp_ne (pc := 2) (tgt := 10) hx hb d_Ho_map_2 (by decide) (fun c1 => ?_) (fun c1 => absurd c1 (hm))
  refine lv_iload_n (pc := 10) hx hb d_Ho_map_10 rfl (lv_at hl 1 rfl) ?_
  refine lv_if_lt (pc := 11) (tgt := 31) hx hb d_Ho_map_11 (by decide) (fun c1 => absurd c1 (h0)) (fun c1 => ?_)
  refine lv_iload_n (pc := 14) hx hb d_Ho_map_14 rfl (lv_at hl 1 rfl) ?_
  refine lv_aload_n (pc := 15) hx hb d_Ho_map_15 rfl (lv_at hl 0 rfl) ?_
  refine k_get (pc := 16) (v := .int (nI n)) X hK hP 0 rfl rfl i_Ho 7 (by decide) wm_562 rfl rfl d_Ho_map_16 ?_
  refine lv_icmp_ge (pc := 19) (tgt := 31) hx hb d_Ho_map_19 (by decide) (fun c1 => ?_) (fun c1 => absurd (h1) c1)
  refine lv_iconst (pc := 31) (v := -1) hx hb d_Ho_map_31 (by decide) ?_
  refine W.widen (k := 0) (n := 0) (Nat.le_of_ble_eq_true rfl) (Nat.le_of_ble_eq_true rfl) ?_
  exact W.iret (v := ((-1))) hx hb hr (fun t ht hW => ⟨⟨((-1)), (), rfl, (by unfold sp_Ho_map_big; rfl), by rw [ht]; exact hP, va_K.moved hW.alike hK, hD⟩, hS.F ht⟩) hS.2.2 d_Ho_map_32
def sp_Ho_map_ok (x : Nat → Int32) (f : Nat → Int32) (j : Nat) : Int32 := f j
set_option maxRecDepth 100000 in
set_option maxHeartbeats 4000000 in
/-- DrawingHouse.map(I)I -/
theorem c_Ho_map_ok (l : Launch) (D : va_G) (kA : Nat → ClassId) (h : Nat) (q : Nat → Nat) (x : Nat → Int32) (o16 o17 o18 o19 o20 : Option Nat) (f : Nat → Int32) (n : Nat) (hn : n ≤ 24) (j : Nat) (hj : j < n)  : Ci l y_Ho_map z_Ho_map { frames := 0, cells := 0, slots := 0, locals := 0 } D classes (TY kA) [.ref h, .int (nI j)] [[(h, .inr (12, fHo q (va_up x 7 (nI n)) o16 o17 o18 o19 o20))], [(q 6, .inl (kA 0, 24, .inl f))]] (fun r (_ : Unit) => r = sp_Ho_map_ok x f j) (fun _ => [[(h, .inr (12, fHo q (va_up x 7 (nI n)) o16 o17 o18 o19 o20))], [(q 6, .inl (kA 0, 24, .inl f))]]) 0 0 := by
  intro sz
  refine k_met (cc := b_Ho_map) (maxL := 2) (ret := (some .int)) (by decide) rfl (Nat.le_of_ble_eq_true rfl) (fun p e s m below meth c ls X hl hB => ?_)
  obtain ⟨hsz, hP, hK, hD0, hN⟩ := hB
  subst hsz
  have hD := hD0.self (sz := s.heap.size)
  generalize hAe : va_A (cat [[(h, .inr (12, fHo q (va_up x 7 (nI n)) o16 o17 o18 o19 o20))], [(q 6, .inl (kA 0, 24, .inl f))]]) s.heap.size = A at hD ⊢
  have hA : ∀ q : Nat, s.heap.size ≤ q → A q := fun q h => by rw [← hAe]; exact Or.inr h
  have hS : va_S A s.heap s.heap [] := va_S.rf
  obtain ⟨hx, hb, hml, hown, hts, hr, hlk, hnm⟩ := id X
  have hl : lv_has ls 2 [(0, .ref h), (1, .int (nI j))] := hl
  have hP : va_P D classes (cat [[(h, .inr (12, fHo q (va_up x 7 (nI n)) o16 o17 o18 o19 o20))], [(q 6, .inl (kA 0, 24, .inl f))]]) s.heap := hP
  have hK : va_K D classes (TY kA) s := hK
  refine lv_iload_n (pc := 0) hx hb d_Ho_map_0 rfl (lv_at hl 1 rfl) ?_
  refine lv_iconst (pc := 1) (v := -1) hx hb d_Ho_map_1 (by decide) ?_
  refine lv_icmp_ne (pc := 2) (tgt := 10) hx hb d_Ho_map_2 (by decide) (fun c1 => ?_) (fun c1 => absurd c1 (k_nm1 (by omega)))
  refine lv_iload_n (pc := 10) hx hb d_Ho_map_10 rfl (lv_at hl 1 rfl) ?_
  refine lv_if_lt (pc := 11) (tgt := 31) hx hb d_Ho_map_11 (by decide) (fun c1 => absurd c1 (nI_pos (by omega))) (fun c1 => ?_)
  refine lv_iload_n (pc := 14) hx hb d_Ho_map_14 rfl (lv_at hl 1 rfl) ?_
  refine lv_aload_n (pc := 15) hx hb d_Ho_map_15 rfl (lv_at hl 0 rfl) ?_
  refine k_get (pc := 16) (v := .int (nI n)) X hK hP 0 rfl rfl i_Ho 7 (by decide) wm_562 rfl rfl d_Ho_map_16 ?_
  refine k_cge (pc := 19) (x := j) (y := n) (tgt := 31) hx hb (by omega) (by omega) d_Ho_map_19 (by decide) (fun c1 => absurd c1 (by omega)) (fun c1 => ?_)
  refine lv_aload_n (pc := 22) hx hb d_Ho_map_22 rfl (lv_at hl 0 rfl) ?_
  refine k_get (pc := 23) (v := .ref (q 6)) X hK hP 0 rfl rfl i_Ho 6 (by decide) wm_561 rfl rfl d_Ho_map_23 ?_
  refine lv_iload_n (pc := 26) hx hb d_Ho_map_26 rfl (lv_at hl 1 rfl) ?_
  refine k_ild (pc := 27) hx hb hK hP 1 0 rfl rfl (j) rfl (by omega) (by decide) d_Ho_map_27 ?_
  refine lv_goto (pc := 28) (tgt := 32) hx hb d_Ho_map_28 (by decide) ?_
  refine W.widen (k := 0) (n := 0) (Nat.le_of_ble_eq_true rfl) (Nat.le_of_ble_eq_true rfl) ?_
  exact W.iret (v := (f j)) hx hb hr (fun t ht hW => ⟨⟨(f j), (), rfl, (by unfold sp_Ho_map_ok; rfl), by rw [ht]; exact hP, va_K.moved hW.alike hK, hD⟩, hS.F ht⟩) hS.2.2 d_Ho_map_32
def sp_Mo_map_m1 (x : Nat → Int32) (f : Nat → Int32) : Int32 := if (x 30) = 0 then (-1) else x 27
set_option maxRecDepth 100000 in
set_option maxHeartbeats 4000000 in
/-- DrawingHouseModel.map(I)I -/
theorem c_Mo_map_m1 (l : Launch) (D : va_G) (kA : Nat → ClassId) (h : Nat) (q : Nat → Nat) (x : Nat → Int32) (y : Nat → Int64) (f : Nat → Int32) (n : Nat) (hn : n ≤ 24)   : Ci l y_Mo_map z_Mo_map { frames := 1, cells := 0, slots := 0, locals := 22 } D classes (TY kA) [.ref h, .int ((-1))] [[(h, .inr (13, mF q (va_up x 26 (nI n)) y))], [(q 23, .inl (kA 0, 24, .inl f))]] (fun r (_ : Unit) => r = sp_Mo_map_m1 x f) (fun _ => [[(h, .inr (13, mF q (va_up x 26 (nI n)) y))], [(q 23, .inl (kA 0, 24, .inl f))]]) 0 0 := by
  intro sz
  refine k_met (cc := b_Mo_map) (maxL := 2) (ret := (some .int)) (by decide) rfl (Nat.le_of_ble_eq_true rfl) (fun p e s m below meth c ls X hl hB => ?_)
  obtain ⟨hsz, hP, hK, hD0, hN⟩ := hB
  subst hsz
  have hD := hD0.self (sz := s.heap.size)
  generalize hAe : va_A (cat [[(h, .inr (13, mF q (va_up x 26 (nI n)) y))], [(q 23, .inl (kA 0, 24, .inl f))]]) s.heap.size = A at hD ⊢
  have hA : ∀ q : Nat, s.heap.size ≤ q → A q := fun q h => by rw [← hAe]; exact Or.inr h
  have hS : va_S A s.heap s.heap [] := va_S.rf
  obtain ⟨hx, hb, hml, hown, hts, hr, hlk, hnm⟩ := id X
  have hl : lv_has ls 2 [(0, .ref h), (1, .int ((-1)))] := hl
  have hP : va_P D classes (cat [[(h, .inr (13, mF q (va_up x 26 (nI n)) y))], [(q 23, .inl (kA 0, 24, .inl f))]]) s.heap := hP
  have hK : va_K D classes (TY kA) s := hK
  refine lv_iload_n (pc := 0) hx hb d_Mo_map_0 rfl (lv_at hl 1 rfl) ?_
  refine lv_iconst (pc := 1) (v := -1) hx hb d_Mo_map_1 (by decide) ?_
  refine lv_icmp_ne (pc := 2) (tgt := 21) hx hb d_Mo_map_2 (by decide) (fun c1 => absurd (by decide) c1) (fun _ => ?_)
  refine lv_aload_n (pc := 5) hx hb d_Mo_map_5 rfl (lv_at hl 0 rfl) ?_
  refine k_get (pc := 6) (v := .int (x 30)) X hK hP 0 rfl rfl i_Mo 30 (by decide) wm_2463 rfl rfl d_Mo_map_6 ?_
  refine lv_if_eq (pc := 9) (tgt := 19) hx hb d_Mo_map_9 (by decide) (fun ck1 => ?_) (fun ck1 => ?_)
  · refine lv_iconst (pc := 19) (v := -1) hx hb d_Mo_map_19 (by decide) ?_
    refine W.widen (k := 0) (n := 0) (Nat.le_of_ble_eq_true rfl) (Nat.le_of_ble_eq_true rfl) ?_
    exact W.iret (v := ((-1))) hx hb hr (fun t ht hW => ⟨⟨((-1)), (), rfl, (by unfold sp_Mo_map_m1; rw [if_pos ck1]), by rw [ht]; exact hP, va_K.moved hW.alike hK, hD⟩, hS.F ht⟩) hS.2.2 d_Mo_map_20
  · refine lv_aload_n (pc := 12) hx hb d_Mo_map_12 rfl (lv_at hl 0 rfl) ?_
    refine k_get (pc := 13) (v := .int (x 27)) X hK hP 0 rfl rfl i_Mo 27 (by decide) wm_2460 rfl rfl d_Mo_map_13 ?_
    refine lv_goto (pc := 16) (tgt := 20) hx hb d_Mo_map_16 (by decide) ?_
    refine W.widen (k := 0) (n := 0) (Nat.le_of_ble_eq_true rfl) (Nat.le_of_ble_eq_true rfl) ?_
    exact W.iret (v := (x 27)) hx hb hr (fun t ht hW => ⟨⟨(x 27), (), rfl, (by unfold sp_Mo_map_m1; rw [if_neg ck1]), by rw [ht]; exact hP, va_K.moved hW.alike hK, hD⟩, hS.F ht⟩) hS.2.2 d_Mo_map_20
def sp_Mo_map_neg (x : Nat → Int32) (f : Nat → Int32) : Int32 := if (x 25) = 0 then (-1) else (-1)
set_option maxRecDepth 100000 in
set_option maxHeartbeats 4000000 in
/-- DrawingHouseModel.map(I)I -/
theorem c_Mo_map_neg (l : Launch) (D : va_G) (kA : Nat → ClassId) (h : Nat) (q : Nat → Nat) (x : Nat → Int32) (y : Nat → Int64) (f : Nat → Int32) (n : Nat) (hn : n ≤ 24) (i : Int32) (hm : ¬ i = -1) (h0 : i < 0)  : Ci l y_Mo_map z_Mo_map { frames := 1, cells := 0, slots := 0, locals := 22 } D classes (TY kA) [.ref h, .int i] [[(h, .inr (13, mF q (va_up x 26 (nI n)) y))], [(q 23, .inl (kA 0, 24, .inl f))]] (fun r (_ : Unit) => r = sp_Mo_map_neg x f) (fun _ => [[(h, .inr (13, mF q (va_up x 26 (nI n)) y))], [(q 23, .inl (kA 0, 24, .inl f))]]) 0 0 := by
  intro sz
  refine k_met (cc := b_Mo_map) (maxL := 2) (ret := (some .int)) (by decide) rfl (Nat.le_of_ble_eq_true rfl) (fun p e s m below meth c ls X hl hB => ?_)
  obtain ⟨hsz, hP, hK, hD0, hN⟩ := hB
  subst hsz
  have hD := hD0.self (sz := s.heap.size)
  generalize hAe : va_A (cat [[(h, .inr (13, mF q (va_up x 26 (nI n)) y))], [(q 23, .inl (kA 0, 24, .inl f))]]) s.heap.size = A at hD ⊢
  have hA : ∀ q : Nat, s.heap.size ≤ q → A q := fun q h => by rw [← hAe]; exact Or.inr h
  have hS : va_S A s.heap s.heap [] := va_S.rf
  obtain ⟨hx, hb, hml, hown, hts, hr, hlk, hnm⟩ := id X
  have hl : lv_has ls 2 [(0, .ref h), (1, .int i)] := hl
  have hP : va_P D classes (cat [[(h, .inr (13, mF q (va_up x 26 (nI n)) y))], [(q 23, .inl (kA 0, 24, .inl f))]]) s.heap := hP
  have hK : va_K D classes (TY kA) s := hK
  refine lv_iload_n (pc := 0) hx hb d_Mo_map_0 rfl (lv_at hl 1 rfl) ?_
  refine lv_iconst (pc := 1) (v := -1) hx hb d_Mo_map_1 (by decide) ?_
  refine lv_icmp_ne (pc := 2) (tgt := 21) hx hb d_Mo_map_2 (by decide) (fun c1 => ?_) (fun c1 => absurd c1 (hm))
  refine lv_aload_n (pc := 21) hx hb d_Mo_map_21 rfl (lv_at hl 0 rfl) ?_
  refine k_get (pc := 22) (v := .int (x 25)) X hK hP 0 rfl rfl i_Mo 25 (by decide) wm_2458 rfl rfl d_Mo_map_22 ?_
  refine lv_if_eq (pc := 25) (tgt := 51) hx hb d_Mo_map_25 (by decide) (fun ck1 => ?_) (fun ck1 => ?_)
  · refine lv_iconst (pc := 51) (v := -1) hx hb d_Mo_map_51 (by decide) ?_
    refine W.widen (k := 0) (n := 0) (Nat.le_of_ble_eq_true rfl) (Nat.le_of_ble_eq_true rfl) ?_
    exact W.iret (v := ((-1))) hx hb hr (fun t ht hW => ⟨⟨((-1)), (), rfl, (by unfold sp_Mo_map_neg; rw [if_pos ck1]), by rw [ht]; exact hP, va_K.moved hW.alike hK, hD⟩, hS.F ht⟩) hS.2.2 d_Mo_map_52
  · refine lv_iload_n (pc := 28) hx hb d_Mo_map_28 rfl (lv_at hl 1 rfl) ?_
    refine lv_iconst (pc := 29) (v := 0) hx hb d_Mo_map_29 (by decide) ?_
    refine lv_aload_n (pc := 30) hx hb d_Mo_map_30 rfl (lv_at hl 0 rfl) ?_
    refine k_get (pc := 31) (v := .int (nI n)) X hK hP 0 rfl rfl i_Mo 26 (by decide) wm_2459 rfl rfl d_Mo_map_31 ?_
    refine lv_iconst (pc := 34) (v := 1) hx hb d_Mo_map_34 (by decide) ?_
    refine lv_isub (pc := 35) hx hb d_Mo_map_35 ?_
    refine k_goI (gr := [[(h, .inr (13, mF q (va_up x 26 (nI n)) y))], [(q 23, .inl (kA 0, 24, .inl f))]]) (k_rS (pc := 36) (As := [.int i, .int 0, .int ((nI n) - 1)]) (rest := []) X (c_Mo_in l D kA i 0 ((nI n) - 1) s.heap.size) rfl wm_2971 wm_9 wm_2969 wm_2970 3 (by decide +kernel) ⟨Nat.le_of_ble_eq_true rfl, Nat.le_of_ble_eq_true rfl⟩ rfl rfl (k_pre hN hK hP hD [] [0, 1] 2 rfl (by decide) rfl) rfl hl.1 rfl (Nat.le_of_ble_eq_true rfl) d_Mo_map_36 ⟨Nat.le_of_ble_eq_true rfl, Nat.le_of_ble_eq_true rfl⟩) hP hD hS hA [] [0, 1] 2 rfl (by decide) rfl rfl (fun r1 u2 H locs hu2 hP hD hS => ?_)
    subst hu2
    have hP : va_P D classes (cat [[(h, .inr (13, mF q (va_up x 26 (nI n)) y))], [(q 23, .inl (kA 0, 24, .inl f))]]) H := hP
    have hD : va_D A (cat [[(h, .inr (13, mF q (va_up x 26 (nI n)) y))], [(q 23, .inl (kA 0, 24, .inl f))]]) := hD
    refine lv_if_eq (pc := 39) (tgt := 51) hx hb d_Mo_map_39 (by decide) (fun c1 => ?_) (fun c1 => absurd (in_neg h0) c1)
    refine lv_iconst (pc := 51) (v := -1) hx hb d_Mo_map_51 (by decide) ?_
    refine W.widen (k := 0) (n := 0) (Nat.le_of_ble_eq_true rfl) (Nat.le_of_ble_eq_true rfl) ?_
    exact W.iret (v := ((-1))) hx hb hr (fun t ht hW => ⟨⟨((-1)), (), rfl, (by unfold sp_Mo_map_neg; rw [if_neg ck1]), by rw [ht]; exact hP, va_K.moved hW.alike hK, hD⟩, hS.F ht⟩) hS.2.2 d_Mo_map_52
def sp_Mo_map_big (x : Nat → Int32) (f : Nat → Int32) : Int32 := if (x 25) = 0 then (-1) else (-1)
set_option maxRecDepth 100000 in
set_option maxHeartbeats 4000000 in
/-- DrawingHouseModel.map(I)I -/
theorem c_Mo_map_big (l : Launch) (D : va_G) (kA : Nat → ClassId) (h : Nat) (q : Nat → Nat) (x : Nat → Int32) (y : Nat → Int64) (f : Nat → Int32) (n : Nat) (hn : n ≤ 24) (i : Int32) (hm : ¬ i = -1) (h0 : ¬ i < 0) (h1 : nI n ≤ i)  : Ci l y_Mo_map z_Mo_map { frames := 1, cells := 0, slots := 0, locals := 22 } D classes (TY kA) [.ref h, .int i] [[(h, .inr (13, mF q (va_up x 26 (nI n)) y))], [(q 23, .inl (kA 0, 24, .inl f))]] (fun r (_ : Unit) => r = sp_Mo_map_big x f) (fun _ => [[(h, .inr (13, mF q (va_up x 26 (nI n)) y))], [(q 23, .inl (kA 0, 24, .inl f))]]) 0 0 := by
  intro sz
  refine k_met (cc := b_Mo_map) (maxL := 2) (ret := (some .int)) (by decide) rfl (Nat.le_of_ble_eq_true rfl) (fun p e s m below meth c ls X hl hB => ?_)
  obtain ⟨hsz, hP, hK, hD0, hN⟩ := hB
  subst hsz
  have hD := hD0.self (sz := s.heap.size)
  generalize hAe : va_A (cat [[(h, .inr (13, mF q (va_up x 26 (nI n)) y))], [(q 23, .inl (kA 0, 24, .inl f))]]) s.heap.size = A at hD ⊢
  have hA : ∀ q : Nat, s.heap.size ≤ q → A q := fun q h => by rw [← hAe]; exact Or.inr h
  have hS : va_S A s.heap s.heap [] := va_S.rf
  obtain ⟨hx, hb, hml, hown, hts, hr, hlk, hnm⟩ := id X
  have hl : lv_has ls 2 [(0, .ref h), (1, .int i)] := hl
  have hP : va_P D classes (cat [[(h, .inr (13, mF q (va_up x 26 (nI n)) y))], [(q 23, .inl (kA 0, 24, .inl f))]]) s.heap := hP
  have hK : va_K D classes (TY kA) s := hK
  refine lv_iload_n (pc := 0) hx hb d_Mo_map_0 rfl (lv_at hl 1 rfl) ?_
  refine lv_iconst (pc := 1) (v := -1) hx hb d_Mo_map_1 (by decide) ?_
  refine lv_icmp_ne (pc := 2) (tgt := 21) hx hb d_Mo_map_2 (by decide) (fun c1 => ?_) (fun c1 => absurd c1 (hm))
  refine lv_aload_n (pc := 21) hx hb d_Mo_map_21 rfl (lv_at hl 0 rfl) ?_
  refine k_get (pc := 22) (v := .int (x 25)) X hK hP 0 rfl rfl i_Mo 25 (by decide) wm_2458 rfl rfl d_Mo_map_22 ?_
  refine lv_if_eq (pc := 25) (tgt := 51) hx hb d_Mo_map_25 (by decide) (fun ck1 => ?_) (fun ck1 => ?_)
  · refine lv_iconst (pc := 51) (v := -1) hx hb d_Mo_map_51 (by decide) ?_
    refine W.widen (k := 0) (n := 0) (Nat.le_of_ble_eq_true rfl) (Nat.le_of_ble_eq_true rfl) ?_
    exact W.iret (v := ((-1))) hx hb hr (fun t ht hW => ⟨⟨((-1)), (), rfl, (by unfold sp_Mo_map_big; rw [if_pos ck1]), by rw [ht]; exact hP, va_K.moved hW.alike hK, hD⟩, hS.F ht⟩) hS.2.2 d_Mo_map_52
  · refine lv_iload_n (pc := 28) hx hb d_Mo_map_28 rfl (lv_at hl 1 rfl) ?_
    refine lv_iconst (pc := 29) (v := 0) hx hb d_Mo_map_29 (by decide) ?_
    refine lv_aload_n (pc := 30) hx hb d_Mo_map_30 rfl (lv_at hl 0 rfl) ?_
    refine k_get (pc := 31) (v := .int (nI n)) X hK hP 0 rfl rfl i_Mo 26 (by decide) wm_2459 rfl rfl d_Mo_map_31 ?_
    refine lv_iconst (pc := 34) (v := 1) hx hb d_Mo_map_34 (by decide) ?_
    refine lv_isub (pc := 35) hx hb d_Mo_map_35 ?_
    refine k_goI (gr := [[(h, .inr (13, mF q (va_up x 26 (nI n)) y))], [(q 23, .inl (kA 0, 24, .inl f))]]) (k_rS (pc := 36) (As := [.int i, .int 0, .int ((nI n) - 1)]) (rest := []) X (c_Mo_in l D kA i 0 ((nI n) - 1) s.heap.size) rfl wm_2971 wm_9 wm_2969 wm_2970 3 (by decide +kernel) ⟨Nat.le_of_ble_eq_true rfl, Nat.le_of_ble_eq_true rfl⟩ rfl rfl (k_pre hN hK hP hD [] [0, 1] 2 rfl (by decide) rfl) rfl hl.1 rfl (Nat.le_of_ble_eq_true rfl) d_Mo_map_36 ⟨Nat.le_of_ble_eq_true rfl, Nat.le_of_ble_eq_true rfl⟩) hP hD hS hA [] [0, 1] 2 rfl (by decide) rfl rfl (fun r1 u2 H locs hu2 hP hD hS => ?_)
    subst hu2
    have hP : va_P D classes (cat [[(h, .inr (13, mF q (va_up x 26 (nI n)) y))], [(q 23, .inl (kA 0, 24, .inl f))]]) H := hP
    have hD : va_D A (cat [[(h, .inr (13, mF q (va_up x 26 (nI n)) y))], [(q 23, .inl (kA 0, 24, .inl f))]]) := hD
    refine lv_if_eq (pc := 39) (tgt := 51) hx hb d_Mo_map_39 (by decide) (fun c1 => ?_) (fun c1 => absurd (in_big (by omega) h0 h1) c1)
    refine lv_iconst (pc := 51) (v := -1) hx hb d_Mo_map_51 (by decide) ?_
    refine W.widen (k := 0) (n := 0) (Nat.le_of_ble_eq_true rfl) (Nat.le_of_ble_eq_true rfl) ?_
    exact W.iret (v := ((-1))) hx hb hr (fun t ht hW => ⟨⟨((-1)), (), rfl, (by unfold sp_Mo_map_big; rw [if_neg ck1]), by rw [ht]; exact hP, va_K.moved hW.alike hK, hD⟩, hS.F ht⟩) hS.2.2 d_Mo_map_52
def sp_Mo_map_ok (x : Nat → Int32) (f : Nat → Int32) (j : Nat) : Int32 := if (x 25) = 0 then (-1) else f j
set_option maxRecDepth 100000 in
set_option maxHeartbeats 4000000 in
/-- DrawingHouseModel.map(I)I -/
theorem c_Mo_map_ok (l : Launch) (D : va_G) (kA : Nat → ClassId) (h : Nat) (q : Nat → Nat) (x : Nat → Int32) (y : Nat → Int64) (f : Nat → Int32) (n : Nat) (hn : n ≤ 24) (j : Nat) (hj : j < n)  : Ci l y_Mo_map z_Mo_map { frames := 1, cells := 0, slots := 0, locals := 22 } D classes (TY kA) [.ref h, .int (nI j)] [[(h, .inr (13, mF q (va_up x 26 (nI n)) y))], [(q 23, .inl (kA 0, 24, .inl f))]] (fun r (_ : Unit) => r = sp_Mo_map_ok x f j) (fun _ => [[(h, .inr (13, mF q (va_up x 26 (nI n)) y))], [(q 23, .inl (kA 0, 24, .inl f))]]) 0 0 := by
  intro sz
  refine k_met (cc := b_Mo_map) (maxL := 2) (ret := (some .int)) (by decide) rfl (Nat.le_of_ble_eq_true rfl) (fun p e s m below meth c ls X hl hB => ?_)
  obtain ⟨hsz, hP, hK, hD0, hN⟩ := hB
  subst hsz
  have hD := hD0.self (sz := s.heap.size)
  generalize hAe : va_A (cat [[(h, .inr (13, mF q (va_up x 26 (nI n)) y))], [(q 23, .inl (kA 0, 24, .inl f))]]) s.heap.size = A at hD ⊢
  have hA : ∀ q : Nat, s.heap.size ≤ q → A q := fun q h => by rw [← hAe]; exact Or.inr h
  have hS : va_S A s.heap s.heap [] := va_S.rf
  obtain ⟨hx, hb, hml, hown, hts, hr, hlk, hnm⟩ := id X
  have hl : lv_has ls 2 [(0, .ref h), (1, .int (nI j))] := hl
  have hP : va_P D classes (cat [[(h, .inr (13, mF q (va_up x 26 (nI n)) y))], [(q 23, .inl (kA 0, 24, .inl f))]]) s.heap := hP
  have hK : va_K D classes (TY kA) s := hK
  refine lv_iload_n (pc := 0) hx hb d_Mo_map_0 rfl (lv_at hl 1 rfl) ?_
  refine lv_iconst (pc := 1) (v := -1) hx hb d_Mo_map_1 (by decide) ?_
  refine lv_icmp_ne (pc := 2) (tgt := 21) hx hb d_Mo_map_2 (by decide) (fun c1 => ?_) (fun c1 => absurd c1 (k_nm1 (by omega)))
  refine lv_aload_n (pc := 21) hx hb d_Mo_map_21 rfl (lv_at hl 0 rfl) ?_
  refine k_get (pc := 22) (v := .int (x 25)) X hK hP 0 rfl rfl i_Mo 25 (by decide) wm_2458 rfl rfl d_Mo_map_22 ?_
  refine lv_if_eq (pc := 25) (tgt := 51) hx hb d_Mo_map_25 (by decide) (fun ck1 => ?_) (fun ck1 => ?_)
  · refine lv_iconst (pc := 51) (v := -1) hx hb d_Mo_map_51 (by decide) ?_
    refine W.widen (k := 0) (n := 0) (Nat.le_of_ble_eq_true rfl) (Nat.le_of_ble_eq_true rfl) ?_
    exact W.iret (v := ((-1))) hx hb hr (fun t ht hW => ⟨⟨((-1)), (), rfl, (by unfold sp_Mo_map_ok; rw [if_pos ck1]), by rw [ht]; exact hP, va_K.moved hW.alike hK, hD⟩, hS.F ht⟩) hS.2.2 d_Mo_map_52
  · refine lv_iload_n (pc := 28) hx hb d_Mo_map_28 rfl (lv_at hl 1 rfl) ?_
    refine lv_iconst (pc := 29) (v := 0) hx hb d_Mo_map_29 (by decide) ?_
    refine lv_aload_n (pc := 30) hx hb d_Mo_map_30 rfl (lv_at hl 0 rfl) ?_
    refine k_get (pc := 31) (v := .int (nI n)) X hK hP 0 rfl rfl i_Mo 26 (by decide) wm_2459 rfl rfl d_Mo_map_31 ?_
    refine lv_iconst (pc := 34) (v := 1) hx hb d_Mo_map_34 (by decide) ?_
    refine lv_isub (pc := 35) hx hb d_Mo_map_35 ?_
    refine k_goI (gr := [[(h, .inr (13, mF q (va_up x 26 (nI n)) y))], [(q 23, .inl (kA 0, 24, .inl f))]]) (k_rS (pc := 36) (As := [.int (nI j), .int 0, .int ((nI n) - 1)]) (rest := []) X (c_Mo_in l D kA (nI j) 0 ((nI n) - 1) s.heap.size) rfl wm_2971 wm_9 wm_2969 wm_2970 3 (by decide +kernel) ⟨Nat.le_of_ble_eq_true rfl, Nat.le_of_ble_eq_true rfl⟩ rfl rfl (k_pre hN hK hP hD [] [0, 1] 2 rfl (by decide) rfl) rfl hl.1 rfl (Nat.le_of_ble_eq_true rfl) d_Mo_map_36 ⟨Nat.le_of_ble_eq_true rfl, Nat.le_of_ble_eq_true rfl⟩) hP hD hS hA [] [0, 1] 2 rfl (by decide) rfl rfl (fun r1 u2 H locs hu2 hP hD hS => ?_)
    subst hu2
    have hP : va_P D classes (cat [[(h, .inr (13, mF q (va_up x 26 (nI n)) y))], [(q 23, .inl (kA 0, 24, .inl f))]]) H := hP
    have hD : va_D A (cat [[(h, .inr (13, mF q (va_up x 26 (nI n)) y))], [(q 23, .inl (kA 0, 24, .inl f))]]) := hD
    refine lv_if_eq (pc := 39) (tgt := 51) hx hb d_Mo_map_39 (by decide) (fun c1 => absurd c1 (fun e => absurd ((in_ok hj (by omega)).symm.trans e) (by decide))) (fun c1 => ?_)
    refine lv_aload_n (pc := 42) hx hb d_Mo_map_42 rfl (lv_at hl 0 rfl) ?_
    refine k_get (pc := 43) (v := .ref (q 23)) X hK hP 0 rfl rfl i_Mo 23 (by decide) wm_2456 rfl rfl d_Mo_map_43 ?_
    refine lv_iload_n (pc := 46) hx hb d_Mo_map_46 rfl (lv_at hl 1 rfl) ?_
    refine k_ild (pc := 47) hx hb hK hP 1 0 rfl rfl (j) rfl (by omega) (by decide) d_Mo_map_47 ?_
    refine lv_goto (pc := 48) (tgt := 52) hx hb d_Mo_map_48 (by decide) ?_
    refine W.widen (k := 0) (n := 0) (Nat.le_of_ble_eq_true rfl) (Nat.le_of_ble_eq_true rfl) ?_
    exact W.iret (v := (f j)) hx hb hr (fun t ht hW => ⟨⟨(f j), (), rfl, (by unfold sp_Mo_map_ok; rw [if_neg ck1]), by rw [ht]; exact hP, va_K.moved hW.alike hK, hD⟩, hS.F ht⟩) hS.2.2 d_Mo_map_52
