theorem wm_2382 : (Cond.code ({ cls := "DrawingHouse", name := "octet", desc := "(I)I" } : MethodName) prog_1_method_27_code (2 : Nat) (Option.some ClassFile.FieldType.int) : Cond) ∈ lw_g := lw_gi (lw_c10 (List.mem_of_getElem? (i := 222) rfl)) rfl
theorem wm_2601 : (Cond.fieldLink "DrawingHouseModel" (1326 : Nat) "DrawingHouseModel" "octets" "I" : Cond) ∈ lw_g := lw_gi (lw_c11 (List.mem_of_getElem? (i := 201) rfl)) rfl
theorem wm_3948 : (Cond.code ({ cls := "DrawingHouseModel", name := "octet", desc := "(I)I" } : MethodName) prog_15_method_241_code (2 : Nat) (Option.some ClassFile.FieldType.int) : Cond) ∈ lw_g := lw_gi (lw_c17 (List.mem_of_getElem? (i := 108) rfl)) rfl
abbrev b_Ho_octet : ByteArray := prog_1_method_27_code
def y_Ho_octet : MethodName := ⟨"DrawingHouse", "octet", "(I)I"⟩
abbrev z_Ho_octet : List Cond := Cond.code y_Ho_octet b_Ho_octet 2 (some .int) :: lw_g
theorem d_Ho_octet_0 : decode b_Ho_octet 0 = .ok (.iload_n 1, 1) := by decide +kernel
theorem d_Ho_octet_1 : decode b_Ho_octet 1 = .ok (.ifCond .lt 20, 3) := by decide +kernel
theorem d_Ho_octet_4 : decode b_Ho_octet 4 = .ok (.iload_n 1, 1) := by decide +kernel
theorem d_Ho_octet_5 : decode b_Ho_octet 5 = .ok (.aload_n 0, 1) := by decide +kernel
theorem d_Ho_octet_6 : decode b_Ho_octet 6 = .ok (.getfield 67, 3) := by decide +kernel
theorem d_Ho_octet_9 : decode b_Ho_octet 9 = .ok (.if_icmp .ge 12, 3) := by decide +kernel
theorem d_Ho_octet_12 : decode b_Ho_octet 12 = .ok (.aload_n 0, 1) := by decide +kernel
theorem d_Ho_octet_13 : decode b_Ho_octet 13 = .ok (.getfield 60, 3) := by decide +kernel
theorem d_Ho_octet_16 : decode b_Ho_octet 16 = .ok (.iload_n 1, 1) := by decide +kernel
theorem d_Ho_octet_17 : decode b_Ho_octet 17 = .ok (.baload, 1) := by decide +kernel
theorem d_Ho_octet_18 : decode b_Ho_octet 18 = .ok (.goto 4, 3) := by decide +kernel
theorem d_Ho_octet_21 : decode b_Ho_octet 21 = .ok (.iconst (-1), 1) := by decide +kernel
theorem d_Ho_octet_22 : decode b_Ho_octet 22 = .ok (.ireturn, 1) := by decide +kernel
abbrev b_Mo_octet : ByteArray := prog_15_method_241_code
def y_Mo_octet : MethodName := ⟨"DrawingHouseModel", "octet", "(I)I"⟩
abbrev z_Mo_octet : List Cond := Cond.code y_Mo_octet b_Mo_octet 2 (some .int) :: lw_g
theorem d_Mo_octet_0 : decode b_Mo_octet 0 = .ok (.iload_n 1, 1) := by decide +kernel
theorem d_Mo_octet_1 : decode b_Mo_octet 1 = .ok (.iconst 0, 1) := by decide +kernel
theorem d_Mo_octet_2 : decode b_Mo_octet 2 = .ok (.aload_n 0, 1) := by decide +kernel
theorem d_Mo_octet_3 : decode b_Mo_octet 3 = .ok (.getfield 1326, 3) := by decide +kernel
theorem d_Mo_octet_6 : decode b_Mo_octet 6 = .ok (.iconst 1, 1) := by decide +kernel
theorem d_Mo_octet_7 : decode b_Mo_octet 7 = .ok (.isub, 1) := by decide +kernel
theorem d_Mo_octet_8 : decode b_Mo_octet 8 = .ok (.invokestatic 387, 3) := by decide +kernel
theorem d_Mo_octet_11 : decode b_Mo_octet 11 = .ok (.ifCond .eq 12, 3) := by decide +kernel
theorem d_Mo_octet_14 : decode b_Mo_octet 14 = .ok (.aload_n 0, 1) := by decide +kernel
theorem d_Mo_octet_15 : decode b_Mo_octet 15 = .ok (.getfield 363, 3) := by decide +kernel
theorem d_Mo_octet_18 : decode b_Mo_octet 18 = .ok (.iload_n 1, 1) := by decide +kernel
theorem d_Mo_octet_19 : decode b_Mo_octet 19 = .ok (.baload, 1) := by decide +kernel
theorem d_Mo_octet_20 : decode b_Mo_octet 20 = .ok (.goto 4, 3) := by decide +kernel
theorem d_Mo_octet_23 : decode b_Mo_octet 23 = .ok (.iconst (-1), 1) := by decide +kernel
theorem d_Mo_octet_24 : decode b_Mo_octet 24 = .ok (.ireturn, 1) := by decide +kernel
theorem in_neg {i m : Int32} (h : i < 0) : sp_Mo_in i 0 m = 0 := by unfold sp_Mo_in; rw [if_pos h]
theorem in_big {i : Int32} {n : Nat} (hn : n < 2 ^ 30) (h0 : ¬ i < 0) (h1 : nI n ≤ i) : sp_Mo_in i 0 (nI n - 1) = 0 := by
  unfold sp_Mo_in
  rw [if_neg h0]
  have h3 : nI n - 1 < i := by
    rw [Int32.lt_iff_toInt_lt]
    rw [Int32.le_iff_toInt_le] at h1
    have e : (nI n - nI 1).toInt = (n : Int) - 1 := pk_sub_toInt hn (by decide)
    have e2 : (nI n - 1).toInt = (n : Int) - 1 := e
    rw [e2]
    rw [nI_toInt (by omega)] at h1
    omega
  rw [if_pos h3]
theorem in_ok {j n : Nat} (hj : j < n) (hn : n < 2 ^ 30) : sp_Mo_in (nI j) 0 (nI n - 1) = 1 := by
  unfold sp_Mo_in
  rw [if_neg (nI_pos (by omega))]
  have h3 : ¬ nI n - 1 < nI j := by
    rw [Int32.lt_iff_toInt_lt]
    have e : (nI n - nI 1).toInt = (n : Int) - 1 := pk_sub_toInt hn (by decide)
    have e2 : (nI n - 1).toInt = (n : Int) - 1 := e
    rw [e2, nI_toInt (by omega)]
    omega
  rw [if_neg h3]
def sp_Ho_octet_neg (f : Nat → Int32) : Int32 := (-1)
set_option maxRecDepth 100000 in
set_option maxHeartbeats 4000000 in
/-- DrawingHouse.octet(I)I -/
theorem c_Ho_octet_neg (l : Launch) (D : va_G) (kA : Nat → ClassId) (h : Nat) (q : Nat → Nat) (x : Nat → Int32) (o16 o17 o18 o19 o20 : Option Nat) (f : Nat → Int32) (n : Nat) (hn : n ≤ 4000) (i : Int32) (h0 : i < 0)  : Ci l y_Ho_octet z_Ho_octet { frames := 0, cells := 0, slots := 0, locals := 0 } D classes (TY kA) [.ref h, .int i] [[(h, .inr (12, fHo q (va_up x 11 (nI n)) o16 o17 o18 o19 o20))], [(q 9, .inl (kA 1, 4000, .inl f))]] (fun r (_ : Unit) => r = sp_Ho_octet_neg f) (fun _ => [[(h, .inr (12, fHo q (va_up x 11 (nI n)) o16 o17 o18 o19 o20))], [(q 9, .inl (kA 1, 4000, .inl f))]]) 0 0 := by
  intro sz
  refine k_met (cc := b_Ho_octet) (maxL := 2) (ret := (some .int)) (by decide) rfl (Nat.le_of_ble_eq_true rfl) (fun p e s m below meth c ls X hl hB => ?_)
  obtain ⟨hsz, hP, hK, hD0, hN⟩ := hB
  subst hsz
  have hD := hD0.self (sz := s.heap.size)
  generalize hAe : va_A (cat [[(h, .inr (12, fHo q (va_up x 11 (nI n)) o16 o17 o18 o19 o20))], [(q 9, .inl (kA 1, 4000, .inl f))]]) s.heap.size = A at hD ⊢
  have hA : ∀ q : Nat, s.heap.size ≤ q → A q := fun q h => by rw [← hAe]; exact Or.inr h
  have hS : va_S A s.heap s.heap [] := va_S.rf
  obtain ⟨hx, hb, hml, hown, hts, hr, hlk, hnm⟩ := id X
  have hl : lv_has ls 2 [(0, .ref h), (1, .int i)] := hl
  have hP : va_P D classes (cat [[(h, .inr (12, fHo q (va_up x 11 (nI n)) o16 o17 o18 o19 o20))], [(q 9, .inl (kA 1, 4000, .inl f))]]) s.heap := hP
  have hK : va_K D classes (TY kA) s := hK
  refine lv_iload_n (pc := 0) hx hb d_Ho_octet_0 rfl (lv_at hl 1 rfl) ?_
  refine lv_if_lt (pc := 1) (tgt := 21) hx hb d_Ho_octet_1 (by decide) (fun c1 => ?_) (fun c1 => absurd (h0) c1)
  refine lv_iconst (pc := 21) (v := -1) hx hb d_Ho_octet_21 (by decide) ?_
  refine W.widen (k := 0) (n := 0) (Nat.le_of_ble_eq_true rfl) (Nat.le_of_ble_eq_true rfl) ?_
  exact W.iret (v := ((-1))) hx hb hr (fun t ht hW => ⟨⟨((-1)), (), rfl, (by unfold sp_Ho_octet_neg; rfl), by rw [ht]; exact hP, va_K.moved hW.alike hK, hD⟩, hS.F ht⟩) hS.2.2 d_Ho_octet_22
def sp_Ho_octet_big (f : Nat → Int32) : Int32 := (-1)
set_option maxRecDepth 100000 in
set_option maxHeartbeats 4000000 in
/-- DrawingHouse.octet(I)I -/
theorem c_Ho_octet_big (l : Launch) (D : va_G) (kA : Nat → ClassId) (h : Nat) (q : Nat → Nat) (x : Nat → Int32) (o16 o17 o18 o19 o20 : Option Nat) (f : Nat → Int32) (n : Nat) (hn : n ≤ 4000) (i : Int32) (h0 : ¬ i < 0) (h1 : nI n ≤ i)  : Ci l y_Ho_octet z_Ho_octet { frames := 0, cells := 0, slots := 0, locals := 0 } D classes (TY kA) [.ref h, .int i] [[(h, .inr (12, fHo q (va_up x 11 (nI n)) o16 o17 o18 o19 o20))], [(q 9, .inl (kA 1, 4000, .inl f))]] (fun r (_ : Unit) => r = sp_Ho_octet_big f) (fun _ => [[(h, .inr (12, fHo q (va_up x 11 (nI n)) o16 o17 o18 o19 o20))], [(q 9, .inl (kA 1, 4000, .inl f))]]) 0 0 := by
  intro sz
  refine k_met (cc := b_Ho_octet) (maxL := 2) (ret := (some .int)) (by decide) rfl (Nat.le_of_ble_eq_true rfl) (fun p e s m below meth c ls X hl hB => ?_)
  obtain ⟨hsz, hP, hK, hD0, hN⟩ := hB
  subst hsz
  have hD := hD0.self (sz := s.heap.size)
  generalize hAe : va_A (cat [[(h, .inr (12, fHo q (va_up x 11 (nI n)) o16 o17 o18 o19 o20))], [(q 9, .inl (kA 1, 4000, .inl f))]]) s.heap.size = A at hD ⊢
  have hA : ∀ q : Nat, s.heap.size ≤ q → A q := fun q h => by rw [← hAe]; exact Or.inr h
  have hS : va_S A s.heap s.heap [] := va_S.rf
  obtain ⟨hx, hb, hml, hown, hts, hr, hlk, hnm⟩ := id X
  have hl : lv_has ls 2 [(0, .ref h), (1, .int i)] := hl
  have hP : va_P D classes (cat [[(h, .inr (12, fHo q (va_up x 11 (nI n)) o16 o17 o18 o19 o20))], [(q 9, .inl (kA 1, 4000, .inl f))]]) s.heap := hP
  have hK : va_K D classes (TY kA) s := hK
  refine lv_iload_n (pc := 0) hx hb d_Ho_octet_0 rfl (lv_at hl 1 rfl) ?_
  refine lv_if_lt (pc := 1) (tgt := 21) hx hb d_Ho_octet_1 (by decide) (fun c1 => absurd c1 (h0)) (fun c1 => ?_)
  refine lv_iload_n (pc := 4) hx hb d_Ho_octet_4 rfl (lv_at hl 1 rfl) ?_
  refine lv_aload_n (pc := 5) hx hb d_Ho_octet_5 rfl (lv_at hl 0 rfl) ?_
  refine k_get (pc := 6) (v := .int (nI n)) X hK hP 0 rfl rfl i_Ho 11 (by decide) wm_566 rfl rfl d_Ho_octet_6 ?_
  refine lv_icmp_ge (pc := 9) (tgt := 21) hx hb d_Ho_octet_9 (by decide) (fun c1 => ?_) (fun c1 => absurd (h1) c1)
  refine lv_iconst (pc := 21) (v := -1) hx hb d_Ho_octet_21 (by decide) ?_
  refine W.widen (k := 0) (n := 0) (Nat.le_of_ble_eq_true rfl) (Nat.le_of_ble_eq_true rfl) ?_
  exact W.iret (v := ((-1))) hx hb hr (fun t ht hW => ⟨⟨((-1)), (), rfl, (by unfold sp_Ho_octet_big; rfl), by rw [ht]; exact hP, va_K.moved hW.alike hK, hD⟩, hS.F ht⟩) hS.2.2 d_Ho_octet_22
def sp_Ho_octet_ok (f : Nat → Int32) (j : Nat) : Int32 := f j
set_option maxRecDepth 100000 in
set_option maxHeartbeats 4000000 in
/-- DrawingHouse.octet(I)I -/
theorem c_Ho_octet_ok (l : Launch) (D : va_G) (kA : Nat → ClassId) (h : Nat) (q : Nat → Nat) (x : Nat → Int32) (o16 o17 o18 o19 o20 : Option Nat) (f : Nat → Int32) (n : Nat) (hn : n ≤ 4000) (j : Nat) (hj : j < n)  : Ci l y_Ho_octet z_Ho_octet { frames := 0, cells := 0, slots := 0, locals := 0 } D classes (TY kA) [.ref h, .int (nI j)] [[(h, .inr (12, fHo q (va_up x 11 (nI n)) o16 o17 o18 o19 o20))], [(q 9, .inl (kA 1, 4000, .inl f))]] (fun r (_ : Unit) => r = sp_Ho_octet_ok f j) (fun _ => [[(h, .inr (12, fHo q (va_up x 11 (nI n)) o16 o17 o18 o19 o20))], [(q 9, .inl (kA 1, 4000, .inl f))]]) 0 0 := by
  intro sz
  refine k_met (cc := b_Ho_octet) (maxL := 2) (ret := (some .int)) (by decide) rfl (Nat.le_of_ble_eq_true rfl) (fun p e s m below meth c ls X hl hB => ?_)
  obtain ⟨hsz, hP, hK, hD0, hN⟩ := hB
  subst hsz
  have hD := hD0.self (sz := s.heap.size)
  generalize hAe : va_A (cat [[(h, .inr (12, fHo q (va_up x 11 (nI n)) o16 o17 o18 o19 o20))], [(q 9, .inl (kA 1, 4000, .inl f))]]) s.heap.size = A at hD ⊢
  have hA : ∀ q : Nat, s.heap.size ≤ q → A q := fun q h => by rw [← hAe]; exact Or.inr h
  have hS : va_S A s.heap s.heap [] := va_S.rf
  obtain ⟨hx, hb, hml, hown, hts, hr, hlk, hnm⟩ := id X
  have hl : lv_has ls 2 [(0, .ref h), (1, .int (nI j))] := hl
  have hP : va_P D classes (cat [[(h, .inr (12, fHo q (va_up x 11 (nI n)) o16 o17 o18 o19 o20))], [(q 9, .inl (kA 1, 4000, .inl f))]]) s.heap := hP
  have hK : va_K D classes (TY kA) s := hK
  refine lv_iload_n (pc := 0) hx hb d_Ho_octet_0 rfl (lv_at hl 1 rfl) ?_
  refine lv_if_lt (pc := 1) (tgt := 21) hx hb d_Ho_octet_1 (by decide) (fun c1 => absurd c1 (nI_pos (by omega))) (fun c1 => ?_)
  refine lv_iload_n (pc := 4) hx hb d_Ho_octet_4 rfl (lv_at hl 1 rfl) ?_
  refine lv_aload_n (pc := 5) hx hb d_Ho_octet_5 rfl (lv_at hl 0 rfl) ?_
  refine k_get (pc := 6) (v := .int (nI n)) X hK hP 0 rfl rfl i_Ho 11 (by decide) wm_566 rfl rfl d_Ho_octet_6 ?_
  refine k_cge (pc := 9) (x := j) (y := n) (tgt := 21) hx hb (by omega) (by omega) d_Ho_octet_9 (by decide) (fun c1 => absurd c1 (by omega)) (fun c1 => ?_)
  refine lv_aload_n (pc := 12) hx hb d_Ho_octet_12 rfl (lv_at hl 0 rfl) ?_
  refine k_get (pc := 13) (v := .ref (q 9)) X hK hP 0 rfl rfl i_Ho 9 (by decide) wm_564 rfl rfl d_Ho_octet_13 ?_
  refine lv_iload_n (pc := 16) hx hb d_Ho_octet_16 rfl (lv_at hl 1 rfl) ?_
  refine k_bld (pc := 17) hx hb hK hP 1 1 rfl rfl (j) rfl (by omega) (by decide) d_Ho_octet_17 ?_
  refine lv_goto (pc := 18) (tgt := 22) hx hb d_Ho_octet_18 (by decide) ?_
  refine W.widen (k := 0) (n := 0) (Nat.le_of_ble_eq_true rfl) (Nat.le_of_ble_eq_true rfl) ?_
  exact W.iret (v := (f j)) hx hb hr (fun t ht hW => ⟨⟨(f j), (), rfl, (by unfold sp_Ho_octet_ok; rfl), by rw [ht]; exact hP, va_K.moved hW.alike hK, hD⟩, hS.F ht⟩) hS.2.2 d_Ho_octet_22
def sp_Mo_octet_neg (f : Nat → Int32) : Int32 := (-1)
set_option maxRecDepth 100000 in
set_option maxHeartbeats 4000000 in
/-- DrawingHouseModel.octet(I)I -/
theorem c_Mo_octet_neg (l : Launch) (D : va_G) (kA : Nat → ClassId) (h : Nat) (q : Nat → Nat) (x : Nat → Int32) (y : Nat → Int64) (f : Nat → Int32) (n : Nat) (hn : n ≤ 4000) (i : Int32) (h0 : i < 0)  : Ci l y_Mo_octet z_Mo_octet { frames := 1, cells := 0, slots := 0, locals := 22 } D classes (TY kA) [.ref h, .int i] [[(h, .inr (13, mF q (va_up x 169 (nI n)) y))], [(q 171, .inl (kA 1, 4000, .inl f))]] (fun r (_ : Unit) => r = sp_Mo_octet_neg f) (fun _ => [[(h, .inr (13, mF q (va_up x 169 (nI n)) y))], [(q 171, .inl (kA 1, 4000, .inl f))]]) 0 0 := by
  intro sz
  refine k_met (cc := b_Mo_octet) (maxL := 2) (ret := (some .int)) (by decide) rfl (Nat.le_of_ble_eq_true rfl) (fun p e s m below meth c ls X hl hB => ?_)
  obtain ⟨hsz, hP, hK, hD0, hN⟩ := hB
  subst hsz
  have hD := hD0.self (sz := s.heap.size)
  generalize hAe : va_A (cat [[(h, .inr (13, mF q (va_up x 169 (nI n)) y))], [(q 171, .inl (kA 1, 4000, .inl f))]]) s.heap.size = A at hD ⊢
  have hA : ∀ q : Nat, s.heap.size ≤ q → A q := fun q h => by rw [← hAe]; exact Or.inr h
  have hS : va_S A s.heap s.heap [] := va_S.rf
  obtain ⟨hx, hb, hml, hown, hts, hr, hlk, hnm⟩ := id X
  have hl : lv_has ls 2 [(0, .ref h), (1, .int i)] := hl
  have hP : va_P D classes (cat [[(h, .inr (13, mF q (va_up x 169 (nI n)) y))], [(q 171, .inl (kA 1, 4000, .inl f))]]) s.heap := hP
  have hK : va_K D classes (TY kA) s := hK
  refine lv_iload_n (pc := 0) hx hb d_Mo_octet_0 rfl (lv_at hl 1 rfl) ?_
  refine lv_iconst (pc := 1) (v := 0) hx hb d_Mo_octet_1 (by decide) ?_
  refine lv_aload_n (pc := 2) hx hb d_Mo_octet_2 rfl (lv_at hl 0 rfl) ?_
  refine k_get (pc := 3) (v := .int (nI n)) X hK hP 0 rfl rfl i_Mo 169 (by decide) wm_2601 rfl rfl d_Mo_octet_3 ?_
  refine lv_iconst (pc := 6) (v := 1) hx hb d_Mo_octet_6 (by decide) ?_
  refine lv_isub (pc := 7) hx hb d_Mo_octet_7 ?_
  refine k_goI (gr := [[(h, .inr (13, mF q (va_up x 169 (nI n)) y))], [(q 171, .inl (kA 1, 4000, .inl f))]]) (k_rS (pc := 8) (As := [.int i, .int 0, .int ((nI n) - 1)]) (rest := []) X (c_Mo_in l D kA i 0 ((nI n) - 1) s.heap.size) rfl wm_2971 wm_9 wm_2969 wm_2970 3 (by decide +kernel) ⟨Nat.le_of_ble_eq_true rfl, Nat.le_of_ble_eq_true rfl⟩ rfl rfl (k_pre hN hK hP hD [] [0, 1] 2 rfl (by decide) rfl) rfl hl.1 rfl (Nat.le_of_ble_eq_true rfl) d_Mo_octet_8 ⟨Nat.le_of_ble_eq_true rfl, Nat.le_of_ble_eq_true rfl⟩) hP hD hS hA [] [0, 1] 2 rfl (by decide) rfl rfl (fun r1 u2 H locs hu2 hP hD hS => ?_)
  subst hu2
  have hP : va_P D classes (cat [[(h, .inr (13, mF q (va_up x 169 (nI n)) y))], [(q 171, .inl (kA 1, 4000, .inl f))]]) H := hP
  have hD : va_D A (cat [[(h, .inr (13, mF q (va_up x 169 (nI n)) y))], [(q 171, .inl (kA 1, 4000, .inl f))]]) := hD
  refine lv_if_eq (pc := 11) (tgt := 23) hx hb d_Mo_octet_11 (by decide) (fun c1 => ?_) (fun c1 => absurd (in_neg h0) c1)
  refine lv_iconst (pc := 23) (v := -1) hx hb d_Mo_octet_23 (by decide) ?_
  refine W.widen (k := 0) (n := 0) (Nat.le_of_ble_eq_true rfl) (Nat.le_of_ble_eq_true rfl) ?_
  exact W.iret (v := ((-1))) hx hb hr (fun t ht hW => ⟨⟨((-1)), (), rfl, (by unfold sp_Mo_octet_neg; rfl), by rw [ht]; exact hP, va_K.moved hW.alike hK, hD⟩, hS.F ht⟩) hS.2.2 d_Mo_octet_24
def sp_Mo_octet_big (f : Nat → Int32) : Int32 := (-1)
set_option maxRecDepth 100000 in
set_option maxHeartbeats 4000000 in
/-- DrawingHouseModel.octet(I)I -/
theorem c_Mo_octet_big (l : Launch) (D : va_G) (kA : Nat → ClassId) (h : Nat) (q : Nat → Nat) (x : Nat → Int32) (y : Nat → Int64) (f : Nat → Int32) (n : Nat) (hn : n ≤ 4000) (i : Int32) (h0 : ¬ i < 0) (h1 : nI n ≤ i)  : Ci l y_Mo_octet z_Mo_octet { frames := 1, cells := 0, slots := 0, locals := 22 } D classes (TY kA) [.ref h, .int i] [[(h, .inr (13, mF q (va_up x 169 (nI n)) y))], [(q 171, .inl (kA 1, 4000, .inl f))]] (fun r (_ : Unit) => r = sp_Mo_octet_big f) (fun _ => [[(h, .inr (13, mF q (va_up x 169 (nI n)) y))], [(q 171, .inl (kA 1, 4000, .inl f))]]) 0 0 := by
  intro sz
  refine k_met (cc := b_Mo_octet) (maxL := 2) (ret := (some .int)) (by decide) rfl (Nat.le_of_ble_eq_true rfl) (fun p e s m below meth c ls X hl hB => ?_)
  obtain ⟨hsz, hP, hK, hD0, hN⟩ := hB
  subst hsz
  have hD := hD0.self (sz := s.heap.size)
  generalize hAe : va_A (cat [[(h, .inr (13, mF q (va_up x 169 (nI n)) y))], [(q 171, .inl (kA 1, 4000, .inl f))]]) s.heap.size = A at hD ⊢
  have hA : ∀ q : Nat, s.heap.size ≤ q → A q := fun q h => by rw [← hAe]; exact Or.inr h
  have hS : va_S A s.heap s.heap [] := va_S.rf
  obtain ⟨hx, hb, hml, hown, hts, hr, hlk, hnm⟩ := id X
  have hl : lv_has ls 2 [(0, .ref h), (1, .int i)] := hl
  have hP : va_P D classes (cat [[(h, .inr (13, mF q (va_up x 169 (nI n)) y))], [(q 171, .inl (kA 1, 4000, .inl f))]]) s.heap := hP
  have hK : va_K D classes (TY kA) s := hK
  refine lv_iload_n (pc := 0) hx hb d_Mo_octet_0 rfl (lv_at hl 1 rfl) ?_
  refine lv_iconst (pc := 1) (v := 0) hx hb d_Mo_octet_1 (by decide) ?_
  refine lv_aload_n (pc := 2) hx hb d_Mo_octet_2 rfl (lv_at hl 0 rfl) ?_
  refine k_get (pc := 3) (v := .int (nI n)) X hK hP 0 rfl rfl i_Mo 169 (by decide) wm_2601 rfl rfl d_Mo_octet_3 ?_
  refine lv_iconst (pc := 6) (v := 1) hx hb d_Mo_octet_6 (by decide) ?_
  refine lv_isub (pc := 7) hx hb d_Mo_octet_7 ?_
  refine k_goI (gr := [[(h, .inr (13, mF q (va_up x 169 (nI n)) y))], [(q 171, .inl (kA 1, 4000, .inl f))]]) (k_rS (pc := 8) (As := [.int i, .int 0, .int ((nI n) - 1)]) (rest := []) X (c_Mo_in l D kA i 0 ((nI n) - 1) s.heap.size) rfl wm_2971 wm_9 wm_2969 wm_2970 3 (by decide +kernel) ⟨Nat.le_of_ble_eq_true rfl, Nat.le_of_ble_eq_true rfl⟩ rfl rfl (k_pre hN hK hP hD [] [0, 1] 2 rfl (by decide) rfl) rfl hl.1 rfl (Nat.le_of_ble_eq_true rfl) d_Mo_octet_8 ⟨Nat.le_of_ble_eq_true rfl, Nat.le_of_ble_eq_true rfl⟩) hP hD hS hA [] [0, 1] 2 rfl (by decide) rfl rfl (fun r1 u2 H locs hu2 hP hD hS => ?_)
  subst hu2
  have hP : va_P D classes (cat [[(h, .inr (13, mF q (va_up x 169 (nI n)) y))], [(q 171, .inl (kA 1, 4000, .inl f))]]) H := hP
  have hD : va_D A (cat [[(h, .inr (13, mF q (va_up x 169 (nI n)) y))], [(q 171, .inl (kA 1, 4000, .inl f))]]) := hD
  refine lv_if_eq (pc := 11) (tgt := 23) hx hb d_Mo_octet_11 (by decide) (fun c1 => ?_) (fun c1 => absurd (in_big (by omega) h0 h1) c1)
  refine lv_iconst (pc := 23) (v := -1) hx hb d_Mo_octet_23 (by decide) ?_
  refine W.widen (k := 0) (n := 0) (Nat.le_of_ble_eq_true rfl) (Nat.le_of_ble_eq_true rfl) ?_
  exact W.iret (v := ((-1))) hx hb hr (fun t ht hW => ⟨⟨((-1)), (), rfl, (by unfold sp_Mo_octet_big; rfl), by rw [ht]; exact hP, va_K.moved hW.alike hK, hD⟩, hS.F ht⟩) hS.2.2 d_Mo_octet_24
def sp_Mo_octet_ok (f : Nat → Int32) (j : Nat) : Int32 := f j
set_option maxRecDepth 100000 in
set_option maxHeartbeats 4000000 in
/-- DrawingHouseModel.octet(I)I -/
theorem c_Mo_octet_ok (l : Launch) (D : va_G) (kA : Nat → ClassId) (h : Nat) (q : Nat → Nat) (x : Nat → Int32) (y : Nat → Int64) (f : Nat → Int32) (n : Nat) (hn : n ≤ 4000) (j : Nat) (hj : j < n)  : Ci l y_Mo_octet z_Mo_octet { frames := 1, cells := 0, slots := 0, locals := 22 } D classes (TY kA) [.ref h, .int (nI j)] [[(h, .inr (13, mF q (va_up x 169 (nI n)) y))], [(q 171, .inl (kA 1, 4000, .inl f))]] (fun r (_ : Unit) => r = sp_Mo_octet_ok f j) (fun _ => [[(h, .inr (13, mF q (va_up x 169 (nI n)) y))], [(q 171, .inl (kA 1, 4000, .inl f))]]) 0 0 := by
  intro sz
  refine k_met (cc := b_Mo_octet) (maxL := 2) (ret := (some .int)) (by decide) rfl (Nat.le_of_ble_eq_true rfl) (fun p e s m below meth c ls X hl hB => ?_)
  obtain ⟨hsz, hP, hK, hD0, hN⟩ := hB
  subst hsz
  have hD := hD0.self (sz := s.heap.size)
  generalize hAe : va_A (cat [[(h, .inr (13, mF q (va_up x 169 (nI n)) y))], [(q 171, .inl (kA 1, 4000, .inl f))]]) s.heap.size = A at hD ⊢
  have hA : ∀ q : Nat, s.heap.size ≤ q → A q := fun q h => by rw [← hAe]; exact Or.inr h
  have hS : va_S A s.heap s.heap [] := va_S.rf
  obtain ⟨hx, hb, hml, hown, hts, hr, hlk, hnm⟩ := id X
  have hl : lv_has ls 2 [(0, .ref h), (1, .int (nI j))] := hl
  have hP : va_P D classes (cat [[(h, .inr (13, mF q (va_up x 169 (nI n)) y))], [(q 171, .inl (kA 1, 4000, .inl f))]]) s.heap := hP
  have hK : va_K D classes (TY kA) s := hK
  refine lv_iload_n (pc := 0) hx hb d_Mo_octet_0 rfl (lv_at hl 1 rfl) ?_
  refine lv_iconst (pc := 1) (v := 0) hx hb d_Mo_octet_1 (by decide) ?_
  refine lv_aload_n (pc := 2) hx hb d_Mo_octet_2 rfl (lv_at hl 0 rfl) ?_
  refine k_get (pc := 3) (v := .int (nI n)) X hK hP 0 rfl rfl i_Mo 169 (by decide) wm_2601 rfl rfl d_Mo_octet_3 ?_
  refine lv_iconst (pc := 6) (v := 1) hx hb d_Mo_octet_6 (by decide) ?_
  refine lv_isub (pc := 7) hx hb d_Mo_octet_7 ?_
  refine k_goI (gr := [[(h, .inr (13, mF q (va_up x 169 (nI n)) y))], [(q 171, .inl (kA 1, 4000, .inl f))]]) (k_rS (pc := 8) (As := [.int (nI j), .int 0, .int ((nI n) - 1)]) (rest := []) X (c_Mo_in l D kA (nI j) 0 ((nI n) - 1) s.heap.size) rfl wm_2971 wm_9 wm_2969 wm_2970 3 (by decide +kernel) ⟨Nat.le_of_ble_eq_true rfl, Nat.le_of_ble_eq_true rfl⟩ rfl rfl (k_pre hN hK hP hD [] [0, 1] 2 rfl (by decide) rfl) rfl hl.1 rfl (Nat.le_of_ble_eq_true rfl) d_Mo_octet_8 ⟨Nat.le_of_ble_eq_true rfl, Nat.le_of_ble_eq_true rfl⟩) hP hD hS hA [] [0, 1] 2 rfl (by decide) rfl rfl (fun r1 u2 H locs hu2 hP hD hS => ?_)
  subst hu2
  have hP : va_P D classes (cat [[(h, .inr (13, mF q (va_up x 169 (nI n)) y))], [(q 171, .inl (kA 1, 4000, .inl f))]]) H := hP
  have hD : va_D A (cat [[(h, .inr (13, mF q (va_up x 169 (nI n)) y))], [(q 171, .inl (kA 1, 4000, .inl f))]]) := hD
  refine lv_if_eq (pc := 11) (tgt := 23) hx hb d_Mo_octet_11 (by decide) (fun c1 => absurd c1 (fun e => absurd ((in_ok hj (by omega)).symm.trans e) (by decide))) (fun c1 => ?_)
  refine lv_aload_n (pc := 14) hx hb d_Mo_octet_14 rfl (lv_at hl 0 rfl) ?_
  refine k_get (pc := 15) (v := .ref (q 171)) X hK hP 0 rfl rfl i_Mo 171 (by decide) wm_2603 rfl rfl d_Mo_octet_15 ?_
  refine lv_iload_n (pc := 18) hx hb d_Mo_octet_18 rfl (lv_at hl 1 rfl) ?_
  refine k_bld (pc := 19) hx hb hK hP 1 1 rfl rfl (j) rfl (by omega) (by decide) d_Mo_octet_19 ?_
  refine lv_goto (pc := 20) (tgt := 24) hx hb d_Mo_octet_20 (by decide) ?_
  refine W.widen (k := 0) (n := 0) (Nat.le_of_ble_eq_true rfl) (Nat.le_of_ble_eq_true rfl) ?_
  exact W.iret (v := (f j)) hx hb hr (fun t ht hW => ⟨⟨(f j), (), rfl, (by unfold sp_Mo_octet_ok; rfl), by rw [ht]; exact hP, va_K.moved hW.alike hK, hD⟩, hS.F ht⟩) hS.2.2 d_Mo_octet_24
