theorem wm_3363 : (Cond.code ({ cls := "DrawingHouseModel", name := "far", desc := "(III)I" } : MethodName) prog_15_method_105_code (4 : Nat) (Option.some ClassFile.FieldType.int) : Cond) ∈ lw_g := lw_gi (lw_c15 (List.mem_of_getElem? (i := 3) rfl)) rfl
abbrev b_Mo_far : ByteArray := prog_15_method_105_code
def y_Mo_far : MethodName := ⟨"DrawingHouseModel", "far", "(III)I"⟩
abbrev z_Mo_far : List Cond := Cond.code y_Mo_far b_Mo_far 4 (some .int) :: lw_g
theorem d_Mo_far_0 : decode b_Mo_far 0 = .ok (.iload_n 1, 1) := by decide +kernel
theorem d_Mo_far_1 : decode b_Mo_far 1 = .ok (.invokestatic 521, 3) := by decide +kernel
theorem d_Mo_far_4 : decode b_Mo_far 4 = .ok (.ifCond .ne 5, 3) := by decide +kernel
theorem d_Mo_far_7 : decode b_Mo_far 7 = .ok (.iconst (-1), 1) := by decide +kernel
theorem d_Mo_far_8 : decode b_Mo_far 8 = .ok (.ireturn, 1) := by decide +kernel
theorem d_Mo_far_9 : decode b_Mo_far 9 = .ok (.aload_n 0, 1) := by decide +kernel
theorem d_Mo_far_10 : decode b_Mo_far 10 = .ok (.iload_n 1, 1) := by decide +kernel
theorem d_Mo_far_11 : decode b_Mo_far 11 = .ok (.invokevirtual 527, 3) := by decide +kernel
theorem d_Mo_far_14 : decode b_Mo_far 14 = .ok (.iload_n 2, 1) := by decide +kernel
theorem d_Mo_far_15 : decode b_Mo_far 15 = .ok (.iconst 0, 1) := by decide +kernel
theorem d_Mo_far_16 : decode b_Mo_far 16 = .ok (.aload_n 0, 1) := by decide +kernel
theorem d_Mo_far_17 : decode b_Mo_far 17 = .ok (.invokevirtual 475, 3) := by decide +kernel
theorem d_Mo_far_20 : decode b_Mo_far 20 = .ok (.iconst 1, 1) := by decide +kernel
theorem d_Mo_far_21 : decode b_Mo_far 21 = .ok (.isub, 1) := by decide +kernel
theorem d_Mo_far_22 : decode b_Mo_far 22 = .ok (.invokestatic 387, 3) := by decide +kernel
theorem d_Mo_far_25 : decode b_Mo_far 25 = .ok (.ifCond .eq 17, 3) := by decide +kernel
theorem d_Mo_far_42 : decode b_Mo_far 42 = .ok (.iconst (-1), 1) := by decide +kernel
theorem d_Mo_far_43 : decode b_Mo_far 43 = .ok (.ireturn, 1) := by decide +kernel
theorem d_Mo_far_28 : decode b_Mo_far 28 = .ok (.iload_n 3, 1) := by decide +kernel
theorem d_Mo_far_29 : decode b_Mo_far 29 = .ok (.iconst 0, 1) := by decide +kernel
theorem d_Mo_far_30 : decode b_Mo_far 30 = .ok (.aload_n 0, 1) := by decide +kernel
theorem d_Mo_far_31 : decode b_Mo_far 31 = .ok (.invokevirtual 475, 3) := by decide +kernel
theorem d_Mo_far_34 : decode b_Mo_far 34 = .ok (.iconst 1, 1) := by decide +kernel
theorem d_Mo_far_35 : decode b_Mo_far 35 = .ok (.isub, 1) := by decide +kernel
theorem d_Mo_far_36 : decode b_Mo_far 36 = .ok (.invokestatic 387, 3) := by decide +kernel
theorem d_Mo_far_39 : decode b_Mo_far 39 = .ok (.ifCond .ne 5, 3) := by decide +kernel
def sp_Mo_far_no  : Int32 := (-1)
set_option maxRecDepth 100000 in
set_option maxHeartbeats 4000000 in
/-- DrawingHouseModel.far(III)I -/
theorem c_Mo_far_no (l : Launch) (D : va_G) (kA : Nat → ClassId) (h : Nat) (q : Nat → Nat) (x : Nat → Int32) (y : Nat → Int64) (gp a1 a2 : Int32) (hg : sp_Mo_isPlace gp = 0)  : Ci l y_Mo_far z_Mo_far { frames := 2, cells := 0, slots := 0, locals := 43 } D classes (TY kA) [.ref h, .int gp, .int a1, .int a2] [[(h, .inr (13, mF q x y))]] (fun r (_ : Unit) => r = sp_Mo_far_no ) (fun _ => [[(h, .inr (13, mF q x y))]]) 0 0 := by
  intro sz
  refine k_met (cc := b_Mo_far) (maxL := 4) (ret := (some .int)) (by decide) rfl (Nat.le_of_ble_eq_true rfl) (fun p e s m below meth c ls X hl hB => ?_)
  obtain ⟨hsz, hP, hK, hD0, hN⟩ := hB
  subst hsz
  have hD := hD0.self (sz := s.heap.size)
  generalize hAe : va_A (cat [[(h, .inr (13, mF q x y))]]) s.heap.size = A at hD ⊢
  have hA : ∀ q : Nat, s.heap.size ≤ q → A q := fun q h => by rw [← hAe]; exact Or.inr h
  have hS : va_S A s.heap s.heap [] := va_S.rf
  obtain ⟨hx, hb, hml, hown, hts, hr, hlk, hnm⟩ := id X
  have hl : lv_has ls 4 [(0, .ref h), (1, .int gp), (2, .int a1), (3, .int a2)] := hl
  have hP : va_P D classes (cat [[(h, .inr (13, mF q x y))]]) s.heap := hP
  have hK : va_K D classes (TY kA) s := hK
  refine lv_iload_n (pc := 0) hx hb d_Mo_far_0 rfl (lv_at hl 1 rfl) ?_
  refine k_goI (gr := [[(h, .inr (13, mF q x y))]]) (k_rS (pc := 1) (As := [.int gp]) (rest := []) X (c_Mo_isPlace l D kA gp s.heap.size) rfl wm_2978 wm_9 wm_2976 wm_2977 1 (by decide +kernel) ⟨Nat.le_of_ble_eq_true rfl, Nat.le_of_ble_eq_true rfl⟩ rfl rfl (k_pre hN hK hP hD [] [0] 1 rfl (by decide) rfl) rfl hl.1 rfl (Nat.le_of_ble_eq_true rfl) d_Mo_far_1 ⟨Nat.le_of_ble_eq_true rfl, Nat.le_of_ble_eq_true rfl⟩) hP hD hS hA [] [0] 1 rfl (by decide) rfl rfl (fun r1 u2 H locs hu2 hP hD hS => ?_)
  subst hu2
  have hP : va_P D classes (cat [[(h, .inr (13, mF q x y))]]) H := hP
  have hD : va_D A (cat [[(h, .inr (13, mF q x y))]]) := hD
  refine lv_if_ne (pc := 4) (tgt := 9) hx hb d_Mo_far_4 (by decide) (fun c1 => absurd (hg) c1) (fun c1 => ?_)
  refine lv_iconst (pc := 7) (v := -1) hx hb d_Mo_far_7 (by decide) ?_
  refine W.widen (k := 0) (n := 0) (Nat.le_of_ble_eq_true rfl) (Nat.le_of_ble_eq_true rfl) ?_
  exact W.iret (v := ((-1))) hx hb hr (fun t ht hW => ⟨⟨((-1)), (), rfl, (by unfold sp_Mo_far_no; rfl), by rw [ht]; exact hP, va_K.moved hW.alike hK, hD⟩, hS.F ht⟩) hS.2.2 d_Mo_far_8
def sp_Mo_far_n1  : Int32 := (-1)
set_option maxRecDepth 100000 in
set_option maxHeartbeats 4000000 in
/-- DrawingHouseModel.far(III)I -/
theorem c_Mo_far_n1 (l : Launch) (D : va_G) (kA : Nat → ClassId) (h : Nat) (q : Nat → Nat) (x : Nat → Int32) (y : Nat → Int64) (f al : Nat → Int32) (j k : Nat) (hj : j < 4) (hk : k < 31) (hf : f j = nI k) (nn : Nat) (hz : al (539 * (31 * j + k)) = nI nn) (a1 a2 : Int32) (hv : sp_Mo_in a1 0 (nI nn - 1) = 0)  : Ci l y_Mo_far z_Mo_far { frames := 2, cells := 0, slots := 0, locals := 43 } D classes (TY kA) [.ref h, .int (nI j), .int a1, .int a2] [[(h, .inr (13, mF q x y))], [(q 3, .inl (kA 0, 4, .inl f))], [(q 2, .inl (kA 0, 66836, .inl al))]] (fun r (_ : Unit) => r = sp_Mo_far_n1 ) (fun _ => [[(h, .inr (13, mF q (va_up x 5 (nI (539 * (31 * j + k)))) y))], [(q 3, .inl (kA 0, 4, .inl f))], [(q 2, .inl (kA 0, 66836, .inl al))]]) 0 0 := by
  intro sz
  refine k_met (cc := b_Mo_far) (maxL := 4) (ret := (some .int)) (by decide) rfl (Nat.le_of_ble_eq_true rfl) (fun p e s m below meth c ls X hl hB => ?_)
  obtain ⟨hsz, hP, hK, hD0, hN⟩ := hB
  subst hsz
  have hD := hD0.self (sz := s.heap.size)
  generalize hAe : va_A (cat [[(h, .inr (13, mF q x y))], [(q 3, .inl (kA 0, 4, .inl f))], [(q 2, .inl (kA 0, 66836, .inl al))]]) s.heap.size = A at hD ⊢
  have hA : ∀ q : Nat, s.heap.size ≤ q → A q := fun q h => by rw [← hAe]; exact Or.inr h
  have hS : va_S A s.heap s.heap [] := va_S.rf
  obtain ⟨hx, hb, hml, hown, hts, hr, hlk, hnm⟩ := id X
  have hl : lv_has ls 4 [(0, .ref h), (1, .int (nI j)), (2, .int a1), (3, .int a2)] := hl
  have hP : va_P D classes (cat [[(h, .inr (13, mF q x y))], [(q 3, .inl (kA 0, 4, .inl f))], [(q 2, .inl (kA 0, 66836, .inl al))]]) s.heap := hP
  have hK : va_K D classes (TY kA) s := hK
  refine lv_iload_n (pc := 0) hx hb d_Mo_far_0 rfl (lv_at hl 1 rfl) ?_
  refine k_goI (gr := [[(h, .inr (13, mF q x y))], [(q 3, .inl (kA 0, 4, .inl f))], [(q 2, .inl (kA 0, 66836, .inl al))]]) (k_rS (pc := 1) (As := [.int (nI j)]) (rest := []) X (c_Mo_isPlace l D kA (nI j) s.heap.size) rfl wm_2978 wm_9 wm_2976 wm_2977 1 (by decide +kernel) ⟨Nat.le_of_ble_eq_true rfl, Nat.le_of_ble_eq_true rfl⟩ rfl rfl (k_pre hN hK hP hD [] [0, 1, 2] 3 rfl (by decide) rfl) rfl hl.1 rfl (Nat.le_of_ble_eq_true rfl) d_Mo_far_1 ⟨Nat.le_of_ble_eq_true rfl, Nat.le_of_ble_eq_true rfl⟩) hP hD hS hA [] [0, 1, 2] 3 rfl (by decide) rfl rfl (fun r1 u2 H locs hu2 hP hD hS => ?_)
  subst hu2
  have hP : va_P D classes (cat [[(h, .inr (13, mF q x y))], [(q 3, .inl (kA 0, 4, .inl f))], [(q 2, .inl (kA 0, 66836, .inl al))]]) H := hP
  have hD : va_D A (cat [[(h, .inr (13, mF q x y))], [(q 3, .inl (kA 0, 4, .inl f))], [(q 2, .inl (kA 0, 66836, .inl al))]]) := hD
  refine lv_if_ne (pc := 4) (tgt := 9) hx hb d_Mo_far_4 (by decide) (fun c1 => ?_) (fun c1 => absurd c1 (fun e => absurd ((placeM_ok hj).symm.trans e) (by decide)))
  refine lv_aload_n (pc := 9) hx hb d_Mo_far_9 rfl (lv_at hl 0 rfl) ?_
  refine lv_iload_n (pc := 10) hx hb d_Mo_far_10 rfl (lv_at hl 1 rfl) ?_
  refine k_goV (gr := [[(q 2, .inl (kA 0, 66836, .inl al))]]) (k_rV (pc := 11) (As := [.int (nI j)]) (rest := []) X (c_Mo_take l D kA h q x y f j k hj hf H.size) rfl wm_3091 wm_9 wm_3088 wm_3090 wv_14_2 1 (by decide +kernel) ⟨Nat.le_of_ble_eq_true rfl, Nat.le_of_ble_eq_true rfl⟩ rfl rfl (va_recv hK hP (ci := 13) (q0 := 0) rfl rfl) (k_pre hN hK hP hD [0, 1] [2] 3 rfl (by decide) rfl) rfl hl.1 rfl (Nat.le_of_ble_eq_true rfl) d_Mo_far_11 ⟨Nat.le_of_ble_eq_true rfl, Nat.le_of_ble_eq_true rfl⟩) hP hD hS hA [0, 1] [2] 3 rfl (by decide) rfl rfl (fun u3 H locs hu3 hP hD hS => ?_)
  have hP : va_P D classes (cat [[(q 2, .inl (kA 0, 66836, .inl al))], [(h, .inr (13, mF q (va_up x 5 (nI (539 * (31 * j + k)))) y))], [(q 3, .inl (kA 0, 4, .inl f))]]) H := hP
  have hD : va_D A (cat [[(q 2, .inl (kA 0, 66836, .inl al))], [(h, .inr (13, mF q (va_up x 5 (nI (539 * (31 * j + k)))) y))], [(q 3, .inl (kA 0, 4, .inl f))]]) := hD
  refine lv_iload_n (pc := 14) hx hb d_Mo_far_14 rfl (lv_at hl 2 rfl) ?_
  refine lv_iconst (pc := 15) (v := 0) hx hb d_Mo_far_15 (by decide) ?_
  refine lv_aload_n (pc := 16) hx hb d_Mo_far_16 rfl (lv_at hl 0 rfl) ?_
  refine k_goI (gr := [[(q 3, .inl (kA 0, 4, .inl f))]]) (k_rV (pc := 17) (As := []) (rest := [.int 0, .int a1]) X (c_Mo_nodes l D kA h q x y al (539 * (31 * j + k)) (by omega) H.size) rfl wm_3025 wm_9 wm_3022 wm_3024 wv_13_3 0 (by decide +kernel) ⟨Nat.le_of_ble_eq_true rfl, Nat.le_of_ble_eq_true rfl⟩ rfl rfl (va_recv hK hP (ci := 13) (q0 := 1) rfl rfl) (k_pre hN hK hP hD [1, 0] [2] 3 rfl (by decide) rfl) rfl hl.1 rfl (Nat.le_of_ble_eq_true rfl) d_Mo_far_17 ⟨Nat.le_of_ble_eq_true rfl, Nat.le_of_ble_eq_true rfl⟩) hP hD hS hA [1, 0] [2] 3 rfl (by decide) rfl rfl (fun r4 u5 H locs hu5 hP hD hS => ?_)
  subst hu5
  have hP : va_P D classes (cat [[(q 3, .inl (kA 0, 4, .inl f))], [(h, .inr (13, mF q (va_up x 5 (nI (539 * (31 * j + k)))) y))], [(q 2, .inl (kA 0, 66836, .inl al))]]) H := hP
  have hD : va_D A (cat [[(q 3, .inl (kA 0, 4, .inl f))], [(h, .inr (13, mF q (va_up x 5 (nI (539 * (31 * j + k)))) y))], [(q 2, .inl (kA 0, 66836, .inl al))]]) := hD
  refine k_cst (v := nI nn) (hz) ?_
  refine lv_iconst (pc := 20) (v := 1) hx hb d_Mo_far_20 (by decide) ?_
  refine lv_isub (pc := 21) hx hb d_Mo_far_21 ?_
  refine k_goI (gr := [[(q 3, .inl (kA 0, 4, .inl f))], [(h, .inr (13, mF q (va_up x 5 (nI (539 * (31 * j + k)))) y))], [(q 2, .inl (kA 0, 66836, .inl al))]]) (k_rS (pc := 22) (As := [.int a1, .int 0, .int ((nI nn) - 1)]) (rest := []) X (c_Mo_in l D kA a1 0 ((nI nn) - 1) H.size) rfl wm_2971 wm_9 wm_2969 wm_2970 3 (by decide +kernel) ⟨Nat.le_of_ble_eq_true rfl, Nat.le_of_ble_eq_true rfl⟩ rfl rfl (k_pre hN hK hP hD [] [0, 1, 2] 3 rfl (by decide) rfl) rfl hl.1 rfl (Nat.le_of_ble_eq_true rfl) d_Mo_far_22 ⟨Nat.le_of_ble_eq_true rfl, Nat.le_of_ble_eq_true rfl⟩) hP hD hS hA [] [0, 1, 2] 3 rfl (by decide) rfl rfl (fun r6 u7 H locs hu7 hP hD hS => ?_)
  subst hu7
  have hP : va_P D classes (cat [[(q 3, .inl (kA 0, 4, .inl f))], [(h, .inr (13, mF q (va_up x 5 (nI (539 * (31 * j + k)))) y))], [(q 2, .inl (kA 0, 66836, .inl al))]]) H := hP
  have hD : va_D A (cat [[(q 3, .inl (kA 0, 4, .inl f))], [(h, .inr (13, mF q (va_up x 5 (nI (539 * (31 * j + k)))) y))], [(q 2, .inl (kA 0, 66836, .inl al))]]) := hD
  refine lv_if_eq (pc := 25) (tgt := 42) hx hb d_Mo_far_25 (by decide) (fun c1 => ?_) (fun c1 => absurd (hv) c1)
  refine lv_iconst (pc := 42) (v := -1) hx hb d_Mo_far_42 (by decide) ?_
  obtain ⟨hP, hD⟩ := k_ord (gc := [[(h, .inr (13, mF q (va_up x 5 (nI (539 * (31 * j + k)))) y))], [(q 3, .inl (kA 0, 4, .inl f))], [(q 2, .inl (kA 0, 66836, .inl al))]]) hP hD [1, 0, 2] 3 rfl (by decide) rfl
  refine W.widen (k := 0) (n := 0) (Nat.le_of_ble_eq_true rfl) (Nat.le_of_ble_eq_true rfl) ?_
  exact W.iret (v := ((-1))) hx hb hr (fun t ht hW => ⟨⟨((-1)), (), rfl, (by unfold sp_Mo_far_n1; rfl), by rw [ht]; exact hP, va_K.moved hW.alike hK, hD⟩, hS.F ht⟩) hS.2.2 d_Mo_far_43
def sp_Mo_far_n2  : Int32 := (-1)
set_option maxRecDepth 100000 in
set_option maxHeartbeats 4000000 in
/-- DrawingHouseModel.far(III)I -/
theorem c_Mo_far_n2 (l : Launch) (D : va_G) (kA : Nat → ClassId) (h : Nat) (q : Nat → Nat) (x : Nat → Int32) (y : Nat → Int64) (f al : Nat → Int32) (j k : Nat) (hj : j < 4) (hk : k < 31) (hf : f j = nI k) (nn : Nat) (hz : al (539 * (31 * j + k)) = nI nn) (a1 a2 : Int32) (hu : ¬ sp_Mo_in a1 0 (nI nn - 1) = 0) (hv : sp_Mo_in a2 0 (nI nn - 1) = 0)  : Ci l y_Mo_far z_Mo_far { frames := 2, cells := 0, slots := 0, locals := 43 } D classes (TY kA) [.ref h, .int (nI j), .int a1, .int a2] [[(h, .inr (13, mF q x y))], [(q 3, .inl (kA 0, 4, .inl f))], [(q 2, .inl (kA 0, 66836, .inl al))]] (fun r (_ : Unit) => r = sp_Mo_far_n2 ) (fun _ => [[(h, .inr (13, mF q (va_up x 5 (nI (539 * (31 * j + k)))) y))], [(q 3, .inl (kA 0, 4, .inl f))], [(q 2, .inl (kA 0, 66836, .inl al))]]) 0 0 := by
  intro sz
  refine k_met (cc := b_Mo_far) (maxL := 4) (ret := (some .int)) (by decide) rfl (Nat.le_of_ble_eq_true rfl) (fun p e s m below meth c ls X hl hB => ?_)
  obtain ⟨hsz, hP, hK, hD0, hN⟩ := hB
  subst hsz
  have hD := hD0.self (sz := s.heap.size)
  generalize hAe : va_A (cat [[(h, .inr (13, mF q x y))], [(q 3, .inl (kA 0, 4, .inl f))], [(q 2, .inl (kA 0, 66836, .inl al))]]) s.heap.size = A at hD ⊢
  have hA : ∀ q : Nat, s.heap.size ≤ q → A q := fun q h => by rw [← hAe]; exact Or.inr h
  have hS : va_S A s.heap s.heap [] := va_S.rf
  obtain ⟨hx, hb, hml, hown, hts, hr, hlk, hnm⟩ := id X
  have hl : lv_has ls 4 [(0, .ref h), (1, .int (nI j)), (2, .int a1), (3, .int a2)] := hl
  have hP : va_P D classes (cat [[(h, .inr (13, mF q x y))], [(q 3, .inl (kA 0, 4, .inl f))], [(q 2, .inl (kA 0, 66836, .inl al))]]) s.heap := hP
  have hK : va_K D classes (TY kA) s := hK
  refine lv_iload_n (pc := 0) hx hb d_Mo_far_0 rfl (lv_at hl 1 rfl) ?_
  refine k_goI (gr := [[(h, .inr (13, mF q x y))], [(q 3, .inl (kA 0, 4, .inl f))], [(q 2, .inl (kA 0, 66836, .inl al))]]) (k_rS (pc := 1) (As := [.int (nI j)]) (rest := []) X (c_Mo_isPlace l D kA (nI j) s.heap.size) rfl wm_2978 wm_9 wm_2976 wm_2977 1 (by decide +kernel) ⟨Nat.le_of_ble_eq_true rfl, Nat.le_of_ble_eq_true rfl⟩ rfl rfl (k_pre hN hK hP hD [] [0, 1, 2] 3 rfl (by decide) rfl) rfl hl.1 rfl (Nat.le_of_ble_eq_true rfl) d_Mo_far_1 ⟨Nat.le_of_ble_eq_true rfl, Nat.le_of_ble_eq_true rfl⟩) hP hD hS hA [] [0, 1, 2] 3 rfl (by decide) rfl rfl (fun r1 u2 H locs hu2 hP hD hS => ?_)
  subst hu2
  have hP : va_P D classes (cat [[(h, .inr (13, mF q x y))], [(q 3, .inl (kA 0, 4, .inl f))], [(q 2, .inl (kA 0, 66836, .inl al))]]) H := hP
  have hD : va_D A (cat [[(h, .inr (13, mF q x y))], [(q 3, .inl (kA 0, 4, .inl f))], [(q 2, .inl (kA 0, 66836, .inl al))]]) := hD
  refine lv_if_ne (pc := 4) (tgt := 9) hx hb d_Mo_far_4 (by decide) (fun c1 => ?_) (fun c1 => absurd c1 (fun e => absurd ((placeM_ok hj).symm.trans e) (by decide)))
  refine lv_aload_n (pc := 9) hx hb d_Mo_far_9 rfl (lv_at hl 0 rfl) ?_
  refine lv_iload_n (pc := 10) hx hb d_Mo_far_10 rfl (lv_at hl 1 rfl) ?_
  refine k_goV (gr := [[(q 2, .inl (kA 0, 66836, .inl al))]]) (k_rV (pc := 11) (As := [.int (nI j)]) (rest := []) X (c_Mo_take l D kA h q x y f j k hj hf H.size) rfl wm_3091 wm_9 wm_3088 wm_3090 wv_14_2 1 (by decide +kernel) ⟨Nat.le_of_ble_eq_true rfl, Nat.le_of_ble_eq_true rfl⟩ rfl rfl (va_recv hK hP (ci := 13) (q0 := 0) rfl rfl) (k_pre hN hK hP hD [0, 1] [2] 3 rfl (by decide) rfl) rfl hl.1 rfl (Nat.le_of_ble_eq_true rfl) d_Mo_far_11 ⟨Nat.le_of_ble_eq_true rfl, Nat.le_of_ble_eq_true rfl⟩) hP hD hS hA [0, 1] [2] 3 rfl (by decide) rfl rfl (fun u3 H locs hu3 hP hD hS => ?_)
  have hP : va_P D classes (cat [[(q 2, .inl (kA 0, 66836, .inl al))], [(h, .inr (13, mF q (va_up x 5 (nI (539 * (31 * j + k)))) y))], [(q 3, .inl (kA 0, 4, .inl f))]]) H := hP
  have hD : va_D A (cat [[(q 2, .inl (kA 0, 66836, .inl al))], [(h, .inr (13, mF q (va_up x 5 (nI (539 * (31 * j + k)))) y))], [(q 3, .inl (kA 0, 4, .inl f))]]) := hD
  refine lv_iload_n (pc := 14) hx hb d_Mo_far_14 rfl (lv_at hl 2 rfl) ?_
  refine lv_iconst (pc := 15) (v := 0) hx hb d_Mo_far_15 (by decide) ?_
  refine lv_aload_n (pc := 16) hx hb d_Mo_far_16 rfl (lv_at hl 0 rfl) ?_
  refine k_goI (gr := [[(q 3, .inl (kA 0, 4, .inl f))]]) (k_rV (pc := 17) (As := []) (rest := [.int 0, .int a1]) X (c_Mo_nodes l D kA h q x y al (539 * (31 * j + k)) (by omega) H.size) rfl wm_3025 wm_9 wm_3022 wm_3024 wv_13_3 0 (by decide +kernel) ⟨Nat.le_of_ble_eq_true rfl, Nat.le_of_ble_eq_true rfl⟩ rfl rfl (va_recv hK hP (ci := 13) (q0 := 1) rfl rfl) (k_pre hN hK hP hD [1, 0] [2] 3 rfl (by decide) rfl) rfl hl.1 rfl (Nat.le_of_ble_eq_true rfl) d_Mo_far_17 ⟨Nat.le_of_ble_eq_true rfl, Nat.le_of_ble_eq_true rfl⟩) hP hD hS hA [1, 0] [2] 3 rfl (by decide) rfl rfl (fun r4 u5 H locs hu5 hP hD hS => ?_)
  subst hu5
  have hP : va_P D classes (cat [[(q 3, .inl (kA 0, 4, .inl f))], [(h, .inr (13, mF q (va_up x 5 (nI (539 * (31 * j + k)))) y))], [(q 2, .inl (kA 0, 66836, .inl al))]]) H := hP
  have hD : va_D A (cat [[(q 3, .inl (kA 0, 4, .inl f))], [(h, .inr (13, mF q (va_up x 5 (nI (539 * (31 * j + k)))) y))], [(q 2, .inl (kA 0, 66836, .inl al))]]) := hD
  refine k_cst (v := nI nn) (hz) ?_
  refine lv_iconst (pc := 20) (v := 1) hx hb d_Mo_far_20 (by decide) ?_
  refine lv_isub (pc := 21) hx hb d_Mo_far_21 ?_
  refine k_goI (gr := [[(q 3, .inl (kA 0, 4, .inl f))], [(h, .inr (13, mF q (va_up x 5 (nI (539 * (31 * j + k)))) y))], [(q 2, .inl (kA 0, 66836, .inl al))]]) (k_rS (pc := 22) (As := [.int a1, .int 0, .int ((nI nn) - 1)]) (rest := []) X (c_Mo_in l D kA a1 0 ((nI nn) - 1) H.size) rfl wm_2971 wm_9 wm_2969 wm_2970 3 (by decide +kernel) ⟨Nat.le_of_ble_eq_true rfl, Nat.le_of_ble_eq_true rfl⟩ rfl rfl (k_pre hN hK hP hD [] [0, 1, 2] 3 rfl (by decide) rfl) rfl hl.1 rfl (Nat.le_of_ble_eq_true rfl) d_Mo_far_22 ⟨Nat.le_of_ble_eq_true rfl, Nat.le_of_ble_eq_true rfl⟩) hP hD hS hA [] [0, 1, 2] 3 rfl (by decide) rfl rfl (fun r6 u7 H locs hu7 hP hD hS => ?_)
  subst hu7
  have hP : va_P D classes (cat [[(q 3, .inl (kA 0, 4, .inl f))], [(h, .inr (13, mF q (va_up x 5 (nI (539 * (31 * j + k)))) y))], [(q 2, .inl (kA 0, 66836, .inl al))]]) H := hP
  have hD : va_D A (cat [[(q 3, .inl (kA 0, 4, .inl f))], [(h, .inr (13, mF q (va_up x 5 (nI (539 * (31 * j + k)))) y))], [(q 2, .inl (kA 0, 66836, .inl al))]]) := hD
  refine lv_if_eq (pc := 25) (tgt := 42) hx hb d_Mo_far_25 (by decide) (fun c1 => absurd c1 (hu)) (fun c1 => ?_)
  refine lv_iload_n (pc := 28) hx hb d_Mo_far_28 rfl (lv_at hl 3 rfl) ?_
  refine lv_iconst (pc := 29) (v := 0) hx hb d_Mo_far_29 (by decide) ?_
  refine lv_aload_n (pc := 30) hx hb d_Mo_far_30 rfl (lv_at hl 0 rfl) ?_
  refine k_goI (gr := [[(q 3, .inl (kA 0, 4, .inl f))]]) (k_rV (pc := 31) (As := []) (rest := [.int 0, .int a2]) X (c_Mo_nodes l D kA h q x y al (539 * (31 * j + k)) (by omega) H.size) rfl wm_3025 wm_9 wm_3022 wm_3024 wv_13_3 0 (by decide +kernel) ⟨Nat.le_of_ble_eq_true rfl, Nat.le_of_ble_eq_true rfl⟩ rfl rfl (va_recv hK hP (ci := 13) (q0 := 1) rfl rfl) (k_pre hN hK hP hD [1, 2] [0] 3 rfl (by decide) rfl) rfl hl.1 rfl (Nat.le_of_ble_eq_true rfl) d_Mo_far_31 ⟨Nat.le_of_ble_eq_true rfl, Nat.le_of_ble_eq_true rfl⟩) hP hD hS hA [1, 2] [0] 3 rfl (by decide) rfl rfl (fun r8 u9 H locs hu9 hP hD hS => ?_)
  subst hu9
  have hP : va_P D classes (cat [[(q 3, .inl (kA 0, 4, .inl f))], [(h, .inr (13, mF q (va_up x 5 (nI (539 * (31 * j + k)))) y))], [(q 2, .inl (kA 0, 66836, .inl al))]]) H := hP
  have hD : va_D A (cat [[(q 3, .inl (kA 0, 4, .inl f))], [(h, .inr (13, mF q (va_up x 5 (nI (539 * (31 * j + k)))) y))], [(q 2, .inl (kA 0, 66836, .inl al))]]) := hD
  refine k_cst (v := nI nn) (hz) ?_
  refine lv_iconst (pc := 34) (v := 1) hx hb d_Mo_far_34 (by decide) ?_
  refine lv_isub (pc := 35) hx hb d_Mo_far_35 ?_
  refine k_goI (gr := [[(q 3, .inl (kA 0, 4, .inl f))], [(h, .inr (13, mF q (va_up x 5 (nI (539 * (31 * j + k)))) y))], [(q 2, .inl (kA 0, 66836, .inl al))]]) (k_rS (pc := 36) (As := [.int a2, .int 0, .int ((nI nn) - 1)]) (rest := []) X (c_Mo_in l D kA a2 0 ((nI nn) - 1) H.size) rfl wm_2971 wm_9 wm_2969 wm_2970 3 (by decide +kernel) ⟨Nat.le_of_ble_eq_true rfl, Nat.le_of_ble_eq_true rfl⟩ rfl rfl (k_pre hN hK hP hD [] [0, 1, 2] 3 rfl (by decide) rfl) rfl hl.1 rfl (Nat.le_of_ble_eq_true rfl) d_Mo_far_36 ⟨Nat.le_of_ble_eq_true rfl, Nat.le_of_ble_eq_true rfl⟩) hP hD hS hA [] [0, 1, 2] 3 rfl (by decide) rfl rfl (fun r10 u11 H locs hu11 hP hD hS => ?_)
  subst hu11
  have hP : va_P D classes (cat [[(q 3, .inl (kA 0, 4, .inl f))], [(h, .inr (13, mF q (va_up x 5 (nI (539 * (31 * j + k)))) y))], [(q 2, .inl (kA 0, 66836, .inl al))]]) H := hP
  have hD : va_D A (cat [[(q 3, .inl (kA 0, 4, .inl f))], [(h, .inr (13, mF q (va_up x 5 (nI (539 * (31 * j + k)))) y))], [(q 2, .inl (kA 0, 66836, .inl al))]]) := hD
  refine lv_if_ne (pc := 39) (tgt := 44) hx hb d_Mo_far_39 (by decide) (fun c1 => absurd (hv) c1) (fun c1 => ?_)
  refine lv_iconst (pc := 42) (v := -1) hx hb d_Mo_far_42 (by decide) ?_
  obtain ⟨hP, hD⟩ := k_ord (gc := [[(h, .inr (13, mF q (va_up x 5 (nI (539 * (31 * j + k)))) y))], [(q 3, .inl (kA 0, 4, .inl f))], [(q 2, .inl (kA 0, 66836, .inl al))]]) hP hD [1, 0, 2] 3 rfl (by decide) rfl
  refine W.widen (k := 0) (n := 0) (Nat.le_of_ble_eq_true rfl) (Nat.le_of_ble_eq_true rfl) ?_
  exact W.iret (v := ((-1))) hx hb hr (fun t ht hW => ⟨⟨((-1)), (), rfl, (by unfold sp_Mo_far_n2; rfl), by rw [ht]; exact hP, va_K.moved hW.alike hK, hD⟩, hS.F ht⟩) hS.2.2 d_Mo_far_43
