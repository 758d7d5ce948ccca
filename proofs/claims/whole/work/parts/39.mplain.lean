theorem wm_3022 : (Cond.methodLink "DrawingHouseModel" (475 : Nat) ({ cls := "DrawingHouseModel", name := "nodes", desc := "()I" } : MethodName) : Cond) ∈ lw_g := lw_gi (lw_c13 (List.mem_of_getElem? (i := 142) rfl)) rfl
theorem wm_3024 : (Cond.instanceMethod ({ cls := "DrawingHouseModel", name := "nodes", desc := "()I" } : MethodName) : Cond) ∈ lw_g := lw_gi (lw_c13 (List.mem_of_getElem? (i := 144) rfl)) rfl
theorem wm_3088 : (Cond.methodLink "DrawingHouseModel" (527 : Nat) ({ cls := "DrawingHouseModel", name := "take", desc := "(I)V" } : MethodName) : Cond) ∈ lw_g := lw_gi (lw_c13 (List.mem_of_getElem? (i := 208) rfl)) rfl
theorem wm_3090 : (Cond.instanceMethod ({ cls := "DrawingHouseModel", name := "take", desc := "(I)V" } : MethodName) : Cond) ∈ lw_g := lw_gi (lw_c13 (List.mem_of_getElem? (i := 210) rfl)) rfl
theorem wm_3115 : (Cond.code ({ cls := "DrawingHouseModel", name := "back", desc := "(II)Z" } : MethodName) prog_15_method_49_code (3 : Nat) (Option.some ClassFile.FieldType.boolean) : Cond) ∈ lw_g := lw_gi (lw_c13 (List.mem_of_getElem? (i := 235) rfl)) rfl
theorem wm_3367 : (Cond.code ({ cls := "DrawingHouseModel", name := "draw", desc := "(III)I" } : MethodName) prog_15_method_107_code (5 : Nat) (Option.some ClassFile.FieldType.int) : Cond) ∈ lw_g := lw_gi (lw_c15 (List.mem_of_getElem? (i := 7) rfl)) rfl
theorem wv_13_3 : (Cond.selects "DrawingHouseModel" ⟨"DrawingHouseModel", "nodes", "()I"⟩ ⟨"DrawingHouseModel", "nodes", "()I"⟩ : Cond) ∈ lw_g := lw_gi (List.mem_append_left _ (List.mem_map.mpr ⟨_, lw_v13 (List.mem_of_getElem? (i := 3) rfl), rfl⟩)) rfl
theorem wv_14_2 : (Cond.selects "DrawingHouseModel" ⟨"DrawingHouseModel", "take", "(I)V"⟩ ⟨"DrawingHouseModel", "take", "(I)V"⟩ : Cond) ∈ lw_g := lw_gi (List.mem_append_left _ (List.mem_map.mpr ⟨_, lw_v14 (List.mem_of_getElem? (i := 2) rfl), rfl⟩)) rfl
abbrev b_Mo_back : ByteArray := prog_15_method_49_code
def y_Mo_back : MethodName := ⟨"DrawingHouseModel", "back", "(II)Z"⟩
abbrev z_Mo_back : List Cond := Cond.code y_Mo_back b_Mo_back 3 (some .boolean) :: lw_g
theorem d_Mo_back_0 : decode b_Mo_back 0 = .ok (.iload_n 1, 1) := by decide +kernel
theorem d_Mo_back_1 : decode b_Mo_back 1 = .ok (.invokestatic 521, 3) := by decide +kernel
theorem d_Mo_back_4 : decode b_Mo_back 4 = .ok (.ifCond .eq 43, 3) := by decide +kernel
theorem d_Mo_back_47 : decode b_Mo_back 47 = .ok (.iconst 0, 1) := by decide +kernel
theorem d_Mo_back_48 : decode b_Mo_back 48 = .ok (.ireturn, 1) := by decide +kernel
theorem d_Mo_back_7 : decode b_Mo_back 7 = .ok (.iload_n 2, 1) := by decide +kernel
theorem d_Mo_back_8 : decode b_Mo_back 8 = .ok (.iconst 0, 1) := by decide +kernel
theorem d_Mo_back_9 : decode b_Mo_back 9 = .ok (.iconst 1, 1) := by decide +kernel
theorem d_Mo_back_10 : decode b_Mo_back 10 = .ok (.invokestatic 387, 3) := by decide +kernel
theorem d_Mo_back_13 : decode b_Mo_back 13 = .ok (.ifCond .eq 34, 3) := by decide +kernel
theorem d_Mo_back_16 : decode b_Mo_back 16 = .ok (.iload_n 2, 1) := by decide +kernel
theorem d_Mo_back_17 : decode b_Mo_back 17 = .ok (.ifCond .ne 15, 3) := by decide +kernel
theorem d_Mo_back_20 : decode b_Mo_back 20 = .ok (.aload_n 0, 1) := by decide +kernel
theorem d_Mo_back_21 : decode b_Mo_back 21 = .ok (.getfield 20, 3) := by decide +kernel
theorem d_Mo_back_24 : decode b_Mo_back 24 = .ok (.iload_n 1, 1) := by decide +kernel
theorem d_Mo_back_25 : decode b_Mo_back 25 = .ok (.iaload, 1) := by decide +kernel
theorem d_Mo_back_26 : decode b_Mo_back 26 = .ok (.ifCond .ne 23, 3) := by decide +kernel
theorem d_Mo_back_29 : decode b_Mo_back 29 = .ok (.goto 18, 3) := by decide +kernel
theorem d_Mo_back_32 : decode b_Mo_back 32 = .ok (.aload_n 0, 1) := by decide +kernel
theorem d_Mo_back_33 : decode b_Mo_back 33 = .ok (.getfield 20, 3) := by decide +kernel
theorem d_Mo_back_36 : decode b_Mo_back 36 = .ok (.iload_n 1, 1) := by decide +kernel
theorem d_Mo_back_37 : decode b_Mo_back 37 = .ok (.iaload, 1) := by decide +kernel
theorem d_Mo_back_38 : decode b_Mo_back 38 = .ok (.aload_n 0, 1) := by decide +kernel
theorem d_Mo_back_39 : decode b_Mo_back 39 = .ok (.getfield 23, 3) := by decide +kernel
theorem d_Mo_back_42 : decode b_Mo_back 42 = .ok (.iload_n 1, 1) := by decide +kernel
theorem d_Mo_back_43 : decode b_Mo_back 43 = .ok (.iaload, 1) := by decide +kernel
theorem d_Mo_back_44 : decode b_Mo_back 44 = .ok (.if_icmp .ne 5, 3) := by decide +kernel
abbrev b_Mo_draw : ByteArray := prog_15_method_107_code
def y_Mo_draw : MethodName := ⟨"DrawingHouseModel", "draw", "(III)I"⟩
abbrev z_Mo_draw : List Cond := Cond.code y_Mo_draw b_Mo_draw 5 (some .int) :: lw_g
theorem d_Mo_draw_0 : decode b_Mo_draw 0 = .ok (.iload_n 1, 1) := by decide +kernel
theorem d_Mo_draw_1 : decode b_Mo_draw 1 = .ok (.invokestatic 521, 3) := by decide +kernel
theorem d_Mo_draw_4 : decode b_Mo_draw 4 = .ok (.ifCond .eq 13, 3) := by decide +kernel
theorem d_Mo_draw_17 : decode b_Mo_draw 17 = .ok (.iconst (-1), 1) := by decide +kernel
theorem d_Mo_draw_18 : decode b_Mo_draw 18 = .ok (.ireturn, 1) := by decide +kernel
theorem d_Mo_draw_7 : decode b_Mo_draw 7 = .ok (.iload_n 2, 1) := by decide +kernel
theorem d_Mo_draw_8 : decode b_Mo_draw 8 = .ok (.iconst 0, 1) := by decide +kernel
theorem d_Mo_draw_9 : decode b_Mo_draw 9 = .ok (.bipush 7, 2) := by decide +kernel
theorem d_Mo_draw_11 : decode b_Mo_draw 11 = .ok (.invokestatic 387, 3) := by decide +kernel
theorem d_Mo_draw_14 : decode b_Mo_draw 14 = .ok (.ifCond .ne 5, 3) := by decide +kernel
theorem d_Mo_draw_19 : decode b_Mo_draw 19 = .ok (.aload_n 0, 1) := by decide +kernel
theorem d_Mo_draw_20 : decode b_Mo_draw 20 = .ok (.iload_n 1, 1) := by decide +kernel
theorem d_Mo_draw_21 : decode b_Mo_draw 21 = .ok (.invokevirtual 527, 3) := by decide +kernel
theorem d_Mo_draw_24 : decode b_Mo_draw 24 = .ok (.aload_n 0, 1) := by decide +kernel
theorem d_Mo_draw_25 : decode b_Mo_draw 25 = .ok (.invokevirtual 475, 3) := by decide +kernel
theorem d_Mo_draw_28 : decode b_Mo_draw 28 = .ok (.ifCond .ne 5, 3) := by decide +kernel
theorem d_Mo_draw_31 : decode b_Mo_draw 31 = .ok (.iconst (-1), 1) := by decide +kernel
theorem d_Mo_draw_32 : decode b_Mo_draw 32 = .ok (.ireturn, 1) := by decide +kernel
def sp_Mo_back_no  : Int32 := 0
set_option maxRecDepth 100000 in
set_option maxHeartbeats 4000000 in
/-- DrawingHouseModel.back(II)Z -/
theorem c_Mo_back_no (l : Launch) (D : va_G) (kA : Nat → ClassId) (h : Nat) (q : Nat → Nat) (x : Nat → Int32) (y : Nat → Int64) (gp re : Int32) (hg : sp_Mo_isPlace gp = 0)  : Ci l y_Mo_back z_Mo_back { frames := 2, cells := 0, slots := 0, locals := 43 } D classes (TY kA) [.ref h, .int gp, .int re] [[(h, .inr (13, mF q x y))]] (fun r (_ : Unit) => r = sp_Mo_back_no ) (fun _ => [[(h, .inr (13, mF q x y))]]) 0 0 := by
  intro sz
  refine k_met (cc := b_Mo_back) (maxL := 3) (ret := (some .boolean)) (by decide) rfl (Nat.le_of_ble_eq_true rfl) (fun p e s m below meth c ls X hl hB => ?_)
  obtain ⟨hsz, hP, hK, hD0, hN⟩ := hB
  subst hsz
  have hD := hD0.self (sz := s.heap.size)
  generalize hAe : va_A (cat [[(h, .inr (13, mF q x y))]]) s.heap.size = A at hD ⊢
  have hA : ∀ q : Nat, s.heap.size ≤ q → A q := fun q h => by rw [← hAe]; exact Or.inr h
  have hS : va_S A s.heap s.heap [] := va_S.rf
  obtain ⟨hx, hb, hml, hown, hts, hr, hlk, hnm⟩ := id X
  have hl : lv_has ls 3 [(0, .ref h), (1, .int gp), (2, .int re)] := hl
  have hP : va_P D classes (cat [[(h, .inr (13, mF q x y))]]) s.heap := hP
  have hK : va_K D classes (TY kA) s := hK
  refine lv_iload_n (pc := 0) hx hb d_Mo_back_0 rfl (lv_at hl 1 rfl) ?_
  refine k_goI (gr := [[(h, .inr (13, mF q x y))]]) (k_rS (pc := 1) (As := [.int gp]) (rest := []) X (c_Mo_isPlace l D kA gp s.heap.size) rfl wm_2978 wm_9 wm_2976 wm_2977 1 (by decide +kernel) ⟨Nat.le_of_ble_eq_true rfl, Nat.le_of_ble_eq_true rfl⟩ rfl rfl (k_pre hN hK hP hD [] [0] 1 rfl (by decide) rfl) rfl hl.1 rfl (Nat.le_of_ble_eq_true rfl) d_Mo_back_1 ⟨Nat.le_of_ble_eq_true rfl, Nat.le_of_ble_eq_true rfl⟩) hP hD hS hA [] [0] 1 rfl (by decide) rfl rfl (fun r1 u2 H locs hu2 hP hD hS => ?_)
  subst hu2
  have hP : va_P D classes (cat [[(h, .inr (13, mF q x y))]]) H := hP
  have hD : va_D A (cat [[(h, .inr (13, mF q x y))]]) := hD
  refine lv_if_eq (pc := 4) (tgt := 47) hx hb d_Mo_back_4 (by decide) (fun c1 => ?_) (fun c1 => absurd (hg) c1)
  refine lv_iconst (pc := 47) (v := 0) hx hb d_Mo_back_47 (by decide) ?_
  refine W.widen (k := 0) (n := 0) (Nat.le_of_ble_eq_true rfl) (Nat.le_of_ble_eq_true rfl) ?_
  exact W.zret (v := 0) hx hb hr rfl (fun t ht hW => ⟨⟨0, (), rfl, (by unfold sp_Mo_back_no; rfl), by rw [ht]; exact hP, va_K.moved hW.alike hK, hD⟩, hS.F ht⟩) hS.2.2 d_Mo_back_48
def sp_Mo_back_np (re : Int32) : Int32 := if (sp_Mo_in re 0 1) = 0 then 0 else if re = 0 then 0 else 0
set_option maxRecDepth 100000 in
set_option maxHeartbeats 4000000 in
/-- DrawingHouseModel.back(II)Z -/
theorem c_Mo_back_np (l : Launch) (D : va_G) (kA : Nat → ClassId) (h : Nat) (q : Nat → Nat) (x : Nat → Int32) (y : Nat → Int64) (f fl0 : Nat → Int32) (j : Nat) (hj : j < 4) (hf : f j = 0) (hl0 : fl0 j = 0) (re : Int32)  : Ci l y_Mo_back z_Mo_back { frames := 2, cells := 0, slots := 0, locals := 43 } D classes (TY kA) [.ref h, .int (nI j), .int re] [[(h, .inr (13, mF q x y))], [(q 3, .inl (kA 0, 4, .inl f))], [(q 4, .inl (kA 0, 4, .inl fl0))]] (fun r (_ : Unit) => r = sp_Mo_back_np re) (fun _ => [[(h, .inr (13, mF q x y))], [(q 3, .inl (kA 0, 4, .inl f))], [(q 4, .inl (kA 0, 4, .inl fl0))]]) 0 0 := by
  intro sz
  refine k_met (cc := b_Mo_back) (maxL := 3) (ret := (some .boolean)) (by decide) rfl (Nat.le_of_ble_eq_true rfl) (fun p e s m below meth c ls X hl hB => ?_)
  obtain ⟨hsz, hP, hK, hD0, hN⟩ := hB
  subst hsz
  have hD := hD0.self (sz := s.heap.size)
  generalize hAe : va_A (cat [[(h, .inr (13, mF q x y))], [(q 3, .inl (kA 0, 4, .inl f))], [(q 4, .inl (kA 0, 4, .inl fl0))]]) s.heap.size = A at hD ⊢
  have hA : ∀ q : Nat, s.heap.size ≤ q → A q := fun q h => by rw [← hAe]; exact Or.inr h
  have hS : va_S A s.heap s.heap [] := va_S.rf
  obtain ⟨hx, hb, hml, hown, hts, hr, hlk, hnm⟩ := id X
  have hl : lv_has ls 3 [(0, .ref h), (1, .int (nI j)), (2, .int re)] := hl
  have hP : va_P D classes (cat [[(h, .inr (13, mF q x y))], [(q 3, .inl (kA 0, 4, .inl f))], [(q 4, .inl (kA 0, 4, .inl fl0))]]) s.heap := hP
  have hK : va_K D classes (TY kA) s := hK
  refine lv_iload_n (pc := 0) hx hb d_Mo_back_0 rfl (lv_at hl 1 rfl) ?_
  refine k_goI (gr := [[(h, .inr (13, mF q x y))], [(q 3, .inl (kA 0, 4, .inl f))], [(q 4, .inl (kA 0, 4, .inl fl0))]]) (k_rS (pc := 1) (As := [.int (nI j)]) (rest := []) X (c_Mo_isPlace l D kA (nI j) s.heap.size) rfl wm_2978 wm_9 wm_2976 wm_2977 1 (by decide +kernel) ⟨Nat.le_of_ble_eq_true rfl, Nat.le_of_ble_eq_true rfl⟩ rfl rfl (k_pre hN hK hP hD [] [0, 1, 2] 3 rfl (by decide) rfl) rfl hl.1 rfl (Nat.le_of_ble_eq_true rfl) d_Mo_back_1 ⟨Nat.le_of_ble_eq_true rfl, Nat.le_of_ble_eq_true rfl⟩) hP hD hS hA [] [0, 1, 2] 3 rfl (by decide) rfl rfl (fun r1 u2 H locs hu2 hP hD hS => ?_)
  subst hu2
  have hP : va_P D classes (cat [[(h, .inr (13, mF q x y))], [(q 3, .inl (kA 0, 4, .inl f))], [(q 4, .inl (kA 0, 4, .inl fl0))]]) H := hP
  have hD : va_D A (cat [[(h, .inr (13, mF q x y))], [(q 3, .inl (kA 0, 4, .inl f))], [(q 4, .inl (kA 0, 4, .inl fl0))]]) := hD
  refine lv_if_eq (pc := 4) (tgt := 47) hx hb d_Mo_back_4 (by decide) (fun c1 => absurd c1 (fun e => absurd ((placeM_ok hj).symm.trans e) (by decide))) (fun c1 => ?_)
  refine lv_iload_n (pc := 7) hx hb d_Mo_back_7 rfl (lv_at hl 2 rfl) ?_
  refine lv_iconst (pc := 8) (v := 0) hx hb d_Mo_back_8 (by decide) ?_
  refine lv_iconst (pc := 9) (v := 1) hx hb d_Mo_back_9 (by decide) ?_
  refine k_goI (gr := [[(h, .inr (13, mF q x y))], [(q 3, .inl (kA 0, 4, .inl f))], [(q 4, .inl (kA 0, 4, .inl fl0))]]) (k_rS (pc := 10) (As := [.int re, .int 0, .int 1]) (rest := []) X (c_Mo_in l D kA re 0 1 H.size) rfl wm_2971 wm_9 wm_2969 wm_2970 3 (by decide +kernel) ⟨Nat.le_of_ble_eq_true rfl, Nat.le_of_ble_eq_true rfl⟩ rfl rfl (k_pre hN hK hP hD [] [0, 1, 2] 3 rfl (by decide) rfl) rfl hl.1 rfl (Nat.le_of_ble_eq_true rfl) d_Mo_back_10 ⟨Nat.le_of_ble_eq_true rfl, Nat.le_of_ble_eq_true rfl⟩) hP hD hS hA [] [0, 1, 2] 3 rfl (by decide) rfl rfl (fun r3 u4 H locs hu4 hP hD hS => ?_)
  subst hu4
  have hP : va_P D classes (cat [[(h, .inr (13, mF q x y))], [(q 3, .inl (kA 0, 4, .inl f))], [(q 4, .inl (kA 0, 4, .inl fl0))]]) H := hP
  have hD : va_D A (cat [[(h, .inr (13, mF q x y))], [(q 3, .inl (kA 0, 4, .inl f))], [(q 4, .inl (kA 0, 4, .inl fl0))]]) := hD
  refine lv_if_eq (pc := 13) (tgt := 47) hx hb d_Mo_back_13 (by decide) (fun ck1 => ?_) (fun ck1 => ?_)
  · refine lv_iconst (pc := 47) (v := 0) hx hb d_Mo_back_47 (by decide) ?_
    refine W.widen (k := 0) (n := 0) (Nat.le_of_ble_eq_true rfl) (Nat.le_of_ble_eq_true rfl) ?_
    exact W.zret (v := 0) hx hb hr rfl (fun t ht hW => ⟨⟨0, (), rfl, (by unfold sp_Mo_back_np; rw [if_pos ck1]), by rw [ht]; exact hP, va_K.moved hW.alike hK, hD⟩, hS.F ht⟩) hS.2.2 d_Mo_back_48
  · refine lv_iload_n (pc := 16) hx hb d_Mo_back_16 rfl (lv_at hl 2 rfl) ?_
    refine lv_if_ne (pc := 17) (tgt := 32) hx hb d_Mo_back_17 (by decide) (fun ck2 => ?_) (fun ck2 => ?_)
    · refine lv_aload_n (pc := 32) hx hb d_Mo_back_32 rfl (lv_at hl 0 rfl) ?_
      refine k_get (pc := 33) X hK hP 0 rfl rfl i_Mo 3 (by decide) wm_2436 rfl rfl d_Mo_back_33 ?_
      refine lv_iload_n (pc := 36) hx hb d_Mo_back_36 rfl (lv_at hl 1 rfl) ?_
      refine k_ild (pc := 37) hx hb hK hP 1 0 rfl rfl (j) rfl (by omega) (by decide) d_Mo_back_37 ?_
      refine k_cst (v := 0) (hf) ?_
      refine lv_aload_n (pc := 38) hx hb d_Mo_back_38 rfl (lv_at hl 0 rfl) ?_
      refine k_get (pc := 39) X hK hP 0 rfl rfl i_Mo 4 (by decide) wm_2437 rfl rfl d_Mo_back_39 ?_
      refine lv_iload_n (pc := 42) hx hb d_Mo_back_42 rfl (lv_at hl 1 rfl) ?_
      refine k_ild (pc := 43) hx hb hK hP 2 0 rfl rfl (j) rfl (by omega) (by decide) d_Mo_back_43 ?_
      refine k_cst (v := 0) (hl0) ?_
      refine lv_icmp_ne (pc := 44) (tgt := 49) hx hb d_Mo_back_44 (by decide) (fun c1 => absurd (by decide) c1) (fun _ => ?_)
      refine lv_iconst (pc := 47) (v := 0) hx hb d_Mo_back_47 (by decide) ?_
      refine W.widen (k := 0) (n := 0) (Nat.le_of_ble_eq_true rfl) (Nat.le_of_ble_eq_true rfl) ?_
      exact W.zret (v := 0) hx hb hr rfl (fun t ht hW => ⟨⟨0, (), rfl, (by unfold sp_Mo_back_np; rw [if_neg ck1, if_neg ck2]), by rw [ht]; exact hP, va_K.moved hW.alike hK, hD⟩, hS.F ht⟩) hS.2.2 d_Mo_back_48
    · refine lv_aload_n (pc := 20) hx hb d_Mo_back_20 rfl (lv_at hl 0 rfl) ?_
      refine k_get (pc := 21) X hK hP 0 rfl rfl i_Mo 3 (by decide) wm_2436 rfl rfl d_Mo_back_21 ?_
      refine lv_iload_n (pc := 24) hx hb d_Mo_back_24 rfl (lv_at hl 1 rfl) ?_
      refine k_ild (pc := 25) hx hb hK hP 1 0 rfl rfl (j) rfl (by omega) (by decide) d_Mo_back_25 ?_
      refine k_cst (v := 0) (hf) ?_
      refine lv_if_ne (pc := 26) (tgt := 49) hx hb d_Mo_back_26 (by decide) (fun c1 => absurd (by decide) c1) (fun c1 => ?_)
      refine lv_goto (pc := 29) (tgt := 47) hx hb d_Mo_back_29 (by decide) ?_
      refine lv_iconst (pc := 47) (v := 0) hx hb d_Mo_back_47 (by decide) ?_
      refine W.widen (k := 0) (n := 0) (Nat.le_of_ble_eq_true rfl) (Nat.le_of_ble_eq_true rfl) ?_
      exact W.zret (v := 0) hx hb hr rfl (fun t ht hW => ⟨⟨0, (), rfl, (by unfold sp_Mo_back_np; rw [if_neg ck1, if_pos ck2]), by rw [ht]; exact hP, va_K.moved hW.alike hK, hD⟩, hS.F ht⟩) hS.2.2 d_Mo_back_48
def sp_Mo_draw_no  : Int32 := (-1)
set_option maxRecDepth 100000 in
set_option maxHeartbeats 4000000 in
/-- DrawingHouseModel.draw(III)I -/
theorem c_Mo_draw_no (l : Launch) (D : va_G) (kA : Nat → ClassId) (h : Nat) (q : Nat → Nat) (x : Nat → Int32) (y : Nat → Int64) (gp wy da : Int32) (hg : sp_Mo_isPlace gp = 0)  : Ci l y_Mo_draw z_Mo_draw { frames := 2, cells := 0, slots := 0, locals := 43 } D classes (TY kA) [.ref h, .int gp, .int wy, .int da] [[(h, .inr (13, mF q x y))]] (fun r (_ : Unit) => r = sp_Mo_draw_no ) (fun _ => [[(h, .inr (13, mF q x y))]]) 0 0 := by
  intro sz
  refine k_met (cc := b_Mo_draw) (maxL := 5) (ret := (some .int)) (by decide) rfl (Nat.le_of_ble_eq_true rfl) (fun p e s m below meth c ls X hl hB => ?_)
  obtain ⟨hsz, hP, hK, hD0, hN⟩ := hB
  subst hsz
  have hD := hD0.self (sz := s.heap.size)
  generalize hAe : va_A (cat [[(h, .inr (13, mF q x y))]]) s.heap.size = A at hD ⊢
  have hA : ∀ q : Nat, s.heap.size ≤ q → A q := fun q h => by rw [← hAe]; exact Or.inr h
  have hS : va_S A s.heap s.heap [] := va_S.rf
  obtain ⟨hx, hb, hml, hown, hts, hr, hlk, hnm⟩ := id X
  have hl : lv_has ls 5 [(0, .ref h), (1, .int gp), (2, .int wy), (3, .int da)] := hl
  have hP : va_P D classes (cat [[(h, .inr (13, mF q x y))]]) s.heap := hP
  have hK : va_K D classes (TY kA) s := hK
  refine lv_iload_n (pc := 0) hx hb d_Mo_draw_0 rfl (lv_at hl 1 rfl) ?_
  refine k_goI (gr := [[(h, .inr (13, mF q x y))]]) (k_rS (pc := 1) (As := [.int gp]) (rest := []) X (c_Mo_isPlace l D kA gp s.heap.size) rfl wm_2978 wm_9 wm_2976 wm_2977 1 (by decide +kernel) ⟨Nat.le_of_ble_eq_true rfl, Nat.le_of_ble_eq_true rfl⟩ rfl rfl (k_pre hN hK hP hD [] [0] 1 rfl (by decide) rfl) rfl hl.1 rfl (Nat.le_of_ble_eq_true rfl) d_Mo_draw_1 ⟨Nat.le_of_ble_eq_true rfl, Nat.le_of_ble_eq_true rfl⟩) hP hD hS hA [] [0] 1 rfl (by decide) rfl rfl (fun r1 u2 H locs hu2 hP hD hS => ?_)
  subst hu2
  have hP : va_P D classes (cat [[(h, .inr (13, mF q x y))]]) H := hP
  have hD : va_D A (cat [[(h, .inr (13, mF q x y))]]) := hD
  refine lv_if_eq (pc := 4) (tgt := 17) hx hb d_Mo_draw_4 (by decide) (fun c1 => ?_) (fun c1 => absurd (hg) c1)
  refine lv_iconst (pc := 17) (v := -1) hx hb d_Mo_draw_17 (by decide) ?_
  refine W.widen (k := 0) (n := 0) (Nat.le_of_ble_eq_true rfl) (Nat.le_of_ble_eq_true rfl) ?_
  exact W.iret (v := ((-1))) hx hb hr (fun t ht hW => ⟨⟨((-1)), (), rfl, (by unfold sp_Mo_draw_no; rfl), by rw [ht]; exact hP, va_K.moved hW.alike hK, hD⟩, hS.F ht⟩) hS.2.2 d_Mo_draw_18
def sp_Mo_draw_ow  : Int32 := (-1)
set_option maxRecDepth 100000 in
set_option maxHeartbeats 4000000 in
/-- DrawingHouseModel.draw(III)I -/
theorem c_Mo_draw_ow (l : Launch) (D : va_G) (kA : Nat → ClassId) (h : Nat) (q : Nat → Nat) (x : Nat → Int32) (y : Nat → Int64) (j : Nat) (hj : j < 4) (wy da : Int32) (hw : sp_Mo_in wy 0 7 = 0)  : Ci l y_Mo_draw z_Mo_draw { frames := 2, cells := 0, slots := 0, locals := 43 } D classes (TY kA) [.ref h, .int (nI j), .int wy, .int da] [[(h, .inr (13, mF q x y))]] (fun r (_ : Unit) => r = sp_Mo_draw_ow ) (fun _ => [[(h, .inr (13, mF q x y))]]) 0 0 := by
  intro sz
  refine k_met (cc := b_Mo_draw) (maxL := 5) (ret := (some .int)) (by decide) rfl (Nat.le_of_ble_eq_true rfl) (fun p e s m below meth c ls X hl hB => ?_)
  obtain ⟨hsz, hP, hK, hD0, hN⟩ := hB
  subst hsz
  have hD := hD0.self (sz := s.heap.size)
  generalize hAe : va_A (cat [[(h, .inr (13, mF q x y))]]) s.heap.size = A at hD ⊢
  have hA : ∀ q : Nat, s.heap.size ≤ q → A q := fun q h => by rw [← hAe]; exact Or.inr h
  have hS : va_S A s.heap s.heap [] := va_S.rf
  obtain ⟨hx, hb, hml, hown, hts, hr, hlk, hnm⟩ := id X
  have hl : lv_has ls 5 [(0, .ref h), (1, .int (nI j)), (2, .int wy), (3, .int da)] := hl
  have hP : va_P D classes (cat [[(h, .inr (13, mF q x y))]]) s.heap := hP
  have hK : va_K D classes (TY kA) s := hK
  refine lv_iload_n (pc := 0) hx hb d_Mo_draw_0 rfl (lv_at hl 1 rfl) ?_
  refine k_goI (gr := [[(h, .inr (13, mF q x y))]]) (k_rS (pc := 1) (As := [.int (nI j)]) (rest := []) X (c_Mo_isPlace l D kA (nI j) s.heap.size) rfl wm_2978 wm_9 wm_2976 wm_2977 1 (by decide +kernel) ⟨Nat.le_of_ble_eq_true rfl, Nat.le_of_ble_eq_true rfl⟩ rfl rfl (k_pre hN hK hP hD [] [0] 1 rfl (by decide) rfl) rfl hl.1 rfl (Nat.le_of_ble_eq_true rfl) d_Mo_draw_1 ⟨Nat.le_of_ble_eq_true rfl, Nat.le_of_ble_eq_true rfl⟩) hP hD hS hA [] [0] 1 rfl (by decide) rfl rfl (fun r1 u2 H locs hu2 hP hD hS => ?_)
  subst hu2
  have hP : va_P D classes (cat [[(h, .inr (13, mF q x y))]]) H := hP
  have hD : va_D A (cat [[(h, .inr (13, mF q x y))]]) := hD
  refine lv_if_eq (pc := 4) (tgt := 17) hx hb d_Mo_draw_4 (by decide) (fun c1 => absurd c1 (fun e => absurd ((placeM_ok hj).symm.trans e) (by decide))) (fun c1 => ?_)
  refine lv_iload_n (pc := 7) hx hb d_Mo_draw_7 rfl (lv_at hl 2 rfl) ?_
  refine lv_iconst (pc := 8) (v := 0) hx hb d_Mo_draw_8 (by decide) ?_
  refine lv_bipush (pc := 9) (v := 7) hx hb d_Mo_draw_9 (by decide) ?_
  refine k_goI (gr := [[(h, .inr (13, mF q x y))]]) (k_rS (pc := 11) (As := [.int wy, .int 0, .int 7]) (rest := []) X (c_Mo_in l D kA wy 0 7 H.size) rfl wm_2971 wm_9 wm_2969 wm_2970 3 (by decide +kernel) ⟨Nat.le_of_ble_eq_true rfl, Nat.le_of_ble_eq_true rfl⟩ rfl rfl (k_pre hN hK hP hD [] [0] 1 rfl (by decide) rfl) rfl hl.1 rfl (Nat.le_of_ble_eq_true rfl) d_Mo_draw_11 ⟨Nat.le_of_ble_eq_true rfl, Nat.le_of_ble_eq_true rfl⟩) hP hD hS hA [] [0] 1 rfl (by decide) rfl rfl (fun r3 u4 H locs hu4 hP hD hS => ?_)
  subst hu4
  have hP : va_P D classes (cat [[(h, .inr (13, mF q x y))]]) H := hP
  have hD : va_D A (cat [[(h, .inr (13, mF q x y))]]) := hD
  refine lv_if_ne (pc := 14) (tgt := 19) hx hb d_Mo_draw_14 (by decide) (fun c1 => absurd (hw) c1) (fun c1 => ?_)
  refine lv_iconst (pc := 17) (v := -1) hx hb d_Mo_draw_17 (by decide) ?_
  refine W.widen (k := 0) (n := 0) (Nat.le_of_ble_eq_true rfl) (Nat.le_of_ble_eq_true rfl) ?_
  exact W.iret (v := ((-1))) hx hb hr (fun t ht hW => ⟨⟨((-1)), (), rfl, (by unfold sp_Mo_draw_ow; rfl), by rw [ht]; exact hP, va_K.moved hW.alike hK, hD⟩, hS.F ht⟩) hS.2.2 d_Mo_draw_18
def sp_Mo_draw_em  : Int32 := (-1)
set_option maxRecDepth 100000 in
set_option maxHeartbeats 4000000 in
/-- DrawingHouseModel.draw(III)I -/
theorem c_Mo_draw_em (l : Launch) (D : va_G) (kA : Nat → ClassId) (h : Nat) (q : Nat → Nat) (x : Nat → Int32) (y : Nat → Int64) (f al : Nat → Int32) (j k : Nat) (hj : j < 4) (hk : k < 31) (hf : f j = nI k) (wy da : Int32) (hw : ¬ sp_Mo_in wy 0 7 = 0) (hz : al (539 * (31 * j + k)) = 0)  : Ci l y_Mo_draw z_Mo_draw { frames := 2, cells := 0, slots := 0, locals := 43 } D classes (TY kA) [.ref h, .int (nI j), .int wy, .int da] [[(h, .inr (13, mF q x y))], [(q 3, .inl (kA 0, 4, .inl f))], [(q 2, .inl (kA 0, 66836, .inl al))]] (fun r (_ : Unit) => r = sp_Mo_draw_em ) (fun _ => [[(h, .inr (13, mF q (va_up x 5 (nI (539 * (31 * j + k)))) y))], [(q 3, .inl (kA 0, 4, .inl f))], [(q 2, .inl (kA 0, 66836, .inl al))]]) 0 0 := by
  intro sz
  refine k_met (cc := b_Mo_draw) (maxL := 5) (ret := (some .int)) (by decide) rfl (Nat.le_of_ble_eq_true rfl) (fun p e s m below meth c ls X hl hB => ?_)
  obtain ⟨hsz, hP, hK, hD0, hN⟩ := hB
  subst hsz
  have hD := hD0.self (sz := s.heap.size)
  generalize hAe : va_A (cat [[(h, .inr (13, mF q x y))], [(q 3, .inl (kA 0, 4, .inl f))], [(q 2, .inl (kA 0, 66836, .inl al))]]) s.heap.size = A at hD ⊢
  have hA : ∀ q : Nat, s.heap.size ≤ q → A q := fun q h => by rw [← hAe]; exact Or.inr h
  have hS : va_S A s.heap s.heap [] := va_S.rf
  obtain ⟨hx, hb, hml, hown, hts, hr, hlk, hnm⟩ := id X
  have hl : lv_has ls 5 [(0, .ref h), (1, .int (nI j)), (2, .int wy), (3, .int da)] := hl
  have hP : va_P D classes (cat [[(h, .inr (13, mF q x y))], [(q 3, .inl (kA 0, 4, .inl f))], [(q 2, .inl (kA 0, 66836, .inl al))]]) s.heap := hP
  have hK : va_K D classes (TY kA) s := hK
  refine lv_iload_n (pc := 0) hx hb d_Mo_draw_0 rfl (lv_at hl 1 rfl) ?_
  refine k_goI (gr := [[(h, .inr (13, mF q x y))], [(q 3, .inl (kA 0, 4, .inl f))], [(q 2, .inl (kA 0, 66836, .inl al))]]) (k_rS (pc := 1) (As := [.int (nI j)]) (rest := []) X (c_Mo_isPlace l D kA (nI j) s.heap.size) rfl wm_2978 wm_9 wm_2976 wm_2977 1 (by decide +kernel) ⟨Nat.le_of_ble_eq_true rfl, Nat.le_of_ble_eq_true rfl⟩ rfl rfl (k_pre hN hK hP hD [] [0, 1, 2] 3 rfl (by decide) rfl) rfl hl.1 rfl (Nat.le_of_ble_eq_true rfl) d_Mo_draw_1 ⟨Nat.le_of_ble_eq_true rfl, Nat.le_of_ble_eq_true rfl⟩) hP hD hS hA [] [0, 1, 2] 3 rfl (by decide) rfl rfl (fun r1 u2 H locs hu2 hP hD hS => ?_)
  subst hu2
  have hP : va_P D classes (cat [[(h, .inr (13, mF q x y))], [(q 3, .inl (kA 0, 4, .inl f))], [(q 2, .inl (kA 0, 66836, .inl al))]]) H := hP
  have hD : va_D A (cat [[(h, .inr (13, mF q x y))], [(q 3, .inl (kA 0, 4, .inl f))], [(q 2, .inl (kA 0, 66836, .inl al))]]) := hD
  refine lv_if_eq (pc := 4) (tgt := 17) hx hb d_Mo_draw_4 (by decide) (fun c1 => absurd c1 (fun e => absurd ((placeM_ok hj).symm.trans e) (by decide))) (fun c1 => ?_)
  refine lv_iload_n (pc := 7) hx hb d_Mo_draw_7 rfl (lv_at hl 2 rfl) ?_
  refine lv_iconst (pc := 8) (v := 0) hx hb d_Mo_draw_8 (by decide) ?_
  refine lv_bipush (pc := 9) (v := 7) hx hb d_Mo_draw_9 (by decide) ?_
  refine k_goI (gr := [[(h, .inr (13, mF q x y))], [(q 3, .inl (kA 0, 4, .inl f))], [(q 2, .inl (kA 0, 66836, .inl al))]]) (k_rS (pc := 11) (As := [.int wy, .int 0, .int 7]) (rest := []) X (c_Mo_in l D kA wy 0 7 H.size) rfl wm_2971 wm_9 wm_2969 wm_2970 3 (by decide +kernel) ⟨Nat.le_of_ble_eq_true rfl, Nat.le_of_ble_eq_true rfl⟩ rfl rfl (k_pre hN hK hP hD [] [0, 1, 2] 3 rfl (by decide) rfl) rfl hl.1 rfl (Nat.le_of_ble_eq_true rfl) d_Mo_draw_11 ⟨Nat.le_of_ble_eq_true rfl, Nat.le_of_ble_eq_true rfl⟩) hP hD hS hA [] [0, 1, 2] 3 rfl (by decide) rfl rfl (fun r3 u4 H locs hu4 hP hD hS => ?_)
  subst hu4
  have hP : va_P D classes (cat [[(h, .inr (13, mF q x y))], [(q 3, .inl (kA 0, 4, .inl f))], [(q 2, .inl (kA 0, 66836, .inl al))]]) H := hP
  have hD : va_D A (cat [[(h, .inr (13, mF q x y))], [(q 3, .inl (kA 0, 4, .inl f))], [(q 2, .inl (kA 0, 66836, .inl al))]]) := hD
  refine lv_if_ne (pc := 14) (tgt := 19) hx hb d_Mo_draw_14 (by decide) (fun c1 => ?_) (fun c1 => absurd c1 (hw))
  refine lv_aload_n (pc := 19) hx hb d_Mo_draw_19 rfl (lv_at hl 0 rfl) ?_
  refine lv_iload_n (pc := 20) hx hb d_Mo_draw_20 rfl (lv_at hl 1 rfl) ?_
  refine k_goV (gr := [[(q 2, .inl (kA 0, 66836, .inl al))]]) (k_rV (pc := 21) (As := [.int (nI j)]) (rest := []) X (c_Mo_take l D kA h q x y f j k hj hf H.size) rfl wm_3091 wm_9 wm_3088 wm_3090 wv_14_2 1 (by decide +kernel) ⟨Nat.le_of_ble_eq_true rfl, Nat.le_of_ble_eq_true rfl⟩ rfl rfl (va_recv hK hP (ci := 13) (q0 := 0) rfl rfl) (k_pre hN hK hP hD [0, 1] [2] 3 rfl (by decide) rfl) rfl hl.1 rfl (Nat.le_of_ble_eq_true rfl) d_Mo_draw_21 ⟨Nat.le_of_ble_eq_true rfl, Nat.le_of_ble_eq_true rfl⟩) hP hD hS hA [0, 1] [2] 3 rfl (by decide) rfl rfl (fun u5 H locs hu5 hP hD hS => ?_)
  have hP : va_P D classes (cat [[(q 2, .inl (kA 0, 66836, .inl al))], [(h, .inr (13, mF q (va_up x 5 (nI (539 * (31 * j + k)))) y))], [(q 3, .inl (kA 0, 4, .inl f))]]) H := hP
  have hD : va_D A (cat [[(q 2, .inl (kA 0, 66836, .inl al))], [(h, .inr (13, mF q (va_up x 5 (nI (539 * (31 * j + k)))) y))], [(q 3, .inl (kA 0, 4, .inl f))]]) := hD
  refine lv_aload_n (pc := 24) hx hb d_Mo_draw_24 rfl (lv_at hl 0 rfl) ?_
  refine k_goI (gr := [[(q 3, .inl (kA 0, 4, .inl f))]]) (k_rV (pc := 25) (As := []) (rest := []) X (c_Mo_nodes l D kA h q x y al (539 * (31 * j + k)) (by omega) H.size) rfl wm_3025 wm_9 wm_3022 wm_3024 wv_13_3 0 (by decide +kernel) ⟨Nat.le_of_ble_eq_true rfl, Nat.le_of_ble_eq_true rfl⟩ rfl rfl (va_recv hK hP (ci := 13) (q0 := 1) rfl rfl) (k_pre hN hK hP hD [1, 0] [2] 3 rfl (by decide) rfl) rfl hl.1 rfl (Nat.le_of_ble_eq_true rfl) d_Mo_draw_25 ⟨Nat.le_of_ble_eq_true rfl, Nat.le_of_ble_eq_true rfl⟩) hP hD hS hA [1, 0] [2] 3 rfl (by decide) rfl rfl (fun r6 u7 H locs hu7 hP hD hS => ?_)
  subst hu7
  have hP : va_P D classes (cat [[(q 3, .inl (kA 0, 4, .inl f))], [(h, .inr (13, mF q (va_up x 5 (nI (539 * (31 * j + k)))) y))], [(q 2, .inl (kA 0, 66836, .inl al))]]) H := hP
  have hD : va_D A (cat [[(q 3, .inl (kA 0, 4, .inl f))], [(h, .inr (13, mF q (va_up x 5 (nI (539 * (31 * j + k)))) y))], [(q 2, .inl (kA 0, 66836, .inl al))]]) := hD
  refine k_cst (v := 0) (hz) ?_
  refine lv_if_ne (pc := 28) (tgt := 33) hx hb d_Mo_draw_28 (by decide) (fun c1 => absurd (by decide) c1) (fun c1 => ?_)
  refine lv_iconst (pc := 31) (v := -1) hx hb d_Mo_draw_31 (by decide) ?_
  obtain ⟨hP, hD⟩ := k_ord (gc := [[(h, .inr (13, mF q (va_up x 5 (nI (539 * (31 * j + k)))) y))], [(q 3, .inl (kA 0, 4, .inl f))], [(q 2, .inl (kA 0, 66836, .inl al))]]) hP hD [1, 0, 2] 3 rfl (by decide) rfl
  refine W.widen (k := 0) (n := 0) (Nat.le_of_ble_eq_true rfl) (Nat.le_of_ble_eq_true rfl) ?_
  exact W.iret (v := ((-1))) hx hb hr (fun t ht hW => ⟨⟨((-1)), (), rfl, (by unfold sp_Mo_draw_em; rfl), by rw [ht]; exact hP, va_K.moved hW.alike hK, hD⟩, hS.F ht⟩) hS.2.2 d_Mo_draw_32
