theorem wm_131 : (Cond.fieldLink "DrawingHouse" (221 : Nat) "DrawingHouse$Graph" "within" "[I" : Cond) ∈ lw_g := lw_gi (lw_c1 (List.mem_of_getElem? (i := 131) rfl)) rfl
theorem wm_138 : (Cond.fieldLink "DrawingHouse" (224 : Nat) "DrawingHouse$Graph" "groupNameLength" "[I" : Cond) ∈ lw_g := lw_gi (lw_c1 (List.mem_of_getElem? (i := 138) rfl)) rfl
theorem wm_946 : (Cond.code ({ cls := "DrawingHouse$Graph", name := "sizeOfGroup", desc := "(I)I" } : MethodName) prog_5_method_10_code (6 : Nat) (Option.some ClassFile.FieldType.int) : Cond) ∈ lw_g := lw_gi (lw_c4 (List.mem_of_getElem? (i := 226) rfl)) rfl
abbrev b_Gr_sizeOfGroup : ByteArray := prog_5_method_10_code
def y_Gr_sizeOfGroup : MethodName := ⟨"DrawingHouse$Graph", "sizeOfGroup", "(I)I"⟩
abbrev z_Gr_sizeOfGroup : List Cond := Cond.code y_Gr_sizeOfGroup b_Gr_sizeOfGroup 6 (some .int) :: lw_g
theorem d_Gr_sizeOfGroup_0 : decode b_Gr_sizeOfGroup 0 = .ok (.iconst 0, 1) := by decide +kernel
theorem d_Gr_sizeOfGroup_1 : decode b_Gr_sizeOfGroup 1 = .ok (.istore_n 2, 1) := by decide +kernel
theorem d_Gr_sizeOfGroup_2 : decode b_Gr_sizeOfGroup 2 = .ok (.iconst 0, 1) := by decide +kernel
theorem d_Gr_sizeOfGroup_3 : decode b_Gr_sizeOfGroup 3 = .ok (.istore_n 3, 1) := by decide +kernel
theorem d_Gr_sizeOfGroup_4 : decode b_Gr_sizeOfGroup 4 = .ok (.iload_n 3, 1) := by decide +kernel
theorem d_Gr_sizeOfGroup_5 : decode b_Gr_sizeOfGroup 5 = .ok (.aload_n 0, 1) := by decide +kernel
theorem d_Gr_sizeOfGroup_6 : decode b_Gr_sizeOfGroup 6 = .ok (.getfield 9, 3) := by decide +kernel
theorem d_Gr_sizeOfGroup_9 : decode b_Gr_sizeOfGroup 9 = .ok (.if_icmp .ge 63, 3) := by decide +kernel
theorem d_Gr_sizeOfGroup_72 : decode b_Gr_sizeOfGroup 72 = .ok (.iload_n 2, 1) := by decide +kernel
theorem d_Gr_sizeOfGroup_73 : decode b_Gr_sizeOfGroup 73 = .ok (.ireturn, 1) := by decide +kernel
theorem d_Ho_group_22 : decode b_Ho_group 22 = .ok (.iload_n 3, 1) := by decide +kernel
theorem d_Ho_group_23 : decode b_Ho_group 23 = .ok (.tableswitch 60 0 2 #[25, 37, 49], 25) := by decide +kernel
theorem d_Ho_group_48 : decode b_Ho_group 48 = .ok (.aload_n 0, 1) := by decide +kernel
theorem d_Ho_group_49 : decode b_Ho_group 49 = .ok (.getfield 13, 3) := by decide +kernel
theorem d_Ho_group_52 : decode b_Ho_group 52 = .ok (.iload_n 1, 1) := by decide +kernel
theorem d_Ho_group_53 : decode b_Ho_group 53 = .ok (.aaload, 1) := by decide +kernel
theorem d_Ho_group_54 : decode b_Ho_group 54 = .ok (.getfield 221, 3) := by decide +kernel
theorem d_Ho_group_57 : decode b_Ho_group 57 = .ok (.iload_n 2, 1) := by decide +kernel
theorem d_Ho_group_58 : decode b_Ho_group 58 = .ok (.iaload, 1) := by decide +kernel
theorem d_Ho_group_59 : decode b_Ho_group 59 = .ok (.ireturn, 1) := by decide +kernel
theorem d_Ho_group_60 : decode b_Ho_group 60 = .ok (.aload_n 0, 1) := by decide +kernel
theorem d_Ho_group_61 : decode b_Ho_group 61 = .ok (.getfield 13, 3) := by decide +kernel
theorem d_Ho_group_64 : decode b_Ho_group 64 = .ok (.iload_n 1, 1) := by decide +kernel
theorem d_Ho_group_65 : decode b_Ho_group 65 = .ok (.aaload, 1) := by decide +kernel
theorem d_Ho_group_66 : decode b_Ho_group 66 = .ok (.getfield 224, 3) := by decide +kernel
theorem d_Ho_group_69 : decode b_Ho_group 69 = .ok (.iload_n 2, 1) := by decide +kernel
theorem d_Ho_group_70 : decode b_Ho_group 70 = .ok (.iaload, 1) := by decide +kernel
theorem d_Ho_group_71 : decode b_Ho_group 71 = .ok (.ireturn, 1) := by decide +kernel
def sp_Gr_sizeOfGroup_em  : Int32 := 0
set_option maxRecDepth 100000 in
set_option maxHeartbeats 4000000 in
/-- DrawingHouse$Graph.sizeOfGroup(I)I -/
theorem c_Gr_sizeOfGroup_em (l : Launch) (D : va_G) (kA : Nat → ClassId) (h : Nat) (q : Nat → Nat) (x : Nat → Int32) (o16 : Option Nat) (i1 : Int32)  : Ci l y_Gr_sizeOfGroup z_Gr_sizeOfGroup { frames := 0, cells := 0, slots := 0, locals := 0 } D classes (TY kA) [.ref h, .int i1] [[(h, .inr (3, fGr q (va_up x 0 0) o16))]] (fun r (_ : Unit) => r = sp_Gr_sizeOfGroup_em ) (fun _ => [[(h, .inr (3, fGr q (va_up x 0 0) o16))]]) 0 0 := by
  intro sz
  refine k_met (cc := b_Gr_sizeOfGroup) (maxL := 6) (ret := (some .int)) (by decide) rfl (Nat.le_of_ble_eq_true rfl) (fun p e s m below meth c ls X hl hB => ?_)
  obtain ⟨hsz, hP, hK, hD0, hN⟩ := hB
  subst hsz
  have hD := hD0.self (sz := s.heap.size)
  generalize hAe : va_A (cat [[(h, .inr (3, fGr q (va_up x 0 0) o16))]]) s.heap.size = A at hD ⊢
  have hA : ∀ q : Nat, s.heap.size ≤ q → A q := fun q h => by rw [← hAe]; exact Or.inr h
  have hS : va_S A s.heap s.heap [] := va_S.rf
  obtain ⟨hx, hb, hml, hown, hts, hr, hlk, hnm⟩ := id X
  have hl : lv_has ls 6 [(0, .ref h), (1, .int i1)] := hl
  have hP : va_P D classes (cat [[(h, .inr (3, fGr q (va_up x 0 0) o16))]]) s.heap := hP
  have hK : va_K D classes (TY kA) s := hK
  refine lv_iconst (pc := 0) (v := 0) hx hb d_Gr_sizeOfGroup_0 (by decide) ?_
  refine lv_istore_n (pc := 1) (lv' := [(2, .int 0), (0, .ref h), (1, .int i1)]) hx hb d_Gr_sizeOfGroup_1 rfl hl (by decide) rfl (fun ls hl => ?_)
  refine lv_iconst (pc := 2) (v := 0) hx hb d_Gr_sizeOfGroup_2 (by decide) ?_
  refine lv_istore_n (pc := 3) (lv' := [(3, .int 0), (2, .int 0), (0, .ref h), (1, .int i1)]) hx hb d_Gr_sizeOfGroup_3 rfl hl (by decide) rfl (fun ls hl => ?_)
  refine lv_iload_n (pc := 4) hx hb d_Gr_sizeOfGroup_4 rfl (lv_at hl 0 rfl) ?_
  refine lv_aload_n (pc := 5) hx hb d_Gr_sizeOfGroup_5 rfl (lv_at hl 2 rfl) ?_
  refine k_get (pc := 6) (v := .int 0) X hK hP 0 rfl rfl i_Gr 0 (by decide) wm_56 rfl rfl d_Gr_sizeOfGroup_6 ?_
  refine lv_icmp_ge (pc := 9) (tgt := 72) hx hb d_Gr_sizeOfGroup_9 (by decide) (fun _ => ?_) (fun c1 => absurd (by decide) c1)
  refine lv_iload_n (pc := 72) hx hb d_Gr_sizeOfGroup_72 rfl (lv_at hl 1 rfl) ?_
  refine W.widen (k := 0) (n := 0) (Nat.le_of_ble_eq_true rfl) (Nat.le_of_ble_eq_true rfl) ?_
  exact W.iret (v := 0) hx hb hr (fun t ht hW => ⟨⟨0, (), rfl, (by unfold sp_Gr_sizeOfGroup_em; rfl), by rw [ht]; exact hP, va_K.moved hW.alike hK, hD⟩, hS.F ht⟩) hS.2.2 d_Gr_sizeOfGroup_73
def sp_Ho_group_0 (f : Nat → Int32) (i0 : Nat) : Int32 := f i0
set_option maxRecDepth 100000 in
set_option maxHeartbeats 4000000 in
/-- DrawingHouse.group(III)I -/
theorem c_Ho_group_0 (l : Launch) (D : va_G) (kA : Nat → ClassId) (h : Nat) (q : Nat → Nat) (x : Nat → Int32) (o16 o17 o18 o19 o20 : Option Nat) (g : Nat → Nat → Nat) (qg : Nat → Nat) (xg : Nat → Int32) (og : Option Nat) (f : Nat → Int32) (j i0 : Nat) (hj : j < 4) (hi : i0 < 8) (hu : ¬ sp_Gr_hasGroup xg (nI i0) = 0)  : Ci l y_Ho_group z_Ho_group { frames := 1, cells := 0, slots := 0, locals := 24 } D classes (TY kA) [.ref h, .int (nI j), .int (nI i0), .int 0] [[(h, .inr (12, fHo q x o16 o17 o18 o19 o20))], [(q 0, .inl (kA 4, 4, .inr (.inr (.inr (.inr (rr (g 0)))))))], [(g 0 j, .inr (3, fGr qg xg og))], [(qg 11, .inl (kA 0, 8, .inl f))]] (fun r (_ : Unit) => r = sp_Ho_group_0 f i0) (fun _ => [[(h, .inr (12, fHo q x o16 o17 o18 o19 o20))], [(q 0, .inl (kA 4, 4, .inr (.inr (.inr (.inr (rr (g 0)))))))], [(g 0 j, .inr (3, fGr qg xg og))], [(qg 11, .inl (kA 0, 8, .inl f))]]) 0 0 := by
  intro sz
  refine k_met (cc := b_Ho_group) (maxL := 4) (ret := (some .int)) (by decide) rfl (Nat.le_of_ble_eq_true rfl) (fun p e s m below meth c ls X hl hB => ?_)
  obtain ⟨hsz, hP, hK, hD0, hN⟩ := hB
  subst hsz
  have hD := hD0.self (sz := s.heap.size)
  generalize hAe : va_A (cat [[(h, .inr (12, fHo q x o16 o17 o18 o19 o20))], [(q 0, .inl (kA 4, 4, .inr (.inr (.inr (.inr (rr (g 0)))))))], [(g 0 j, .inr (3, fGr qg xg og))], [(qg 11, .inl (kA 0, 8, .inl f))]]) s.heap.size = A at hD ⊢
  have hA : ∀ q : Nat, s.heap.size ≤ q → A q := fun q h => by rw [← hAe]; exact Or.inr h
  have hS : va_S A s.heap s.heap [] := va_S.rf
  obtain ⟨hx, hb, hml, hown, hts, hr, hlk, hnm⟩ := id X
  have hl : lv_has ls 4 [(0, .ref h), (1, .int (nI j)), (2, .int (nI i0)), (3, .int 0)] := hl
  have hP : va_P D classes (cat [[(h, .inr (12, fHo q x o16 o17 o18 o19 o20))], [(q 0, .inl (kA 4, 4, .inr (.inr (.inr (.inr (rr (g 0)))))))], [(g 0 j, .inr (3, fGr qg xg og))], [(qg 11, .inl (kA 0, 8, .inl f))]]) s.heap := hP
  have hK : va_K D classes (TY kA) s := hK
  refine lv_iload_n (pc := 0) hx hb d_Ho_group_0 rfl (lv_at hl 1 rfl) ?_
  refine k_goI (gr := [[(h, .inr (12, fHo q x o16 o17 o18 o19 o20))], [(q 0, .inl (kA 4, 4, .inr (.inr (.inr (.inr (rr (g 0)))))))], [(g 0 j, .inr (3, fGr qg xg og))], [(qg 11, .inl (kA 0, 8, .inl f))]]) (k_rS (pc := 1) (As := [.int (nI j)]) (rest := []) X (c_Ho_isPlace l D kA (nI j) s.heap.size) rfl wm_633 wm_1 wm_631 wm_632 1 (by decide +kernel) ⟨Nat.le_of_ble_eq_true rfl, Nat.le_of_ble_eq_true rfl⟩ rfl rfl (k_pre hN hK hP hD [] [0, 1, 2, 3] 4 rfl (by decide) rfl) rfl hl.1 rfl (Nat.le_of_ble_eq_true rfl) d_Ho_group_1 ⟨Nat.le_of_ble_eq_true rfl, Nat.le_of_ble_eq_true rfl⟩) hP hD hS hA [] [0, 1, 2, 3] 4 rfl (by decide) rfl rfl (fun r1 u2 H locs hu2 hP hD hS => ?_)
  subst hu2
  have hP : va_P D classes (cat [[(h, .inr (12, fHo q x o16 o17 o18 o19 o20))], [(q 0, .inl (kA 4, 4, .inr (.inr (.inr (.inr (rr (g 0)))))))], [(g 0 j, .inr (3, fGr qg xg og))], [(qg 11, .inl (kA 0, 8, .inl f))]]) H := hP
  have hD : va_D A (cat [[(h, .inr (12, fHo q x o16 o17 o18 o19 o20))], [(q 0, .inl (kA 4, 4, .inr (.inr (.inr (.inr (rr (g 0)))))))], [(g 0 j, .inr (3, fGr qg xg og))], [(qg 11, .inl (kA 0, 8, .inl f))]]) := hD
  refine lv_if_eq (pc := 4) (tgt := 20) hx hb d_Ho_group_4 (by decide) (fun c1 => absurd c1 (fun e => absurd ((place_ok hj).symm.trans e) (by decide))) (fun c1 => ?_)
  refine lv_aload_n (pc := 7) hx hb d_Ho_group_7 rfl (lv_at hl 0 rfl) ?_
  refine k_get (pc := 8) X hK hP 0 rfl rfl i_Ho 0 (by decide) wm_555 rfl rfl d_Ho_group_8 ?_
  refine lv_iload_n (pc := 11) hx hb d_Ho_group_11 rfl (lv_at hl 1 rfl) ?_
  refine k_ald (pc := 12) hx hb hK hP 1 4 rfl rfl (j) rfl (by omega) (by decide) (rr_at (by omega)) d_Ho_group_12 ?_
  refine lv_iload_n (pc := 13) hx hb d_Ho_group_13 rfl (lv_at hl 2 rfl) ?_
  refine k_goI (gr := [[(h, .inr (12, fHo q x o16 o17 o18 o19 o20))], [(q 0, .inl (kA 4, 4, .inr (.inr (.inr (.inr (rr (g 0)))))))], [(qg 11, .inl (kA 0, 8, .inl f))]]) (k_rV (pc := 14) (As := [.int (nI i0)]) (rest := []) X (c_Gr_hasGroup l D kA (g 0 j) qg xg og (nI i0) H.size) rfl wm_942 wm_3 wm_939 wm_940 wm_941 1 (by decide +kernel) ⟨Nat.le_of_ble_eq_true rfl, Nat.le_of_ble_eq_true rfl⟩ rfl rfl (va_recv hK hP (ci := 3) (q0 := 2) rfl rfl) (k_pre hN hK hP hD [2] [0, 1, 3] 4 rfl (by decide) rfl) rfl hl.1 rfl (Nat.le_of_ble_eq_true rfl) d_Ho_group_14 ⟨Nat.le_of_ble_eq_true rfl, Nat.le_of_ble_eq_true rfl⟩) hP hD hS hA [2] [0, 1, 3] 4 rfl (by decide) rfl rfl (fun r3 u4 H locs hu4 hP hD hS => ?_)
  subst hu4
  have hP : va_P D classes (cat [[(h, .inr (12, fHo q x o16 o17 o18 o19 o20))], [(q 0, .inl (kA 4, 4, .inr (.inr (.inr (.inr (rr (g 0)))))))], [(qg 11, .inl (kA 0, 8, .inl f))], [(g 0 j, .inr (3, fGr qg xg og))]]) H := hP
  have hD : va_D A (cat [[(h, .inr (12, fHo q x o16 o17 o18 o19 o20))], [(q 0, .inl (kA 4, 4, .inr (.inr (.inr (.inr (rr (g 0)))))))], [(qg 11, .inl (kA 0, 8, .inl f))], [(g 0 j, .inr (3, fGr qg xg og))]]) := hD
  refine lv_if_ne (pc := 17) (tgt := 22) hx hb d_Ho_group_17 (by decide) (fun c1 => ?_) (fun c1 => absurd c1 (hu))
  refine lv_iload_n (pc := 22) hx hb d_Ho_group_22 rfl (lv_at hl 3 rfl) ?_
  refine lv_tableIn (pc := 23) (tgt := 48) hx hb d_Ho_group_23 (by decide) (by decide) rfl (by decide) ?_
  refine lv_aload_n (pc := 48) hx hb d_Ho_group_48 rfl (lv_at hl 0 rfl) ?_
  refine k_get (pc := 49) X hK hP 0 rfl rfl i_Ho 0 (by decide) wm_555 rfl rfl d_Ho_group_49 ?_
  refine lv_iload_n (pc := 52) hx hb d_Ho_group_52 rfl (lv_at hl 1 rfl) ?_
  refine k_ald (pc := 53) hx hb hK hP 1 4 rfl rfl (j) rfl (by omega) (by decide) (rr_at (by omega)) d_Ho_group_53 ?_
  refine k_get (pc := 54) X hK hP 3 rfl rfl i_Gr 11 (by decide) wm_131 rfl rfl d_Ho_group_54 ?_
  refine lv_iload_n (pc := 57) hx hb d_Ho_group_57 rfl (lv_at hl 2 rfl) ?_
  refine k_ild (pc := 58) hx hb hK hP 2 0 rfl rfl (i0) rfl (by omega) (by decide) d_Ho_group_58 ?_
  obtain ⟨hP, hD⟩ := k_ord (gc := [[(h, .inr (12, fHo q x o16 o17 o18 o19 o20))], [(q 0, .inl (kA 4, 4, .inr (.inr (.inr (.inr (rr (g 0)))))))], [(g 0 j, .inr (3, fGr qg xg og))], [(qg 11, .inl (kA 0, 8, .inl f))]]) hP hD [0, 1, 3, 2] 4 rfl (by decide) rfl
  refine W.widen (k := 0) (n := 0) (Nat.le_of_ble_eq_true rfl) (Nat.le_of_ble_eq_true rfl) ?_
  exact W.iret (v := (f i0)) hx hb hr (fun t ht hW => ⟨⟨(f i0), (), rfl, (by unfold sp_Ho_group_0; rfl), by rw [ht]; exact hP, va_K.moved hW.alike hK, hD⟩, hS.F ht⟩) hS.2.2 d_Ho_group_59
def sp_Ho_group_1 (f : Nat → Int32) (i0 : Nat) : Int32 := f i0
set_option maxRecDepth 100000 in
set_option maxHeartbeats 4000000 in
/-- DrawingHouse.group(III)I -/
theorem c_Ho_group_1 (l : Launch) (D : va_G) (kA : Nat → ClassId) (h : Nat) (q : Nat → Nat) (x : Nat → Int32) (o16 o17 o18 o19 o20 : Option Nat) (g : Nat → Nat → Nat) (qg : Nat → Nat) (xg : Nat → Int32) (og : Option Nat) (f : Nat → Int32) (j i0 : Nat) (hj : j < 4) (hi : i0 < 8) (hu : ¬ sp_Gr_hasGroup xg (nI i0) = 0)  : Ci l y_Ho_group z_Ho_group { frames := 1, cells := 0, slots := 0, locals := 24 } D classes (TY kA) [.ref h, .int (nI j), .int (nI i0), .int 1] [[(h, .inr (12, fHo q x o16 o17 o18 o19 o20))], [(q 0, .inl (kA 4, 4, .inr (.inr (.inr (.inr (rr (g 0)))))))], [(g 0 j, .inr (3, fGr qg xg og))], [(qg 13, .inl (kA 0, 8, .inl f))]] (fun r (_ : Unit) => r = sp_Ho_group_1 f i0) (fun _ => [[(h, .inr (12, fHo q x o16 o17 o18 o19 o20))], [(q 0, .inl (kA 4, 4, .inr (.inr (.inr (.inr (rr (g 0)))))))], [(g 0 j, .inr (3, fGr qg xg og))], [(qg 13, .inl (kA 0, 8, .inl f))]]) 0 0 := by
  intro sz
  refine k_met (cc := b_Ho_group) (maxL := 4) (ret := (some .int)) (by decide) rfl (Nat.le_of_ble_eq_true rfl) (fun p e s m below meth c ls X hl hB => ?_)
  obtain ⟨hsz, hP, hK, hD0, hN⟩ := hB
  subst hsz
  have hD := hD0.self (sz := s.heap.size)
  generalize hAe : va_A (cat [[(h, .inr (12, fHo q x o16 o17 o18 o19 o20))], [(q 0, .inl (kA 4, 4, .inr (.inr (.inr (.inr (rr (g 0)))))))], [(g 0 j, .inr (3, fGr qg xg og))], [(qg 13, .inl (kA 0, 8, .inl f))]]) s.heap.size = A at hD ⊢
  have hA : ∀ q : Nat, s.heap.size ≤ q → A q := fun q h => by rw [← hAe]; exact Or.inr h
  have hS : va_S A s.heap s.heap [] := va_S.rf
  obtain ⟨hx, hb, hml, hown, hts, hr, hlk, hnm⟩ := id X
  have hl : lv_has ls 4 [(0, .ref h), (1, .int (nI j)), (2, .int (nI i0)), (3, .int 1)] := hl
  have hP : va_P D classes (cat [[(h, .inr (12, fHo q x o16 o17 o18 o19 o20))], [(q 0, .inl (kA 4, 4, .inr (.inr (.inr (.inr (rr (g 0)))))))], [(g 0 j, .inr (3, fGr qg xg og))], [(qg 13, .inl (kA 0, 8, .inl f))]]) s.heap := hP
  have hK : va_K D classes (TY kA) s := hK
  refine lv_iload_n (pc := 0) hx hb d_Ho_group_0 rfl (lv_at hl 1 rfl) ?_
  refine k_goI (gr := [[(h, .inr (12, fHo q x o16 o17 o18 o19 o20))], [(q 0, .inl (kA 4, 4, .inr (.inr (.inr (.inr (rr (g 0)))))))], [(g 0 j, .inr (3, fGr qg xg og))], [(qg 13, .inl (kA 0, 8, .inl f))]]) (k_rS (pc := 1) (As := [.int (nI j)]) (rest := []) X (c_Ho_isPlace l D kA (nI j) s.heap.size) rfl wm_633 wm_1 wm_631 wm_632 1 (by decide +kernel) ⟨Nat.le_of_ble_eq_true rfl, Nat.le_of_ble_eq_true rfl⟩ rfl rfl (k_pre hN hK hP hD [] [0, 1, 2, 3] 4 rfl (by decide) rfl) rfl hl.1 rfl (Nat.le_of_ble_eq_true rfl) d_Ho_group_1 ⟨Nat.le_of_ble_eq_true rfl, Nat.le_of_ble_eq_true rfl⟩) hP hD hS hA [] [0, 1, 2, 3] 4 rfl (by decide) rfl rfl (fun r1 u2 H locs hu2 hP hD hS => ?_)
  subst hu2
  have hP : va_P D classes (cat [[(h, .inr (12, fHo q x o16 o17 o18 o19 o20))], [(q 0, .inl (kA 4, 4, .inr (.inr (.inr (.inr (rr (g 0)))))))], [(g 0 j, .inr (3, fGr qg xg og))], [(qg 13, .inl (kA 0, 8, .inl f))]]) H := hP
  have hD : va_D A (cat [[(h, .inr (12, fHo q x o16 o17 o18 o19 o20))], [(q 0, .inl (kA 4, 4, .inr (.inr (.inr (.inr (rr (g 0)))))))], [(g 0 j, .inr (3, fGr qg xg og))], [(qg 13, .inl (kA 0, 8, .inl f))]]) := hD
  refine lv_if_eq (pc := 4) (tgt := 20) hx hb d_Ho_group_4 (by decide) (fun c1 => absurd c1 (fun e => absurd ((place_ok hj).symm.trans e) (by decide))) (fun c1 => ?_)
  refine lv_aload_n (pc := 7) hx hb d_Ho_group_7 rfl (lv_at hl 0 rfl) ?_
  refine k_get (pc := 8) X hK hP 0 rfl rfl i_Ho 0 (by decide) wm_555 rfl rfl d_Ho_group_8 ?_
  refine lv_iload_n (pc := 11) hx hb d_Ho_group_11 rfl (lv_at hl 1 rfl) ?_
  refine k_ald (pc := 12) hx hb hK hP 1 4 rfl rfl (j) rfl (by omega) (by decide) (rr_at (by omega)) d_Ho_group_12 ?_
  refine lv_iload_n (pc := 13) hx hb d_Ho_group_13 rfl (lv_at hl 2 rfl) ?_
  refine k_goI (gr := [[(h, .inr (12, fHo q x o16 o17 o18 o19 o20))], [(q 0, .inl (kA 4, 4, .inr (.inr (.inr (.inr (rr (g 0)))))))], [(qg 13, .inl (kA 0, 8, .inl f))]]) (k_rV (pc := 14) (As := [.int (nI i0)]) (rest := []) X (c_Gr_hasGroup l D kA (g 0 j) qg xg og (nI i0) H.size) rfl wm_942 wm_3 wm_939 wm_940 wm_941 1 (by decide +kernel) ⟨Nat.le_of_ble_eq_true rfl, Nat.le_of_ble_eq_true rfl⟩ rfl rfl (va_recv hK hP (ci := 3) (q0 := 2) rfl rfl) (k_pre hN hK hP hD [2] [0, 1, 3] 4 rfl (by decide) rfl) rfl hl.1 rfl (Nat.le_of_ble_eq_true rfl) d_Ho_group_14 ⟨Nat.le_of_ble_eq_true rfl, Nat.le_of_ble_eq_true rfl⟩) hP hD hS hA [2] [0, 1, 3] 4 rfl (by decide) rfl rfl (fun r3 u4 H locs hu4 hP hD hS => ?_)
  subst hu4
  have hP : va_P D classes (cat [[(h, .inr (12, fHo q x o16 o17 o18 o19 o20))], [(q 0, .inl (kA 4, 4, .inr (.inr (.inr (.inr (rr (g 0)))))))], [(qg 13, .inl (kA 0, 8, .inl f))], [(g 0 j, .inr (3, fGr qg xg og))]]) H := hP
  have hD : va_D A (cat [[(h, .inr (12, fHo q x o16 o17 o18 o19 o20))], [(q 0, .inl (kA 4, 4, .inr (.inr (.inr (.inr (rr (g 0)))))))], [(qg 13, .inl (kA 0, 8, .inl f))], [(g 0 j, .inr (3, fGr qg xg og))]]) := hD
  refine lv_if_ne (pc := 17) (tgt := 22) hx hb d_Ho_group_17 (by decide) (fun c1 => ?_) (fun c1 => absurd c1 (hu))
  refine lv_iload_n (pc := 22) hx hb d_Ho_group_22 rfl (lv_at hl 3 rfl) ?_
  refine lv_tableIn (pc := 23) (tgt := 60) hx hb d_Ho_group_23 (by decide) (by decide) rfl (by decide) ?_
  refine lv_aload_n (pc := 60) hx hb d_Ho_group_60 rfl (lv_at hl 0 rfl) ?_
  refine k_get (pc := 61) X hK hP 0 rfl rfl i_Ho 0 (by decide) wm_555 rfl rfl d_Ho_group_61 ?_
  refine lv_iload_n (pc := 64) hx hb d_Ho_group_64 rfl (lv_at hl 1 rfl) ?_
  refine k_ald (pc := 65) hx hb hK hP 1 4 rfl rfl (j) rfl (by omega) (by decide) (rr_at (by omega)) d_Ho_group_65 ?_
  refine k_get (pc := 66) X hK hP 3 rfl rfl i_Gr 13 (by decide) wm_138 rfl rfl d_Ho_group_66 ?_
  refine lv_iload_n (pc := 69) hx hb d_Ho_group_69 rfl (lv_at hl 2 rfl) ?_
  refine k_ild (pc := 70) hx hb hK hP 2 0 rfl rfl (i0) rfl (by omega) (by decide) d_Ho_group_70 ?_
  obtain ⟨hP, hD⟩ := k_ord (gc := [[(h, .inr (12, fHo q x o16 o17 o18 o19 o20))], [(q 0, .inl (kA 4, 4, .inr (.inr (.inr (.inr (rr (g 0)))))))], [(g 0 j, .inr (3, fGr qg xg og))], [(qg 13, .inl (kA 0, 8, .inl f))]]) hP hD [0, 1, 3, 2] 4 rfl (by decide) rfl
  refine W.widen (k := 0) (n := 0) (Nat.le_of_ble_eq_true rfl) (Nat.le_of_ble_eq_true rfl) ?_
  exact W.iret (v := (f i0)) hx hb hr (fun t ht hW => ⟨⟨(f i0), (), rfl, (by unfold sp_Ho_group_1; rfl), by rw [ht]; exact hP, va_K.moved hW.alike hK, hD⟩, hS.F ht⟩) hS.2.2 d_Ho_group_71
