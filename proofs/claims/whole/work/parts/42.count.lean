theorem wm_73 : (Cond.fieldLink "DrawingHouse" (141 : Nat) "DrawingHouse$Graph" "edges" "I" : Cond) ∈ lw_g := lw_gi (lw_c1 (List.mem_of_getElem? (i := 73) rfl)) rfl
theorem wm_80 : (Cond.fieldLink "DrawingHouse" (144 : Nat) "DrawingHouse$Graph" "groups" "I" : Cond) ∈ lw_g := lw_gi (lw_c1 (List.mem_of_getElem? (i := 80) rfl)) rfl
theorem wm_150 : (Cond.fieldLink "DrawingHouse" (160 : Nat) "DrawingHouse$Graph" "done" "I" : Cond) ∈ lw_g := lw_gi (lw_c1 (List.mem_of_getElem? (i := 150) rfl)) rfl
theorem wm_152 : (Cond.fieldLink "DrawingHouse" (163 : Nat) "DrawingHouse$Graph" "undone" "I" : Cond) ∈ lw_g := lw_gi (lw_c1 (List.mem_of_getElem? (i := 152) rfl)) rfl
theorem wm_806 : (Cond.code ({ cls := "DrawingHouse", name := "count", desc := "(II)I" } : MethodName) prog_1_method_5_code (3 : Nat) (Option.some ClassFile.FieldType.int) : Cond) ∈ lw_g := lw_gi (lw_c4 (List.mem_of_getElem? (i := 86) rfl)) rfl
theorem wm_3279 : (Cond.code ({ cls := "DrawingHouseModel", name := "count", desc := "(II)I" } : MethodName) prog_15_method_98_code (3 : Nat) (Option.some ClassFile.FieldType.int) : Cond) ∈ lw_g := lw_gi (lw_c14 (List.mem_of_getElem? (i := 159) rfl)) rfl
abbrev b_Ho_count : ByteArray := prog_1_method_5_code
def y_Ho_count : MethodName := ⟨"DrawingHouse", "count", "(II)I"⟩
abbrev z_Ho_count : List Cond := Cond.code y_Ho_count b_Ho_count 3 (some .int) :: lw_g
theorem d_Ho_count_0 : decode b_Ho_count 0 = .ok (.iload_n 1, 1) := by decide +kernel
theorem d_Ho_count_1 : decode b_Ho_count 1 = .ok (.invokestatic 115, 3) := by decide +kernel
theorem d_Ho_count_4 : decode b_Ho_count 4 = .ok (.ifCond .ne 5, 3) := by decide +kernel
theorem d_Ho_count_7 : decode b_Ho_count 7 = .ok (.iconst (-1), 1) := by decide +kernel
theorem d_Ho_count_8 : decode b_Ho_count 8 = .ok (.ireturn, 1) := by decide +kernel
theorem d_Ho_count_9 : decode b_Ho_count 9 = .ok (.iload_n 2, 1) := by decide +kernel
theorem d_Ho_count_10 : decode b_Ho_count 10 = .ok (.tableswitch 123 0 7 #[46, 56, 66, 76, 85, 94, 103, 113], 46) := by decide +kernel
theorem d_Ho_count_56 : decode b_Ho_count 56 = .ok (.aload_n 0, 1) := by decide +kernel
theorem d_Ho_count_57 : decode b_Ho_count 57 = .ok (.getfield 13, 3) := by decide +kernel
theorem d_Ho_count_60 : decode b_Ho_count 60 = .ok (.iload_n 1, 1) := by decide +kernel
theorem d_Ho_count_61 : decode b_Ho_count 61 = .ok (.aaload, 1) := by decide +kernel
theorem d_Ho_count_62 : decode b_Ho_count 62 = .ok (.getfield 132, 3) := by decide +kernel
theorem d_Ho_count_65 : decode b_Ho_count 65 = .ok (.ireturn, 1) := by decide +kernel
theorem d_Ho_count_66 : decode b_Ho_count 66 = .ok (.aload_n 0, 1) := by decide +kernel
theorem d_Ho_count_67 : decode b_Ho_count 67 = .ok (.getfield 13, 3) := by decide +kernel
theorem d_Ho_count_70 : decode b_Ho_count 70 = .ok (.iload_n 1, 1) := by decide +kernel
theorem d_Ho_count_71 : decode b_Ho_count 71 = .ok (.aaload, 1) := by decide +kernel
theorem d_Ho_count_72 : decode b_Ho_count 72 = .ok (.getfield 141, 3) := by decide +kernel
theorem d_Ho_count_75 : decode b_Ho_count 75 = .ok (.ireturn, 1) := by decide +kernel
theorem d_Ho_count_76 : decode b_Ho_count 76 = .ok (.aload_n 0, 1) := by decide +kernel
theorem d_Ho_count_77 : decode b_Ho_count 77 = .ok (.getfield 13, 3) := by decide +kernel
theorem d_Ho_count_80 : decode b_Ho_count 80 = .ok (.iload_n 1, 1) := by decide +kernel
theorem d_Ho_count_81 : decode b_Ho_count 81 = .ok (.aaload, 1) := by decide +kernel
theorem d_Ho_count_82 : decode b_Ho_count 82 = .ok (.getfield 144, 3) := by decide +kernel
theorem d_Ho_count_85 : decode b_Ho_count 85 = .ok (.ireturn, 1) := by decide +kernel
theorem d_Ho_count_113 : decode b_Ho_count 113 = .ok (.aload_n 0, 1) := by decide +kernel
theorem d_Ho_count_114 : decode b_Ho_count 114 = .ok (.getfield 13, 3) := by decide +kernel
theorem d_Ho_count_117 : decode b_Ho_count 117 = .ok (.iload_n 1, 1) := by decide +kernel
theorem d_Ho_count_118 : decode b_Ho_count 118 = .ok (.aaload, 1) := by decide +kernel
theorem d_Ho_count_119 : decode b_Ho_count 119 = .ok (.getfield 160, 3) := by decide +kernel
theorem d_Ho_count_122 : decode b_Ho_count 122 = .ok (.ireturn, 1) := by decide +kernel
theorem d_Ho_count_123 : decode b_Ho_count 123 = .ok (.aload_n 0, 1) := by decide +kernel
theorem d_Ho_count_124 : decode b_Ho_count 124 = .ok (.getfield 13, 3) := by decide +kernel
theorem d_Ho_count_127 : decode b_Ho_count 127 = .ok (.iload_n 1, 1) := by decide +kernel
theorem d_Ho_count_128 : decode b_Ho_count 128 = .ok (.aaload, 1) := by decide +kernel
theorem d_Ho_count_129 : decode b_Ho_count 129 = .ok (.getfield 163, 3) := by decide +kernel
theorem d_Ho_count_132 : decode b_Ho_count 132 = .ok (.ireturn, 1) := by decide +kernel
abbrev b_Mo_count : ByteArray := prog_15_method_98_code
def y_Mo_count : MethodName := ⟨"DrawingHouseModel", "count", "(II)I"⟩
abbrev z_Mo_count : List Cond := Cond.code y_Mo_count b_Mo_count 3 (some .int) :: lw_g
theorem d_Mo_count_0 : decode b_Mo_count 0 = .ok (.iload_n 1, 1) := by decide +kernel
theorem d_Mo_count_1 : decode b_Mo_count 1 = .ok (.invokestatic 521, 3) := by decide +kernel
theorem d_Mo_count_4 : decode b_Mo_count 4 = .ok (.ifCond .ne 5, 3) := by decide +kernel
theorem d_Mo_count_7 : decode b_Mo_count 7 = .ok (.iconst (-1), 1) := by decide +kernel
theorem d_Mo_count_8 : decode b_Mo_count 8 = .ok (.ireturn, 1) := by decide +kernel
theorem d_Mo_count_9 : decode b_Mo_count 9 = .ok (.aload_n 0, 1) := by decide +kernel
theorem d_Mo_count_10 : decode b_Mo_count 10 = .ok (.iload_n 1, 1) := by decide +kernel
theorem d_Mo_count_11 : decode b_Mo_count 11 = .ok (.invokevirtual 527, 3) := by decide +kernel
theorem d_Mo_count_14 : decode b_Mo_count 14 = .ok (.iload_n 2, 1) := by decide +kernel
theorem d_Mo_count_15 : decode b_Mo_count 15 = .ok (.tableswitch 101 0 7 #[45, 50, 55, 60, 65, 74, 80, 87], 45) := by decide +kernel
theorem d_Mo_count_60 : decode b_Mo_count 60 = .ok (.aload_n 0, 1) := by decide +kernel
theorem d_Mo_count_61 : decode b_Mo_count 61 = .ok (.invokevirtual 475, 3) := by decide +kernel
theorem d_Mo_count_64 : decode b_Mo_count 64 = .ok (.ireturn, 1) := by decide +kernel
theorem d_Mo_count_65 : decode b_Mo_count 65 = .ok (.aload_n 0, 1) := by decide +kernel
theorem d_Mo_count_66 : decode b_Mo_count 66 = .ok (.invokevirtual 401, 3) := by decide +kernel
theorem d_Mo_count_69 : decode b_Mo_count 69 = .ok (.ireturn, 1) := by decide +kernel
theorem d_Mo_count_70 : decode b_Mo_count 70 = .ok (.aload_n 0, 1) := by decide +kernel
theorem d_Mo_count_71 : decode b_Mo_count 71 = .ok (.invokevirtual 509, 3) := by decide +kernel
theorem d_Mo_count_74 : decode b_Mo_count 74 = .ok (.ireturn, 1) := by decide +kernel
theorem d_Mo_count_95 : decode b_Mo_count 95 = .ok (.aload_n 0, 1) := by decide +kernel
theorem d_Mo_count_96 : decode b_Mo_count 96 = .ok (.getfield 20, 3) := by decide +kernel
theorem d_Mo_count_99 : decode b_Mo_count 99 = .ok (.iload_n 1, 1) := by decide +kernel
theorem d_Mo_count_100 : decode b_Mo_count 100 = .ok (.iaload, 1) := by decide +kernel
theorem d_Mo_count_101 : decode b_Mo_count 101 = .ok (.ireturn, 1) := by decide +kernel
theorem d_Mo_count_102 : decode b_Mo_count 102 = .ok (.aload_n 0, 1) := by decide +kernel
theorem d_Mo_count_103 : decode b_Mo_count 103 = .ok (.getfield 23, 3) := by decide +kernel
theorem d_Mo_count_106 : decode b_Mo_count 106 = .ok (.iload_n 1, 1) := by decide +kernel
theorem d_Mo_count_107 : decode b_Mo_count 107 = .ok (.iaload, 1) := by decide +kernel
theorem d_Mo_count_108 : decode b_Mo_count 108 = .ok (.aload_n 0, 1) := by decide +kernel
theorem d_Mo_count_109 : decode b_Mo_count 109 = .ok (.getfield 20, 3) := by decide +kernel
theorem d_Mo_count_112 : decode b_Mo_count 112 = .ok (.iload_n 1, 1) := by decide +kernel
theorem d_Mo_count_113 : decode b_Mo_count 113 = .ok (.iaload, 1) := by decide +kernel
theorem d_Mo_count_114 : decode b_Mo_count 114 = .ok (.isub, 1) := by decide +kernel
theorem d_Mo_count_115 : decode b_Mo_count 115 = .ok (.ireturn, 1) := by decide +kernel
def sp_Ho_count_no  : Int32 := (-1)
set_option maxRecDepth 100000 in
set_option maxHeartbeats 4000000 in
/-- DrawingHouse.count(II)I -/
theorem c_Ho_count_no (l : Launch) (D : va_G) (kA : Nat → ClassId) (h : Nat) (q : Nat → Nat) (x : Nat → Int32) (o16 o17 o18 o19 o20 : Option Nat) (gp w1 : Int32) (hg : sp_Ho_isPlace gp = 0)  : Ci l y_Ho_count z_Ho_count { frames := 1, cells := 0, slots := 0, locals := 24 } D classes (TY kA) [.ref h, .int gp, .int w1] [[(h, .inr (12, fHo q x o16 o17 o18 o19 o20))]] (fun r (_ : Unit) => r = sp_Ho_count_no ) (fun _ => [[(h, .inr (12, fHo q x o16 o17 o18 o19 o20))]]) 0 0 := by
  intro sz
  refine k_met (cc := b_Ho_count) (maxL := 3) (ret := (some .int)) (by decide) rfl (Nat.le_of_ble_eq_true rfl) (fun p e s m below meth c ls X hl hB => ?_)
  obtain ⟨hsz, hP, hK, hD0, hN⟩ := hB
  subst hsz
  have hD := hD0.self (sz := s.heap.size)
  generalize hAe : va_A (cat [[(h, .inr (12, fHo q x o16 o17 o18 o19 o20))]]) s.heap.size = A at hD ⊢
  have hA : ∀ q : Nat, s.heap.size ≤ q → A q := fun q h => by rw [← hAe]; exact Or.inr h
  have hS : va_S A s.heap s.heap [] := va_S.rf
  obtain ⟨hx, hb, hml, hown, hts, hr, hlk, hnm⟩ := id X
  have hl : lv_has ls 3 [(0, .ref h), (1, .int gp), (2, .int w1)] := hl
  have hP : va_P D classes (cat [[(h, .inr (12, fHo q x o16 o17 o18 o19 o20))]]) s.heap := hP
  have hK : va_K D classes (TY kA) s := hK
  refine lv_iload_n (pc := 0) hx hb d_Ho_count_0 rfl (lv_at hl 1 rfl) ?_
  refine k_goI (gr := [[(h, .inr (12, fHo q x o16 o17 o18 o19 o20))]]) (k_rS (pc := 1) (As := [.int gp]) (rest := []) X (c_Ho_isPlace l D kA gp s.heap.size) rfl wm_633 wm_1 wm_631 wm_632 1 (by decide +kernel) ⟨Nat.le_of_ble_eq_true rfl, Nat.le_of_ble_eq_true rfl⟩ rfl rfl (k_pre hN hK hP hD [] [0] 1 rfl (by decide) rfl) rfl hl.1 rfl (Nat.le_of_ble_eq_true rfl) d_Ho_count_1 ⟨Nat.le_of_ble_eq_true rfl, Nat.le_of_ble_eq_true rfl⟩) hP hD hS hA [] [0] 1 rfl (by decide) rfl rfl (fun r1 u2 H locs hu2 hP hD hS => ?_)
  subst hu2
  have hP : va_P D classes (cat [[(h, .inr (12, fHo q x o16 o17 o18 o19 o20))]]) H := hP
  have hD : va_D A (cat [[(h, .inr (12, fHo q x o16 o17 o18 o19 o20))]]) := hD
  refine lv_if_ne (pc := 4) (tgt := 9) hx hb d_Ho_count_4 (by decide) (fun c1 => absurd (hg) c1) (fun c1 => ?_)
  refine lv_iconst (pc := 7) (v := -1) hx hb d_Ho_count_7 (by decide) ?_
  refine W.widen (k := 0) (n := 0) (Nat.le_of_ble_eq_true rfl) (Nat.le_of_ble_eq_true rfl) ?_
  exact W.iret (v := ((-1))) hx hb hr (fun t ht hW => ⟨⟨((-1)), (), rfl, (by unfold sp_Ho_count_no; rfl), by rw [ht]; exact hP, va_K.moved hW.alike hK, hD⟩, hS.F ht⟩) hS.2.2 d_Ho_count_8
def sp_Ho_count_0 (xg : Nat → Int32) : Int32 := xg 0
set_option maxRecDepth 100000 in
set_option maxHeartbeats 4000000 in
/-- DrawingHouse.count(II)I -/
theorem c_Ho_count_0 (l : Launch) (D : va_G) (kA : Nat → ClassId) (h : Nat) (q : Nat → Nat) (x : Nat → Int32) (o16 o17 o18 o19 o20 : Option Nat) (g : Nat → Nat → Nat) (qg : Nat → Nat) (xg : Nat → Int32) (og : Option Nat) (j : Nat) (hj : j < 4)  : Ci l y_Ho_count z_Ho_count { frames := 1, cells := 0, slots := 0, locals := 24 } D classes (TY kA) [.ref h, .int (nI j), .int 0] [[(h, .inr (12, fHo q x o16 o17 o18 o19 o20))], [(q 0, .inl (kA 4, 4, .inr (.inr (.inr (.inr (rr (g 0)))))))], [(g 0 j, .inr (3, fGr qg xg og))]] (fun r (_ : Unit) => r = sp_Ho_count_0 xg) (fun _ => [[(h, .inr (12, fHo q x o16 o17 o18 o19 o20))], [(q 0, .inl (kA 4, 4, .inr (.inr (.inr (.inr (rr (g 0)))))))], [(g 0 j, .inr (3, fGr qg xg og))]]) 0 0 := by
  intro sz
  refine k_met (cc := b_Ho_count) (maxL := 3) (ret := (some .int)) (by decide) rfl (Nat.le_of_ble_eq_true rfl) (fun p e s m below meth c ls X hl hB => ?_)
  obtain ⟨hsz, hP, hK, hD0, hN⟩ := hB
  subst hsz
  have hD := hD0.self (sz := s.heap.size)
  generalize hAe : va_A (cat [[(h, .inr (12, fHo q x o16 o17 o18 o19 o20))], [(q 0, .inl (kA 4, 4, .inr (.inr (.inr (.inr (rr (g 0)))))))], [(g 0 j, .inr (3, fGr qg xg og))]]) s.heap.size = A at hD ⊢
  have hA : ∀ q : Nat, s.heap.size ≤ q → A q := fun q h => by rw [← hAe]; exact Or.inr h
  have hS : va_S A s.heap s.heap [] := va_S.rf
  obtain ⟨hx, hb, hml, hown, hts, hr, hlk, hnm⟩ := id X
  have hl : lv_has ls 3 [(0, .ref h), (1, .int (nI j)), (2, .int 0)] := hl
  have hP : va_P D classes (cat [[(h, .inr (12, fHo q x o16 o17 o18 o19 o20))], [(q 0, .inl (kA 4, 4, .inr (.inr (.inr (.inr (rr (g 0)))))))], [(g 0 j, .inr (3, fGr qg xg og))]]) s.heap := hP
  have hK : va_K D classes (TY kA) s := hK
  refine lv_iload_n (pc := 0) hx hb d_Ho_count_0 rfl (lv_at hl 1 rfl) ?_
  refine k_goI (gr := [[(h, .inr (12, fHo q x o16 o17 o18 o19 o20))], [(q 0, .inl (kA 4, 4, .inr (.inr (.inr (.inr (rr (g 0)))))))], [(g 0 j, .inr (3, fGr qg xg og))]]) (k_rS (pc := 1) (As := [.int (nI j)]) (rest := []) X (c_Ho_isPlace l D kA (nI j) s.heap.size) rfl wm_633 wm_1 wm_631 wm_632 1 (by decide +kernel) ⟨Nat.le_of_ble_eq_true rfl, Nat.le_of_ble_eq_true rfl⟩ rfl rfl (k_pre hN hK hP hD [] [0, 1, 2] 3 rfl (by decide) rfl) rfl hl.1 rfl (Nat.le_of_ble_eq_true rfl) d_Ho_count_1 ⟨Nat.le_of_ble_eq_true rfl, Nat.le_of_ble_eq_true rfl⟩) hP hD hS hA [] [0, 1, 2] 3 rfl (by decide) rfl rfl (fun r1 u2 H locs hu2 hP hD hS => ?_)
  subst hu2
  have hP : va_P D classes (cat [[(h, .inr (12, fHo q x o16 o17 o18 o19 o20))], [(q 0, .inl (kA 4, 4, .inr (.inr (.inr (.inr (rr (g 0)))))))], [(g 0 j, .inr (3, fGr qg xg og))]]) H := hP
  have hD : va_D A (cat [[(h, .inr (12, fHo q x o16 o17 o18 o19 o20))], [(q 0, .inl (kA 4, 4, .inr (.inr (.inr (.inr (rr (g 0)))))))], [(g 0 j, .inr (3, fGr qg xg og))]]) := hD
  refine lv_if_ne (pc := 4) (tgt := 9) hx hb d_Ho_count_4 (by decide) (fun c1 => ?_) (fun c1 => absurd c1 (fun e => absurd ((place_ok hj).symm.trans e) (by decide)))
  refine lv_iload_n (pc := 9) hx hb d_Ho_count_9 rfl (lv_at hl 2 rfl) ?_
  refine lv_tableIn (pc := 10) (tgt := 56) hx hb d_Ho_count_10 (by decide) (by decide) rfl (by decide) ?_
  refine lv_aload_n (pc := 56) hx hb d_Ho_count_56 rfl (lv_at hl 0 rfl) ?_
  refine k_get (pc := 57) X hK hP 0 rfl rfl i_Ho 0 (by decide) wm_555 rfl rfl d_Ho_count_57 ?_
  refine lv_iload_n (pc := 60) hx hb d_Ho_count_60 rfl (lv_at hl 1 rfl) ?_
  refine k_ald (pc := 61) hx hb hK hP 1 4 rfl rfl (j) rfl (by omega) (by decide) (rr_at (by omega)) d_Ho_count_61 ?_
  refine k_get (pc := 62) X hK hP 2 rfl rfl i_Gr 0 (by decide) wm_62 rfl rfl d_Ho_count_62 ?_
  refine W.widen (k := 0) (n := 0) (Nat.le_of_ble_eq_true rfl) (Nat.le_of_ble_eq_true rfl) ?_
  exact W.iret (v := (xg 0)) hx hb hr (fun t ht hW => ⟨⟨(xg 0), (), rfl, (by unfold sp_Ho_count_0; rfl), by rw [ht]; exact hP, va_K.moved hW.alike hK, hD⟩, hS.F ht⟩) hS.2.2 d_Ho_count_65
def sp_Ho_count_1 (xg : Nat → Int32) : Int32 := xg 1
set_option maxRecDepth 100000 in
set_option maxHeartbeats 4000000 in
/-- DrawingHouse.count(II)I -/
theorem c_Ho_count_1 (l : Launch) (D : va_G) (kA : Nat → ClassId) (h : Nat) (q : Nat → Nat) (x : Nat → Int32) (o16 o17 o18 o19 o20 : Option Nat) (g : Nat → Nat → Nat) (qg : Nat → Nat) (xg : Nat → Int32) (og : Option Nat) (j : Nat) (hj : j < 4)  : Ci l y_Ho_count z_Ho_count { frames := 1, cells := 0, slots := 0, locals := 24 } D classes (TY kA) [.ref h, .int (nI j), .int 1] [[(h, .inr (12, fHo q x o16 o17 o18 o19 o20))], [(q 0, .inl (kA 4, 4, .inr (.inr (.inr (.inr (rr (g 0)))))))], [(g 0 j, .inr (3, fGr qg xg og))]] (fun r (_ : Unit) => r = sp_Ho_count_1 xg) (fun _ => [[(h, .inr (12, fHo q x o16 o17 o18 o19 o20))], [(q 0, .inl (kA 4, 4, .inr (.inr (.inr (.inr (rr (g 0)))))))], [(g 0 j, .inr (3, fGr qg xg og))]]) 0 0 := by
  intro sz
  refine k_met (cc := b_Ho_count) (maxL := 3) (ret := (some .int)) (by decide) rfl (Nat.le_of_ble_eq_true rfl) (fun p e s m below meth c ls X hl hB => ?_)
  obtain ⟨hsz, hP, hK, hD0, hN⟩ := hB
  subst hsz
  have hD := hD0.self (sz := s.heap.size)
  generalize hAe : va_A (cat [[(h, .inr (12, fHo q x o16 o17 o18 o19 o20))], [(q 0, .inl (kA 4, 4, .inr (.inr (.inr (.inr (rr (g 0)))))))], [(g 0 j, .inr (3, fGr qg xg og))]]) s.heap.size = A at hD ⊢
  have hA : ∀ q : Nat, s.heap.size ≤ q → A q := fun q h => by rw [← hAe]; exact Or.inr h
  have hS : va_S A s.heap s.heap [] := va_S.rf
  obtain ⟨hx, hb, hml, hown, hts, hr, hlk, hnm⟩ := id X
  have hl : lv_has ls 3 [(0, .ref h), (1, .int (nI j)), (2, .int 1)] := hl
  have hP : va_P D classes (cat [[(h, .inr (12, fHo q x o16 o17 o18 o19 o20))], [(q 0, .inl (kA 4, 4, .inr (.inr (.inr (.inr (rr (g 0)))))))], [(g 0 j, .inr (3, fGr qg xg og))]]) s.heap := hP
  have hK : va_K D classes (TY kA) s := hK
  refine lv_iload_n (pc := 0) hx hb d_Ho_count_0 rfl (lv_at hl 1 rfl) ?_
  refine k_goI (gr := [[(h, .inr (12, fHo q x o16 o17 o18 o19 o20))], [(q 0, .inl (kA 4, 4, .inr (.inr (.inr (.inr (rr (g 0)))))))], [(g 0 j, .inr (3, fGr qg xg og))]]) (k_rS (pc := 1) (As := [.int (nI j)]) (rest := []) X (c_Ho_isPlace l D kA (nI j) s.heap.size) rfl wm_633 wm_1 wm_631 wm_632 1 (by decide +kernel) ⟨Nat.le_of_ble_eq_true rfl, Nat.le_of_ble_eq_true rfl⟩ rfl rfl (k_pre hN hK hP hD [] [0, 1, 2] 3 rfl (by decide) rfl) rfl hl.1 rfl (Nat.le_of_ble_eq_true rfl) d_Ho_count_1 ⟨Nat.le_of_ble_eq_true rfl, Nat.le_of_ble_eq_true rfl⟩) hP hD hS hA [] [0, 1, 2] 3 rfl (by decide) rfl rfl (fun r1 u2 H locs hu2 hP hD hS => ?_)
  subst hu2
  have hP : va_P D classes (cat [[(h, .inr (12, fHo q x o16 o17 o18 o19 o20))], [(q 0, .inl (kA 4, 4, .inr (.inr (.inr (.inr (rr (g 0)))))))], [(g 0 j, .inr (3, fGr qg xg og))]]) H := hP
  have hD : va_D A (cat [[(h, .inr (12, fHo q x o16 o17 o18 o19 o20))], [(q 0, .inl (kA 4, 4, .inr (.inr (.inr (.inr (rr (g 0)))))))], [(g 0 j, .inr (3, fGr qg xg og))]]) := hD
  refine lv_if_ne (pc := 4) (tgt := 9) hx hb d_Ho_count_4 (by decide) (fun c1 => ?_) (fun c1 => absurd c1 (fun e => absurd ((place_ok hj).symm.trans e) (by decide)))
  refine lv_iload_n (pc := 9) hx hb d_Ho_count_9 rfl (lv_at hl 2 rfl) ?_
  refine lv_tableIn (pc := 10) (tgt := 66) hx hb d_Ho_count_10 (by decide) (by decide) rfl (by decide) ?_
  refine lv_aload_n (pc := 66) hx hb d_Ho_count_66 rfl (lv_at hl 0 rfl) ?_
  refine k_get (pc := 67) X hK hP 0 rfl rfl i_Ho 0 (by decide) wm_555 rfl rfl d_Ho_count_67 ?_
  refine lv_iload_n (pc := 70) hx hb d_Ho_count_70 rfl (lv_at hl 1 rfl) ?_
  refine k_ald (pc := 71) hx hb hK hP 1 4 rfl rfl (j) rfl (by omega) (by decide) (rr_at (by omega)) d_Ho_count_71 ?_
  refine k_get (pc := 72) X hK hP 2 rfl rfl i_Gr 1 (by decide) wm_73 rfl rfl d_Ho_count_72 ?_
  refine W.widen (k := 0) (n := 0) (Nat.le_of_ble_eq_true rfl) (Nat.le_of_ble_eq_true rfl) ?_
  exact W.iret (v := (xg 1)) hx hb hr (fun t ht hW => ⟨⟨(xg 1), (), rfl, (by unfold sp_Ho_count_1; rfl), by rw [ht]; exact hP, va_K.moved hW.alike hK, hD⟩, hS.F ht⟩) hS.2.2 d_Ho_count_75
def sp_Ho_count_2 (xg : Nat → Int32) : Int32 := xg 2
set_option maxRecDepth 100000 in
set_option maxHeartbeats 4000000 in
/-- DrawingHouse.count(II)I -/
theorem c_Ho_count_2 (l : Launch) (D : va_G) (kA : Nat → ClassId) (h : Nat) (q : Nat → Nat) (x : Nat → Int32) (o16 o17 o18 o19 o20 : Option Nat) (g : Nat → Nat → Nat) (qg : Nat → Nat) (xg : Nat → Int32) (og : Option Nat) (j : Nat) (hj : j < 4)  : Ci l y_Ho_count z_Ho_count { frames := 1, cells := 0, slots := 0, locals := 24 } D classes (TY kA) [.ref h, .int (nI j), .int 2] [[(h, .inr (12, fHo q x o16 o17 o18 o19 o20))], [(q 0, .inl (kA 4, 4, .inr (.inr (.inr (.inr (rr (g 0)))))))], [(g 0 j, .inr (3, fGr qg xg og))]] (fun r (_ : Unit) => r = sp_Ho_count_2 xg) (fun _ => [[(h, .inr (12, fHo q x o16 o17 o18 o19 o20))], [(q 0, .inl (kA 4, 4, .inr (.inr (.inr (.inr (rr (g 0)))))))], [(g 0 j, .inr (3, fGr qg xg og))]]) 0 0 := by
  intro sz
  refine k_met (cc := b_Ho_count) (maxL := 3) (ret := (some .int)) (by decide) rfl (Nat.le_of_ble_eq_true rfl) (fun p e s m below meth c ls X hl hB => ?_)
  obtain ⟨hsz, hP, hK, hD0, hN⟩ := hB
  subst hsz
  have hD := hD0.self (sz := s.heap.size)
  generalize hAe : va_A (cat [[(h, .inr (12, fHo q x o16 o17 o18 o19 o20))], [(q 0, .inl (kA 4, 4, .inr (.inr (.inr (.inr (rr (g 0)))))))], [(g 0 j, .inr (3, fGr qg xg og))]]) s.heap.size = A at hD ⊢
  have hA : ∀ q : Nat, s.heap.size ≤ q → A q := fun q h => by rw [← hAe]; exact Or.inr h
  have hS : va_S A s.heap s.heap [] := va_S.rf
  obtain ⟨hx, hb, hml, hown, hts, hr, hlk, hnm⟩ := id X
  have hl : lv_has ls 3 [(0, .ref h), (1, .int (nI j)), (2, .int 2)] := hl
  have hP : va_P D classes (cat [[(h, .inr (12, fHo q x o16 o17 o18 o19 o20))], [(q 0, .inl (kA 4, 4, .inr (.inr (.inr (.inr (rr (g 0)))))))], [(g 0 j, .inr (3, fGr qg xg og))]]) s.heap := hP
  have hK : va_K D classes (TY kA) s := hK
  refine lv_iload_n (pc := 0) hx hb d_Ho_count_0 rfl (lv_at hl 1 rfl) ?_
  refine k_goI (gr := [[(h, .inr (12, fHo q x o16 o17 o18 o19 o20))], [(q 0, .inl (kA 4, 4, .inr (.inr (.inr (.inr (rr (g 0)))))))], [(g 0 j, .inr (3, fGr qg xg og))]]) (k_rS (pc := 1) (As := [.int (nI j)]) (rest := []) X (c_Ho_isPlace l D kA (nI j) s.heap.size) rfl wm_633 wm_1 wm_631 wm_632 1 (by decide +kernel) ⟨Nat.le_of_ble_eq_true rfl, Nat.le_of_ble_eq_true rfl⟩ rfl rfl (k_pre hN hK hP hD [] [0, 1, 2] 3 rfl (by decide) rfl) rfl hl.1 rfl (Nat.le_of_ble_eq_true rfl) d_Ho_count_1 ⟨Nat.le_of_ble_eq_true rfl, Nat.le_of_ble_eq_true rfl⟩) hP hD hS hA [] [0, 1, 2] 3 rfl (by decide) rfl rfl (fun r1 u2 H locs hu2 hP hD hS => ?_)
  subst hu2
  have hP : va_P D classes (cat [[(h, .inr (12, fHo q x o16 o17 o18 o19 o20))], [(q 0, .inl (kA 4, 4, .inr (.inr (.inr (.inr (rr (g 0)))))))], [(g 0 j, .inr (3, fGr qg xg og))]]) H := hP
  have hD : va_D A (cat [[(h, .inr (12, fHo q x o16 o17 o18 o19 o20))], [(q 0, .inl (kA 4, 4, .inr (.inr (.inr (.inr (rr (g 0)))))))], [(g 0 j, .inr (3, fGr qg xg og))]]) := hD
  refine lv_if_ne (pc := 4) (tgt := 9) hx hb d_Ho_count_4 (by decide) (fun c1 => ?_) (fun c1 => absurd c1 (fun e => absurd ((place_ok hj).symm.trans e) (by decide)))
  refine lv_iload_n (pc := 9) hx hb d_Ho_count_9 rfl (lv_at hl 2 rfl) ?_
  refine lv_tableIn (pc := 10) (tgt := 76) hx hb d_Ho_count_10 (by decide) (by decide) rfl (by decide) ?_
  refine lv_aload_n (pc := 76) hx hb d_Ho_count_76 rfl (lv_at hl 0 rfl) ?_
  refine k_get (pc := 77) X hK hP 0 rfl rfl i_Ho 0 (by decide) wm_555 rfl rfl d_Ho_count_77 ?_
  refine lv_iload_n (pc := 80) hx hb d_Ho_count_80 rfl (lv_at hl 1 rfl) ?_
  refine k_ald (pc := 81) hx hb hK hP 1 4 rfl rfl (j) rfl (by omega) (by decide) (rr_at (by omega)) d_Ho_count_81 ?_
  refine k_get (pc := 82) X hK hP 2 rfl rfl i_Gr 2 (by decide) wm_80 rfl rfl d_Ho_count_82 ?_
  refine W.widen (k := 0) (n := 0) (Nat.le_of_ble_eq_true rfl) (Nat.le_of_ble_eq_true rfl) ?_
  exact W.iret (v := (xg 2)) hx hb hr (fun t ht hW => ⟨⟨(xg 2), (), rfl, (by unfold sp_Ho_count_2; rfl), by rw [ht]; exact hP, va_K.moved hW.alike hK, hD⟩, hS.F ht⟩) hS.2.2 d_Ho_count_85
def sp_Ho_count_6 (xg : Nat → Int32) : Int32 := xg 17
set_option maxRecDepth 100000 in
set_option maxHeartbeats 4000000 in
/-- DrawingHouse.count(II)I -/
theorem c_Ho_count_6 (l : Launch) (D : va_G) (kA : Nat → ClassId) (h : Nat) (q : Nat → Nat) (x : Nat → Int32) (o16 o17 o18 o19 o20 : Option Nat) (g : Nat → Nat → Nat) (qg : Nat → Nat) (xg : Nat → Int32) (og : Option Nat) (j : Nat) (hj : j < 4)  : Ci l y_Ho_count z_Ho_count { frames := 1, cells := 0, slots := 0, locals := 24 } D classes (TY kA) [.ref h, .int (nI j), .int 6] [[(h, .inr (12, fHo q x o16 o17 o18 o19 o20))], [(q 0, .inl (kA 4, 4, .inr (.inr (.inr (.inr (rr (g 0)))))))], [(g 0 j, .inr (3, fGr qg xg og))]] (fun r (_ : Unit) => r = sp_Ho_count_6 xg) (fun _ => [[(h, .inr (12, fHo q x o16 o17 o18 o19 o20))], [(q 0, .inl (kA 4, 4, .inr (.inr (.inr (.inr (rr (g 0)))))))], [(g 0 j, .inr (3, fGr qg xg og))]]) 0 0 := by
  intro sz
  refine k_met (cc := b_Ho_count) (maxL := 3) (ret := (some .int)) (by decide) rfl (Nat.le_of_ble_eq_true rfl) (fun p e s m below meth c ls X hl hB => ?_)
  obtain ⟨hsz, hP, hK, hD0, hN⟩ := hB
  subst hsz
  have hD := hD0.self (sz := s.heap.size)
  generalize hAe : va_A (cat [[(h, .inr (12, fHo q x o16 o17 o18 o19 o20))], [(q 0, .inl (kA 4, 4, .inr (.inr (.inr (.inr (rr (g 0)))))))], [(g 0 j, .inr (3, fGr qg xg og))]]) s.heap.size = A at hD ⊢
  have hA : ∀ q : Nat, s.heap.size ≤ q → A q := fun q h => by rw [← hAe]; exact Or.inr h
  have hS : va_S A s.heap s.heap [] := va_S.rf
  obtain ⟨hx, hb, hml, hown, hts, hr, hlk, hnm⟩ := id X
  have hl : lv_has ls 3 [(0, .ref h), (1, .int (nI j)), (2, .int 6)] := hl
  have hP : va_P D classes (cat [[(h, .inr (12, fHo q x o16 o17 o18 o19 o20))], [(q 0, .inl (kA 4, 4, .inr (.inr (.inr (.inr (rr (g 0)))))))], [(g 0 j, .inr (3, fGr qg xg og))]]) s.heap := hP
  have hK : va_K D classes (TY kA) s := hK
  refine lv_iload_n (pc := 0) hx hb d_Ho_count_0 rfl (lv_at hl 1 rfl) ?_
  refine k_goI (gr := [[(h, .inr (12, fHo q x o16 o17 o18 o19 o20))], [(q 0, .inl (kA 4, 4, .inr (.inr (.inr (.inr (rr (g 0)))))))], [(g 0 j, .inr (3, fGr qg xg og))]]) (k_rS (pc := 1) (As := [.int (nI j)]) (rest := []) X (c_Ho_isPlace l D kA (nI j) s.heap.size) rfl wm_633 wm_1 wm_631 wm_632 1 (by decide +kernel) ⟨Nat.le_of_ble_eq_true rfl, Nat.le_of_ble_eq_true rfl⟩ rfl rfl (k_pre hN hK hP hD [] [0, 1, 2] 3 rfl (by decide) rfl) rfl hl.1 rfl (Nat.le_of_ble_eq_true rfl) d_Ho_count_1 ⟨Nat.le_of_ble_eq_true rfl, Nat.le_of_ble_eq_true rfl⟩) hP hD hS hA [] [0, 1, 2] 3 rfl (by decide) rfl rfl (fun r1 u2 H locs hu2 hP hD hS => ?_)
  subst hu2
  have hP : va_P D classes (cat [[(h, .inr (12, fHo q x o16 o17 o18 o19 o20))], [(q 0, .inl (kA 4, 4, .inr (.inr (.inr (.inr (rr (g 0)))))))], [(g 0 j, .inr (3, fGr qg xg og))]]) H := hP
  have hD : va_D A (cat [[(h, .inr (12, fHo q x o16 o17 o18 o19 o20))], [(q 0, .inl (kA 4, 4, .inr (.inr (.inr (.inr (rr (g 0)))))))], [(g 0 j, .inr (3, fGr qg xg og))]]) := hD
  refine lv_if_ne (pc := 4) (tgt := 9) hx hb d_Ho_count_4 (by decide) (fun c1 => ?_) (fun c1 => absurd c1 (fun e => absurd ((place_ok hj).symm.trans e) (by decide)))
  refine lv_iload_n (pc := 9) hx hb d_Ho_count_9 rfl (lv_at hl 2 rfl) ?_
  refine lv_tableIn (pc := 10) (tgt := 113) hx hb d_Ho_count_10 (by decide) (by decide) rfl (by decide) ?_
  refine lv_aload_n (pc := 113) hx hb d_Ho_count_113 rfl (lv_at hl 0 rfl) ?_
  refine k_get (pc := 114) X hK hP 0 rfl rfl i_Ho 0 (by decide) wm_555 rfl rfl d_Ho_count_114 ?_
  refine lv_iload_n (pc := 117) hx hb d_Ho_count_117 rfl (lv_at hl 1 rfl) ?_
  refine k_ald (pc := 118) hx hb hK hP 1 4 rfl rfl (j) rfl (by omega) (by decide) (rr_at (by omega)) d_Ho_count_118 ?_
  refine k_get (pc := 119) X hK hP 2 rfl rfl i_Gr 17 (by decide) wm_150 rfl rfl d_Ho_count_119 ?_
  refine W.widen (k := 0) (n := 0) (Nat.le_of_ble_eq_true rfl) (Nat.le_of_ble_eq_true rfl) ?_
  exact W.iret (v := (xg 17)) hx hb hr (fun t ht hW => ⟨⟨(xg 17), (), rfl, (by unfold sp_Ho_count_6; rfl), by rw [ht]; exact hP, va_K.moved hW.alike hK, hD⟩, hS.F ht⟩) hS.2.2 d_Ho_count_122
def sp_Ho_count_7 (xg : Nat → Int32) : Int32 := xg 18
set_option maxRecDepth 100000 in
set_option maxHeartbeats 4000000 in
/-- DrawingHouse.count(II)I -/
theorem c_Ho_count_7 (l : Launch) (D : va_G) (kA : Nat → ClassId) (h : Nat) (q : Nat → Nat) (x : Nat → Int32) (o16 o17 o18 o19 o20 : Option Nat) (g : Nat → Nat → Nat) (qg : Nat → Nat) (xg : Nat → Int32) (og : Option Nat) (j : Nat) (hj : j < 4)  : Ci l y_Ho_count z_Ho_count { frames := 1, cells := 0, slots := 0, locals := 24 } D classes (TY kA) [.ref h, .int (nI j), .int 7] [[(h, .inr (12, fHo q x o16 o17 o18 o19 o20))], [(q 0, .inl (kA 4, 4, .inr (.inr (.inr (.inr (rr (g 0)))))))], [(g 0 j, .inr (3, fGr qg xg og))]] (fun r (_ : Unit) => r = sp_Ho_count_7 xg) (fun _ => [[(h, .inr (12, fHo q x o16 o17 o18 o19 o20))], [(q 0, .inl (kA 4, 4, .inr (.inr (.inr (.inr (rr (g 0)))))))], [(g 0 j, .inr (3, fGr qg xg og))]]) 0 0 := by
  intro sz
  refine k_met (cc := b_Ho_count) (maxL := 3) (ret := (some .int)) (by decide) rfl (Nat.le_of_ble_eq_true rfl) (fun p e s m below meth c ls X hl hB => ?_)
  obtain ⟨hsz, hP, hK, hD0, hN⟩ := hB
  subst hsz
  have hD := hD0.self (sz := s.heap.size)
  generalize hAe : va_A (cat [[(h, .inr (12, fHo q x o16 o17 o18 o19 o20))], [(q 0, .inl (kA 4, 4, .inr (.inr (.inr (.inr (rr (g 0)))))))], [(g 0 j, .inr (3, fGr qg xg og))]]) s.heap.size = A at hD ⊢
  have hA : ∀ q : Nat, s.heap.size ≤ q → A q := fun q h => by rw [← hAe]; exact Or.inr h
  have hS : va_S A s.heap s.heap [] := va_S.rf
  obtain ⟨hx, hb, hml, hown, hts, hr, hlk, hnm⟩ := id X
  have hl : lv_has ls 3 [(0, .ref h), (1, .int (nI j)), (2, .int 7)] := hl
  have hP : va_P D classes (cat [[(h, .inr (12, fHo q x o16 o17 o18 o19 o20))], [(q 0, .inl (kA 4, 4, .inr (.inr (.inr (.inr (rr (g 0)))))))], [(g 0 j, .inr (3, fGr qg xg og))]]) s.heap := hP
  have hK : va_K D classes (TY kA) s := hK
  refine lv_iload_n (pc := 0) hx hb d_Ho_count_0 rfl (lv_at hl 1 rfl) ?_
  refine k_goI (gr := [[(h, .inr (12, fHo q x o16 o17 o18 o19 o20))], [(q 0, .inl (kA 4, 4, .inr (.inr (.inr (.inr (rr (g 0)))))))], [(g 0 j, .inr (3, fGr qg xg og))]]) (k_rS (pc := 1) (As := [.int (nI j)]) (rest := []) X (c_Ho_isPlace l D kA (nI j) s.heap.size) rfl wm_633 wm_1 wm_631 wm_632 1 (by decide +kernel) ⟨Nat.le_of_ble_eq_true rfl, Nat.le_of_ble_eq_true rfl⟩ rfl rfl (k_pre hN hK hP hD [] [0, 1, 2] 3 rfl (by decide) rfl) rfl hl.1 rfl (Nat.le_of_ble_eq_true rfl) d_Ho_count_1 ⟨Nat.le_of_ble_eq_true rfl, Nat.le_of_ble_eq_true rfl⟩) hP hD hS hA [] [0, 1, 2] 3 rfl (by decide) rfl rfl (fun r1 u2 H locs hu2 hP hD hS => ?_)
  subst hu2
  have hP : va_P D classes (cat [[(h, .inr (12, fHo q x o16 o17 o18 o19 o20))], [(q 0, .inl (kA 4, 4, .inr (.inr (.inr (.inr (rr (g 0)))))))], [(g 0 j, .inr (3, fGr qg xg og))]]) H := hP
  have hD : va_D A (cat [[(h, .inr (12, fHo q x o16 o17 o18 o19 o20))], [(q 0, .inl (kA 4, 4, .inr (.inr (.inr (.inr (rr (g 0)))))))], [(g 0 j, .inr (3, fGr qg xg og))]]) := hD
  refine lv_if_ne (pc := 4) (tgt := 9) hx hb d_Ho_count_4 (by decide) (fun c1 => ?_) (fun c1 => absurd c1 (fun e => absurd ((place_ok hj).symm.trans e) (by decide)))
  refine lv_iload_n (pc := 9) hx hb d_Ho_count_9 rfl (lv_at hl 2 rfl) ?_
  refine lv_tableIn (pc := 10) (tgt := 123) hx hb d_Ho_count_10 (by decide) (by decide) rfl (by decide) ?_
  refine lv_aload_n (pc := 123) hx hb d_Ho_count_123 rfl (lv_at hl 0 rfl) ?_
  refine k_get (pc := 124) X hK hP 0 rfl rfl i_Ho 0 (by decide) wm_555 rfl rfl d_Ho_count_124 ?_
  refine lv_iload_n (pc := 127) hx hb d_Ho_count_127 rfl (lv_at hl 1 rfl) ?_
  refine k_ald (pc := 128) hx hb hK hP 1 4 rfl rfl (j) rfl (by omega) (by decide) (rr_at (by omega)) d_Ho_count_128 ?_
  refine k_get (pc := 129) X hK hP 2 rfl rfl i_Gr 18 (by decide) wm_152 rfl rfl d_Ho_count_129 ?_
  refine W.widen (k := 0) (n := 0) (Nat.le_of_ble_eq_true rfl) (Nat.le_of_ble_eq_true rfl) ?_
  exact W.iret (v := (xg 18)) hx hb hr (fun t ht hW => ⟨⟨(xg 18), (), rfl, (by unfold sp_Ho_count_7; rfl), by rw [ht]; exact hP, va_K.moved hW.alike hK, hD⟩, hS.F ht⟩) hS.2.2 d_Ho_count_132
def sp_Mo_count_no  : Int32 := (-1)
set_option maxRecDepth 100000 in
set_option maxHeartbeats 4000000 in
/-- DrawingHouseModel.count(II)I -/
theorem c_Mo_count_no (l : Launch) (D : va_G) (kA : Nat → ClassId) (h : Nat) (q : Nat → Nat) (x : Nat → Int32) (y : Nat → Int64) (gp w1 : Int32) (hg : sp_Mo_isPlace gp = 0)  : Ci l y_Mo_count z_Mo_count { frames := 2, cells := 0, slots := 0, locals := 43 } D classes (TY kA) [.ref h, .int gp, .int w1] [[(h, .inr (13, mF q x y))]] (fun r (_ : Unit) => r = sp_Mo_count_no ) (fun _ => [[(h, .inr (13, mF q x y))]]) 0 0 := by
  intro sz
  refine k_met (cc := b_Mo_count) (maxL := 3) (ret := (some .int)) (by decide) rfl (Nat.le_of_ble_eq_true rfl) (fun p e s m below meth c ls X hl hB => ?_)
  obtain ⟨hsz, hP, hK, hD0, hN⟩ := hB
  subst hsz
  have hD := hD0.self (sz := s.heap.size)
  generalize hAe : va_A (cat [[(h, .inr (13, mF q x y))]]) s.heap.size = A at hD ⊢
  have hA : ∀ q : Nat, s.heap.size ≤ q → A q := fun q h => by rw [← hAe]; exact Or.inr h
  have hS : va_S A s.heap s.heap [] := va_S.rf
  obtain ⟨hx, hb, hml, hown, hts, hr, hlk, hnm⟩ := id X
  have hl : lv_has ls 3 [(0, .ref h), (1, .int gp), (2, .int w1)] := hl
  have hP : va_P D classes (cat [[(h, .inr (13, mF q x y))]]) s.heap := hP
  have hK : va_K D classes (TY kA) s := hK
  refine lv_iload_n (pc := 0) hx hb d_Mo_count_0 rfl (lv_at hl 1 rfl) ?_
  refine k_goI (gr := [[(h, .inr (13, mF q x y))]]) (k_rS (pc := 1) (As := [.int gp]) (rest := []) X (c_Mo_isPlace l D kA gp s.heap.size) rfl wm_2978 wm_9 wm_2976 wm_2977 1 (by decide +kernel) ⟨Nat.le_of_ble_eq_true rfl, Nat.le_of_ble_eq_true rfl⟩ rfl rfl (k_pre hN hK hP hD [] [0] 1 rfl (by decide) rfl) rfl hl.1 rfl (Nat.le_of_ble_eq_true rfl) d_Mo_count_1 ⟨Nat.le_of_ble_eq_true rfl, Nat.le_of_ble_eq_true rfl⟩) hP hD hS hA [] [0] 1 rfl (by decide) rfl rfl (fun r1 u2 H locs hu2 hP hD hS => ?_)
  subst hu2
  have hP : va_P D classes (cat [[(h, .inr (13, mF q x y))]]) H := hP
  have hD : va_D A (cat [[(h, .inr (13, mF q x y))]]) := hD
  refine lv_if_ne (pc := 4) (tgt := 9) hx hb d_Mo_count_4 (by decide) (fun c1 => absurd (hg) c1) (fun c1 => ?_)
  refine lv_iconst (pc := 7) (v := -1) hx hb d_Mo_count_7 (by decide) ?_
  refine W.widen (k := 0) (n := 0) (Nat.le_of_ble_eq_true rfl) (Nat.le_of_ble_eq_true rfl) ?_
  exact W.iret (v := ((-1))) hx hb hr (fun t ht hW => ⟨⟨((-1)), (), rfl, (by unfold sp_Mo_count_no; rfl), by rw [ht]; exact hP, va_K.moved hW.alike hK, hD⟩, hS.F ht⟩) hS.2.2 d_Mo_count_8
def sp_Mo_count_0 (f : Nat → Int32) (fl0 : Nat → Int32) (al : Nat → Int32) (j : Nat) (k : Nat) : Int32 := sp_Mo_nodes al (539 * (31 * j + k))
set_option maxRecDepth 100000 in
set_option maxHeartbeats 4000000 in
/-- DrawingHouseModel.count(II)I -/
theorem c_Mo_count_0 (l : Launch) (D : va_G) (kA : Nat → ClassId) (h : Nat) (q : Nat → Nat) (x : Nat → Int32) (y : Nat → Int64) (f fl0 al : Nat → Int32) (j k : Nat) (hj : j < 4) (hk : k < 31) (hf : f j = nI k)  : Ci l y_Mo_count z_Mo_count { frames := 2, cells := 0, slots := 0, locals := 43 } D classes (TY kA) [.ref h, .int (nI j), .int 0] [[(h, .inr (13, mF q x y))], [(q 3, .inl (kA 0, 4, .inl f))], [(q 4, .inl (kA 0, 4, .inl fl0))], [(q 2, .inl (kA 0, 66836, .inl al))]] (fun r (_ : Unit) => r = sp_Mo_count_0 f fl0 al j k) (fun _ => [[(h, .inr (13, mF q (va_up x 5 (nI (539 * (31 * j + k)))) y))], [(q 3, .inl (kA 0, 4, .inl f))], [(q 4, .inl (kA 0, 4, .inl fl0))], [(q 2, .inl (kA 0, 66836, .inl al))]]) 0 0 := by
  intro sz
  refine k_met (cc := b_Mo_count) (maxL := 3) (ret := (some .int)) (by decide) rfl (Nat.le_of_ble_eq_true rfl) (fun p e s m below meth c ls X hl hB => ?_)
  obtain ⟨hsz, hP, hK, hD0, hN⟩ := hB
  subst hsz
  have hD := hD0.self (sz := s.heap.size)
  generalize hAe : va_A (cat [[(h, .inr (13, mF q x y))], [(q 3, .inl (kA 0, 4, .inl f))], [(q 4, .inl (kA 0, 4, .inl fl0))], [(q 2, .inl (kA 0, 66836, .inl al))]]) s.heap.size = A at hD ⊢
  have hA : ∀ q : Nat, s.heap.size ≤ q → A q := fun q h => by rw [← hAe]; exact Or.inr h
  have hS : va_S A s.heap s.heap [] := va_S.rf
  obtain ⟨hx, hb, hml, hown, hts, hr, hlk, hnm⟩ := id X
  have hl : lv_has ls 3 [(0, .ref h), (1, .int (nI j)), (2, .int 0)] := hl
  have hP : va_P D classes (cat [[(h, .inr (13, mF q x y))], [(q 3, .inl (kA 0, 4, .inl f))], [(q 4, .inl (kA 0, 4, .inl fl0))], [(q 2, .inl (kA 0, 66836, .inl al))]]) s.heap := hP
  have hK : va_K D classes (TY kA) s := hK
  refine lv_iload_n (pc := 0) hx hb d_Mo_count_0 rfl (lv_at hl 1 rfl) ?_
  refine k_goI (gr := [[(h, .inr (13, mF q x y))], [(q 3, .inl (kA 0, 4, .inl f))], [(q 4, .inl (kA 0, 4, .inl fl0))], [(q 2, .inl (kA 0, 66836, .inl al))]]) (k_rS (pc := 1) (As := [.int (nI j)]) (rest := []) X (c_Mo_isPlace l D kA (nI j) s.heap.size) rfl wm_2978 wm_9 wm_2976 wm_2977 1 (by decide +kernel) ⟨Nat.le_of_ble_eq_true rfl, Nat.le_of_ble_eq_true rfl⟩ rfl rfl (k_pre hN hK hP hD [] [0, 1, 2, 3] 4 rfl (by decide) rfl) rfl hl.1 rfl (Nat.le_of_ble_eq_true rfl) d_Mo_count_1 ⟨Nat.le_of_ble_eq_true rfl, Nat.le_of_ble_eq_true rfl⟩) hP hD hS hA [] [0, 1, 2, 3] 4 rfl (by decide) rfl rfl (fun r1 u2 H locs hu2 hP hD hS => ?_)
  subst hu2
  have hP : va_P D classes (cat [[(h, .inr (13, mF q x y))], [(q 3, .inl (kA 0, 4, .inl f))], [(q 4, .inl (kA 0, 4, .inl fl0))], [(q 2, .inl (kA 0, 66836, .inl al))]]) H := hP
  have hD : va_D A (cat [[(h, .inr (13, mF q x y))], [(q 3, .inl (kA 0, 4, .inl f))], [(q 4, .inl (kA 0, 4, .inl fl0))], [(q 2, .inl (kA 0, 66836, .inl al))]]) := hD
  refine lv_if_ne (pc := 4) (tgt := 9) hx hb d_Mo_count_4 (by decide) (fun c1 => ?_) (fun c1 => absurd c1 (fun e => absurd ((placeM_ok hj).symm.trans e) (by decide)))
  refine lv_aload_n (pc := 9) hx hb d_Mo_count_9 rfl (lv_at hl 0 rfl) ?_
  refine lv_iload_n (pc := 10) hx hb d_Mo_count_10 rfl (lv_at hl 1 rfl) ?_
  refine k_goV (gr := [[(q 4, .inl (kA 0, 4, .inl fl0))], [(q 2, .inl (kA 0, 66836, .inl al))]]) (k_rV (pc := 11) (As := [.int (nI j)]) (rest := []) X (c_Mo_take l D kA h q x y f j k hj hf H.size) rfl wm_3091 wm_9 wm_3088 wm_3090 wv_14_2 1 (by decide +kernel) ⟨Nat.le_of_ble_eq_true rfl, Nat.le_of_ble_eq_true rfl⟩ rfl rfl (va_recv hK hP (ci := 13) (q0 := 0) rfl rfl) (k_pre hN hK hP hD [0, 1] [2, 3] 4 rfl (by decide) rfl) rfl hl.1 rfl (Nat.le_of_ble_eq_true rfl) d_Mo_count_11 ⟨Nat.le_of_ble_eq_true rfl, Nat.le_of_ble_eq_true rfl⟩) hP hD hS hA [0, 1] [2, 3] 4 rfl (by decide) rfl rfl (fun u3 H locs hu3 hP hD hS => ?_)
  have hP : va_P D classes (cat [[(q 4, .inl (kA 0, 4, .inl fl0))], [(q 2, .inl (kA 0, 66836, .inl al))], [(h, .inr (13, mF q (va_up x 5 (nI (539 * (31 * j + k)))) y))], [(q 3, .inl (kA 0, 4, .inl f))]]) H := hP
  have hD : va_D A (cat [[(q 4, .inl (kA 0, 4, .inl fl0))], [(q 2, .inl (kA 0, 66836, .inl al))], [(h, .inr (13, mF q (va_up x 5 (nI (539 * (31 * j + k)))) y))], [(q 3, .inl (kA 0, 4, .inl f))]]) := hD
  refine lv_iload_n (pc := 14) hx hb d_Mo_count_14 rfl (lv_at hl 2 rfl) ?_
  refine lv_tableIn (pc := 15) (tgt := 60) hx hb d_Mo_count_15 (by decide) (by decide) rfl (by decide) ?_
  refine lv_aload_n (pc := 60) hx hb d_Mo_count_60 rfl (lv_at hl 0 rfl) ?_
  refine k_goI (gr := [[(q 4, .inl (kA 0, 4, .inl fl0))], [(q 3, .inl (kA 0, 4, .inl f))]]) (k_rV (pc := 61) (As := []) (rest := []) X (c_Mo_nodes l D kA h q x y al (539 * (31 * j + k)) (by omega) H.size) rfl wm_3025 wm_9 wm_3022 wm_3024 wv_13_3 0 (by decide +kernel) ⟨Nat.le_of_ble_eq_true rfl, Nat.le_of_ble_eq_true rfl⟩ rfl rfl (va_recv hK hP (ci := 13) (q0 := 2) rfl rfl) (k_pre hN hK hP hD [2, 1] [0, 3] 4 rfl (by decide) rfl) rfl hl.1 rfl (Nat.le_of_ble_eq_true rfl) d_Mo_count_61 ⟨Nat.le_of_ble_eq_true rfl, Nat.le_of_ble_eq_true rfl⟩) hP hD hS hA [2, 1] [0, 3] 4 rfl (by decide) rfl rfl (fun r4 u5 H locs hu5 hP hD hS => ?_)
  subst hu5
  have hP : va_P D classes (cat [[(q 4, .inl (kA 0, 4, .inl fl0))], [(q 3, .inl (kA 0, 4, .inl f))], [(h, .inr (13, mF q (va_up x 5 (nI (539 * (31 * j + k)))) y))], [(q 2, .inl (kA 0, 66836, .inl al))]]) H := hP
  have hD : va_D A (cat [[(q 4, .inl (kA 0, 4, .inl fl0))], [(q 3, .inl (kA 0, 4, .inl f))], [(h, .inr (13, mF q (va_up x 5 (nI (539 * (31 * j + k)))) y))], [(q 2, .inl (kA 0, 66836, .inl al))]]) := hD
  obtain ⟨hP, hD⟩ := k_ord (gc := [[(h, .inr (13, mF q (va_up x 5 (nI (539 * (31 * j + k)))) y))], [(q 3, .inl (kA 0, 4, .inl f))], [(q 4, .inl (kA 0, 4, .inl fl0))], [(q 2, .inl (kA 0, 66836, .inl al))]]) hP hD [2, 1, 0, 3] 4 rfl (by decide) rfl
  refine W.widen (k := 0) (n := 0) (Nat.le_of_ble_eq_true rfl) (Nat.le_of_ble_eq_true rfl) ?_
  exact W.iret (v := (sp_Mo_nodes al (539 * (31 * j + k)))) hx hb hr (fun t ht hW => ⟨⟨(sp_Mo_nodes al (539 * (31 * j + k))), (), rfl, (by unfold sp_Mo_count_0; rfl), by rw [ht]; exact hP, va_K.moved hW.alike hK, hD⟩, hS.F ht⟩) hS.2.2 d_Mo_count_64
def sp_Mo_count_1 (f : Nat → Int32) (fl0 : Nat → Int32) (al : Nat → Int32) (j : Nat) (k : Nat) : Int32 := sp_Mo_edges al (539 * (31 * j + k))
set_option maxRecDepth 100000 in
set_option maxHeartbeats 4000000 in
/-- DrawingHouseModel.count(II)I -/
theorem c_Mo_count_1 (l : Launch) (D : va_G) (kA : Nat → ClassId) (h : Nat) (q : Nat → Nat) (x : Nat → Int32) (y : Nat → Int64) (f fl0 al : Nat → Int32) (j k : Nat) (hj : j < 4) (hk : k < 31) (hf : f j = nI k)  : Ci l y_Mo_count z_Mo_count { frames := 2, cells := 0, slots := 0, locals := 43 } D classes (TY kA) [.ref h, .int (nI j), .int 1] [[(h, .inr (13, mF q x y))], [(q 3, .inl (kA 0, 4, .inl f))], [(q 4, .inl (kA 0, 4, .inl fl0))], [(q 2, .inl (kA 0, 66836, .inl al))]] (fun r (_ : Unit) => r = sp_Mo_count_1 f fl0 al j k) (fun _ => [[(h, .inr (13, mF q (va_up x 5 (nI (539 * (31 * j + k)))) y))], [(q 3, .inl (kA 0, 4, .inl f))], [(q 4, .inl (kA 0, 4, .inl fl0))], [(q 2, .inl (kA 0, 66836, .inl al))]]) 0 0 := by
  intro sz
  refine k_met (cc := b_Mo_count) (maxL := 3) (ret := (some .int)) (by decide) rfl (Nat.le_of_ble_eq_true rfl) (fun p e s m below meth c ls X hl hB => ?_)
  obtain ⟨hsz, hP, hK, hD0, hN⟩ := hB
  subst hsz
  have hD := hD0.self (sz := s.heap.size)
  generalize hAe : va_A (cat [[(h, .inr (13, mF q x y))], [(q 3, .inl (kA 0, 4, .inl f))], [(q 4, .inl (kA 0, 4, .inl fl0))], [(q 2, .inl (kA 0, 66836, .inl al))]]) s.heap.size = A at hD ⊢
  have hA : ∀ q : Nat, s.heap.size ≤ q → A q := fun q h => by rw [← hAe]; exact Or.inr h
  have hS : va_S A s.heap s.heap [] := va_S.rf
  obtain ⟨hx, hb, hml, hown, hts, hr, hlk, hnm⟩ := id X
  have hl : lv_has ls 3 [(0, .ref h), (1, .int (nI j)), (2, .int 1)] := hl
  have hP : va_P D classes (cat [[(h, .inr (13, mF q x y))], [(q 3, .inl (kA 0, 4, .inl f))], [(q 4, .inl (kA 0, 4, .inl fl0))], [(q 2, .inl (kA 0, 66836, .inl al))]]) s.heap := hP
  have hK : va_K D classes (TY kA) s := hK
  refine lv_iload_n (pc := 0) hx hb d_Mo_count_0 rfl (lv_at hl 1 rfl) ?_
  refine k_goI (gr := [[(h, .inr (13, mF q x y))], [(q 3, .inl (kA 0, 4, .inl f))], [(q 4, .inl (kA 0, 4, .inl fl0))], [(q 2, .inl (kA 0, 66836, .inl al))]]) (k_rS (pc := 1) (As := [.int (nI j)]) (rest := []) X (c_Mo_isPlace l D kA (nI j) s.heap.size) rfl wm_2978 wm_9 wm_2976 wm_2977 1 (by decide +kernel) ⟨Nat.le_of_ble_eq_true rfl, Nat.le_of_ble_eq_true rfl⟩ rfl rfl (k_pre hN hK hP hD [] [0, 1, 2, 3] 4 rfl (by decide) rfl) rfl hl.1 rfl (Nat.le_of_ble_eq_true rfl) d_Mo_count_1 ⟨Nat.le_of_ble_eq_true rfl, Nat.le_of_ble_eq_true rfl⟩) hP hD hS hA [] [0, 1, 2, 3] 4 rfl (by decide) rfl rfl (fun r1 u2 H locs hu2 hP hD hS => ?_)
  subst hu2
  have hP : va_P D classes (cat [[(h, .inr (13, mF q x y))], [(q 3, .inl (kA 0, 4, .inl f))], [(q 4, .inl (kA 0, 4, .inl fl0))], [(q 2, .inl (kA 0, 66836, .inl al))]]) H := hP
  have hD : va_D A (cat [[(h, .inr (13, mF q x y))], [(q 3, .inl (kA 0, 4, .inl f))], [(q 4, .inl (kA 0, 4, .inl fl0))], [(q 2, .inl (kA 0, 66836, .inl al))]]) := hD
  refine lv_if_ne (pc := 4) (tgt := 9) hx hb d_Mo_count_4 (by decide) (fun c1 => ?_) (fun c1 => absurd c1 (fun e => absurd ((placeM_ok hj).symm.trans e) (by decide)))
  refine lv_aload_n (pc := 9) hx hb d_Mo_count_9 rfl (lv_at hl 0 rfl) ?_
  refine lv_iload_n (pc := 10) hx hb d_Mo_count_10 rfl (lv_at hl 1 rfl) ?_
  refine k_goV (gr := [[(q 4, .inl (kA 0, 4, .inl fl0))], [(q 2, .inl (kA 0, 66836, .inl al))]]) (k_rV (pc := 11) (As := [.int (nI j)]) (rest := []) X (c_Mo_take l D kA h q x y f j k hj hf H.size) rfl wm_3091 wm_9 wm_3088 wm_3090 wv_14_2 1 (by decide +kernel) ⟨Nat.le_of_ble_eq_true rfl, Nat.le_of_ble_eq_true rfl⟩ rfl rfl (va_recv hK hP (ci := 13) (q0 := 0) rfl rfl) (k_pre hN hK hP hD [0, 1] [2, 3] 4 rfl (by decide) rfl) rfl hl.1 rfl (Nat.le_of_ble_eq_true rfl) d_Mo_count_11 ⟨Nat.le_of_ble_eq_true rfl, Nat.le_of_ble_eq_true rfl⟩) hP hD hS hA [0, 1] [2, 3] 4 rfl (by decide) rfl rfl (fun u3 H locs hu3 hP hD hS => ?_)
  have hP : va_P D classes (cat [[(q 4, .inl (kA 0, 4, .inl fl0))], [(q 2, .inl (kA 0, 66836, .inl al))], [(h, .inr (13, mF q (va_up x 5 (nI (539 * (31 * j + k)))) y))], [(q 3, .inl (kA 0, 4, .inl f))]]) H := hP
  have hD : va_D A (cat [[(q 4, .inl (kA 0, 4, .inl fl0))], [(q 2, .inl (kA 0, 66836, .inl al))], [(h, .inr (13, mF q (va_up x 5 (nI (539 * (31 * j + k)))) y))], [(q 3, .inl (kA 0, 4, .inl f))]]) := hD
  refine lv_iload_n (pc := 14) hx hb d_Mo_count_14 rfl (lv_at hl 2 rfl) ?_
  refine lv_tableIn (pc := 15) (tgt := 65) hx hb d_Mo_count_15 (by decide) (by decide) rfl (by decide) ?_
  refine lv_aload_n (pc := 65) hx hb d_Mo_count_65 rfl (lv_at hl 0 rfl) ?_
  refine k_goI (gr := [[(q 4, .inl (kA 0, 4, .inl fl0))], [(q 3, .inl (kA 0, 4, .inl f))]]) (k_rV (pc := 66) (As := []) (rest := []) X (c_Mo_edges l D kA h q x y al (539 * (31 * j + k)) (by omega) H.size) rfl wm_3037 wm_9 wm_3034 wm_3036 wv_13_6 0 (by decide +kernel) ⟨Nat.le_of_ble_eq_true rfl, Nat.le_of_ble_eq_true rfl⟩ rfl rfl (va_recv hK hP (ci := 13) (q0 := 2) rfl rfl) (k_pre hN hK hP hD [2, 1] [0, 3] 4 rfl (by decide) rfl) rfl hl.1 rfl (Nat.le_of_ble_eq_true rfl) d_Mo_count_66 ⟨Nat.le_of_ble_eq_true rfl, Nat.le_of_ble_eq_true rfl⟩) hP hD hS hA [2, 1] [0, 3] 4 rfl (by decide) rfl rfl (fun r4 u5 H locs hu5 hP hD hS => ?_)
  subst hu5
  have hP : va_P D classes (cat [[(q 4, .inl (kA 0, 4, .inl fl0))], [(q 3, .inl (kA 0, 4, .inl f))], [(h, .inr (13, mF q (va_up x 5 (nI (539 * (31 * j + k)))) y))], [(q 2, .inl (kA 0, 66836, .inl al))]]) H := hP
  have hD : va_D A (cat [[(q 4, .inl (kA 0, 4, .inl fl0))], [(q 3, .inl (kA 0, 4, .inl f))], [(h, .inr (13, mF q (va_up x 5 (nI (539 * (31 * j + k)))) y))], [(q 2, .inl (kA 0, 66836, .inl al))]]) := hD
  obtain ⟨hP, hD⟩ := k_ord (gc := [[(h, .inr (13, mF q (va_up x 5 (nI (539 * (31 * j + k)))) y))], [(q 3, .inl (kA 0, 4, .inl f))], [(q 4, .inl (kA 0, 4, .inl fl0))], [(q 2, .inl (kA 0, 66836, .inl al))]]) hP hD [2, 1, 0, 3] 4 rfl (by decide) rfl
  refine W.widen (k := 0) (n := 0) (Nat.le_of_ble_eq_true rfl) (Nat.le_of_ble_eq_true rfl) ?_
  exact W.iret (v := (sp_Mo_edges al (539 * (31 * j + k)))) hx hb hr (fun t ht hW => ⟨⟨(sp_Mo_edges al (539 * (31 * j + k))), (), rfl, (by unfold sp_Mo_count_1; rfl), by rw [ht]; exact hP, va_K.moved hW.alike hK, hD⟩, hS.F ht⟩) hS.2.2 d_Mo_count_69
def sp_Mo_count_2 (f : Nat → Int32) (fl0 : Nat → Int32) (al : Nat → Int32) (j : Nat) (k : Nat) : Int32 := sp_Mo_groups al (539 * (31 * j + k))
set_option maxRecDepth 100000 in
set_option maxHeartbeats 4000000 in
/-- DrawingHouseModel.count(II)I -/
theorem c_Mo_count_2 (l : Launch) (D : va_G) (kA : Nat → ClassId) (h : Nat) (q : Nat → Nat) (x : Nat → Int32) (y : Nat → Int64) (f fl0 al : Nat → Int32) (j k : Nat) (hj : j < 4) (hk : k < 31) (hf : f j = nI k)  : Ci l y_Mo_count z_Mo_count { frames := 2, cells := 0, slots := 0, locals := 43 } D classes (TY kA) [.ref h, .int (nI j), .int 2] [[(h, .inr (13, mF q x y))], [(q 3, .inl (kA 0, 4, .inl f))], [(q 4, .inl (kA 0, 4, .inl fl0))], [(q 2, .inl (kA 0, 66836, .inl al))]] (fun r (_ : Unit) => r = sp_Mo_count_2 f fl0 al j k) (fun _ => [[(h, .inr (13, mF q (va_up x 5 (nI (539 * (31 * j + k)))) y))], [(q 3, .inl (kA 0, 4, .inl f))], [(q 4, .inl (kA 0, 4, .inl fl0))], [(q 2, .inl (kA 0, 66836, .inl al))]]) 0 0 := by
  intro sz
  refine k_met (cc := b_Mo_count) (maxL := 3) (ret := (some .int)) (by decide) rfl (Nat.le_of_ble_eq_true rfl) (fun p e s m below meth c ls X hl hB => ?_)
  obtain ⟨hsz, hP, hK, hD0, hN⟩ := hB
  subst hsz
  have hD := hD0.self (sz := s.heap.size)
  generalize hAe : va_A (cat [[(h, .inr (13, mF q x y))], [(q 3, .inl (kA 0, 4, .inl f))], [(q 4, .inl (kA 0, 4, .inl fl0))], [(q 2, .inl (kA 0, 66836, .inl al))]]) s.heap.size = A at hD ⊢
  have hA : ∀ q : Nat, s.heap.size ≤ q → A q := fun q h => by rw [← hAe]; exact Or.inr h
  have hS : va_S A s.heap s.heap [] := va_S.rf
  obtain ⟨hx, hb, hml, hown, hts, hr, hlk, hnm⟩ := id X
  have hl : lv_has ls 3 [(0, .ref h), (1, .int (nI j)), (2, .int 2)] := hl
  have hP : va_P D classes (cat [[(h, .inr (13, mF q x y))], [(q 3, .inl (kA 0, 4, .inl f))], [(q 4, .inl (kA 0, 4, .inl fl0))], [(q 2, .inl (kA 0, 66836, .inl al))]]) s.heap := hP
  have hK : va_K D classes (TY kA) s := hK
  refine lv_iload_n (pc := 0) hx hb d_Mo_count_0 rfl (lv_at hl 1 rfl) ?_
  refine k_goI (gr := [[(h, .inr (13, mF q x y))], [(q 3, .inl (kA 0, 4, .inl f))], [(q 4, .inl (kA 0, 4, .inl fl0))], [(q 2, .inl (kA 0, 66836, .inl al))]]) (k_rS (pc := 1) (As := [.int (nI j)]) (rest := []) X (c_Mo_isPlace l D kA (nI j) s.heap.size) rfl wm_2978 wm_9 wm_2976 wm_2977 1 (by decide +kernel) ⟨Nat.le_of_ble_eq_true rfl, Nat.le_of_ble_eq_true rfl⟩ rfl rfl (k_pre hN hK hP hD [] [0, 1, 2, 3] 4 rfl (by decide) rfl) rfl hl.1 rfl (Nat.le_of_ble_eq_true rfl) d_Mo_count_1 ⟨Nat.le_of_ble_eq_true rfl, Nat.le_of_ble_eq_true rfl⟩) hP hD hS hA [] [0, 1, 2, 3] 4 rfl (by decide) rfl rfl (fun r1 u2 H locs hu2 hP hD hS => ?_)
  subst hu2
  have hP : va_P D classes (cat [[(h, .inr (13, mF q x y))], [(q 3, .inl (kA 0, 4, .inl f))], [(q 4, .inl (kA 0, 4, .inl fl0))], [(q 2, .inl (kA 0, 66836, .inl al))]]) H := hP
  have hD : va_D A (cat [[(h, .inr (13, mF q x y))], [(q 3, .inl (kA 0, 4, .inl f))], [(q 4, .inl (kA 0, 4, .inl fl0))], [(q 2, .inl (kA 0, 66836, .inl al))]]) := hD
  refine lv_if_ne (pc := 4) (tgt := 9) hx hb d_Mo_count_4 (by decide) (fun c1 => ?_) (fun c1 => absurd c1 (fun e => absurd ((placeM_ok hj).symm.trans e) (by decide)))
  refine lv_aload_n (pc := 9) hx hb d_Mo_count_9 rfl (lv_at hl 0 rfl) ?_
  refine lv_iload_n (pc := 10) hx hb d_Mo_count_10 rfl (lv_at hl 1 rfl) ?_
  refine k_goV (gr := [[(q 4, .inl (kA 0, 4, .inl fl0))], [(q 2, .inl (kA 0, 66836, .inl al))]]) (k_rV (pc := 11) (As := [.int (nI j)]) (rest := []) X (c_Mo_take l D kA h q x y f j k hj hf H.size) rfl wm_3091 wm_9 wm_3088 wm_3090 wv_14_2 1 (by decide +kernel) ⟨Nat.le_of_ble_eq_true rfl, Nat.le_of_ble_eq_true rfl⟩ rfl rfl (va_recv hK hP (ci := 13) (q0 := 0) rfl rfl) (k_pre hN hK hP hD [0, 1] [2, 3] 4 rfl (by decide) rfl) rfl hl.1 rfl (Nat.le_of_ble_eq_true rfl) d_Mo_count_11 ⟨Nat.le_of_ble_eq_true rfl, Nat.le_of_ble_eq_true rfl⟩) hP hD hS hA [0, 1] [2, 3] 4 rfl (by decide) rfl rfl (fun u3 H locs hu3 hP hD hS => ?_)
  have hP : va_P D classes (cat [[(q 4, .inl (kA 0, 4, .inl fl0))], [(q 2, .inl (kA 0, 66836, .inl al))], [(h, .inr (13, mF q (va_up x 5 (nI (539 * (31 * j + k)))) y))], [(q 3, .inl (kA 0, 4, .inl f))]]) H := hP
  have hD : va_D A (cat [[(q 4, .inl (kA 0, 4, .inl fl0))], [(q 2, .inl (kA 0, 66836, .inl al))], [(h, .inr (13, mF q (va_up x 5 (nI (539 * (31 * j + k)))) y))], [(q 3, .inl (kA 0, 4, .inl f))]]) := hD
  refine lv_iload_n (pc := 14) hx hb d_Mo_count_14 rfl (lv_at hl 2 rfl) ?_
  refine lv_tableIn (pc := 15) (tgt := 70) hx hb d_Mo_count_15 (by decide) (by decide) rfl (by decide) ?_
  refine lv_aload_n (pc := 70) hx hb d_Mo_count_70 rfl (lv_at hl 0 rfl) ?_
  refine k_goI (gr := [[(q 4, .inl (kA 0, 4, .inl fl0))], [(q 3, .inl (kA 0, 4, .inl f))]]) (k_rV (pc := 71) (As := []) (rest := []) X (c_Mo_groups l D kA h q x y al (539 * (31 * j + k)) (by omega) H.size) rfl wm_3070 wm_9 wm_3067 wm_3069 wv_13_14 0 (by decide +kernel) ⟨Nat.le_of_ble_eq_true rfl, Nat.le_of_ble_eq_true rfl⟩ rfl rfl (va_recv hK hP (ci := 13) (q0 := 2) rfl rfl) (k_pre hN hK hP hD [2, 1] [0, 3] 4 rfl (by decide) rfl) rfl hl.1 rfl (Nat.le_of_ble_eq_true rfl) d_Mo_count_71 ⟨Nat.le_of_ble_eq_true rfl, Nat.le_of_ble_eq_true rfl⟩) hP hD hS hA [2, 1] [0, 3] 4 rfl (by decide) rfl rfl (fun r4 u5 H locs hu5 hP hD hS => ?_)
  subst hu5
  have hP : va_P D classes (cat [[(q 4, .inl (kA 0, 4, .inl fl0))], [(q 3, .inl (kA 0, 4, .inl f))], [(h, .inr (13, mF q (va_up x 5 (nI (539 * (31 * j + k)))) y))], [(q 2, .inl (kA 0, 66836, .inl al))]]) H := hP
  have hD : va_D A (cat [[(q 4, .inl (kA 0, 4, .inl fl0))], [(q 3, .inl (kA 0, 4, .inl f))], [(h, .inr (13, mF q (va_up x 5 (nI (539 * (31 * j + k)))) y))], [(q 2, .inl (kA 0, 66836, .inl al))]]) := hD
  obtain ⟨hP, hD⟩ := k_ord (gc := [[(h, .inr (13, mF q (va_up x 5 (nI (539 * (31 * j + k)))) y))], [(q 3, .inl (kA 0, 4, .inl f))], [(q 4, .inl (kA 0, 4, .inl fl0))], [(q 2, .inl (kA 0, 66836, .inl al))]]) hP hD [2, 1, 0, 3] 4 rfl (by decide) rfl
  refine W.widen (k := 0) (n := 0) (Nat.le_of_ble_eq_true rfl) (Nat.le_of_ble_eq_true rfl) ?_
  exact W.iret (v := (sp_Mo_groups al (539 * (31 * j + k)))) hx hb hr (fun t ht hW => ⟨⟨(sp_Mo_groups al (539 * (31 * j + k))), (), rfl, (by unfold sp_Mo_count_2; rfl), by rw [ht]; exact hP, va_K.moved hW.alike hK, hD⟩, hS.F ht⟩) hS.2.2 d_Mo_count_74
def sp_Mo_count_6 (f : Nat → Int32) (fl0 : Nat → Int32) (al : Nat → Int32) (j : Nat) (k : Nat) : Int32 := f j
set_option maxRecDepth 100000 in
set_option maxHeartbeats 4000000 in
/-- DrawingHouseModel.count(II)I -/
theorem c_Mo_count_6 (l : Launch) (D : va_G) (kA : Nat → ClassId) (h : Nat) (q : Nat → Nat) (x : Nat → Int32) (y : Nat → Int64) (f fl0 al : Nat → Int32) (j k : Nat) (hj : j < 4) (hk : k < 31) (hf : f j = nI k)  : Ci l y_Mo_count z_Mo_count { frames := 2, cells := 0, slots := 0, locals := 43 } D classes (TY kA) [.ref h, .int (nI j), .int 6] [[(h, .inr (13, mF q x y))], [(q 3, .inl (kA 0, 4, .inl f))], [(q 4, .inl (kA 0, 4, .inl fl0))], [(q 2, .inl (kA 0, 66836, .inl al))]] (fun r (_ : Unit) => r = sp_Mo_count_6 f fl0 al j k) (fun _ => [[(h, .inr (13, mF q (va_up x 5 (nI (539 * (31 * j + k)))) y))], [(q 3, .inl (kA 0, 4, .inl f))], [(q 4, .inl (kA 0, 4, .inl fl0))], [(q 2, .inl (kA 0, 66836, .inl al))]]) 0 0 := by
  intro sz
  refine k_met (cc := b_Mo_count) (maxL := 3) (ret := (some .int)) (by decide) rfl (Nat.le_of_ble_eq_true rfl) (fun p e s m below meth c ls X hl hB => ?_)
  obtain ⟨hsz, hP, hK, hD0, hN⟩ := hB
  subst hsz
  have hD := hD0.self (sz := s.heap.size)
  generalize hAe : va_A (cat [[(h, .inr (13, mF q x y))], [(q 3, .inl (kA 0, 4, .inl f))], [(q 4, .inl (kA 0, 4, .inl fl0))], [(q 2, .inl (kA 0, 66836, .inl al))]]) s.heap.size = A at hD ⊢
  have hA : ∀ q : Nat, s.heap.size ≤ q → A q := fun q h => by rw [← hAe]; exact Or.inr h
  have hS : va_S A s.heap s.heap [] := va_S.rf
  obtain ⟨hx, hb, hml, hown, hts, hr, hlk, hnm⟩ := id X
  have hl : lv_has ls 3 [(0, .ref h), (1, .int (nI j)), (2, .int 6)] := hl
  have hP : va_P D classes (cat [[(h, .inr (13, mF q x y))], [(q 3, .inl (kA 0, 4, .inl f))], [(q 4, .inl (kA 0, 4, .inl fl0))], [(q 2, .inl (kA 0, 66836, .inl al))]]) s.heap := hP
  have hK : va_K D classes (TY kA) s := hK
  refine lv_iload_n (pc := 0) hx hb d_Mo_count_0 rfl (lv_at hl 1 rfl) ?_
  refine k_goI (gr := [[(h, .inr (13, mF q x y))], [(q 3, .inl (kA 0, 4, .inl f))], [(q 4, .inl (kA 0, 4, .inl fl0))], [(q 2, .inl (kA 0, 66836, .inl al))]]) (k_rS (pc := 1) (As := [.int (nI j)]) (rest := []) X (c_Mo_isPlace l D kA (nI j) s.heap.size) rfl wm_2978 wm_9 wm_2976 wm_2977 1 (by decide +kernel) ⟨Nat.le_of_ble_eq_true rfl, Nat.le_of_ble_eq_true rfl⟩ rfl rfl (k_pre hN hK hP hD [] [0, 1, 2, 3] 4 rfl (by decide) rfl) rfl hl.1 rfl (Nat.le_of_ble_eq_true rfl) d_Mo_count_1 ⟨Nat.le_of_ble_eq_true rfl, Nat.le_of_ble_eq_true rfl⟩) hP hD hS hA [] [0, 1, 2, 3] 4 rfl (by decide) rfl rfl (fun r1 u2 H locs hu2 hP hD hS => ?_)
  subst hu2
  have hP : va_P D classes (cat [[(h, .inr (13, mF q x y))], [(q 3, .inl (kA 0, 4, .inl f))], [(q 4, .inl (kA 0, 4, .inl fl0))], [(q 2, .inl (kA 0, 66836, .inl al))]]) H := hP
  have hD : va_D A (cat [[(h, .inr (13, mF q x y))], [(q 3, .inl (kA 0, 4, .inl f))], [(q 4, .inl (kA 0, 4, .inl fl0))], [(q 2, .inl (kA 0, 66836, .inl al))]]) := hD
  refine lv_if_ne (pc := 4) (tgt := 9) hx hb d_Mo_count_4 (by decide) (fun c1 => ?_) (fun c1 => absurd c1 (fun e => absurd ((placeM_ok hj).symm.trans e) (by decide)))
  refine lv_aload_n (pc := 9) hx hb d_Mo_count_9 rfl (lv_at hl 0 rfl) ?_
  refine lv_iload_n (pc := 10) hx hb d_Mo_count_10 rfl (lv_at hl 1 rfl) ?_
  refine k_goV (gr := [[(q 4, .inl (kA 0, 4, .inl fl0))], [(q 2, .inl (kA 0, 66836, .inl al))]]) (k_rV (pc := 11) (As := [.int (nI j)]) (rest := []) X (c_Mo_take l D kA h q x y f j k hj hf H.size) rfl wm_3091 wm_9 wm_3088 wm_3090 wv_14_2 1 (by decide +kernel) ⟨Nat.le_of_ble_eq_true rfl, Nat.le_of_ble_eq_true rfl⟩ rfl rfl (va_recv hK hP (ci := 13) (q0 := 0) rfl rfl) (k_pre hN hK hP hD [0, 1] [2, 3] 4 rfl (by decide) rfl) rfl hl.1 rfl (Nat.le_of_ble_eq_true rfl) d_Mo_count_11 ⟨Nat.le_of_ble_eq_true rfl, Nat.le_of_ble_eq_true rfl⟩) hP hD hS hA [0, 1] [2, 3] 4 rfl (by decide) rfl rfl (fun u3 H locs hu3 hP hD hS => ?_)
  have hP : va_P D classes (cat [[(q 4, .inl (kA 0, 4, .inl fl0))], [(q 2, .inl (kA 0, 66836, .inl al))], [(h, .inr (13, mF q (va_up x 5 (nI (539 * (31 * j + k)))) y))], [(q 3, .inl (kA 0, 4, .inl f))]]) H := hP
  have hD : va_D A (cat [[(q 4, .inl (kA 0, 4, .inl fl0))], [(q 2, .inl (kA 0, 66836, .inl al))], [(h, .inr (13, mF q (va_up x 5 (nI (539 * (31 * j + k)))) y))], [(q 3, .inl (kA 0, 4, .inl f))]]) := hD
  refine lv_iload_n (pc := 14) hx hb d_Mo_count_14 rfl (lv_at hl 2 rfl) ?_
  refine lv_tableIn (pc := 15) (tgt := 95) hx hb d_Mo_count_15 (by decide) (by decide) rfl (by decide) ?_
  refine lv_aload_n (pc := 95) hx hb d_Mo_count_95 rfl (lv_at hl 0 rfl) ?_
  refine k_get (pc := 96) (v := .ref (q 3)) X hK hP 2 rfl rfl i_Mo 3 (by decide) wm_2436 rfl rfl d_Mo_count_96 ?_
  refine lv_iload_n (pc := 99) hx hb d_Mo_count_99 rfl (lv_at hl 1 rfl) ?_
  refine k_ild (pc := 100) hx hb hK hP 3 0 rfl rfl (j) rfl (by omega) (by decide) d_Mo_count_100 ?_
  obtain ⟨hP, hD⟩ := k_ord (gc := [[(h, .inr (13, mF q (va_up x 5 (nI (539 * (31 * j + k)))) y))], [(q 3, .inl (kA 0, 4, .inl f))], [(q 4, .inl (kA 0, 4, .inl fl0))], [(q 2, .inl (kA 0, 66836, .inl al))]]) hP hD [2, 3, 0, 1] 4 rfl (by decide) rfl
  refine W.widen (k := 0) (n := 0) (Nat.le_of_ble_eq_true rfl) (Nat.le_of_ble_eq_true rfl) ?_
  exact W.iret (v := (f j)) hx hb hr (fun t ht hW => ⟨⟨(f j), (), rfl, (by unfold sp_Mo_count_6; rfl), by rw [ht]; exact hP, va_K.moved hW.alike hK, hD⟩, hS.F ht⟩) hS.2.2 d_Mo_count_101
def sp_Mo_count_7 (f : Nat → Int32) (fl0 : Nat → Int32) (al : Nat → Int32) (j : Nat) (k : Nat) : Int32 := (fl0 j) - (f j)
set_option maxRecDepth 100000 in
set_option maxHeartbeats 4000000 in
/-- DrawingHouseModel.count(II)I -/
theorem c_Mo_count_7 (l : Launch) (D : va_G) (kA : Nat → ClassId) (h : Nat) (q : Nat → Nat) (x : Nat → Int32) (y : Nat → Int64) (f fl0 al : Nat → Int32) (j k : Nat) (hj : j < 4) (hk : k < 31) (hf : f j = nI k)  : Ci l y_Mo_count z_Mo_count { frames := 2, cells := 0, slots := 0, locals := 43 } D classes (TY kA) [.ref h, .int (nI j), .int 7] [[(h, .inr (13, mF q x y))], [(q 3, .inl (kA 0, 4, .inl f))], [(q 4, .inl (kA 0, 4, .inl fl0))], [(q 2, .inl (kA 0, 66836, .inl al))]] (fun r (_ : Unit) => r = sp_Mo_count_7 f fl0 al j k) (fun _ => [[(h, .inr (13, mF q (va_up x 5 (nI (539 * (31 * j + k)))) y))], [(q 3, .inl (kA 0, 4, .inl f))], [(q 4, .inl (kA 0, 4, .inl fl0))], [(q 2, .inl (kA 0, 66836, .inl al))]]) 0 0 := by
  intro sz
  refine k_met (cc := b_Mo_count) (maxL := 3) (ret := (some .int)) (by decide) rfl (Nat.le_of_ble_eq_true rfl) (fun p e s m below meth c ls X hl hB => ?_)
  obtain ⟨hsz, hP, hK, hD0, hN⟩ := hB
  subst hsz
  have hD := hD0.self (sz := s.heap.size)
  generalize hAe : va_A (cat [[(h, .inr (13, mF q x y))], [(q 3, .inl (kA 0, 4, .inl f))], [(q 4, .inl (kA 0, 4, .inl fl0))], [(q 2, .inl (kA 0, 66836, .inl al))]]) s.heap.size = A at hD ⊢
  have hA : ∀ q : Nat, s.heap.size ≤ q → A q := fun q h => by rw [← hAe]; exact Or.inr h
  have hS : va_S A s.heap s.heap [] := va_S.rf
  obtain ⟨hx, hb, hml, hown, hts, hr, hlk, hnm⟩ := id X
  have hl : lv_has ls 3 [(0, .ref h), (1, .int (nI j)), (2, .int 7)] := hl
  have hP : va_P D classes (cat [[(h, .inr (13, mF q x y))], [(q 3, .inl (kA 0, 4, .inl f))], [(q 4, .inl (kA 0, 4, .inl fl0))], [(q 2, .inl (kA 0, 66836, .inl al))]]) s.heap := hP
  have hK : va_K D classes (TY kA) s := hK
  refine lv_iload_n (pc := 0) hx hb d_Mo_count_0 rfl (lv_at hl 1 rfl) ?_
  refine k_goI (gr := [[(h, .inr (13, mF q x y))], [(q 3, .inl (kA 0, 4, .inl f))], [(q 4, .inl (kA 0, 4, .inl fl0))], [(q 2, .inl (kA 0, 66836, .inl al))]]) (k_rS (pc := 1) (As := [.int (nI j)]) (rest := []) X (c_Mo_isPlace l D kA (nI j) s.heap.size) rfl wm_2978 wm_9 wm_2976 wm_2977 1 (by decide +kernel) ⟨Nat.le_of_ble_eq_true rfl, Nat.le_of_ble_eq_true rfl⟩ rfl rfl (k_pre hN hK hP hD [] [0, 1, 2, 3] 4 rfl (by decide) rfl) rfl hl.1 rfl (Nat.le_of_ble_eq_true rfl) d_Mo_count_1 ⟨Nat.le_of_ble_eq_true rfl, Nat.le_of_ble_eq_true rfl⟩) hP hD hS hA [] [0, 1, 2, 3] 4 rfl (by decide) rfl rfl (fun r1 u2 H locs hu2 hP hD hS => ?_)
  subst hu2
  have hP : va_P D classes (cat [[(h, .inr (13, mF q x y))], [(q 3, .inl (kA 0, 4, .inl f))], [(q 4, .inl (kA 0, 4, .inl fl0))], [(q 2, .inl (kA 0, 66836, .inl al))]]) H := hP
  have hD : va_D A (cat [[(h, .inr (13, mF q x y))], [(q 3, .inl (kA 0, 4, .inl f))], [(q 4, .inl (kA 0, 4, .inl fl0))], [(q 2, .inl (kA 0, 66836, .inl al))]]) := hD
  refine lv_if_ne (pc := 4) (tgt := 9) hx hb d_Mo_count_4 (by decide) (fun c1 => ?_) (fun c1 => absurd c1 (fun e => absurd ((placeM_ok hj).symm.trans e) (by decide)))
  refine lv_aload_n (pc := 9) hx hb d_Mo_count_9 rfl (lv_at hl 0 rfl) ?_
  refine lv_iload_n (pc := 10) hx hb d_Mo_count_10 rfl (lv_at hl 1 rfl) ?_
  refine k_goV (gr := [[(q 4, .inl (kA 0, 4, .inl fl0))], [(q 2, .inl (kA 0, 66836, .inl al))]]) (k_rV (pc := 11) (As := [.int (nI j)]) (rest := []) X (c_Mo_take l D kA h q x y f j k hj hf H.size) rfl wm_3091 wm_9 wm_3088 wm_3090 wv_14_2 1 (by decide +kernel) ⟨Nat.le_of_ble_eq_true rfl, Nat.le_of_ble_eq_true rfl⟩ rfl rfl (va_recv hK hP (ci := 13) (q0 := 0) rfl rfl) (k_pre hN hK hP hD [0, 1] [2, 3] 4 rfl (by decide) rfl) rfl hl.1 rfl (Nat.le_of_ble_eq_true rfl) d_Mo_count_11 ⟨Nat.le_of_ble_eq_true rfl, Nat.le_of_ble_eq_true rfl⟩) hP hD hS hA [0, 1] [2, 3] 4 rfl (by decide) rfl rfl (fun u3 H locs hu3 hP hD hS => ?_)
  have hP : va_P D classes (cat [[(q 4, .inl (kA 0, 4, .inl fl0))], [(q 2, .inl (kA 0, 66836, .inl al))], [(h, .inr (13, mF q (va_up x 5 (nI (539 * (31 * j + k)))) y))], [(q 3, .inl (kA 0, 4, .inl f))]]) H := hP
  have hD : va_D A (cat [[(q 4, .inl (kA 0, 4, .inl fl0))], [(q 2, .inl (kA 0, 66836, .inl al))], [(h, .inr (13, mF q (va_up x 5 (nI (539 * (31 * j + k)))) y))], [(q 3, .inl (kA 0, 4, .inl f))]]) := hD
  refine lv_iload_n (pc := 14) hx hb d_Mo_count_14 rfl (lv_at hl 2 rfl) ?_
  refine lv_tableIn (pc := 15) (tgt := 102) hx hb d_Mo_count_15 (by decide) (by decide) rfl (by decide) ?_
  refine lv_aload_n (pc := 102) hx hb d_Mo_count_102 rfl (lv_at hl 0 rfl) ?_
  refine k_get (pc := 103) (v := .ref (q 4)) X hK hP 2 rfl rfl i_Mo 4 (by decide) wm_2437 rfl rfl d_Mo_count_103 ?_
  refine lv_iload_n (pc := 106) hx hb d_Mo_count_106 rfl (lv_at hl 1 rfl) ?_
  refine k_ild (pc := 107) hx hb hK hP 0 0 rfl rfl (j) rfl (by omega) (by decide) d_Mo_count_107 ?_
  refine lv_aload_n (pc := 108) hx hb d_Mo_count_108 rfl (lv_at hl 0 rfl) ?_
  refine k_get (pc := 109) (v := .ref (q 3)) X hK hP 2 rfl rfl i_Mo 3 (by decide) wm_2436 rfl rfl d_Mo_count_109 ?_
  refine lv_iload_n (pc := 112) hx hb d_Mo_count_112 rfl (lv_at hl 1 rfl) ?_
  refine k_ild (pc := 113) hx hb hK hP 3 0 rfl rfl (j) rfl (by omega) (by decide) d_Mo_count_113 ?_
  refine lv_isub (pc := 114) hx hb d_Mo_count_114 ?_
  obtain ⟨hP, hD⟩ := k_ord (gc := [[(h, .inr (13, mF q (va_up x 5 (nI (539 * (31 * j + k)))) y))], [(q 3, .inl (kA 0, 4, .inl f))], [(q 4, .inl (kA 0, 4, .inl fl0))], [(q 2, .inl (kA 0, 66836, .inl al))]]) hP hD [2, 3, 0, 1] 4 rfl (by decide) rfl
  refine W.widen (k := 0) (n := 0) (Nat.le_of_ble_eq_true rfl) (Nat.le_of_ble_eq_true rfl) ?_
  exact W.iret (v := ((fl0 j) - (f j))) hx hb hr (fun t ht hW => ⟨⟨((fl0 j) - (f j)), (), rfl, (by unfold sp_Mo_count_7; rfl), by rw [ht]; exact hP, va_K.moved hW.alike hK, hD⟩, hS.F ht⟩) hS.2.2 d_Mo_count_115
