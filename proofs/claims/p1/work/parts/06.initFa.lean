theorem wm_387 : (Cond.arrayClass ClassFile.FieldType.boolean : Cond) ∈ lw_g := lw_gi (lw_c2 (List.mem_of_getElem? (i := 147) rfl)) rfl
theorem wm_392 : (Cond.code ({ cls := "DrawingHouse$Facts", name := "<init>", desc := "()V" } : MethodName) prog_4_method_1_code (1 : Nat) (Option.none : Option ClassFile.FieldType) : Cond) ∈ lw_g := lw_gi (lw_c2 (List.mem_of_getElem? (i := 152) rfl)) rfl
theorem wm_393 : (Cond.methodLink "DrawingHouse$Facts" (3 : Nat) ({ cls := "java/lang/Object", name := "<init>", desc := "()V" } : MethodName) : Cond) ∈ lw_g := lw_gi (lw_c2 (List.mem_of_getElem? (i := 153) rfl)) rfl
theorem wm_394 : (Cond.fieldLink "DrawingHouse$Facts" (9 : Nat) "DrawingHouse$Facts" "known" "Z" : Cond) ∈ lw_g := lw_gi (lw_c2 (List.mem_of_getElem? (i := 154) rfl)) rfl
theorem wm_396 : (Cond.fieldLink "DrawingHouse$Facts" (15 : Nat) "DrawingHouse$Facts" "parts" "I" : Cond) ∈ lw_g := lw_gi (lw_c2 (List.mem_of_getElem? (i := 156) rfl)) rfl
theorem wm_400 : (Cond.fieldLink "DrawingHouse$Facts" (19 : Nat) "DrawingHouse$Facts" "blocks" "I" : Cond) ∈ lw_g := lw_gi (lw_c2 (List.mem_of_getElem? (i := 160) rfl)) rfl
theorem wm_403 : (Cond.fieldLink "DrawingHouse$Facts" (22 : Nat) "DrawingHouse$Facts" "strongs" "I" : Cond) ∈ lw_g := lw_gi (lw_c2 (List.mem_of_getElem? (i := 163) rfl)) rfl
theorem wm_405 : (Cond.fieldLink "DrawingHouse$Facts" (25 : Nat) "DrawingHouse$Facts" "part" "[I" : Cond) ∈ lw_g := lw_gi (lw_c2 (List.mem_of_getElem? (i := 165) rfl)) rfl
theorem wm_409 : (Cond.fieldLink "DrawingHouse$Facts" (29 : Nat) "DrawingHouse$Facts" "block" "[I" : Cond) ∈ lw_g := lw_gi (lw_c2 (List.mem_of_getElem? (i := 169) rfl)) rfl
theorem wm_412 : (Cond.fieldLink "DrawingHouse$Facts" (32 : Nat) "DrawingHouse$Facts" "strong" "[I" : Cond) ∈ lw_g := lw_gi (lw_c2 (List.mem_of_getElem? (i := 172) rfl)) rfl
theorem wm_414 : (Cond.fieldLink "DrawingHouse$Facts" (35 : Nat) "DrawingHouse$Facts" "core" "[I" : Cond) ∈ lw_g := lw_gi (lw_c2 (List.mem_of_getElem? (i := 174) rfl)) rfl
theorem wm_417 : (Cond.fieldLink "DrawingHouse$Facts" (38 : Nat) "DrawingHouse$Facts" "blocksAt" "[I" : Cond) ∈ lw_g := lw_gi (lw_c2 (List.mem_of_getElem? (i := 177) rfl)) rfl
theorem wm_420 : (Cond.fieldLink "DrawingHouse$Facts" (41 : Nat) "DrawingHouse$Facts" "turned" "[Z" : Cond) ∈ lw_g := lw_gi (lw_c2 (List.mem_of_getElem? (i := 180) rfl)) rfl
theorem wm_423 : (Cond.fieldLink "DrawingHouse$Facts" (45 : Nat) "DrawingHouse$Facts" "reach" "[I" : Cond) ∈ lw_g := lw_gi (lw_c2 (List.mem_of_getElem? (i := 183) rfl)) rfl
theorem wm_424 : (Cond.fieldLink "DrawingHouse$Facts" (48 : Nat) "DrawingHouse$Facts" "loop" "[I" : Cond) ∈ lw_g := lw_gi (lw_c2 (List.mem_of_getElem? (i := 184) rfl)) rfl
theorem wm_425 : (Cond.fieldLink "DrawingHouse$Facts" (51 : Nat) "DrawingHouse$Facts" "rank" "[I" : Cond) ∈ lw_g := lw_gi (lw_c2 (List.mem_of_getElem? (i := 185) rfl)) rfl
theorem wm_426 : (Cond.fieldLink "DrawingHouse$Facts" (54 : Nat) "DrawingHouse$Facts" "member" "[I" : Cond) ∈ lw_g := lw_gi (lw_c2 (List.mem_of_getElem? (i := 186) rfl)) rfl
theorem wm_427 : (Cond.fieldLink "DrawingHouse$Facts" (57 : Nat) "DrawingHouse$Facts" "least" "[I" : Cond) ∈ lw_g := lw_gi (lw_c2 (List.mem_of_getElem? (i := 187) rfl)) rfl
abbrev b_Fa_init : ByteArray := prog_4_method_1_code
def y_Fa_init : MethodName := ⟨"DrawingHouse$Facts", "<init>", "()V"⟩
abbrev z_Fa_init : List Cond := Cond.code y_Fa_init b_Fa_init 1 none :: lw_g
theorem d_Fa_init_0 : decode b_Fa_init 0 = .ok (.aload_n 0, 1) := by decide +kernel
theorem d_Fa_init_1 : decode b_Fa_init 1 = .ok (.invokespecial 3, 3) := by decide +kernel
theorem d_Fa_init_4 : decode b_Fa_init 4 = .ok (.aload_n 0, 1) := by decide +kernel
theorem d_Fa_init_5 : decode b_Fa_init 5 = .ok (.iconst 0, 1) := by decide +kernel
theorem d_Fa_init_6 : decode b_Fa_init 6 = .ok (.putfield 9, 3) := by decide +kernel
theorem d_Fa_init_9 : decode b_Fa_init 9 = .ok (.aload_n 0, 1) := by decide +kernel
theorem d_Fa_init_10 : decode b_Fa_init 10 = .ok (.iconst 0, 1) := by decide +kernel
theorem d_Fa_init_11 : decode b_Fa_init 11 = .ok (.putfield 15, 3) := by decide +kernel
theorem d_Fa_init_14 : decode b_Fa_init 14 = .ok (.aload_n 0, 1) := by decide +kernel
theorem d_Fa_init_15 : decode b_Fa_init 15 = .ok (.iconst 0, 1) := by decide +kernel
theorem d_Fa_init_16 : decode b_Fa_init 16 = .ok (.putfield 19, 3) := by decide +kernel
theorem d_Fa_init_19 : decode b_Fa_init 19 = .ok (.aload_n 0, 1) := by decide +kernel
theorem d_Fa_init_20 : decode b_Fa_init 20 = .ok (.iconst 0, 1) := by decide +kernel
theorem d_Fa_init_21 : decode b_Fa_init 21 = .ok (.putfield 22, 3) := by decide +kernel
theorem d_Fa_init_24 : decode b_Fa_init 24 = .ok (.aload_n 0, 1) := by decide +kernel
theorem d_Fa_init_25 : decode b_Fa_init 25 = .ok (.bipush 24, 2) := by decide +kernel
theorem d_Fa_init_27 : decode b_Fa_init 27 = .ok (.newarray .int, 2) := by decide +kernel
theorem d_Fa_init_29 : decode b_Fa_init 29 = .ok (.putfield 25, 3) := by decide +kernel
theorem d_Fa_init_32 : decode b_Fa_init 32 = .ok (.aload_n 0, 1) := by decide +kernel
theorem d_Fa_init_33 : decode b_Fa_init 33 = .ok (.bipush 48, 2) := by decide +kernel
theorem d_Fa_init_35 : decode b_Fa_init 35 = .ok (.newarray .int, 2) := by decide +kernel
theorem d_Fa_init_37 : decode b_Fa_init 37 = .ok (.putfield 29, 3) := by decide +kernel
theorem d_Fa_init_40 : decode b_Fa_init 40 = .ok (.aload_n 0, 1) := by decide +kernel
theorem d_Fa_init_41 : decode b_Fa_init 41 = .ok (.bipush 24, 2) := by decide +kernel
theorem d_Fa_init_43 : decode b_Fa_init 43 = .ok (.newarray .int, 2) := by decide +kernel
theorem d_Fa_init_45 : decode b_Fa_init 45 = .ok (.putfield 32, 3) := by decide +kernel
theorem d_Fa_init_48 : decode b_Fa_init 48 = .ok (.aload_n 0, 1) := by decide +kernel
theorem d_Fa_init_49 : decode b_Fa_init 49 = .ok (.bipush 24, 2) := by decide +kernel
theorem d_Fa_init_51 : decode b_Fa_init 51 = .ok (.newarray .int, 2) := by decide +kernel
theorem d_Fa_init_53 : decode b_Fa_init 53 = .ok (.putfield 35, 3) := by decide +kernel
theorem d_Fa_init_56 : decode b_Fa_init 56 = .ok (.aload_n 0, 1) := by decide +kernel
theorem d_Fa_init_57 : decode b_Fa_init 57 = .ok (.bipush 24, 2) := by decide +kernel
theorem d_Fa_init_59 : decode b_Fa_init 59 = .ok (.newarray .int, 2) := by decide +kernel
theorem d_Fa_init_61 : decode b_Fa_init 61 = .ok (.putfield 38, 3) := by decide +kernel
theorem d_Fa_init_64 : decode b_Fa_init 64 = .ok (.aload_n 0, 1) := by decide +kernel
theorem d_Fa_init_65 : decode b_Fa_init 65 = .ok (.bipush 48, 2) := by decide +kernel
theorem d_Fa_init_67 : decode b_Fa_init 67 = .ok (.newarray .boolean, 2) := by decide +kernel
theorem d_Fa_init_69 : decode b_Fa_init 69 = .ok (.putfield 41, 3) := by decide +kernel
theorem d_Fa_init_72 : decode b_Fa_init 72 = .ok (.aload_n 0, 1) := by decide +kernel
theorem d_Fa_init_73 : decode b_Fa_init 73 = .ok (.bipush 24, 2) := by decide +kernel
theorem d_Fa_init_75 : decode b_Fa_init 75 = .ok (.newarray .int, 2) := by decide +kernel
theorem d_Fa_init_77 : decode b_Fa_init 77 = .ok (.putfield 45, 3) := by decide +kernel
theorem d_Fa_init_80 : decode b_Fa_init 80 = .ok (.aload_n 0, 1) := by decide +kernel
theorem d_Fa_init_81 : decode b_Fa_init 81 = .ok (.bipush 24, 2) := by decide +kernel
theorem d_Fa_init_83 : decode b_Fa_init 83 = .ok (.newarray .int, 2) := by decide +kernel
theorem d_Fa_init_85 : decode b_Fa_init 85 = .ok (.putfield 48, 3) := by decide +kernel
theorem d_Fa_init_88 : decode b_Fa_init 88 = .ok (.aload_n 0, 1) := by decide +kernel
theorem d_Fa_init_89 : decode b_Fa_init 89 = .ok (.bipush 24, 2) := by decide +kernel
theorem d_Fa_init_91 : decode b_Fa_init 91 = .ok (.newarray .int, 2) := by decide +kernel
theorem d_Fa_init_93 : decode b_Fa_init 93 = .ok (.putfield 51, 3) := by decide +kernel
theorem d_Fa_init_96 : decode b_Fa_init 96 = .ok (.aload_n 0, 1) := by decide +kernel
theorem d_Fa_init_97 : decode b_Fa_init 97 = .ok (.bipush 24, 2) := by decide +kernel
theorem d_Fa_init_99 : decode b_Fa_init 99 = .ok (.newarray .int, 2) := by decide +kernel
theorem d_Fa_init_101 : decode b_Fa_init 101 = .ok (.putfield 54, 3) := by decide +kernel
theorem d_Fa_init_104 : decode b_Fa_init 104 = .ok (.aload_n 0, 1) := by decide +kernel
theorem d_Fa_init_105 : decode b_Fa_init 105 = .ok (.sipush 128, 3) := by decide +kernel
theorem d_Fa_init_108 : decode b_Fa_init 108 = .ok (.newarray .int, 2) := by decide +kernel
theorem d_Fa_init_110 : decode b_Fa_init 110 = .ok (.putfield 57, 3) := by decide +kernel
theorem d_Fa_init_113 : decode b_Fa_init 113 = .ok (.return_, 1) := by decide +kernel
abbrev f0Fa : List Value := [.int 0, .int 0, .int 0, .int 0, .null, .null, .null, .null, .null, .null, .null, .null, .null, .null, .null]
set_option maxRecDepth 20000 in
theorem f0Fa_ok : ∀ j, j < 15 → defaultValue (t_Fa j) = vp_V f0Fa j := by decide +kernel
def wFa (kA : Nat → ClassId) (h : Nat) (q : Nat → Nat) (x : Nat → Int32) (a : Nat → Nat → Int32) : va_W := [(h, .inr (2, [.int (x 0), .int (x 1), .int (x 2), .int (x 3), .ref (q 4), .ref (q 5), .ref (q 6), .ref (q 7), .ref (q 8), .ref (q 9), .ref (q 10), .ref (q 11), .ref (q 12), .ref (q 13), .ref (q 14)])), (q 4, .inl (kA 0, 24, .inl (a 4))), (q 5, .inl (kA 0, 48, .inl (a 5))), (q 6, .inl (kA 0, 24, .inl (a 6))), (q 7, .inl (kA 0, 24, .inl (a 7))), (q 8, .inl (kA 0, 24, .inl (a 8))), (q 9, .inl (kA 2, 48, .inl (a 9))), (q 10, .inl (kA 0, 24, .inl (a 10))), (q 11, .inl (kA 0, 24, .inl (a 11))), (q 12, .inl (kA 0, 24, .inl (a 12))), (q 13, .inl (kA 0, 24, .inl (a 13))), (q 14, .inl (kA 0, 128, .inl (a 14)))]
def x0Fa : Nat → Int32 := fun _ => 0
def a0Fa : Nat → Nat → Int32 := fun _ => fun _ => 0
set_option maxRecDepth 100000 in
set_option maxHeartbeats 4000000 in
/-- DrawingHouse$Facts()V -/
theorem c_Fa_init (l : Launch) (D : va_G) (kA : Nat → ClassId) (h : Nat) : Cv l y_Fa_init z_Fa_init { frames := 1, cells := 11, slots := 416, locals := 12 } D classes (TY kA) [.ref h] [[(h, .inr (2, f0Fa))]] (fun u : (Nat → Nat) => True) (fun u => [wFa kA h u x0Fa a0Fa]) 11 416 := by
  intro sz
  refine k_met (cc := b_Fa_init) (maxL := 1) (ret := none) (by decide) rfl (Nat.le_of_ble_eq_true rfl) (fun p e s m below meth c ls X hl hB => ?_)
  obtain ⟨hsz, hP, hK, hD0, hN⟩ := hB
  subst hsz
  have hD := hD0.self (sz := s.heap.size)
  generalize hAe : va_A (cat [[(h, .inr (2, [.int 0, .int 0, .int 0, .int 0, .null, .null, .null, .null, .null, .null, .null, .null, .null, .null, .null]))]]) s.heap.size = A at hD ⊢
  have hA : ∀ q : Nat, s.heap.size ≤ q → A q := fun q h => by rw [← hAe]; exact Or.inr h
  have hS : va_S A s.heap s.heap [] := va_S.rf
  obtain ⟨hx, hb, hml, hown, hts, hr, hlk, hnm⟩ := id X
  have hl : lv_has ls 1 [(0, .ref h)] := hl
  have hP : va_P D classes (cat [[(h, .inr (2, [.int 0, .int 0, .int 0, .int 0, .null, .null, .null, .null, .null, .null, .null, .null, .null, .null, .null]))]]) s.heap := hP
  have hK : va_K D classes (TY kA) s := hK
  refine lv_aload_n (pc := 0) hx hb d_Fa_init_0 rfl (lv_at hl 0 rfl) ?_
  refine W.objInit hx hb hown (hts _ wm_393) (hts _ wm_31) (hts _ wm_32) rfl (by rw [hml]; exact hl.1) rfl d_Fa_init_1 (Nat.le_of_ble_eq_true rfl) (Nat.le_of_ble_eq_true rfl) ?_
  refine W.eq (g2 := F0 m 4 ls []) rfl ?_
  refine lv_aload_n (pc := 4) hx hb d_Fa_init_4 rfl (lv_at hl 0 rfl) ?_
  refine lv_iconst (pc := 5) (v := 0) hx hb d_Fa_init_5 (by decide) ?_
  refine k_put (pc := 6) X hK hP hD hS 0 rfl rfl i_Fa t_Fa t_Fa_ok n_Fa 0 (by decide) wm_394 rfl (Or.inl rfl) rfl rfl (Nat.le_of_ble_eq_true rfl) d_Fa_init_6 (fun H locs hP hD hS => ?_)
  have hP : va_P D classes (cat [[(h, .inr (2, [.int 0, .int 0, .int 0, .int 0, .null, .null, .null, .null, .null, .null, .null, .null, .null, .null, .null]))]]) H := hP
  have hD : va_D A (cat [[(h, .inr (2, [.int 0, .int 0, .int 0, .int 0, .null, .null, .null, .null, .null, .null, .null, .null, .null, .null, .null]))]]) := hD
  refine lv_aload_n (pc := 9) hx hb d_Fa_init_9 rfl (lv_at hl 0 rfl) ?_
  refine lv_iconst (pc := 10) (v := 0) hx hb d_Fa_init_10 (by decide) ?_
  refine k_put (pc := 11) X hK hP hD hS 0 rfl rfl i_Fa t_Fa t_Fa_ok n_Fa 1 (by decide) wm_396 rfl (Or.inl rfl) rfl rfl (Nat.le_of_ble_eq_true rfl) d_Fa_init_11 (fun H locs hP hD hS => ?_)
  have hP : va_P D classes (cat [[(h, .inr (2, [.int 0, .int 0, .int 0, .int 0, .null, .null, .null, .null, .null, .null, .null, .null, .null, .null, .null]))]]) H := hP
  have hD : va_D A (cat [[(h, .inr (2, [.int 0, .int 0, .int 0, .int 0, .null, .null, .null, .null, .null, .null, .null, .null, .null, .null, .null]))]]) := hD
  refine lv_aload_n (pc := 14) hx hb d_Fa_init_14 rfl (lv_at hl 0 rfl) ?_
  refine lv_iconst (pc := 15) (v := 0) hx hb d_Fa_init_15 (by decide) ?_
  refine k_put (pc := 16) X hK hP hD hS 0 rfl rfl i_Fa t_Fa t_Fa_ok n_Fa 2 (by decide) wm_400 rfl (Or.inl rfl) rfl rfl (Nat.le_of_ble_eq_true rfl) d_Fa_init_16 (fun H locs hP hD hS => ?_)
  have hP : va_P D classes (cat [[(h, .inr (2, [.int 0, .int 0, .int 0, .int 0, .null, .null, .null, .null, .null, .null, .null, .null, .null, .null, .null]))]]) H := hP
  have hD : va_D A (cat [[(h, .inr (2, [.int 0, .int 0, .int 0, .int 0, .null, .null, .null, .null, .null, .null, .null, .null, .null, .null, .null]))]]) := hD
  refine lv_aload_n (pc := 19) hx hb d_Fa_init_19 rfl (lv_at hl 0 rfl) ?_
  refine lv_iconst (pc := 20) (v := 0) hx hb d_Fa_init_20 (by decide) ?_
  refine k_put (pc := 21) X hK hP hD hS 0 rfl rfl i_Fa t_Fa t_Fa_ok n_Fa 3 (by decide) wm_403 rfl (Or.inl rfl) rfl rfl (Nat.le_of_ble_eq_true rfl) d_Fa_init_21 (fun H locs hP hD hS => ?_)
  have hP : va_P D classes (cat [[(h, .inr (2, [.int 0, .int 0, .int 0, .int 0, .null, .null, .null, .null, .null, .null, .null, .null, .null, .null, .null]))]]) H := hP
  have hD : va_D A (cat [[(h, .inr (2, [.int 0, .int 0, .int 0, .int 0, .null, .null, .null, .null, .null, .null, .null, .null, .null, .null, .null]))]]) := hD
  refine lv_aload_n (pc := 24) hx hb d_Fa_init_24 rfl (lv_at hl 0 rfl) ?_
  refine lv_bipush (pc := 25) (v := 24) hx hb d_Fa_init_25 (by decide) ?_
  refine k_newa (pc := 27) (atype := .int) X (ty := .int) (a0 := (24, .inl (fun _ => 0))) rfl rfl wm_193 hK hP hD hS hA 0 rfl (fun _ => rfl) (by decide) rfl (by decide) (Nat.le_of_ble_eq_true rfl) (Nat.le_of_ble_eq_true rfl) d_Fa_init_27 (fun q1 H hP hD hS => ?_)
  have hP : va_P D classes (cat [[(h, .inr (2, [.int 0, .int 0, .int 0, .int 0, .null, .null, .null, .null, .null, .null, .null, .null, .null, .null, .null]))], [(q1, .inl (kA 0, 24, .inl (fun _ => 0)))]]) H := hP
  have hD : va_D A (cat [[(h, .inr (2, [.int 0, .int 0, .int 0, .int 0, .null, .null, .null, .null, .null, .null, .null, .null, .null, .null, .null]))], [(q1, .inl (kA 0, 24, .inl (fun _ => 0)))]]) := hD
  refine W.widen (k := 1) (n := 24) (by omega) (by omega) ?_
  refine k_put (pc := 29) X hK hP hD hS 0 rfl rfl i_Fa t_Fa t_Fa_ok n_Fa 4 (by decide) wm_405 rfl (Or.inr ⟨rfl, rfl⟩) rfl rfl (Nat.le_of_ble_eq_true rfl) d_Fa_init_29 (fun H locs hP hD hS => ?_)
  have hP : va_P D classes (cat [[(h, .inr (2, [.int 0, .int 0, .int 0, .int 0, .ref q1, .null, .null, .null, .null, .null, .null, .null, .null, .null, .null]))], [(q1, .inl (kA 0, 24, .inl (fun _ => 0)))]]) H := hP
  have hD : va_D A (cat [[(h, .inr (2, [.int 0, .int 0, .int 0, .int 0, .ref q1, .null, .null, .null, .null, .null, .null, .null, .null, .null, .null]))], [(q1, .inl (kA 0, 24, .inl (fun _ => 0)))]]) := hD
  refine lv_aload_n (pc := 32) hx hb d_Fa_init_32 rfl (lv_at hl 0 rfl) ?_
  refine lv_bipush (pc := 33) (v := 48) hx hb d_Fa_init_33 (by decide) ?_
  refine k_newa (pc := 35) (atype := .int) X (ty := .int) (a0 := (48, .inl (fun _ => 0))) rfl rfl wm_193 hK hP hD hS hA 0 rfl (fun _ => rfl) (by decide) rfl (by decide) (Nat.le_of_ble_eq_true rfl) (Nat.le_of_ble_eq_true rfl) d_Fa_init_35 (fun q2 H hP hD hS => ?_)
  have hP : va_P D classes (cat [[(h, .inr (2, [.int 0, .int 0, .int 0, .int 0, .ref q1, .null, .null, .null, .null, .null, .null, .null, .null, .null, .null]))], [(q1, .inl (kA 0, 24, .inl (fun _ => 0)))], [(q2, .inl (kA 0, 48, .inl (fun _ => 0)))]]) H := hP
  have hD : va_D A (cat [[(h, .inr (2, [.int 0, .int 0, .int 0, .int 0, .ref q1, .null, .null, .null, .null, .null, .null, .null, .null, .null, .null]))], [(q1, .inl (kA 0, 24, .inl (fun _ => 0)))], [(q2, .inl (kA 0, 48, .inl (fun _ => 0)))]]) := hD
  refine W.widen (k := 2) (n := 72) (by omega) (by omega) ?_
  refine k_put (pc := 37) X hK hP hD hS 0 rfl rfl i_Fa t_Fa t_Fa_ok n_Fa 5 (by decide) wm_409 rfl (Or.inr ⟨rfl, rfl⟩) rfl rfl (Nat.le_of_ble_eq_true rfl) d_Fa_init_37 (fun H locs hP hD hS => ?_)
  have hP : va_P D classes (cat [[(h, .inr (2, [.int 0, .int 0, .int 0, .int 0, .ref q1, .ref q2, .null, .null, .null, .null, .null, .null, .null, .null, .null]))], [(q1, .inl (kA 0, 24, .inl (fun _ => 0)))], [(q2, .inl (kA 0, 48, .inl (fun _ => 0)))]]) H := hP
  have hD : va_D A (cat [[(h, .inr (2, [.int 0, .int 0, .int 0, .int 0, .ref q1, .ref q2, .null, .null, .null, .null, .null, .null, .null, .null, .null]))], [(q1, .inl (kA 0, 24, .inl (fun _ => 0)))], [(q2, .inl (kA 0, 48, .inl (fun _ => 0)))]]) := hD
  refine lv_aload_n (pc := 40) hx hb d_Fa_init_40 rfl (lv_at hl 0 rfl) ?_
  refine lv_bipush (pc := 41) (v := 24) hx hb d_Fa_init_41 (by decide) ?_
  refine k_newa (pc := 43) (atype := .int) X (ty := .int) (a0 := (24, .inl (fun _ => 0))) rfl rfl wm_193 hK hP hD hS hA 0 rfl (fun _ => rfl) (by decide) rfl (by decide) (Nat.le_of_ble_eq_true rfl) (Nat.le_of_ble_eq_true rfl) d_Fa_init_43 (fun q3 H hP hD hS => ?_)
  have hP : va_P D classes (cat [[(h, .inr (2, [.int 0, .int 0, .int 0, .int 0, .ref q1, .ref q2, .null, .null, .null, .null, .null, .null, .null, .null, .null]))], [(q1, .inl (kA 0, 24, .inl (fun _ => 0)))], [(q2, .inl (kA 0, 48, .inl (fun _ => 0)))], [(q3, .inl (kA 0, 24, .inl (fun _ => 0)))]]) H := hP
  have hD : va_D A (cat [[(h, .inr (2, [.int 0, .int 0, .int 0, .int 0, .ref q1, .ref q2, .null, .null, .null, .null, .null, .null, .null, .null, .null]))], [(q1, .inl (kA 0, 24, .inl (fun _ => 0)))], [(q2, .inl (kA 0, 48, .inl (fun _ => 0)))], [(q3, .inl (kA 0, 24, .inl (fun _ => 0)))]]) := hD
  refine W.widen (k := 3) (n := 96) (by omega) (by omega) ?_
  refine k_put (pc := 45) X hK hP hD hS 0 rfl rfl i_Fa t_Fa t_Fa_ok n_Fa 6 (by decide) wm_412 rfl (Or.inr ⟨rfl, rfl⟩) rfl rfl (Nat.le_of_ble_eq_true rfl) d_Fa_init_45 (fun H locs hP hD hS => ?_)
  have hP : va_P D classes (cat [[(h, .inr (2, [.int 0, .int 0, .int 0, .int 0, .ref q1, .ref q2, .ref q3, .null, .null, .null, .null, .null, .null, .null, .null]))], [(q1, .inl (kA 0, 24, .inl (fun _ => 0)))], [(q2, .inl (kA 0, 48, .inl (fun _ => 0)))], [(q3, .inl (kA 0, 24, .inl (fun _ => 0)))]]) H := hP
  have hD : va_D A (cat [[(h, .inr (2, [.int 0, .int 0, .int 0, .int 0, .ref q1, .ref q2, .ref q3, .null, .null, .null, .null, .null, .null, .null, .null]))], [(q1, .inl (kA 0, 24, .inl (fun _ => 0)))], [(q2, .inl (kA 0, 48, .inl (fun _ => 0)))], [(q3, .inl (kA 0, 24, .inl (fun _ => 0)))]]) := hD
  refine lv_aload_n (pc := 48) hx hb d_Fa_init_48 rfl (lv_at hl 0 rfl) ?_
  refine lv_bipush (pc := 49) (v := 24) hx hb d_Fa_init_49 (by decide) ?_
  refine k_newa (pc := 51) (atype := .int) X (ty := .int) (a0 := (24, .inl (fun _ => 0))) rfl rfl wm_193 hK hP hD hS hA 0 rfl (fun _ => rfl) (by decide) rfl (by decide) (Nat.le_of_ble_eq_true rfl) (Nat.le_of_ble_eq_true rfl) d_Fa_init_51 (fun q4 H hP hD hS => ?_)
  have hP : va_P D classes (cat [[(h, .inr (2, [.int 0, .int 0, .int 0, .int 0, .ref q1, .ref q2, .ref q3, .null, .null, .null, .null, .null, .null, .null, .null]))], [(q1, .inl (kA 0, 24, .inl (fun _ => 0)))], [(q2, .inl (kA 0, 48, .inl (fun _ => 0)))], [(q3, .inl (kA 0, 24, .inl (fun _ => 0)))], [(q4, .inl (kA 0, 24, .inl (fun _ => 0)))]]) H := hP
  have hD : va_D A (cat [[(h, .inr (2, [.int 0, .int 0, .int 0, .int 0, .ref q1, .ref q2, .ref q3, .null, .null, .null, .null, .null, .null, .null, .null]))], [(q1, .inl (kA 0, 24, .inl (fun _ => 0)))], [(q2, .inl (kA 0, 48, .inl (fun _ => 0)))], [(q3, .inl (kA 0, 24, .inl (fun _ => 0)))], [(q4, .inl (kA 0, 24, .inl (fun _ => 0)))]]) := hD
  refine W.widen (k := 4) (n := 120) (by omega) (by omega) ?_
  refine k_put (pc := 53) X hK hP hD hS 0 rfl rfl i_Fa t_Fa t_Fa_ok n_Fa 7 (by decide) wm_414 rfl (Or.inr ⟨rfl, rfl⟩) rfl rfl (Nat.le_of_ble_eq_true rfl) d_Fa_init_53 (fun H locs hP hD hS => ?_)
  have hP : va_P D classes (cat [[(h, .inr (2, [.int 0, .int 0, .int 0, .int 0, .ref q1, .ref q2, .ref q3, .ref q4, .null, .null, .null, .null, .null, .null, .null]))], [(q1, .inl (kA 0, 24, .inl (fun _ => 0)))], [(q2, .inl (kA 0, 48, .inl (fun _ => 0)))], [(q3, .inl (kA 0, 24, .inl (fun _ => 0)))], [(q4, .inl (kA 0, 24, .inl (fun _ => 0)))]]) H := hP
  have hD : va_D A (cat [[(h, .inr (2, [.int 0, .int 0, .int 0, .int 0, .ref q1, .ref q2, .ref q3, .ref q4, .null, .null, .null, .null, .null, .null, .null]))], [(q1, .inl (kA 0, 24, .inl (fun _ => 0)))], [(q2, .inl (kA 0, 48, .inl (fun _ => 0)))], [(q3, .inl (kA 0, 24, .inl (fun _ => 0)))], [(q4, .inl (kA 0, 24, .inl (fun _ => 0)))]]) := hD
  refine lv_aload_n (pc := 56) hx hb d_Fa_init_56 rfl (lv_at hl 0 rfl) ?_
  refine lv_bipush (pc := 57) (v := 24) hx hb d_Fa_init_57 (by decide) ?_
  refine k_newa (pc := 59) (atype := .int) X (ty := .int) (a0 := (24, .inl (fun _ => 0))) rfl rfl wm_193 hK hP hD hS hA 0 rfl (fun _ => rfl) (by decide) rfl (by decide) (Nat.le_of_ble_eq_true rfl) (Nat.le_of_ble_eq_true rfl) d_Fa_init_59 (fun q5 H hP hD hS => ?_)
  have hP : va_P D classes (cat [[(h, .inr (2, [.int 0, .int 0, .int 0, .int 0, .ref q1, .ref q2, .ref q3, .ref q4, .null, .null, .null, .null, .null, .null, .null]))], [(q1, .inl (kA 0, 24, .inl (fun _ => 0)))], [(q2, .inl (kA 0, 48, .inl (fun _ => 0)))], [(q3, .inl (kA 0, 24, .inl (fun _ => 0)))], [(q4, .inl (kA 0, 24, .inl (fun _ => 0)))], [(q5, .inl (kA 0, 24, .inl (fun _ => 0)))]]) H := hP
  have hD : va_D A (cat [[(h, .inr (2, [.int 0, .int 0, .int 0, .int 0, .ref q1, .ref q2, .ref q3, .ref q4, .null, .null, .null, .null, .null, .null, .null]))], [(q1, .inl (kA 0, 24, .inl (fun _ => 0)))], [(q2, .inl (kA 0, 48, .inl (fun _ => 0)))], [(q3, .inl (kA 0, 24, .inl (fun _ => 0)))], [(q4, .inl (kA 0, 24, .inl (fun _ => 0)))], [(q5, .inl (kA 0, 24, .inl (fun _ => 0)))]]) := hD
  refine W.widen (k := 5) (n := 144) (by omega) (by omega) ?_
  refine k_put (pc := 61) X hK hP hD hS 0 rfl rfl i_Fa t_Fa t_Fa_ok n_Fa 8 (by decide) wm_417 rfl (Or.inr ⟨rfl, rfl⟩) rfl rfl (Nat.le_of_ble_eq_true rfl) d_Fa_init_61 (fun H locs hP hD hS => ?_)
  have hP : va_P D classes (cat [[(h, .inr (2, [.int 0, .int 0, .int 0, .int 0, .ref q1, .ref q2, .ref q3, .ref q4, .ref q5, .null, .null, .null, .null, .null, .null]))], [(q1, .inl (kA 0, 24, .inl (fun _ => 0)))], [(q2, .inl (kA 0, 48, .inl (fun _ => 0)))], [(q3, .inl (kA 0, 24, .inl (fun _ => 0)))], [(q4, .inl (kA 0, 24, .inl (fun _ => 0)))], [(q5, .inl (kA 0, 24, .inl (fun _ => 0)))]]) H := hP
  have hD : va_D A (cat [[(h, .inr (2, [.int 0, .int 0, .int 0, .int 0, .ref q1, .ref q2, .ref q3, .ref q4, .ref q5, .null, .null, .null, .null, .null, .null]))], [(q1, .inl (kA 0, 24, .inl (fun _ => 0)))], [(q2, .inl (kA 0, 48, .inl (fun _ => 0)))], [(q3, .inl (kA 0, 24, .inl (fun _ => 0)))], [(q4, .inl (kA 0, 24, .inl (fun _ => 0)))], [(q5, .inl (kA 0, 24, .inl (fun _ => 0)))]]) := hD
  refine lv_aload_n (pc := 64) hx hb d_Fa_init_64 rfl (lv_at hl 0 rfl) ?_
  refine lv_bipush (pc := 65) (v := 48) hx hb d_Fa_init_65 (by decide) ?_
  refine k_newa (pc := 67) (atype := .boolean) X (ty := .boolean) (a0 := (48, .inl (fun _ => 0))) rfl rfl wm_387 hK hP hD hS hA 2 rfl (fun _ => rfl) (by decide) rfl (by decide) (Nat.le_of_ble_eq_true rfl) (Nat.le_of_ble_eq_true rfl) d_Fa_init_67 (fun q6 H hP hD hS => ?_)
  have hP : va_P D classes (cat [[(h, .inr (2, [.int 0, .int 0, .int 0, .int 0, .ref q1, .ref q2, .ref q3, .ref q4, .ref q5, .null, .null, .null, .null, .null, .null]))], [(q1, .inl (kA 0, 24, .inl (fun _ => 0)))], [(q2, .inl (kA 0, 48, .inl (fun _ => 0)))], [(q3, .inl (kA 0, 24, .inl (fun _ => 0)))], [(q4, .inl (kA 0, 24, .inl (fun _ => 0)))], [(q5, .inl (kA 0, 24, .inl (fun _ => 0)))], [(q6, .inl (kA 2, 48, .inl (fun _ => 0)))]]) H := hP
  have hD : va_D A (cat [[(h, .inr (2, [.int 0, .int 0, .int 0, .int 0, .ref q1, .ref q2, .ref q3, .ref q4, .ref q5, .null, .null, .null, .null, .null, .null]))], [(q1, .inl (kA 0, 24, .inl (fun _ => 0)))], [(q2, .inl (kA 0, 48, .inl (fun _ => 0)))], [(q3, .inl (kA 0, 24, .inl (fun _ => 0)))], [(q4, .inl (kA 0, 24, .inl (fun _ => 0)))], [(q5, .inl (kA 0, 24, .inl (fun _ => 0)))], [(q6, .inl (kA 2, 48, .inl (fun _ => 0)))]]) := hD
  refine W.widen (k := 6) (n := 192) (by omega) (by omega) ?_
  refine k_put (pc := 69) X hK hP hD hS 0 rfl rfl i_Fa t_Fa t_Fa_ok n_Fa 9 (by decide) wm_420 rfl (Or.inr ⟨rfl, rfl⟩) rfl rfl (Nat.le_of_ble_eq_true rfl) d_Fa_init_69 (fun H locs hP hD hS => ?_)
  have hP : va_P D classes (cat [[(h, .inr (2, [.int 0, .int 0, .int 0, .int 0, .ref q1, .ref q2, .ref q3, .ref q4, .ref q5, .ref q6, .null, .null, .null, .null, .null]))], [(q1, .inl (kA 0, 24, .inl (fun _ => 0)))], [(q2, .inl (kA 0, 48, .inl (fun _ => 0)))], [(q3, .inl (kA 0, 24, .inl (fun _ => 0)))], [(q4, .inl (kA 0, 24, .inl (fun _ => 0)))], [(q5, .inl (kA 0, 24, .inl (fun _ => 0)))], [(q6, .inl (kA 2, 48, .inl (fun _ => 0)))]]) H := hP
  have hD : va_D A (cat [[(h, .inr (2, [.int 0, .int 0, .int 0, .int 0, .ref q1, .ref q2, .ref q3, .ref q4, .ref q5, .ref q6, .null, .null, .null, .null, .null]))], [(q1, .inl (kA 0, 24, .inl (fun _ => 0)))], [(q2, .inl (kA 0, 48, .inl (fun _ => 0)))], [(q3, .inl (kA 0, 24, .inl (fun _ => 0)))], [(q4, .inl (kA 0, 24, .inl (fun _ => 0)))], [(q5, .inl (kA 0, 24, .inl (fun _ => 0)))], [(q6, .inl (kA 2, 48, .inl (fun _ => 0)))]]) := hD
  refine lv_aload_n (pc := 72) hx hb d_Fa_init_72 rfl (lv_at hl 0 rfl) ?_
  refine lv_bipush (pc := 73) (v := 24) hx hb d_Fa_init_73 (by decide) ?_
  refine k_newa (pc := 75) (atype := .int) X (ty := .int) (a0 := (24, .inl (fun _ => 0))) rfl rfl wm_193 hK hP hD hS hA 0 rfl (fun _ => rfl) (by decide) rfl (by decide) (Nat.le_of_ble_eq_true rfl) (Nat.le_of_ble_eq_true rfl) d_Fa_init_75 (fun q7 H hP hD hS => ?_)
  have hP : va_P D classes (cat [[(h, .inr (2, [.int 0, .int 0, .int 0, .int 0, .ref q1, .ref q2, .ref q3, .ref q4, .ref q5, .ref q6, .null, .null, .null, .null, .null]))], [(q1, .inl (kA 0, 24, .inl (fun _ => 0)))], [(q2, .inl (kA 0, 48, .inl (fun _ => 0)))], [(q3, .inl (kA 0, 24, .inl (fun _ => 0)))], [(q4, .inl (kA 0, 24, .inl (fun _ => 0)))], [(q5, .inl (kA 0, 24, .inl (fun _ => 0)))], [(q6, .inl (kA 2, 48, .inl (fun _ => 0)))], [(q7, .inl (kA 0, 24, .inl (fun _ => 0)))]]) H := hP
  have hD : va_D A (cat [[(h, .inr (2, [.int 0, .int 0, .int 0, .int 0, .ref q1, .ref q2, .ref q3, .ref q4, .ref q5, .ref q6, .null, .null, .null, .null, .null]))], [(q1, .inl (kA 0, 24, .inl (fun _ => 0)))], [(q2, .inl (kA 0, 48, .inl (fun _ => 0)))], [(q3, .inl (kA 0, 24, .inl (fun _ => 0)))], [(q4, .inl (kA 0, 24, .inl (fun _ => 0)))], [(q5, .inl (kA 0, 24, .inl (fun _ => 0)))], [(q6, .inl (kA 2, 48, .inl (fun _ => 0)))], [(q7, .inl (kA 0, 24, .inl (fun _ => 0)))]]) := hD
  refine W.widen (k := 7) (n := 216) (by omega) (by omega) ?_
  refine k_put (pc := 77) X hK hP hD hS 0 rfl rfl i_Fa t_Fa t_Fa_ok n_Fa 10 (by decide) wm_423 rfl (Or.inr ⟨rfl, rfl⟩) rfl rfl (Nat.le_of_ble_eq_true rfl) d_Fa_init_77 (fun H locs hP hD hS => ?_)
  have hP : va_P D classes (cat [[(h, .inr (2, [.int 0, .int 0, .int 0, .int 0, .ref q1, .ref q2, .ref q3, .ref q4, .ref q5, .ref q6, .ref q7, .null, .null, .null, .null]))], [(q1, .inl (kA 0, 24, .inl (fun _ => 0)))], [(q2, .inl (kA 0, 48, .inl (fun _ => 0)))], [(q3, .inl (kA 0, 24, .inl (fun _ => 0)))], [(q4, .inl (kA 0, 24, .inl (fun _ => 0)))], [(q5, .inl (kA 0, 24, .inl (fun _ => 0)))], [(q6, .inl (kA 2, 48, .inl (fun _ => 0)))], [(q7, .inl (kA 0, 24, .inl (fun _ => 0)))]]) H := hP
  have hD : va_D A (cat [[(h, .inr (2, [.int 0, .int 0, .int 0, .int 0, .ref q1, .ref q2, .ref q3, .ref q4, .ref q5, .ref q6, .ref q7, .null, .null, .null, .null]))], [(q1, .inl (kA 0, 24, .inl (fun _ => 0)))], [(q2, .inl (kA 0, 48, .inl (fun _ => 0)))], [(q3, .inl (kA 0, 24, .inl (fun _ => 0)))], [(q4, .inl (kA 0, 24, .inl (fun _ => 0)))], [(q5, .inl (kA 0, 24, .inl (fun _ => 0)))], [(q6, .inl (kA 2, 48, .inl (fun _ => 0)))], [(q7, .inl (kA 0, 24, .inl (fun _ => 0)))]]) := hD
  refine lv_aload_n (pc := 80) hx hb d_Fa_init_80 rfl (lv_at hl 0 rfl) ?_
  refine lv_bipush (pc := 81) (v := 24) hx hb d_Fa_init_81 (by decide) ?_
  refine k_newa (pc := 83) (atype := .int) X (ty := .int) (a0 := (24, .inl (fun _ => 0))) rfl rfl wm_193 hK hP hD hS hA 0 rfl (fun _ => rfl) (by decide) rfl (by decide) (Nat.le_of_ble_eq_true rfl) (Nat.le_of_ble_eq_true rfl) d_Fa_init_83 (fun q8 H hP hD hS => ?_)
  have hP : va_P D classes (cat [[(h, .inr (2, [.int 0, .int 0, .int 0, .int 0, .ref q1, .ref q2, .ref q3, .ref q4, .ref q5, .ref q6, .ref q7, .null, .null, .null, .null]))], [(q1, .inl (kA 0, 24, .inl (fun _ => 0)))], [(q2, .inl (kA 0, 48, .inl (fun _ => 0)))], [(q3, .inl (kA 0, 24, .inl (fun _ => 0)))], [(q4, .inl (kA 0, 24, .inl (fun _ => 0)))], [(q5, .inl (kA 0, 24, .inl (fun _ => 0)))], [(q6, .inl (kA 2, 48, .inl (fun _ => 0)))], [(q7, .inl (kA 0, 24, .inl (fun _ => 0)))], [(q8, .inl (kA 0, 24, .inl (fun _ => 0)))]]) H := hP
  have hD : va_D A (cat [[(h, .inr (2, [.int 0, .int 0, .int 0, .int 0, .ref q1, .ref q2, .ref q3, .ref q4, .ref q5, .ref q6, .ref q7, .null, .null, .null, .null]))], [(q1, .inl (kA 0, 24, .inl (fun _ => 0)))], [(q2, .inl (kA 0, 48, .inl (fun _ => 0)))], [(q3, .inl (kA 0, 24, .inl (fun _ => 0)))], [(q4, .inl (kA 0, 24, .inl (fun _ => 0)))], [(q5, .inl (kA 0, 24, .inl (fun _ => 0)))], [(q6, .inl (kA 2, 48, .inl (fun _ => 0)))], [(q7, .inl (kA 0, 24, .inl (fun _ => 0)))], [(q8, .inl (kA 0, 24, .inl (fun _ => 0)))]]) := hD
  refine W.widen (k := 8) (n := 240) (by omega) (by omega) ?_
  refine k_put (pc := 85) X hK hP hD hS 0 rfl rfl i_Fa t_Fa t_Fa_ok n_Fa 11 (by decide) wm_424 rfl (Or.inr ⟨rfl, rfl⟩) rfl rfl (Nat.le_of_ble_eq_true rfl) d_Fa_init_85 (fun H locs hP hD hS => ?_)
  have hP : va_P D classes (cat [[(h, .inr (2, [.int 0, .int 0, .int 0, .int 0, .ref q1, .ref q2, .ref q3, .ref q4, .ref q5, .ref q6, .ref q7, .ref q8, .null, .null, .null]))], [(q1, .inl (kA 0, 24, .inl (fun _ => 0)))], [(q2, .inl (kA 0, 48, .inl (fun _ => 0)))], [(q3, .inl (kA 0, 24, .inl (fun _ => 0)))], [(q4, .inl (kA 0, 24, .inl (fun _ => 0)))], [(q5, .inl (kA 0, 24, .inl (fun _ => 0)))], [(q6, .inl (kA 2, 48, .inl (fun _ => 0)))], [(q7, .inl (kA 0, 24, .inl (fun _ => 0)))], [(q8, .inl (kA 0, 24, .inl (fun _ => 0)))]]) H := hP
  have hD : va_D A (cat [[(h, .inr (2, [.int 0, .int 0, .int 0, .int 0, .ref q1, .ref q2, .ref q3, .ref q4, .ref q5, .ref q6, .ref q7, .ref q8, .null, .null, .null]))], [(q1, .inl (kA 0, 24, .inl (fun _ => 0)))], [(q2, .inl (kA 0, 48, .inl (fun _ => 0)))], [(q3, .inl (kA 0, 24, .inl (fun _ => 0)))], [(q4, .inl (kA 0, 24, .inl (fun _ => 0)))], [(q5, .inl (kA 0, 24, .inl (fun _ => 0)))], [(q6, .inl (kA 2, 48, .inl (fun _ => 0)))], [(q7, .inl (kA 0, 24, .inl (fun _ => 0)))], [(q8, .inl (kA 0, 24, .inl (fun _ => 0)))]]) := hD
  refine lv_aload_n (pc := 88) hx hb d_Fa_init_88 rfl (lv_at hl 0 rfl) ?_
  refine lv_bipush (pc := 89) (v := 24) hx hb d_Fa_init_89 (by decide) ?_
  refine k_newa (pc := 91) (atype := .int) X (ty := .int) (a0 := (24, .inl (fun _ => 0))) rfl rfl wm_193 hK hP hD hS hA 0 rfl (fun _ => rfl) (by decide) rfl (by decide) (Nat.le_of_ble_eq_true rfl) (Nat.le_of_ble_eq_true rfl) d_Fa_init_91 (fun q9 H hP hD hS => ?_)
  have hP : va_P D classes (cat [[(h, .inr (2, [.int 0, .int 0, .int 0, .int 0, .ref q1, .ref q2, .ref q3, .ref q4, .ref q5, .ref q6, .ref q7, .ref q8, .null, .null, .null]))], [(q1, .inl (kA 0, 24, .inl (fun _ => 0)))], [(q2, .inl (kA 0, 48, .inl (fun _ => 0)))], [(q3, .inl (kA 0, 24, .inl (fun _ => 0)))], [(q4, .inl (kA 0, 24, .inl (fun _ => 0)))], [(q5, .inl (kA 0, 24, .inl (fun _ => 0)))], [(q6, .inl (kA 2, 48, .inl (fun _ => 0)))], [(q7, .inl (kA 0, 24, .inl (fun _ => 0)))], [(q8, .inl (kA 0, 24, .inl (fun _ => 0)))], [(q9, .inl (kA 0, 24, .inl (fun _ => 0)))]]) H := hP
  have hD : va_D A (cat [[(h, .inr (2, [.int 0, .int 0, .int 0, .int 0, .ref q1, .ref q2, .ref q3, .ref q4, .ref q5, .ref q6, .ref q7, .ref q8, .null, .null, .null]))], [(q1, .inl (kA 0, 24, .inl (fun _ => 0)))], [(q2, .inl (kA 0, 48, .inl (fun _ => 0)))], [(q3, .inl (kA 0, 24, .inl (fun _ => 0)))], [(q4, .inl (kA 0, 24, .inl (fun _ => 0)))], [(q5, .inl (kA 0, 24, .inl (fun _ => 0)))], [(q6, .inl (kA 2, 48, .inl (fun _ => 0)))], [(q7, .inl (kA 0, 24, .inl (fun _ => 0)))], [(q8, .inl (kA 0, 24, .inl (fun _ => 0)))], [(q9, .inl (kA 0, 24, .inl (fun _ => 0)))]]) := hD
  refine W.widen (k := 9) (n := 264) (by omega) (by omega) ?_
  refine k_put (pc := 93) X hK hP hD hS 0 rfl rfl i_Fa t_Fa t_Fa_ok n_Fa 12 (by decide) wm_425 rfl (Or.inr ⟨rfl, rfl⟩) rfl rfl (Nat.le_of_ble_eq_true rfl) d_Fa_init_93 (fun H locs hP hD hS => ?_)
  have hP : va_P D classes (cat [[(h, .inr (2, [.int 0, .int 0, .int 0, .int 0, .ref q1, .ref q2, .ref q3, .ref q4, .ref q5, .ref q6, .ref q7, .ref q8, .ref q9, .null, .null]))], [(q1, .inl (kA 0, 24, .inl (fun _ => 0)))], [(q2, .inl (kA 0, 48, .inl (fun _ => 0)))], [(q3, .inl (kA 0, 24, .inl (fun _ => 0)))], [(q4, .inl (kA 0, 24, .inl (fun _ => 0)))], [(q5, .inl (kA 0, 24, .inl (fun _ => 0)))], [(q6, .inl (kA 2, 48, .inl (fun _ => 0)))], [(q7, .inl (kA 0, 24, .inl (fun _ => 0)))], [(q8, .inl (kA 0, 24, .inl (fun _ => 0)))], [(q9, .inl (kA 0, 24, .inl (fun _ => 0)))]]) H := hP
  have hD : va_D A (cat [[(h, .inr (2, [.int 0, .int 0, .int 0, .int 0, .ref q1, .ref q2, .ref q3, .ref q4, .ref q5, .ref q6, .ref q7, .ref q8, .ref q9, .null, .null]))], [(q1, .inl (kA 0, 24, .inl (fun _ => 0)))], [(q2, .inl (kA 0, 48, .inl (fun _ => 0)))], [(q3, .inl (kA 0, 24, .inl (fun _ => 0)))], [(q4, .inl (kA 0, 24, .inl (fun _ => 0)))], [(q5, .inl (kA 0, 24, .inl (fun _ => 0)))], [(q6, .inl (kA 2, 48, .inl (fun _ => 0)))], [(q7, .inl (kA 0, 24, .inl (fun _ => 0)))], [(q8, .inl (kA 0, 24, .inl (fun _ => 0)))], [(q9, .inl (kA 0, 24, .inl (fun _ => 0)))]]) := hD
  refine lv_aload_n (pc := 96) hx hb d_Fa_init_96 rfl (lv_at hl 0 rfl) ?_
  refine lv_bipush (pc := 97) (v := 24) hx hb d_Fa_init_97 (by decide) ?_
  refine k_newa (pc := 99) (atype := .int) X (ty := .int) (a0 := (24, .inl (fun _ => 0))) rfl rfl wm_193 hK hP hD hS hA 0 rfl (fun _ => rfl) (by decide) rfl (by decide) (Nat.le_of_ble_eq_true rfl) (Nat.le_of_ble_eq_true rfl) d_Fa_init_99 (fun q10 H hP hD hS => ?_)
  have hP : va_P D classes (cat [[(h, .inr (2, [.int 0, .int 0, .int 0, .int 0, .ref q1, .ref q2, .ref q3, .ref q4, .ref q5, .ref q6, .ref q7, .ref q8, .ref q9, .null, .null]))], [(q1, .inl (kA 0, 24, .inl (fun _ => 0)))], [(q2, .inl (kA 0, 48, .inl (fun _ => 0)))], [(q3, .inl (kA 0, 24, .inl (fun _ => 0)))], [(q4, .inl (kA 0, 24, .inl (fun _ => 0)))], [(q5, .inl (kA 0, 24, .inl (fun _ => 0)))], [(q6, .inl (kA 2, 48, .inl (fun _ => 0)))], [(q7, .inl (kA 0, 24, .inl (fun _ => 0)))], [(q8, .inl (kA 0, 24, .inl (fun _ => 0)))], [(q9, .inl (kA 0, 24, .inl (fun _ => 0)))], [(q10, .inl (kA 0, 24, .inl (fun _ => 0)))]]) H := hP
  have hD : va_D A (cat [[(h, .inr (2, [.int 0, .int 0, .int 0, .int 0, .ref q1, .ref q2, .ref q3, .ref q4, .ref q5, .ref q6, .ref q7, .ref q8, .ref q9, .null, .null]))], [(q1, .inl (kA 0, 24, .inl (fun _ => 0)))], [(q2, .inl (kA 0, 48, .inl (fun _ => 0)))], [(q3, .inl (kA 0, 24, .inl (fun _ => 0)))], [(q4, .inl (kA 0, 24, .inl (fun _ => 0)))], [(q5, .inl (kA 0, 24, .inl (fun _ => 0)))], [(q6, .inl (kA 2, 48, .inl (fun _ => 0)))], [(q7, .inl (kA 0, 24, .inl (fun _ => 0)))], [(q8, .inl (kA 0, 24, .inl (fun _ => 0)))], [(q9, .inl (kA 0, 24, .inl (fun _ => 0)))], [(q10, .inl (kA 0, 24, .inl (fun _ => 0)))]]) := hD
  refine W.widen (k := 10) (n := 288) (by omega) (by omega) ?_
  refine k_put (pc := 101) X hK hP hD hS 0 rfl rfl i_Fa t_Fa t_Fa_ok n_Fa 13 (by decide) wm_426 rfl (Or.inr ⟨rfl, rfl⟩) rfl rfl (Nat.le_of_ble_eq_true rfl) d_Fa_init_101 (fun H locs hP hD hS => ?_)
  have hP : va_P D classes (cat [[(h, .inr (2, [.int 0, .int 0, .int 0, .int 0, .ref q1, .ref q2, .ref q3, .ref q4, .ref q5, .ref q6, .ref q7, .ref q8, .ref q9, .ref q10, .null]))], [(q1, .inl (kA 0, 24, .inl (fun _ => 0)))], [(q2, .inl (kA 0, 48, .inl (fun _ => 0)))], [(q3, .inl (kA 0, 24, .inl (fun _ => 0)))], [(q4, .inl (kA 0, 24, .inl (fun _ => 0)))], [(q5, .inl (kA 0, 24, .inl (fun _ => 0)))], [(q6, .inl (kA 2, 48, .inl (fun _ => 0)))], [(q7, .inl (kA 0, 24, .inl (fun _ => 0)))], [(q8, .inl (kA 0, 24, .inl (fun _ => 0)))], [(q9, .inl (kA 0, 24, .inl (fun _ => 0)))], [(q10, .inl (kA 0, 24, .inl (fun _ => 0)))]]) H := hP
  have hD : va_D A (cat [[(h, .inr (2, [.int 0, .int 0, .int 0, .int 0, .ref q1, .ref q2, .ref q3, .ref q4, .ref q5, .ref q6, .ref q7, .ref q8, .ref q9, .ref q10, .null]))], [(q1, .inl (kA 0, 24, .inl (fun _ => 0)))], [(q2, .inl (kA 0, 48, .inl (fun _ => 0)))], [(q3, .inl (kA 0, 24, .inl (fun _ => 0)))], [(q4, .inl (kA 0, 24, .inl (fun _ => 0)))], [(q5, .inl (kA 0, 24, .inl (fun _ => 0)))], [(q6, .inl (kA 2, 48, .inl (fun _ => 0)))], [(q7, .inl (kA 0, 24, .inl (fun _ => 0)))], [(q8, .inl (kA 0, 24, .inl (fun _ => 0)))], [(q9, .inl (kA 0, 24, .inl (fun _ => 0)))], [(q10, .inl (kA 0, 24, .inl (fun _ => 0)))]]) := hD
  refine lv_aload_n (pc := 104) hx hb d_Fa_init_104 rfl (lv_at hl 0 rfl) ?_
  refine lv_sipush (pc := 105) (v := 128) hx hb d_Fa_init_105 (by decide) ?_
  refine k_newa (pc := 108) (atype := .int) X (ty := .int) (a0 := (128, .inl (fun _ => 0))) rfl rfl wm_193 hK hP hD hS hA 0 rfl (fun _ => rfl) (by decide) rfl (by decide) (Nat.le_of_ble_eq_true rfl) (Nat.le_of_ble_eq_true rfl) d_Fa_init_108 (fun q11 H hP hD hS => ?_)
  have hP : va_P D classes (cat [[(h, .inr (2, [.int 0, .int 0, .int 0, .int 0, .ref q1, .ref q2, .ref q3, .ref q4, .ref q5, .ref q6, .ref q7, .ref q8, .ref q9, .ref q10, .null]))], [(q1, .inl (kA 0, 24, .inl (fun _ => 0)))], [(q2, .inl (kA 0, 48, .inl (fun _ => 0)))], [(q3, .inl (kA 0, 24, .inl (fun _ => 0)))], [(q4, .inl (kA 0, 24, .inl (fun _ => 0)))], [(q5, .inl (kA 0, 24, .inl (fun _ => 0)))], [(q6, .inl (kA 2, 48, .inl (fun _ => 0)))], [(q7, .inl (kA 0, 24, .inl (fun _ => 0)))], [(q8, .inl (kA 0, 24, .inl (fun _ => 0)))], [(q9, .inl (kA 0, 24, .inl (fun _ => 0)))], [(q10, .inl (kA 0, 24, .inl (fun _ => 0)))], [(q11, .inl (kA 0, 128, .inl (fun _ => 0)))]]) H := hP
  have hD : va_D A (cat [[(h, .inr (2, [.int 0, .int 0, .int 0, .int 0, .ref q1, .ref q2, .ref q3, .ref q4, .ref q5, .ref q6, .ref q7, .ref q8, .ref q9, .ref q10, .null]))], [(q1, .inl (kA 0, 24, .inl (fun _ => 0)))], [(q2, .inl (kA 0, 48, .inl (fun _ => 0)))], [(q3, .inl (kA 0, 24, .inl (fun _ => 0)))], [(q4, .inl (kA 0, 24, .inl (fun _ => 0)))], [(q5, .inl (kA 0, 24, .inl (fun _ => 0)))], [(q6, .inl (kA 2, 48, .inl (fun _ => 0)))], [(q7, .inl (kA 0, 24, .inl (fun _ => 0)))], [(q8, .inl (kA 0, 24, .inl (fun _ => 0)))], [(q9, .inl (kA 0, 24, .inl (fun _ => 0)))], [(q10, .inl (kA 0, 24, .inl (fun _ => 0)))], [(q11, .inl (kA 0, 128, .inl (fun _ => 0)))]]) := hD
  refine W.widen (k := 11) (n := 416) (by omega) (by omega) ?_
  refine k_put (pc := 110) X hK hP hD hS 0 rfl rfl i_Fa t_Fa t_Fa_ok n_Fa 14 (by decide) wm_427 rfl (Or.inr ⟨rfl, rfl⟩) rfl rfl (Nat.le_of_ble_eq_true rfl) d_Fa_init_110 (fun H locs hP hD hS => ?_)
  have hP : va_P D classes (cat [[(h, .inr (2, [.int 0, .int 0, .int 0, .int 0, .ref q1, .ref q2, .ref q3, .ref q4, .ref q5, .ref q6, .ref q7, .ref q8, .ref q9, .ref q10, .ref q11]))], [(q1, .inl (kA 0, 24, .inl (fun _ => 0)))], [(q2, .inl (kA 0, 48, .inl (fun _ => 0)))], [(q3, .inl (kA 0, 24, .inl (fun _ => 0)))], [(q4, .inl (kA 0, 24, .inl (fun _ => 0)))], [(q5, .inl (kA 0, 24, .inl (fun _ => 0)))], [(q6, .inl (kA 2, 48, .inl (fun _ => 0)))], [(q7, .inl (kA 0, 24, .inl (fun _ => 0)))], [(q8, .inl (kA 0, 24, .inl (fun _ => 0)))], [(q9, .inl (kA 0, 24, .inl (fun _ => 0)))], [(q10, .inl (kA 0, 24, .inl (fun _ => 0)))], [(q11, .inl (kA 0, 128, .inl (fun _ => 0)))]]) H := hP
  have hD : va_D A (cat [[(h, .inr (2, [.int 0, .int 0, .int 0, .int 0, .ref q1, .ref q2, .ref q3, .ref q4, .ref q5, .ref q6, .ref q7, .ref q8, .ref q9, .ref q10, .ref q11]))], [(q1, .inl (kA 0, 24, .inl (fun _ => 0)))], [(q2, .inl (kA 0, 48, .inl (fun _ => 0)))], [(q3, .inl (kA 0, 24, .inl (fun _ => 0)))], [(q4, .inl (kA 0, 24, .inl (fun _ => 0)))], [(q5, .inl (kA 0, 24, .inl (fun _ => 0)))], [(q6, .inl (kA 2, 48, .inl (fun _ => 0)))], [(q7, .inl (kA 0, 24, .inl (fun _ => 0)))], [(q8, .inl (kA 0, 24, .inl (fun _ => 0)))], [(q9, .inl (kA 0, 24, .inl (fun _ => 0)))], [(q10, .inl (kA 0, 24, .inl (fun _ => 0)))], [(q11, .inl (kA 0, 128, .inl (fun _ => 0)))]]) := hD
  obtain ⟨hP, hD⟩ := k_ord (gc := [[(h, .inr (2, [.int 0, .int 0, .int 0, .int 0, .ref q1, .ref q2, .ref q3, .ref q4, .ref q5, .ref q6, .ref q7, .ref q8, .ref q9, .ref q10, .ref q11]))], [(q1, .inl (kA 0, 24, .inl (fun _ => 0)))], [(q2, .inl (kA 0, 48, .inl (fun _ => 0)))], [(q3, .inl (kA 0, 24, .inl (fun _ => 0)))], [(q4, .inl (kA 0, 24, .inl (fun _ => 0)))], [(q5, .inl (kA 0, 24, .inl (fun _ => 0)))], [(q6, .inl (kA 2, 48, .inl (fun _ => 0)))], [(q7, .inl (kA 0, 24, .inl (fun _ => 0)))], [(q8, .inl (kA 0, 24, .inl (fun _ => 0)))], [(q9, .inl (kA 0, 24, .inl (fun _ => 0)))], [(q10, .inl (kA 0, 24, .inl (fun _ => 0)))], [(q11, .inl (kA 0, 128, .inl (fun _ => 0)))]]) hP hD [0, 1, 2, 3, 4, 5, 6, 7, 8, 9, 10, 11] 12 rfl (by decide) rfl
  refine W.widen (k := 11) (n := 416) (Nat.le_of_ble_eq_true rfl) (Nat.le_of_ble_eq_true rfl) ?_
  exact W.vret hx hb hr (fun t ht hW => ⟨⟨(fun k => match k with | 4 => q1 | 5 => q2 | 6 => q3 | 7 => q4 | 8 => q5 | 9 => q6 | 10 => q7 | 11 => q8 | 12 => q9 | 13 => q10 | 14 => q11 | _ => 0), rfl, trivial, by rw [ht]; exact hP, va_K.moved hW.alike hK, hD⟩, hS.F ht⟩) hS.2.2 d_Fa_init_113
