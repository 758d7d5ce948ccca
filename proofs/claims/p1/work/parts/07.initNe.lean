theorem wm_246 : (Cond.code ({ cls := "DrawingHouse$Net", name := "<init>", desc := "()V" } : MethodName) prog_7_method_1_code (1 : Nat) (Option.none : Option ClassFile.FieldType) : Cond) ∈ lw_g := lw_gi (lw_c2 (List.mem_of_getElem? (i := 6) rfl)) rfl
theorem wm_247 : (Cond.methodLink "DrawingHouse$Net" (3 : Nat) ({ cls := "java/lang/Object", name := "<init>", desc := "()V" } : MethodName) : Cond) ∈ lw_g := lw_gi (lw_c2 (List.mem_of_getElem? (i := 7) rfl)) rfl
theorem wm_248 : (Cond.fieldLink "DrawingHouse$Net" (9 : Nat) "DrawingHouse$Net" "planar" "I" : Cond) ∈ lw_g := lw_gi (lw_c2 (List.mem_of_getElem? (i := 8) rfl)) rfl
theorem wm_251 : (Cond.fieldLink "DrawingHouse$Net" (15 : Nat) "DrawingHouse$Net" "outer" "I" : Cond) ∈ lw_g := lw_gi (lw_c2 (List.mem_of_getElem? (i := 11) rfl)) rfl
theorem wm_253 : (Cond.fieldLink "DrawingHouse$Net" (18 : Nat) "DrawingHouse$Net" "kind" "I" : Cond) ∈ lw_g := lw_gi (lw_c2 (List.mem_of_getElem? (i := 13) rfl)) rfl
theorem wm_256 : (Cond.fieldLink "DrawingHouse$Net" (21 : Nat) "DrawingHouse$Net" "barredEdges" "I" : Cond) ∈ lw_g := lw_gi (lw_c2 (List.mem_of_getElem? (i := 16) rfl)) rfl
theorem wm_259 : (Cond.fieldLink "DrawingHouse$Net" (24 : Nat) "DrawingHouse$Net" "barred" "[I" : Cond) ∈ lw_g := lw_gi (lw_c2 (List.mem_of_getElem? (i := 19) rfl)) rfl
theorem wm_262 : (Cond.fieldLink "DrawingHouse$Net" (28 : Nat) "DrawingHouse$Net" "nodes" "I" : Cond) ∈ lw_g := lw_gi (lw_c2 (List.mem_of_getElem? (i := 22) rfl)) rfl
theorem wm_265 : (Cond.fieldLink "DrawingHouse$Net" (31 : Nat) "DrawingHouse$Net" "edges" "I" : Cond) ∈ lw_g := lw_gi (lw_c2 (List.mem_of_getElem? (i := 25) rfl)) rfl
theorem wm_267 : (Cond.fieldLink "DrawingHouse$Net" (34 : Nat) "DrawingHouse$Net" "tail" "[I" : Cond) ∈ lw_g := lw_gi (lw_c2 (List.mem_of_getElem? (i := 27) rfl)) rfl
theorem wm_270 : (Cond.fieldLink "DrawingHouse$Net" (37 : Nat) "DrawingHouse$Net" "head" "[I" : Cond) ∈ lw_g := lw_gi (lw_c2 (List.mem_of_getElem? (i := 30) rfl)) rfl
theorem wm_273 : (Cond.fieldLink "DrawingHouse$Net" (40 : Nat) "DrawingHouse$Net" "near" "[I" : Cond) ∈ lw_g := lw_gi (lw_c2 (List.mem_of_getElem? (i := 33) rfl)) rfl
theorem wm_276 : (Cond.fieldLink "DrawingHouse$Net" (43 : Nat) "DrawingHouse$Net" "link" "[I" : Cond) ∈ lw_g := lw_gi (lw_c2 (List.mem_of_getElem? (i := 36) rfl)) rfl
theorem wm_277 : (Cond.fieldLink "DrawingHouse$Net" (46 : Nat) "DrawingHouse$Net" "behind" "[I" : Cond) ∈ lw_g := lw_gi (lw_c2 (List.mem_of_getElem? (i := 37) rfl)) rfl
theorem wm_280 : (Cond.fieldLink "DrawingHouse$Net" (49 : Nat) "DrawingHouse$Net" "first" "[I" : Cond) ∈ lw_g := lw_gi (lw_c2 (List.mem_of_getElem? (i := 40) rfl)) rfl
theorem wm_282 : (Cond.fieldLink "DrawingHouse$Net" (52 : Nat) "DrawingHouse$Net" "faces" "I" : Cond) ∈ lw_g := lw_gi (lw_c2 (List.mem_of_getElem? (i := 42) rfl)) rfl
theorem wm_285 : (Cond.fieldLink "DrawingHouse$Net" (55 : Nat) "DrawingHouse$Net" "rowStart" "[I" : Cond) ∈ lw_g := lw_gi (lw_c2 (List.mem_of_getElem? (i := 45) rfl)) rfl
theorem wm_287 : (Cond.fieldLink "DrawingHouse$Net" (58 : Nat) "DrawingHouse$Net" "rowNode" "[I" : Cond) ∈ lw_g := lw_gi (lw_c2 (List.mem_of_getElem? (i := 47) rfl)) rfl
theorem wm_289 : (Cond.fieldLink "DrawingHouse$Net" (61 : Nat) "DrawingHouse$Net" "faceOf" "[I" : Cond) ∈ lw_g := lw_gi (lw_c2 (List.mem_of_getElem? (i := 49) rfl)) rfl
abbrev b_Ne_init : ByteArray := prog_7_method_1_code
def y_Ne_init : MethodName := ⟨"DrawingHouse$Net", "<init>", "()V"⟩
abbrev z_Ne_init : List Cond := Cond.code y_Ne_init b_Ne_init 1 none :: lw_g
theorem d_Ne_init_0 : decode b_Ne_init 0 = .ok (.aload_n 0, 1) := by decide +kernel
theorem d_Ne_init_1 : decode b_Ne_init 1 = .ok (.invokespecial 3, 3) := by decide +kernel
theorem d_Ne_init_4 : decode b_Ne_init 4 = .ok (.aload_n 0, 1) := by decide +kernel
theorem d_Ne_init_5 : decode b_Ne_init 5 = .ok (.iconst (-1), 1) := by decide +kernel
theorem d_Ne_init_6 : decode b_Ne_init 6 = .ok (.putfield 9, 3) := by decide +kernel
theorem d_Ne_init_9 : decode b_Ne_init 9 = .ok (.aload_n 0, 1) := by decide +kernel
theorem d_Ne_init_10 : decode b_Ne_init 10 = .ok (.iconst (-1), 1) := by decide +kernel
theorem d_Ne_init_11 : decode b_Ne_init 11 = .ok (.putfield 15, 3) := by decide +kernel
theorem d_Ne_init_14 : decode b_Ne_init 14 = .ok (.aload_n 0, 1) := by decide +kernel
theorem d_Ne_init_15 : decode b_Ne_init 15 = .ok (.iconst (-1), 1) := by decide +kernel
theorem d_Ne_init_16 : decode b_Ne_init 16 = .ok (.putfield 18, 3) := by decide +kernel
theorem d_Ne_init_19 : decode b_Ne_init 19 = .ok (.aload_n 0, 1) := by decide +kernel
theorem d_Ne_init_20 : decode b_Ne_init 20 = .ok (.iconst 0, 1) := by decide +kernel
theorem d_Ne_init_21 : decode b_Ne_init 21 = .ok (.putfield 21, 3) := by decide +kernel
theorem d_Ne_init_24 : decode b_Ne_init 24 = .ok (.aload_n 0, 1) := by decide +kernel
theorem d_Ne_init_25 : decode b_Ne_init 25 = .ok (.bipush 48, 2) := by decide +kernel
theorem d_Ne_init_27 : decode b_Ne_init 27 = .ok (.newarray .int, 2) := by decide +kernel
theorem d_Ne_init_29 : decode b_Ne_init 29 = .ok (.putfield 24, 3) := by decide +kernel
theorem d_Ne_init_32 : decode b_Ne_init 32 = .ok (.aload_n 0, 1) := by decide +kernel
theorem d_Ne_init_33 : decode b_Ne_init 33 = .ok (.iconst 0, 1) := by decide +kernel
theorem d_Ne_init_34 : decode b_Ne_init 34 = .ok (.putfield 28, 3) := by decide +kernel
theorem d_Ne_init_37 : decode b_Ne_init 37 = .ok (.aload_n 0, 1) := by decide +kernel
theorem d_Ne_init_38 : decode b_Ne_init 38 = .ok (.iconst 0, 1) := by decide +kernel
theorem d_Ne_init_39 : decode b_Ne_init 39 = .ok (.putfield 31, 3) := by decide +kernel
theorem d_Ne_init_42 : decode b_Ne_init 42 = .ok (.aload_n 0, 1) := by decide +kernel
theorem d_Ne_init_43 : decode b_Ne_init 43 = .ok (.bipush 72, 2) := by decide +kernel
theorem d_Ne_init_45 : decode b_Ne_init 45 = .ok (.newarray .int, 2) := by decide +kernel
theorem d_Ne_init_47 : decode b_Ne_init 47 = .ok (.putfield 34, 3) := by decide +kernel
theorem d_Ne_init_50 : decode b_Ne_init 50 = .ok (.aload_n 0, 1) := by decide +kernel
theorem d_Ne_init_51 : decode b_Ne_init 51 = .ok (.bipush 72, 2) := by decide +kernel
theorem d_Ne_init_53 : decode b_Ne_init 53 = .ok (.newarray .int, 2) := by decide +kernel
theorem d_Ne_init_55 : decode b_Ne_init 55 = .ok (.putfield 37, 3) := by decide +kernel
theorem d_Ne_init_58 : decode b_Ne_init 58 = .ok (.aload_n 0, 1) := by decide +kernel
theorem d_Ne_init_59 : decode b_Ne_init 59 = .ok (.bipush 25, 2) := by decide +kernel
theorem d_Ne_init_61 : decode b_Ne_init 61 = .ok (.newarray .int, 2) := by decide +kernel
theorem d_Ne_init_63 : decode b_Ne_init 63 = .ok (.putfield 40, 3) := by decide +kernel
theorem d_Ne_init_66 : decode b_Ne_init 66 = .ok (.aload_n 0, 1) := by decide +kernel
theorem d_Ne_init_67 : decode b_Ne_init 67 = .ok (.sipush 625, 3) := by decide +kernel
theorem d_Ne_init_70 : decode b_Ne_init 70 = .ok (.newarray .int, 2) := by decide +kernel
theorem d_Ne_init_72 : decode b_Ne_init 72 = .ok (.putfield 43, 3) := by decide +kernel
theorem d_Ne_init_75 : decode b_Ne_init 75 = .ok (.aload_n 0, 1) := by decide +kernel
theorem d_Ne_init_76 : decode b_Ne_init 76 = .ok (.sipush 144, 3) := by decide +kernel
theorem d_Ne_init_79 : decode b_Ne_init 79 = .ok (.newarray .int, 2) := by decide +kernel
theorem d_Ne_init_81 : decode b_Ne_init 81 = .ok (.putfield 46, 3) := by decide +kernel
theorem d_Ne_init_84 : decode b_Ne_init 84 = .ok (.aload_n 0, 1) := by decide +kernel
theorem d_Ne_init_85 : decode b_Ne_init 85 = .ok (.bipush 25, 2) := by decide +kernel
theorem d_Ne_init_87 : decode b_Ne_init 87 = .ok (.newarray .int, 2) := by decide +kernel
theorem d_Ne_init_89 : decode b_Ne_init 89 = .ok (.putfield 49, 3) := by decide +kernel
theorem d_Ne_init_92 : decode b_Ne_init 92 = .ok (.aload_n 0, 1) := by decide +kernel
theorem d_Ne_init_93 : decode b_Ne_init 93 = .ok (.iconst 0, 1) := by decide +kernel
theorem d_Ne_init_94 : decode b_Ne_init 94 = .ok (.putfield 52, 3) := by decide +kernel
theorem d_Ne_init_97 : decode b_Ne_init 97 = .ok (.aload_n 0, 1) := by decide +kernel
theorem d_Ne_init_98 : decode b_Ne_init 98 = .ok (.sipush 145, 3) := by decide +kernel
theorem d_Ne_init_101 : decode b_Ne_init 101 = .ok (.newarray .int, 2) := by decide +kernel
theorem d_Ne_init_103 : decode b_Ne_init 103 = .ok (.putfield 55, 3) := by decide +kernel
theorem d_Ne_init_106 : decode b_Ne_init 106 = .ok (.aload_n 0, 1) := by decide +kernel
theorem d_Ne_init_107 : decode b_Ne_init 107 = .ok (.sipush 144, 3) := by decide +kernel
theorem d_Ne_init_110 : decode b_Ne_init 110 = .ok (.newarray .int, 2) := by decide +kernel
theorem d_Ne_init_112 : decode b_Ne_init 112 = .ok (.putfield 58, 3) := by decide +kernel
theorem d_Ne_init_115 : decode b_Ne_init 115 = .ok (.aload_n 0, 1) := by decide +kernel
theorem d_Ne_init_116 : decode b_Ne_init 116 = .ok (.sipush 144, 3) := by decide +kernel
theorem d_Ne_init_119 : decode b_Ne_init 119 = .ok (.newarray .int, 2) := by decide +kernel
theorem d_Ne_init_121 : decode b_Ne_init 121 = .ok (.putfield 61, 3) := by decide +kernel
theorem d_Ne_init_124 : decode b_Ne_init 124 = .ok (.return_, 1) := by decide +kernel
abbrev f0Ne : List Value := [.int 0, .int 0, .int 0, .int 0, .null, .int 0, .int 0, .null, .null, .null, .null, .null, .null, .int 0, .null, .null, .null]
set_option maxRecDepth 20000 in
theorem f0Ne_ok : ∀ j, j < 17 → defaultValue (t_Ne j) = vp_V f0Ne j := by decide +kernel
def wNe (kA : Nat → ClassId) (h : Nat) (q : Nat → Nat) (x : Nat → Int32) (a : Nat → Nat → Int32) : va_W := [(h, .inr (5, [.int (x 0), .int (x 1), .int (x 2), .int (x 3), .ref (q 4), .int (x 5), .int (x 6), .ref (q 7), .ref (q 8), .ref (q 9), .ref (q 10), .ref (q 11), .ref (q 12), .int (x 13), .ref (q 14), .ref (q 15), .ref (q 16)])), (q 4, .inl (kA 0, 48, .inl (a 4))), (q 7, .inl (kA 0, 72, .inl (a 7))), (q 8, .inl (kA 0, 72, .inl (a 8))), (q 9, .inl (kA 0, 25, .inl (a 9))), (q 10, .inl (kA 0, 625, .inl (a 10))), (q 11, .inl (kA 0, 144, .inl (a 11))), (q 12, .inl (kA 0, 25, .inl (a 12))), (q 14, .inl (kA 0, 145, .inl (a 14))), (q 15, .inl (kA 0, 144, .inl (a 15))), (q 16, .inl (kA 0, 144, .inl (a 16)))]
def x0Ne : Nat → Int32 := fun k => match k with | 0 => (-1) | 1 => (-1) | 2 => (-1) | _ => 0
def a0Ne : Nat → Nat → Int32 := fun _ => fun _ => 0
set_option maxRecDepth 100000 in
set_option maxHeartbeats 4000000 in
/-- DrawingHouse$Net()V -/
theorem c_Ne_init (l : Launch) (D : va_G) (kA : Nat → ClassId) (h : Nat) : Cv l y_Ne_init z_Ne_init { frames := 1, cells := 10, slots := 1444, locals := 12 } D classes (TY kA) [.ref h] [[(h, .inr (5, f0Ne))]] (fun u : (Nat → Nat) => True) (fun u => [wNe kA h u x0Ne a0Ne]) 10 1444 := by
  intro sz
  refine k_met (cc := b_Ne_init) (maxL := 1) (ret := none) (by decide) rfl (Nat.le_of_ble_eq_true rfl) (fun p e s m below meth c ls X hl hB => ?_)
  obtain ⟨hsz, hP, hK, hD0, hN⟩ := hB
  subst hsz
  have hD := hD0.self (sz := s.heap.size)
  generalize hAe : va_A (cat [[(h, .inr (5, [.int 0, .int 0, .int 0, .int 0, .null, .int 0, .int 0, .null, .null, .null, .null, .null, .null, .int 0, .null, .null, .null]))]]) s.heap.size = A at hD ⊢
  have hA : ∀ q : Nat, s.heap.size ≤ q → A q := fun q h => by rw [← hAe]; exact Or.inr h
  have hS : va_S A s.heap s.heap [] := va_S.rf
  obtain ⟨hx, hb, hml, hown, hts, hr, hlk, hnm⟩ := id X
  have hl : lv_has ls 1 [(0, .ref h)] := hl
  have hP : va_P D classes (cat [[(h, .inr (5, [.int 0, .int 0, .int 0, .int 0, .null, .int 0, .int 0, .null, .null, .null, .null, .null, .null, .int 0, .null, .null, .null]))]]) s.heap := hP
  have hK : va_K D classes (TY kA) s := hK
  refine lv_aload_n (pc := 0) hx hb d_Ne_init_0 rfl (lv_at hl 0 rfl) ?_
  refine W.objInit hx hb hown (hts _ wm_247) (hts _ wm_31) (hts _ wm_32) rfl (by rw [hml]; exact hl.1) rfl d_Ne_init_1 (Nat.le_of_ble_eq_true rfl) (Nat.le_of_ble_eq_true rfl) ?_
  refine W.eq (g2 := F0 m 4 ls []) rfl ?_
  refine lv_aload_n (pc := 4) hx hb d_Ne_init_4 rfl (lv_at hl 0 rfl) ?_
  refine lv_iconst (pc := 5) (v := -1) hx hb d_Ne_init_5 (by decide) ?_
  refine k_put (pc := 6) X hK hP hD hS 0 rfl rfl i_Ne t_Ne t_Ne_ok n_Ne 0 (by decide) wm_248 rfl (Or.inl rfl) rfl rfl (Nat.le_of_ble_eq_true rfl) d_Ne_init_6 (fun H locs hP hD hS => ?_)
  have hP : va_P D classes (cat [[(h, .inr (5, [.int ((-1)), .int 0, .int 0, .int 0, .null, .int 0, .int 0, .null, .null, .null, .null, .null, .null, .int 0, .null, .null, .null]))]]) H := hP
  have hD : va_D A (cat [[(h, .inr (5, [.int ((-1)), .int 0, .int 0, .int 0, .null, .int 0, .int 0, .null, .null, .null, .null, .null, .null, .int 0, .null, .null, .null]))]]) := hD
  refine lv_aload_n (pc := 9) hx hb d_Ne_init_9 rfl (lv_at hl 0 rfl) ?_
  refine lv_iconst (pc := 10) (v := -1) hx hb d_Ne_init_10 (by decide) ?_
  refine k_put (pc := 11) X hK hP hD hS 0 rfl rfl i_Ne t_Ne t_Ne_ok n_Ne 1 (by decide) wm_251 rfl (Or.inl rfl) rfl rfl (Nat.le_of_ble_eq_true rfl) d_Ne_init_11 (fun H locs hP hD hS => ?_)
  have hP : va_P D classes (cat [[(h, .inr (5, [.int ((-1)), .int ((-1)), .int 0, .int 0, .null, .int 0, .int 0, .null, .null, .null, .null, .null, .null, .int 0, .null, .null, .null]))]]) H := hP
  have hD : va_D A (cat [[(h, .inr (5, [.int ((-1)), .int ((-1)), .int 0, .int 0, .null, .int 0, .int 0, .null, .null, .null, .null, .null, .null, .int 0, .null, .null, .null]))]]) := hD
  refine lv_aload_n (pc := 14) hx hb d_Ne_init_14 rfl (lv_at hl 0 rfl) ?_
  refine lv_iconst (pc := 15) (v := -1) hx hb d_Ne_init_15 (by decide) ?_
  refine k_put (pc := 16) X hK hP hD hS 0 rfl rfl i_Ne t_Ne t_Ne_ok n_Ne 2 (by decide) wm_253 rfl (Or.inl rfl) rfl rfl (Nat.le_of_ble_eq_true rfl) d_Ne_init_16 (fun H locs hP hD hS => ?_)
  have hP : va_P D classes (cat [[(h, .inr (5, [.int ((-1)), .int ((-1)), .int ((-1)), .int 0, .null, .int 0, .int 0, .null, .null, .null, .null, .null, .null, .int 0, .null, .null, .null]))]]) H := hP
  have hD : va_D A (cat [[(h, .inr (5, [.int ((-1)), .int ((-1)), .int ((-1)), .int 0, .null, .int 0, .int 0, .null, .null, .null, .null, .null, .null, .int 0, .null, .null, .null]))]]) := hD
  refine lv_aload_n (pc := 19) hx hb d_Ne_init_19 rfl (lv_at hl 0 rfl) ?_
  refine lv_iconst (pc := 20) (v := 0) hx hb d_Ne_init_20 (by decide) ?_
  refine k_put (pc := 21) X hK hP hD hS 0 rfl rfl i_Ne t_Ne t_Ne_ok n_Ne 3 (by decide) wm_256 rfl (Or.inl rfl) rfl rfl (Nat.le_of_ble_eq_true rfl) d_Ne_init_21 (fun H locs hP hD hS => ?_)
  have hP : va_P D classes (cat [[(h, .inr (5, [.int ((-1)), .int ((-1)), .int ((-1)), .int 0, .null, .int 0, .int 0, .null, .null, .null, .null, .null, .null, .int 0, .null, .null, .null]))]]) H := hP
  have hD : va_D A (cat [[(h, .inr (5, [.int ((-1)), .int ((-1)), .int ((-1)), .int 0, .null, .int 0, .int 0, .null, .null, .null, .null, .null, .null, .int 0, .null, .null, .null]))]]) := hD
  refine lv_aload_n (pc := 24) hx hb d_Ne_init_24 rfl (lv_at hl 0 rfl) ?_
  refine lv_bipush (pc := 25) (v := 48) hx hb d_Ne_init_25 (by decide) ?_
  refine k_newa (pc := 27) (atype := .int) X (ty := .int) (a0 := (48, .inl (fun _ => 0))) rfl rfl wm_193 hK hP hD hS hA 0 rfl (fun _ => rfl) (by decide) rfl (by decide) (Nat.le_of_ble_eq_true rfl) (Nat.le_of_ble_eq_true rfl) d_Ne_init_27 (fun q1 H hP hD hS => ?_)
  have hP : va_P D classes (cat [[(h, .inr (5, [.int ((-1)), .int ((-1)), .int ((-1)), .int 0, .null, .int 0, .int 0, .null, .null, .null, .null, .null, .null, .int 0, .null, .null, .null]))], [(q1, .inl (kA 0, 48, .inl (fun _ => 0)))]]) H := hP
  have hD : va_D A (cat [[(h, .inr (5, [.int ((-1)), .int ((-1)), .int ((-1)), .int 0, .null, .int 0, .int 0, .null, .null, .null, .null, .null, .null, .int 0, .null, .null, .null]))], [(q1, .inl (kA 0, 48, .inl (fun _ => 0)))]]) := hD
  refine W.widen (k := 1) (n := 48) (by omega) (by omega) ?_
  refine k_put (pc := 29) X hK hP hD hS 0 rfl rfl i_Ne t_Ne t_Ne_ok n_Ne 4 (by decide) wm_259 rfl (Or.inr ⟨rfl, rfl⟩) rfl rfl (Nat.le_of_ble_eq_true rfl) d_Ne_init_29 (fun H locs hP hD hS => ?_)
  have hP : va_P D classes (cat [[(h, .inr (5, [.int ((-1)), .int ((-1)), .int ((-1)), .int 0, .ref q1, .int 0, .int 0, .null, .null, .null, .null, .null, .null, .int 0, .null, .null, .null]))], [(q1, .inl (kA 0, 48, .inl (fun _ => 0)))]]) H := hP
  have hD : va_D A (cat [[(h, .inr (5, [.int ((-1)), .int ((-1)), .int ((-1)), .int 0, .ref q1, .int 0, .int 0, .null, .null, .null, .null, .null, .null, .int 0, .null, .null, .null]))], [(q1, .inl (kA 0, 48, .inl (fun _ => 0)))]]) := hD
  refine lv_aload_n (pc := 32) hx hb d_Ne_init_32 rfl (lv_at hl 0 rfl) ?_
  refine lv_iconst (pc := 33) (v := 0) hx hb d_Ne_init_33 (by decide) ?_
  refine k_put (pc := 34) X hK hP hD hS 0 rfl rfl i_Ne t_Ne t_Ne_ok n_Ne 5 (by decide) wm_262 rfl (Or.inl rfl) rfl rfl (Nat.le_of_ble_eq_true rfl) d_Ne_init_34 (fun H locs hP hD hS => ?_)
  have hP : va_P D classes (cat [[(h, .inr (5, [.int ((-1)), .int ((-1)), .int ((-1)), .int 0, .ref q1, .int 0, .int 0, .null, .null, .null, .null, .null, .null, .int 0, .null, .null, .null]))], [(q1, .inl (kA 0, 48, .inl (fun _ => 0)))]]) H := hP
  have hD : va_D A (cat [[(h, .inr (5, [.int ((-1)), .int ((-1)), .int ((-1)), .int 0, .ref q1, .int 0, .int 0, .null, .null, .null, .null, .null, .null, .int 0, .null, .null, .null]))], [(q1, .inl (kA 0, 48, .inl (fun _ => 0)))]]) := hD
  refine lv_aload_n (pc := 37) hx hb d_Ne_init_37 rfl (lv_at hl 0 rfl) ?_
  refine lv_iconst (pc := 38) (v := 0) hx hb d_Ne_init_38 (by decide) ?_
  refine k_put (pc := 39) X hK hP hD hS 0 rfl rfl i_Ne t_Ne t_Ne_ok n_Ne 6 (by decide) wm_265 rfl (Or.inl rfl) rfl rfl (Nat.le_of_ble_eq_true rfl) d_Ne_init_39 (fun H locs hP hD hS => ?_)
  have hP : va_P D classes (cat [[(h, .inr (5, [.int ((-1)), .int ((-1)), .int ((-1)), .int 0, .ref q1, .int 0, .int 0, .null, .null, .null, .null, .null, .null, .int 0, .null, .null, .null]))], [(q1, .inl (kA 0, 48, .inl (fun _ => 0)))]]) H := hP
  have hD : va_D A (cat [[(h, .inr (5, [.int ((-1)), .int ((-1)), .int ((-1)), .int 0, .ref q1, .int 0, .int 0, .null, .null, .null, .null, .null, .null, .int 0, .null, .null, .null]))], [(q1, .inl (kA 0, 48, .inl (fun _ => 0)))]]) := hD
  refine lv_aload_n (pc := 42) hx hb d_Ne_init_42 rfl (lv_at hl 0 rfl) ?_
  refine lv_bipush (pc := 43) (v := 72) hx hb d_Ne_init_43 (by decide) ?_
  refine k_newa (pc := 45) (atype := .int) X (ty := .int) (a0 := (72, .inl (fun _ => 0))) rfl rfl wm_193 hK hP hD hS hA 0 rfl (fun _ => rfl) (by decide) rfl (by decide) (Nat.le_of_ble_eq_true rfl) (Nat.le_of_ble_eq_true rfl) d_Ne_init_45 (fun q2 H hP hD hS => ?_)
  have hP : va_P D classes (cat [[(h, .inr (5, [.int ((-1)), .int ((-1)), .int ((-1)), .int 0, .ref q1, .int 0, .int 0, .null, .null, .null, .null, .null, .null, .int 0, .null, .null, .null]))], [(q1, .inl (kA 0, 48, .inl (fun _ => 0)))], [(q2, .inl (kA 0, 72, .inl (fun _ => 0)))]]) H := hP
  have hD : va_D A (cat [[(h, .inr (5, [.int ((-1)), .int ((-1)), .int ((-1)), .int 0, .ref q1, .int 0, .int 0, .null, .null, .null, .null, .null, .null, .int 0, .null, .null, .null]))], [(q1, .inl (kA 0, 48, .inl (fun _ => 0)))], [(q2, .inl (kA 0, 72, .inl (fun _ => 0)))]]) := hD
  refine W.widen (k := 2) (n := 120) (by omega) (by omega) ?_
  refine k_put (pc := 47) X hK hP hD hS 0 rfl rfl i_Ne t_Ne t_Ne_ok n_Ne 7 (by decide) wm_267 rfl (Or.inr ⟨rfl, rfl⟩) rfl rfl (Nat.le_of_ble_eq_true rfl) d_Ne_init_47 (fun H locs hP hD hS => ?_)
  have hP : va_P D classes (cat [[(h, .inr (5, [.int ((-1)), .int ((-1)), .int ((-1)), .int 0, .ref q1, .int 0, .int 0, .ref q2, .null, .null, .null, .null, .null, .int 0, .null, .null, .null]))], [(q1, .inl (kA 0, 48, .inl (fun _ => 0)))], [(q2, .inl (kA 0, 72, .inl (fun _ => 0)))]]) H := hP
  have hD : va_D A (cat [[(h, .inr (5, [.int ((-1)), .int ((-1)), .int ((-1)), .int 0, .ref q1, .int 0, .int 0, .ref q2, .null, .null, .null, .null, .null, .int 0, .null, .null, .null]))], [(q1, .inl (kA 0, 48, .inl (fun _ => 0)))], [(q2, .inl (kA 0, 72, .inl (fun _ => 0)))]]) := hD
  refine lv_aload_n (pc := 50) hx hb d_Ne_init_50 rfl (lv_at hl 0 rfl) ?_
  refine lv_bipush (pc := 51) (v := 72) hx hb d_Ne_init_51 (by decide) ?_
  refine k_newa (pc := 53) (atype := .int) X (ty := .int) (a0 := (72, .inl (fun _ => 0))) rfl rfl wm_193 hK hP hD hS hA 0 rfl (fun _ => rfl) (by decide) rfl (by decide) (Nat.le_of_ble_eq_true rfl) (Nat.le_of_ble_eq_true rfl) d_Ne_init_53 (fun q3 H hP hD hS => ?_)
  have hP : va_P D classes (cat [[(h, .inr (5, [.int ((-1)), .int ((-1)), .int ((-1)), .int 0, .ref q1, .int 0, .int 0, .ref q2, .null, .null, .null, .null, .null, .int 0, .null, .null, .null]))], [(q1, .inl (kA 0, 48, .inl (fun _ => 0)))], [(q2, .inl (kA 0, 72, .inl (fun _ => 0)))], [(q3, .inl (kA 0, 72, .inl (fun _ => 0)))]]) H := hP
  have hD : va_D A (cat [[(h, .inr (5, [.int ((-1)), .int ((-1)), .int ((-1)), .int 0, .ref q1, .int 0, .int 0, .ref q2, .null, .null, .null, .null, .null, .int 0, .null, .null, .null]))], [(q1, .inl (kA 0, 48, .inl (fun _ => 0)))], [(q2, .inl (kA 0, 72, .inl (fun _ => 0)))], [(q3, .inl (kA 0, 72, .inl (fun _ => 0)))]]) := hD
  refine W.widen (k := 3) (n := 192) (by omega) (by omega) ?_
  refine k_put (pc := 55) X hK hP hD hS 0 rfl rfl i_Ne t_Ne t_Ne_ok n_Ne 8 (by decide) wm_270 rfl (Or.inr ⟨rfl, rfl⟩) rfl rfl (Nat.le_of_ble_eq_true rfl) d_Ne_init_55 (fun H locs hP hD hS => ?_)
  have hP : va_P D classes (cat [[(h, .inr (5, [.int ((-1)), .int ((-1)), .int ((-1)), .int 0, .ref q1, .int 0, .int 0, .ref q2, .ref q3, .null, .null, .null, .null, .int 0, .null, .null, .null]))], [(q1, .inl (kA 0, 48, .inl (fun _ => 0)))], [(q2, .inl (kA 0, 72, .inl (fun _ => 0)))], [(q3, .inl (kA 0, 72, .inl (fun _ => 0)))]]) H := hP
  have hD : va_D A (cat [[(h, .inr (5, [.int ((-1)), .int ((-1)), .int ((-1)), .int 0, .ref q1, .int 0, .int 0, .ref q2, .ref q3, .null, .null, .null, .null, .int 0, .null, .null, .null]))], [(q1, .inl (kA 0, 48, .inl (fun _ => 0)))], [(q2, .inl (kA 0, 72, .inl (fun _ => 0)))], [(q3, .inl (kA 0, 72, .inl (fun _ => 0)))]]) := hD
  refine lv_aload_n (pc := 58) hx hb d_Ne_init_58 rfl (lv_at hl 0 rfl) ?_
  refine lv_bipush (pc := 59) (v := 25) hx hb d_Ne_init_59 (by decide) ?_
  refine k_newa (pc := 61) (atype := .int) X (ty := .int) (a0 := (25, .inl (fun _ => 0))) rfl rfl wm_193 hK hP hD hS hA 0 rfl (fun _ => rfl) (by decide) rfl (by decide) (Nat.le_of_ble_eq_true rfl) (Nat.le_of_ble_eq_true rfl) d_Ne_init_61 (fun q4 H hP hD hS => ?_)
  have hP : va_P D classes (cat [[(h, .inr (5, [.int ((-1)), .int ((-1)), .int ((-1)), .int 0, .ref q1, .int 0, .int 0, .ref q2, .ref q3, .null, .null, .null, .null, .int 0, .null, .null, .null]))], [(q1, .inl (kA 0, 48, .inl (fun _ => 0)))], [(q2, .inl (kA 0, 72, .inl (fun _ => 0)))], [(q3, .inl (kA 0, 72, .inl (fun _ => 0)))], [(q4, .inl (kA 0, 25, .inl (fun _ => 0)))]]) H := hP
  have hD : va_D A (cat [[(h, .inr (5, [.int ((-1)), .int ((-1)), .int ((-1)), .int 0, .ref q1, .int 0, .int 0, .ref q2, .ref q3, .null, .null, .null, .null, .int 0, .null, .null, .null]))], [(q1, .inl (kA 0, 48, .inl (fun _ => 0)))], [(q2, .inl (kA 0, 72, .inl (fun _ => 0)))], [(q3, .inl (kA 0, 72, .inl (fun _ => 0)))], [(q4, .inl (kA 0, 25, .inl (fun _ => 0)))]]) := hD
  refine W.widen (k := 4) (n := 217) (by omega) (by omega) ?_
  refine k_put (pc := 63) X hK hP hD hS 0 rfl rfl i_Ne t_Ne t_Ne_ok n_Ne 9 (by decide) wm_273 rfl (Or.inr ⟨rfl, rfl⟩) rfl rfl (Nat.le_of_ble_eq_true rfl) d_Ne_init_63 (fun H locs hP hD hS => ?_)
  have hP : va_P D classes (cat [[(h, .inr (5, [.int ((-1)), .int ((-1)), .int ((-1)), .int 0, .ref q1, .int 0, .int 0, .ref q2, .ref q3, .ref q4, .null, .null, .null, .int 0, .null, .null, .null]))], [(q1, .inl (kA 0, 48, .inl (fun _ => 0)))], [(q2, .inl (kA 0, 72, .inl (fun _ => 0)))], [(q3, .inl (kA 0, 72, .inl (fun _ => 0)))], [(q4, .inl (kA 0, 25, .inl (fun _ => 0)))]]) H := hP
  have hD : va_D A (cat [[(h, .inr (5, [.int ((-1)), .int ((-1)), .int ((-1)), .int 0, .ref q1, .int 0, .int 0, .ref q2, .ref q3, .ref q4, .null, .null, .null, .int 0, .null, .null, .null]))], [(q1, .inl (kA 0, 48, .inl (fun _ => 0)))], [(q2, .inl (kA 0, 72, .inl (fun _ => 0)))], [(q3, .inl (kA 0, 72, .inl (fun _ => 0)))], [(q4, .inl (kA 0, 25, .inl (fun _ => 0)))]]) := hD
  refine lv_aload_n (pc := 66) hx hb d_Ne_init_66 rfl (lv_at hl 0 rfl) ?_
  refine lv_sipush (pc := 67) (v := 625) hx hb d_Ne_init_67 (by decide) ?_
  refine k_newa (pc := 70) (atype := .int) X (ty := .int) (a0 := (625, .inl (fun _ => 0))) rfl rfl wm_193 hK hP hD hS hA 0 rfl (fun _ => rfl) (by decide) rfl (by decide) (Nat.le_of_ble_eq_true rfl) (Nat.le_of_ble_eq_true rfl) d_Ne_init_70 (fun q5 H hP hD hS => ?_)
  have hP : va_P D classes (cat [[(h, .inr (5, [.int ((-1)), .int ((-1)), .int ((-1)), .int 0, .ref q1, .int 0, .int 0, .ref q2, .ref q3, .ref q4, .null, .null, .null, .int 0, .null, .null, .null]))], [(q1, .inl (kA 0, 48, .inl (fun _ => 0)))], [(q2, .inl (kA 0, 72, .inl (fun _ => 0)))], [(q3, .inl (kA 0, 72, .inl (fun _ => 0)))], [(q4, .inl (kA 0, 25, .inl (fun _ => 0)))], [(q5, .inl (kA 0, 625, .inl (fun _ => 0)))]]) H := hP
  have hD : va_D A (cat [[(h, .inr (5, [.int ((-1)), .int ((-1)), .int ((-1)), .int 0, .ref q1, .int 0, .int 0, .ref q2, .ref q3, .ref q4, .null, .null, .null, .int 0, .null, .null, .null]))], [(q1, .inl (kA 0, 48, .inl (fun _ => 0)))], [(q2, .inl (kA 0, 72, .inl (fun _ => 0)))], [(q3, .inl (kA 0, 72, .inl (fun _ => 0)))], [(q4, .inl (kA 0, 25, .inl (fun _ => 0)))], [(q5, .inl (kA 0, 625, .inl (fun _ => 0)))]]) := hD
  refine W.widen (k := 5) (n := 842) (by omega) (by omega) ?_
  refine k_put (pc := 72) X hK hP hD hS 0 rfl rfl i_Ne t_Ne t_Ne_ok n_Ne 10 (by decide) wm_276 rfl (Or.inr ⟨rfl, rfl⟩) rfl rfl (Nat.le_of_ble_eq_true rfl) d_Ne_init_72 (fun H locs hP hD hS => ?_)
  have hP : va_P D classes (cat [[(h, .inr (5, [.int ((-1)), .int ((-1)), .int ((-1)), .int 0, .ref q1, .int 0, .int 0, .ref q2, .ref q3, .ref q4, .ref q5, .null, .null, .int 0, .null, .null, .null]))], [(q1, .inl (kA 0, 48, .inl (fun _ => 0)))], [(q2, .inl (kA 0, 72, .inl (fun _ => 0)))], [(q3, .inl (kA 0, 72, .inl (fun _ => 0)))], [(q4, .inl (kA 0, 25, .inl (fun _ => 0)))], [(q5, .inl (kA 0, 625, .inl (fun _ => 0)))]]) H := hP
  have hD : va_D A (cat [[(h, .inr (5, [.int ((-1)), .int ((-1)), .int ((-1)), .int 0, .ref q1, .int 0, .int 0, .ref q2, .ref q3, .ref q4, .ref q5, .null, .null, .int 0, .null, .null, .null]))], [(q1, .inl (kA 0, 48, .inl (fun _ => 0)))], [(q2, .inl (kA 0, 72, .inl (fun _ => 0)))], [(q3, .inl (kA 0, 72, .inl (fun _ => 0)))], [(q4, .inl (kA 0, 25, .inl (fun _ => 0)))], [(q5, .inl (kA 0, 625, .inl (fun _ => 0)))]]) := hD
  refine lv_aload_n (pc := 75) hx hb d_Ne_init_75 rfl (lv_at hl 0 rfl) ?_
  refine lv_sipush (pc := 76) (v := 144) hx hb d_Ne_init_76 (by decide) ?_
  refine k_newa (pc := 79) (atype := .int) X (ty := .int) (a0 := (144, .inl (fun _ => 0))) rfl rfl wm_193 hK hP hD hS hA 0 rfl (fun _ => rfl) (by decide) rfl (by decide) (Nat.le_of_ble_eq_true rfl) (Nat.le_of_ble_eq_true rfl) d_Ne_init_79 (fun q6 H hP hD hS => ?_)
  have hP : va_P D classes (cat [[(h, .inr (5, [.int ((-1)), .int ((-1)), .int ((-1)), .int 0, .ref q1, .int 0, .int 0, .ref q2, .ref q3, .ref q4, .ref q5, .null, .null, .int 0, .null, .null, .null]))], [(q1, .inl (kA 0, 48, .inl (fun _ => 0)))], [(q2, .inl (kA 0, 72, .inl (fun _ => 0)))], [(q3, .inl (kA 0, 72, .inl (fun _ => 0)))], [(q4, .inl (kA 0, 25, .inl (fun _ => 0)))], [(q5, .inl (kA 0, 625, .inl (fun _ => 0)))], [(q6, .inl (kA 0, 144, .inl (fun _ => 0)))]]) H := hP
  have hD : va_D A (cat [[(h, .inr (5, [.int ((-1)), .int ((-1)), .int ((-1)), .int 0, .ref q1, .int 0, .int 0, .ref q2, .ref q3, .ref q4, .ref q5, .null, .null, .int 0, .null, .null, .null]))], [(q1, .inl (kA 0, 48, .inl (fun _ => 0)))], [(q2, .inl (kA 0, 72, .inl (fun _ => 0)))], [(q3, .inl (kA 0, 72, .inl (fun _ => 0)))], [(q4, .inl (kA 0, 25, .inl (fun _ => 0)))], [(q5, .inl (kA 0, 625, .inl (fun _ => 0)))], [(q6, .inl (kA 0, 144, .inl (fun _ => 0)))]]) := hD
  refine W.widen (k := 6) (n := 986) (by omega) (by omega) ?_
  refine k_put (pc := 81) X hK hP hD hS 0 rfl rfl i_Ne t_Ne t_Ne_ok n_Ne 11 (by decide) wm_277 rfl (Or.inr ⟨rfl, rfl⟩) rfl rfl (Nat.le_of_ble_eq_true rfl) d_Ne_init_81 (fun H locs hP hD hS => ?_)
  have hP : va_P D classes (cat [[(h, .inr (5, [.int ((-1)), .int ((-1)), .int ((-1)), .int 0, .ref q1, .int 0, .int 0, .ref q2, .ref q3, .ref q4, .ref q5, .ref q6, .null, .int 0, .null, .null, .null]))], [(q1, .inl (kA 0, 48, .inl (fun _ => 0)))], [(q2, .inl (kA 0, 72, .inl (fun _ => 0)))], [(q3, .inl (kA 0, 72, .inl (fun _ => 0)))], [(q4, .inl (kA 0, 25, .inl (fun _ => 0)))], [(q5, .inl (kA 0, 625, .inl (fun _ => 0)))], [(q6, .inl (kA 0, 144, .inl (fun _ => 0)))]]) H := hP
  have hD : va_D A (cat [[(h, .inr (5, [.int ((-1)), .int ((-1)), .int ((-1)), .int 0, .ref q1, .int 0, .int 0, .ref q2, .ref q3, .ref q4, .ref q5, .ref q6, .null, .int 0, .null, .null, .null]))], [(q1, .inl (kA 0, 48, .inl (fun _ => 0)))], [(q2, .inl (kA 0, 72, .inl (fun _ => 0)))], [(q3, .inl (kA 0, 72, .inl (fun _ => 0)))], [(q4, .inl (kA 0, 25, .inl (fun _ => 0)))], [(q5, .inl (kA 0, 625, .inl (fun _ => 0)))], [(q6, .inl (kA 0, 144, .inl (fun _ => 0)))]]) := hD
  refine lv_aload_n (pc := 84) hx hb d_Ne_init_84 rfl (lv_at hl 0 rfl) ?_
  refine lv_bipush (pc := 85) (v := 25) hx hb d_Ne_init_85 (by decide) ?_
  refine k_newa (pc := 87) (atype := .int) X (ty := .int) (a0 := (25, .inl (fun _ => 0))) rfl rfl wm_193 hK hP hD hS hA 0 rfl (fun _ => rfl) (by decide) rfl (by decide) (Nat.le_of_ble_eq_true rfl) (Nat.le_of_ble_eq_true rfl) d_Ne_init_87 (fun q7 H hP hD hS => ?_)
  have hP : va_P D classes (cat [[(h, .inr (5, [.int ((-1)), .int ((-1)), .int ((-1)), .int 0, .ref q1, .int 0, .int 0, .ref q2, .ref q3, .ref q4, .ref q5, .ref q6, .null, .int 0, .null, .null, .null]))], [(q1, .inl (kA 0, 48, .inl (fun _ => 0)))], [(q2, .inl (kA 0, 72, .inl (fun _ => 0)))], [(q3, .inl (kA 0, 72, .inl (fun _ => 0)))], [(q4, .inl (kA 0, 25, .inl (fun _ => 0)))], [(q5, .inl (kA 0, 625, .inl (fun _ => 0)))], [(q6, .inl (kA 0, 144, .inl (fun _ => 0)))], [(q7, .inl (kA 0, 25, .inl (fun _ => 0)))]]) H := hP
  have hD : va_D A (cat [[(h, .inr (5, [.int ((-1)), .int ((-1)), .int ((-1)), .int 0, .ref q1, .int 0, .int 0, .ref q2, .ref q3, .ref q4, .ref q5, .ref q6, .null, .int 0, .null, .null, .null]))], [(q1, .inl (kA 0, 48, .inl (fun _ => 0)))], [(q2, .inl (kA 0, 72, .inl (fun _ => 0)))], [(q3, .inl (kA 0, 72, .inl (fun _ => 0)))], [(q4, .inl (kA 0, 25, .inl (fun _ => 0)))], [(q5, .inl (kA 0, 625, .inl (fun _ => 0)))], [(q6, .inl (kA 0, 144, .inl (fun _ => 0)))], [(q7, .inl (kA 0, 25, .inl (fun _ => 0)))]]) := hD
  refine W.widen (k := 7) (n := 1011) (by omega) (by omega) ?_
  refine k_put (pc := 89) X hK hP hD hS 0 rfl rfl i_Ne t_Ne t_Ne_ok n_Ne 12 (by decide) wm_280 rfl (Or.inr ⟨rfl, rfl⟩) rfl rfl (Nat.le_of_ble_eq_true rfl) d_Ne_init_89 (fun H locs hP hD hS => ?_)
  have hP : va_P D classes (cat [[(h, .inr (5, [.int ((-1)), .int ((-1)), .int ((-1)), .int 0, .ref q1, .int 0, .int 0, .ref q2, .ref q3, .ref q4, .ref q5, .ref q6, .ref q7, .int 0, .null, .null, .null]))], [(q1, .inl (kA 0, 48, .inl (fun _ => 0)))], [(q2, .inl (kA 0, 72, .inl (fun _ => 0)))], [(q3, .inl (kA 0, 72, .inl (fun _ => 0)))], [(q4, .inl (kA 0, 25, .inl (fun _ => 0)))], [(q5, .inl (kA 0, 625, .inl (fun _ => 0)))], [(q6, .inl (kA 0, 144, .inl (fun _ => 0)))], [(q7, .inl (kA 0, 25, .inl (fun _ => 0)))]]) H := hP
  have hD : va_D A (cat [[(h, .inr (5, [.int ((-1)), .int ((-1)), .int ((-1)), .int 0, .ref q1, .int 0, .int 0, .ref q2, .ref q3, .ref q4, .ref q5, .ref q6, .ref q7, .int 0, .null, .null, .null]))], [(q1, .inl (kA 0, 48, .inl (fun _ => 0)))], [(q2, .inl (kA 0, 72, .inl (fun _ => 0)))], [(q3, .inl (kA 0, 72, .inl (fun _ => 0)))], [(q4, .inl (kA 0, 25, .inl (fun _ => 0)))], [(q5, .inl (kA 0, 625, .inl (fun _ => 0)))], [(q6, .inl (kA 0, 144, .inl (fun _ => 0)))], [(q7, .inl (kA 0, 25, .inl (fun _ => 0)))]]) := hD
  refine lv_aload_n (pc := 92) hx hb d_Ne_init_92 rfl (lv_at hl 0 rfl) ?_
  refine lv_iconst (pc := 93) (v := 0) hx hb d_Ne_init_93 (by decide) ?_
  refine k_put (pc := 94) X hK hP hD hS 0 rfl rfl i_Ne t_Ne t_Ne_ok n_Ne 13 (by decide) wm_282 rfl (Or.inl rfl) rfl rfl (Nat.le_of_ble_eq_true rfl) d_Ne_init_94 (fun H locs hP hD hS => ?_)
  have hP : va_P D classes (cat [[(h, .inr (5, [.int ((-1)), .int ((-1)), .int ((-1)), .int 0, .ref q1, .int 0, .int 0, .ref q2, .ref q3, .ref q4, .ref q5, .ref q6, .ref q7, .int 0, .null, .null, .null]))], [(q1, .inl (kA 0, 48, .inl (fun _ => 0)))], [(q2, .inl (kA 0, 72, .inl (fun _ => 0)))], [(q3, .inl (kA 0, 72, .inl (fun _ => 0)))], [(q4, .inl (kA 0, 25, .inl (fun _ => 0)))], [(q5, .inl (kA 0, 625, .inl (fun _ => 0)))], [(q6, .inl (kA 0, 144, .inl (fun _ => 0)))], [(q7, .inl (kA 0, 25, .inl (fun _ => 0)))]]) H := hP
  have hD : va_D A (cat [[(h, .inr (5, [.int ((-1)), .int ((-1)), .int ((-1)), .int 0, .ref q1, .int 0, .int 0, .ref q2, .ref q3, .ref q4, .ref q5, .ref q6, .ref q7, .int 0, .null, .null, .null]))], [(q1, .inl (kA 0, 48, .inl (fun _ => 0)))], [(q2, .inl (kA 0, 72, .inl (fun _ => 0)))], [(q3, .inl (kA 0, 72, .inl (fun _ => 0)))], [(q4, .inl (kA 0, 25, .inl (fun _ => 0)))], [(q5, .inl (kA 0, 625, .inl (fun _ => 0)))], [(q6, .inl (kA 0, 144, .inl (fun _ => 0)))], [(q7, .inl (kA 0, 25, .inl (fun _ => 0)))]]) := hD
  refine lv_aload_n (pc := 97) hx hb d_Ne_init_97 rfl (lv_at hl 0 rfl) ?_
  refine lv_sipush (pc := 98) (v := 145) hx hb d_Ne_init_98 (by decide) ?_
  refine k_newa (pc := 101) (atype := .int) X (ty := .int) (a0 := (145, .inl (fun _ => 0))) rfl rfl wm_193 hK hP hD hS hA 0 rfl (fun _ => rfl) (by decide) rfl (by decide) (Nat.le_of_ble_eq_true rfl) (Nat.le_of_ble_eq_true rfl) d_Ne_init_101 (fun q8 H hP hD hS => ?_)
  have hP : va_P D classes (cat [[(h, .inr (5, [.int ((-1)), .int ((-1)), .int ((-1)), .int 0, .ref q1, .int 0, .int 0, .ref q2, .ref q3, .ref q4, .ref q5, .ref q6, .ref q7, .int 0, .null, .null, .null]))], [(q1, .inl (kA 0, 48, .inl (fun _ => 0)))], [(q2, .inl (kA 0, 72, .inl (fun _ => 0)))], [(q3, .inl (kA 0, 72, .inl (fun _ => 0)))], [(q4, .inl (kA 0, 25, .inl (fun _ => 0)))], [(q5, .inl (kA 0, 625, .inl (fun _ => 0)))], [(q6, .inl (kA 0, 144, .inl (fun _ => 0)))], [(q7, .inl (kA 0, 25, .inl (fun _ => 0)))], [(q8, .inl (kA 0, 145, .inl (fun _ => 0)))]]) H := hP
  have hD : va_D A (cat [[(h, .inr (5, [.int ((-1)), .int ((-1)), .int ((-1)), .int 0, .ref q1, .int 0, .int 0, .ref q2, .ref q3, .ref q4, .ref q5, .ref q6, .ref q7, .int 0, .null, .null, .null]))], [(q1, .inl (kA 0, 48, .inl (fun _ => 0)))], [(q2, .inl (kA 0, 72, .inl (fun _ => 0)))], [(q3, .inl (kA 0, 72, .inl (fun _ => 0)))], [(q4, .inl (kA 0, 25, .inl (fun _ => 0)))], [(q5, .inl (kA 0, 625, .inl (fun _ => 0)))], [(q6, .inl (kA 0, 144, .inl (fun _ => 0)))], [(q7, .inl (kA 0, 25, .inl (fun _ => 0)))], [(q8, .inl (kA 0, 145, .inl (fun _ => 0)))]]) := hD
  refine W.widen (k := 8) (n := 1156) (by omega) (by omega) ?_
  refine k_put (pc := 103) X hK hP hD hS 0 rfl rfl i_Ne t_Ne t_Ne_ok n_Ne 14 (by decide) wm_285 rfl (Or.inr ⟨rfl, rfl⟩) rfl rfl (Nat.le_of_ble_eq_true rfl) d_Ne_init_103 (fun H locs hP hD hS => ?_)
  have hP : va_P D classes (cat [[(h, .inr (5, [.int ((-1)), .int ((-1)), .int ((-1)), .int 0, .ref q1, .int 0, .int 0, .ref q2, .ref q3, .ref q4, .ref q5, .ref q6, .ref q7, .int 0, .ref q8, .null, .null]))], [(q1, .inl (kA 0, 48, .inl (fun _ => 0)))], [(q2, .inl (kA 0, 72, .inl (fun _ => 0)))], [(q3, .inl (kA 0, 72, .inl (fun _ => 0)))], [(q4, .inl (kA 0, 25, .inl (fun _ => 0)))], [(q5, .inl (kA 0, 625, .inl (fun _ => 0)))], [(q6, .inl (kA 0, 144, .inl (fun _ => 0)))], [(q7, .inl (kA 0, 25, .inl (fun _ => 0)))], [(q8, .inl (kA 0, 145, .inl (fun _ => 0)))]]) H := hP
  have hD : va_D A (cat [[(h, .inr (5, [.int ((-1)), .int ((-1)), .int ((-1)), .int 0, .ref q1, .int 0, .int 0, .ref q2, .ref q3, .ref q4, .ref q5, .ref q6, .ref q7, .int 0, .ref q8, .null, .null]))], [(q1, .inl (kA 0, 48, .inl (fun _ => 0)))], [(q2, .inl (kA 0, 72, .inl (fun _ => 0)))], [(q3, .inl (kA 0, 72, .inl (fun _ => 0)))], [(q4, .inl (kA 0, 25, .inl (fun _ => 0)))], [(q5, .inl (kA 0, 625, .inl (fun _ => 0)))], [(q6, .inl (kA 0, 144, .inl (fun _ => 0)))], [(q7, .inl (kA 0, 25, .inl (fun _ => 0)))], [(q8, .inl (kA 0, 145, .inl (fun _ => 0)))]]) := hD
  refine lv_aload_n (pc := 106) hx hb d_Ne_init_106 rfl (lv_at hl 0 rfl) ?_
  refine lv_sipush (pc := 107) (v := 144) hx hb d_Ne_init_107 (by decide) ?_
  refine k_newa (pc := 110) (atype := .int) X (ty := .int) (a0 := (144, .inl (fun _ => 0))) rfl rfl wm_193 hK hP hD hS hA 0 rfl (fun _ => rfl) (by decide) rfl (by decide) (Nat.le_of_ble_eq_true rfl) (Nat.le_of_ble_eq_true rfl) d_Ne_init_110 (fun q9 H hP hD hS => ?_)
  have hP : va_P D classes (cat [[(h, .inr (5, [.int ((-1)), .int ((-1)), .int ((-1)), .int 0, .ref q1, .int 0, .int 0, .ref q2, .ref q3, .ref q4, .ref q5, .ref q6, .ref q7, .int 0, .ref q8, .null, .null]))], [(q1, .inl (kA 0, 48, .inl (fun _ => 0)))], [(q2, .inl (kA 0, 72, .inl (fun _ => 0)))], [(q3, .inl (kA 0, 72, .inl (fun _ => 0)))], [(q4, .inl (kA 0, 25, .inl (fun _ => 0)))], [(q5, .inl (kA 0, 625, .inl (fun _ => 0)))], [(q6, .inl (kA 0, 144, .inl (fun _ => 0)))], [(q7, .inl (kA 0, 25, .inl (fun _ => 0)))], [(q8, .inl (kA 0, 145, .inl (fun _ => 0)))], [(q9, .inl (kA 0, 144, .inl (fun _ => 0)))]]) H := hP
  have hD : va_D A (cat [[(h, .inr (5, [.int ((-1)), .int ((-1)), .int ((-1)), .int 0, .ref q1, .int 0, .int 0, .ref q2, .ref q3, .ref q4, .ref q5, .ref q6, .ref q7, .int 0, .ref q8, .null, .null]))], [(q1, .inl (kA 0, 48, .inl (fun _ => 0)))], [(q2, .inl (kA 0, 72, .inl (fun _ => 0)))], [(q3, .inl (kA 0, 72, .inl (fun _ => 0)))], [(q4, .inl (kA 0, 25, .inl (fun _ => 0)))], [(q5, .inl (kA 0, 625, .inl (fun _ => 0)))], [(q6, .inl (kA 0, 144, .inl (fun _ => 0)))], [(q7, .inl (kA 0, 25, .inl (fun _ => 0)))], [(q8, .inl (kA 0, 145, .inl (fun _ => 0)))], [(q9, .inl (kA 0, 144, .inl (fun _ => 0)))]]) := hD
  refine W.widen (k := 9) (n := 1300) (by omega) (by omega) ?_
  refine k_put (pc := 112) X hK hP hD hS 0 rfl rfl i_Ne t_Ne t_Ne_ok n_Ne 15 (by decide) wm_287 rfl (Or.inr ⟨rfl, rfl⟩) rfl rfl (Nat.le_of_ble_eq_true rfl) d_Ne_init_112 (fun H locs hP hD hS => ?_)
  have hP : va_P D classes (cat [[(h, .inr (5, [.int ((-1)), .int ((-1)), .int ((-1)), .int 0, .ref q1, .int 0, .int 0, .ref q2, .ref q3, .ref q4, .ref q5, .ref q6, .ref q7, .int 0, .ref q8, .ref q9, .null]))], [(q1, .inl (kA 0, 48, .inl (fun _ => 0)))], [(q2, .inl (kA 0, 72, .inl (fun _ => 0)))], [(q3, .inl (kA 0, 72, .inl (fun _ => 0)))], [(q4, .inl (kA 0, 25, .inl (fun _ => 0)))], [(q5, .inl (kA 0, 625, .inl (fun _ => 0)))], [(q6, .inl (kA 0, 144, .inl (fun _ => 0)))], [(q7, .inl (kA 0, 25, .inl (fun _ => 0)))], [(q8, .inl (kA 0, 145, .inl (fun _ => 0)))], [(q9, .inl (kA 0, 144, .inl (fun _ => 0)))]]) H := hP
  have hD : va_D A (cat [[(h, .inr (5, [.int ((-1)), .int ((-1)), .int ((-1)), .int 0, .ref q1, .int 0, .int 0, .ref q2, .ref q3, .ref q4, .ref q5, .ref q6, .ref q7, .int 0, .ref q8, .ref q9, .null]))], [(q1, .inl (kA 0, 48, .inl (fun _ => 0)))], [(q2, .inl (kA 0, 72, .inl (fun _ => 0)))], [(q3, .inl (kA 0, 72, .inl (fun _ => 0)))], [(q4, .inl (kA 0, 25, .inl (fun _ => 0)))], [(q5, .inl (kA 0, 625, .inl (fun _ => 0)))], [(q6, .inl (kA 0, 144, .inl (fun _ => 0)))], [(q7, .inl (kA 0, 25, .inl (fun _ => 0)))], [(q8, .inl (kA 0, 145, .inl (fun _ => 0)))], [(q9, .inl (kA 0, 144, .inl (fun _ => 0)))]]) := hD
  refine lv_aload_n (pc := 115) hx hb d_Ne_init_115 rfl (lv_at hl 0 rfl) ?_
  refine lv_sipush (pc := 116) (v := 144) hx hb d_Ne_init_116 (by decide) ?_
  refine k_newa (pc := 119) (atype := .int) X (ty := .int) (a0 := (144, .inl (fun _ => 0))) rfl rfl wm_193 hK hP hD hS hA 0 rfl (fun _ => rfl) (by decide) rfl (by decide) (Nat.le_of_ble_eq_true rfl) (Nat.le_of_ble_eq_true rfl) d_Ne_init_119 (fun q10 H hP hD hS => ?_)
  have hP : va_P D classes (cat [[(h, .inr (5, [.int ((-1)), .int ((-1)), .int ((-1)), .int 0, .ref q1, .int 0, .int 0, .ref q2, .ref q3, .ref q4, .ref q5, .ref q6, .ref q7, .int 0, .ref q8, .ref q9, .null]))], [(q1, .inl (kA 0, 48, .inl (fun _ => 0)))], [(q2, .inl (kA 0, 72, .inl (fun _ => 0)))], [(q3, .inl (kA 0, 72, .inl (fun _ => 0)))], [(q4, .inl (kA 0, 25, .inl (fun _ => 0)))], [(q5, .inl (kA 0, 625, .inl (fun _ => 0)))], [(q6, .inl (kA 0, 144, .inl (fun _ => 0)))], [(q7, .inl (kA 0, 25, .inl (fun _ => 0)))], [(q8, .inl (kA 0, 145, .inl (fun _ => 0)))], [(q9, .inl (kA 0, 144, .inl (fun _ => 0)))], [(q10, .inl (kA 0, 144, .inl (fun _ => 0)))]]) H := hP
  have hD : va_D A (cat [[(h, .inr (5, [.int ((-1)), .int ((-1)), .int ((-1)), .int 0, .ref q1, .int 0, .int 0, .ref q2, .ref q3, .ref q4, .ref q5, .ref q6, .ref q7, .int 0, .ref q8, .ref q9, .null]))], [(q1, .inl (kA 0, 48, .inl (fun _ => 0)))], [(q2, .inl (kA 0, 72, .inl (fun _ => 0)))], [(q3, .inl (kA 0, 72, .inl (fun _ => 0)))], [(q4, .inl (kA 0, 25, .inl (fun _ => 0)))], [(q5, .inl (kA 0, 625, .inl (fun _ => 0)))], [(q6, .inl (kA 0, 144, .inl (fun _ => 0)))], [(q7, .inl (kA 0, 25, .inl (fun _ => 0)))], [(q8, .inl (kA 0, 145, .inl (fun _ => 0)))], [(q9, .inl (kA 0, 144, .inl (fun _ => 0)))], [(q10, .inl (kA 0, 144, .inl (fun _ => 0)))]]) := hD
  refine W.widen (k := 10) (n := 1444) (by omega) (by omega) ?_
  refine k_put (pc := 121) X hK hP hD hS 0 rfl rfl i_Ne t_Ne t_Ne_ok n_Ne 16 (by decide) wm_289 rfl (Or.inr ⟨rfl, rfl⟩) rfl rfl (Nat.le_of_ble_eq_true rfl) d_Ne_init_121 (fun H locs hP hD hS => ?_)
  have hP : va_P D classes (cat [[(h, .inr (5, [.int ((-1)), .int ((-1)), .int ((-1)), .int 0, .ref q1, .int 0, .int 0, .ref q2, .ref q3, .ref q4, .ref q5, .ref q6, .ref q7, .int 0, .ref q8, .ref q9, .ref q10]))], [(q1, .inl (kA 0, 48, .inl (fun _ => 0)))], [(q2, .inl (kA 0, 72, .inl (fun _ => 0)))], [(q3, .inl (kA 0, 72, .inl (fun _ => 0)))], [(q4, .inl (kA 0, 25, .inl (fun _ => 0)))], [(q5, .inl (kA 0, 625, .inl (fun _ => 0)))], [(q6, .inl (kA 0, 144, .inl (fun _ => 0)))], [(q7, .inl (kA 0, 25, .inl (fun _ => 0)))], [(q8, .inl (kA 0, 145, .inl (fun _ => 0)))], [(q9, .inl (kA 0, 144, .inl (fun _ => 0)))], [(q10, .inl (kA 0, 144, .inl (fun _ => 0)))]]) H := hP
  have hD : va_D A (cat [[(h, .inr (5, [.int ((-1)), .int ((-1)), .int ((-1)), .int 0, .ref q1, .int 0, .int 0, .ref q2, .ref q3, .ref q4, .ref q5, .ref q6, .ref q7, .int 0, .ref q8, .ref q9, .ref q10]))], [(q1, .inl (kA 0, 48, .inl (fun _ => 0)))], [(q2, .inl (kA 0, 72, .inl (fun _ => 0)))], [(q3, .inl (kA 0, 72, .inl (fun _ => 0)))], [(q4, .inl (kA 0, 25, .inl (fun _ => 0)))], [(q5, .inl (kA 0, 625, .inl (fun _ => 0)))], [(q6, .inl (kA 0, 144, .inl (fun _ => 0)))], [(q7, .inl (kA 0, 25, .inl (fun _ => 0)))], [(q8, .inl (kA 0, 145, .inl (fun _ => 0)))], [(q9, .inl (kA 0, 144, .inl (fun _ => 0)))], [(q10, .inl (kA 0, 144, .inl (fun _ => 0)))]]) := hD
  obtain ⟨hP, hD⟩ := k_ord (gc := [[(h, .inr (5, [.int ((-1)), .int ((-1)), .int ((-1)), .int 0, .ref q1, .int 0, .int 0, .ref q2, .ref q3, .ref q4, .ref q5, .ref q6, .ref q7, .int 0, .ref q8, .ref q9, .ref q10]))], [(q1, .inl (kA 0, 48, .inl (fun _ => 0)))], [(q2, .inl (kA 0, 72, .inl (fun _ => 0)))], [(q3, .inl (kA 0, 72, .inl (fun _ => 0)))], [(q4, .inl (kA 0, 25, .inl (fun _ => 0)))], [(q5, .inl (kA 0, 625, .inl (fun _ => 0)))], [(q6, .inl (kA 0, 144, .inl (fun _ => 0)))], [(q7, .inl (kA 0, 25, .inl (fun _ => 0)))], [(q8, .inl (kA 0, 145, .inl (fun _ => 0)))], [(q9, .inl (kA 0, 144, .inl (fun _ => 0)))], [(q10, .inl (kA 0, 144, .inl (fun _ => 0)))]]) hP hD [0, 1, 2, 3, 4, 5, 6, 7, 8, 9, 10] 11 rfl (by decide) rfl
  refine W.widen (k := 10) (n := 1444) (Nat.le_of_ble_eq_true rfl) (Nat.le_of_ble_eq_true rfl) ?_
  exact W.vret hx hb hr (fun t ht hW => ⟨⟨(fun k => match k with | 4 => q1 | 7 => q2 | 8 => q3 | 9 => q4 | 10 => q5 | 11 => q6 | 12 => q7 | 14 => q8 | 15 => q9 | 16 => q10 | _ => 0), rfl, trivial, by rw [ht]; exact hP, va_K.moved hW.alike hK, hD⟩, hS.F ht⟩) hS.2.2 d_Ne_init_124
