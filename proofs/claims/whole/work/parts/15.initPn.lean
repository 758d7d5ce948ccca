theorem wm_1469 : (Cond.code ({ cls := "DrawingHouse$PlanarWays", name := "<init>", desc := "()V" } : MethodName) prog_9_method_1_code (1 : Nat) (Option.none : Option ClassFile.FieldType) : Cond) ∈ lw_g := lw_gi (lw_c7 (List.mem_of_getElem? (i := 29) rfl)) rfl
theorem wm_1470 : (Cond.methodLink "DrawingHouse$PlanarWays" (3 : Nat) ({ cls := "java/lang/Object", name := "<init>", desc := "()V" } : MethodName) : Cond) ∈ lw_g := lw_gi (lw_c7 (List.mem_of_getElem? (i := 30) rfl)) rfl
theorem wm_1471 : (Cond.classLink "DrawingHouse$PlanarWays" (9 : Nat) "DrawingHouse$Net" : Cond) ∈ lw_g := lw_gi (lw_c7 (List.mem_of_getElem? (i := 31) rfl)) rfl
theorem wm_1473 : (Cond.fieldLink "DrawingHouse$PlanarWays" (12 : Nat) "DrawingHouse$PlanarWays" "net" "LDrawingHouse$Net;" : Cond) ∈ lw_g := lw_gi (lw_c7 (List.mem_of_getElem? (i := 33) rfl)) rfl
theorem wm_1474 : (Cond.fieldLink "DrawingHouse$PlanarWays" (18 : Nat) "DrawingHouse$PlanarWays" "order" "[I" : Cond) ∈ lw_g := lw_gi (lw_c7 (List.mem_of_getElem? (i := 34) rfl)) rfl
theorem wm_1475 : (Cond.fieldLink "DrawingHouse$PlanarWays" (22 : Nat) "DrawingHouse$PlanarWays" "line" "[I" : Cond) ∈ lw_g := lw_gi (lw_c7 (List.mem_of_getElem? (i := 35) rfl)) rfl
theorem wm_1476 : (Cond.fieldLink "DrawingHouse$PlanarWays" (25 : Nat) "DrawingHouse$PlanarWays" "lineLength" "I" : Cond) ∈ lw_g := lw_gi (lw_c7 (List.mem_of_getElem? (i := 36) rfl)) rfl
theorem wm_1477 : (Cond.fieldLink "DrawingHouse$PlanarWays" (29 : Nat) "DrawingHouse$PlanarWays" "under" "[I" : Cond) ∈ lw_g := lw_gi (lw_c7 (List.mem_of_getElem? (i := 37) rfl)) rfl
theorem wm_1478 : (Cond.fieldLink "DrawingHouse$PlanarWays" (32 : Nat) "DrawingHouse$PlanarWays" "level" "[I" : Cond) ∈ lw_g := lw_gi (lw_c7 (List.mem_of_getElem? (i := 38) rfl)) rfl
theorem wm_1479 : (Cond.fieldLink "DrawingHouse$PlanarWays" (35 : Nat) "DrawingHouse$PlanarWays" "way" "[I" : Cond) ∈ lw_g := lw_gi (lw_c7 (List.mem_of_getElem? (i := 39) rfl)) rfl
theorem wm_1480 : (Cond.fieldLink "DrawingHouse$PlanarWays" (38 : Nat) "DrawingHouse$PlanarWays" "faceX" "[I" : Cond) ∈ lw_g := lw_gi (lw_c7 (List.mem_of_getElem? (i := 40) rfl)) rfl
theorem wm_1481 : (Cond.fieldLink "DrawingHouse$PlanarWays" (41 : Nat) "DrawingHouse$PlanarWays" "edgeX" "[I" : Cond) ∈ lw_g := lw_gi (lw_c7 (List.mem_of_getElem? (i := 41) rfl)) rfl
theorem wn_1472 : (Cond.methodLinkNest "DrawingHouse$PlanarWays" (11 : Nat) ({ cls := "DrawingHouse$Net", name := "<init>", desc := "()V" } : MethodName) "DrawingHouse" : Cond) ∈ lw_n := lw_ni (lw_c7 (List.mem_of_getElem? (i := 32) rfl)) rfl
abbrev b_Pn_init : ByteArray := prog_9_method_1_code
def y_Pn_init : MethodName := ⟨"DrawingHouse$PlanarWays", "<init>", "()V"⟩
abbrev z_Pn_init : List Cond := Cond.code y_Pn_init b_Pn_init 1 none :: lw_g
theorem d_Pn_init_0 : decode b_Pn_init 0 = .ok (.aload_n 0, 1) := by decide +kernel
theorem d_Pn_init_1 : decode b_Pn_init 1 = .ok (.invokespecial 3, 3) := by decide +kernel
theorem d_Pn_init_4 : decode b_Pn_init 4 = .ok (.aload_n 0, 1) := by decide +kernel
theorem d_Pn_init_5 : decode b_Pn_init 5 = .ok (.new 9, 3) := by decide +kernel
theorem d_Pn_init_8 : decode b_Pn_init 8 = .ok (.dup, 1) := by decide +kernel
theorem d_Pn_init_9 : decode b_Pn_init 9 = .ok (.invokespecial 11, 3) := by decide +kernel
theorem d_Pn_init_12 : decode b_Pn_init 12 = .ok (.putfield 12, 3) := by decide +kernel
theorem d_Pn_init_15 : decode b_Pn_init 15 = .ok (.aload_n 0, 1) := by decide +kernel
theorem d_Pn_init_16 : decode b_Pn_init 16 = .ok (.bipush 24, 2) := by decide +kernel
theorem d_Pn_init_18 : decode b_Pn_init 18 = .ok (.newarray .int, 2) := by decide +kernel
theorem d_Pn_init_20 : decode b_Pn_init 20 = .ok (.putfield 18, 3) := by decide +kernel
theorem d_Pn_init_23 : decode b_Pn_init 23 = .ok (.aload_n 0, 1) := by decide +kernel
theorem d_Pn_init_24 : decode b_Pn_init 24 = .ok (.bipush 24, 2) := by decide +kernel
theorem d_Pn_init_26 : decode b_Pn_init 26 = .ok (.newarray .int, 2) := by decide +kernel
theorem d_Pn_init_28 : decode b_Pn_init 28 = .ok (.putfield 22, 3) := by decide +kernel
theorem d_Pn_init_31 : decode b_Pn_init 31 = .ok (.aload_n 0, 1) := by decide +kernel
theorem d_Pn_init_32 : decode b_Pn_init 32 = .ok (.iconst 0, 1) := by decide +kernel
theorem d_Pn_init_33 : decode b_Pn_init 33 = .ok (.putfield 25, 3) := by decide +kernel
theorem d_Pn_init_36 : decode b_Pn_init 36 = .ok (.aload_n 0, 1) := by decide +kernel
theorem d_Pn_init_37 : decode b_Pn_init 37 = .ok (.bipush 24, 2) := by decide +kernel
theorem d_Pn_init_39 : decode b_Pn_init 39 = .ok (.newarray .int, 2) := by decide +kernel
theorem d_Pn_init_41 : decode b_Pn_init 41 = .ok (.putfield 29, 3) := by decide +kernel
theorem d_Pn_init_44 : decode b_Pn_init 44 = .ok (.aload_n 0, 1) := by decide +kernel
theorem d_Pn_init_45 : decode b_Pn_init 45 = .ok (.bipush 26, 2) := by decide +kernel
theorem d_Pn_init_47 : decode b_Pn_init 47 = .ok (.newarray .int, 2) := by decide +kernel
theorem d_Pn_init_49 : decode b_Pn_init 49 = .ok (.putfield 32, 3) := by decide +kernel
theorem d_Pn_init_52 : decode b_Pn_init 52 = .ok (.aload_n 0, 1) := by decide +kernel
theorem d_Pn_init_53 : decode b_Pn_init 53 = .ok (.bipush 27, 2) := by decide +kernel
theorem d_Pn_init_55 : decode b_Pn_init 55 = .ok (.newarray .int, 2) := by decide +kernel
theorem d_Pn_init_57 : decode b_Pn_init 57 = .ok (.putfield 35, 3) := by decide +kernel
theorem d_Pn_init_60 : decode b_Pn_init 60 = .ok (.aload_n 0, 1) := by decide +kernel
theorem d_Pn_init_61 : decode b_Pn_init 61 = .ok (.sipush 144, 3) := by decide +kernel
theorem d_Pn_init_64 : decode b_Pn_init 64 = .ok (.newarray .int, 2) := by decide +kernel
theorem d_Pn_init_66 : decode b_Pn_init 66 = .ok (.putfield 38, 3) := by decide +kernel
theorem d_Pn_init_69 : decode b_Pn_init 69 = .ok (.aload_n 0, 1) := by decide +kernel
theorem d_Pn_init_70 : decode b_Pn_init 70 = .ok (.bipush 48, 2) := by decide +kernel
theorem d_Pn_init_72 : decode b_Pn_init 72 = .ok (.newarray .int, 2) := by decide +kernel
theorem d_Pn_init_74 : decode b_Pn_init 74 = .ok (.putfield 41, 3) := by decide +kernel
theorem d_Pn_init_77 : decode b_Pn_init 77 = .ok (.return_, 1) := by decide +kernel
abbrev f0Pn : List Value := [.null, .null, .null, .int 0, .null, .null, .null, .null, .null]
set_option maxRecDepth 20000 in
theorem f0Pn_ok : ∀ j, j < 9 → defaultValue (t_Pn j) = vp_V f0Pn j := by decide +kernel
def wPn (kA : Nat → ClassId) (h : Nat) (q : Nat → Nat) (x : Nat → Int32) (a : Nat → Nat → Int32) : va_W := [(h, .inr (7, [.ref (q 0), .ref (q 1), .ref (q 2), .int (x 3), .ref (q 4), .ref (q 5), .ref (q 6), .ref (q 7), .ref (q 8)])), (q 1, .inl (kA 0, 24, .inl (a 1))), (q 2, .inl (kA 0, 24, .inl (a 2))), (q 4, .inl (kA 0, 24, .inl (a 4))), (q 5, .inl (kA 0, 26, .inl (a 5))), (q 6, .inl (kA 0, 27, .inl (a 6))), (q 7, .inl (kA 0, 144, .inl (a 7))), (q 8, .inl (kA 0, 48, .inl (a 8)))]
def x0Pn : Nat → Int32 := fun _ => 0
def a0Pn : Nat → Nat → Int32 := fun _ => fun _ => 0
set_option maxRecDepth 100000 in
set_option maxHeartbeats 4000000 in
/-- DrawingHouse$PlanarWays()V -/
theorem c_Pn_init (l : Launch) (D : va_G) (kA : Nat → ClassId) (h : Nat) : Cv l y_Pn_init z_Pn_init { frames := 2, cells := 18, slots := 1778, locals := 32 } D classes (TY kA) [.ref h] [[(h, .inr (7, f0Pn))]] (fun u : (Nat → Nat → Nat) => True) (fun u => [wPn kA h ((u 0)) x0Pn a0Pn, wNe kA (u 0 0) ((u 1)) x0Ne a0Ne]) 18 1778 := by
  intro sz
  refine k_met (cc := b_Pn_init) (maxL := 1) (ret := none) (by decide) rfl (Nat.le_of_ble_eq_true rfl) (fun p e s m below meth c ls X hl hB => ?_)
  obtain ⟨hsz, hP, hK, hD0, hN⟩ := hB
  subst hsz
  have hD := hD0.self (sz := s.heap.size)
  generalize hAe : va_A (cat [[(h, .inr (7, [.null, .null, .null, .int 0, .null, .null, .null, .null, .null]))]]) s.heap.size = A at hD ⊢
  have hA : ∀ q : Nat, s.heap.size ≤ q → A q := fun q h => by rw [← hAe]; exact Or.inr h
  have hS : va_S A s.heap s.heap [] := va_S.rf
  obtain ⟨hx, hb, hml, hown, hts, hr, hlk, hnm⟩ := id X
  have hl : lv_has ls 1 [(0, .ref h)] := hl
  have hP : va_P D classes (cat [[(h, .inr (7, [.null, .null, .null, .int 0, .null, .null, .null, .null, .null]))]]) s.heap := hP
  have hK : va_K D classes (TY kA) s := hK
  refine lv_aload_n (pc := 0) hx hb d_Pn_init_0 rfl (lv_at hl 0 rfl) ?_
  refine W.objInit hx hb hown (hts _ wm_1470) (hts _ wm_31) (hts _ wm_32) rfl (by rw [hml]; exact hl.1) rfl d_Pn_init_1 (Nat.le_of_ble_eq_true rfl) (Nat.le_of_ble_eq_true rfl) ?_
  refine W.eq (g2 := F0 m 4 ls []) rfl ?_
  refine lv_aload_n (pc := 4) hx hb d_Pn_init_4 rfl (lv_at hl 0 rfl) ?_
  refine k_new (pc := 5) (fs := f0Ne) X i_Ne t_Ne t_Ne_ok wm_1471 wm_243 wm_6 hK hP hD hS hA (ci := 5) rfl f0Ne_ok (Nat.le_of_ble_eq_true rfl) (Nat.le_of_ble_eq_true rfl) d_Pn_init_5 (fun q1 H hP hD hS => ?_)
  have hP : va_P D classes (cat [[(h, .inr (7, [.null, .null, .null, .int 0, .null, .null, .null, .null, .null]))], [(q1, .inr (5, [.int 0, .int 0, .int 0, .int 0, .null, .int 0, .int 0, .null, .null, .null, .null, .null, .null, .int 0, .null, .null, .null]))]]) H := hP
  have hD : va_D A (cat [[(h, .inr (7, [.null, .null, .null, .int 0, .null, .null, .null, .null, .null]))], [(q1, .inr (5, [.int 0, .int 0, .int 0, .int 0, .null, .int 0, .int 0, .null, .null, .null, .null, .null, .null, .int 0, .null, .null, .null]))]]) := hD
  refine W.widen (k := 1) (n := 17) (by omega) (by omega) ?_
  refine lv_dup (pc := 8) hx hb d_Pn_init_8 rfl ?_
  refine k_goV (gr := [[(h, .inr (7, [.null, .null, .null, .int 0, .null, .null, .null, .null, .null]))]]) (k_rIN (pc := 9) (As := []) (rest := [.ref q1, .ref h]) hN X (c_Ne_init l D kA q1 H.size) rfl wm_246 wm_6 wn_1472 wm_245 rfl 0 (by decide +kernel) ⟨Nat.le_of_ble_eq_true rfl, Nat.le_of_ble_eq_true rfl⟩ rfl rfl (k_pre hN hK hP hD [1] [0] 2 rfl (by decide) rfl) rfl hl.1 rfl (Nat.le_of_ble_eq_true rfl) d_Pn_init_9 ⟨Nat.le_of_ble_eq_true rfl, Nat.le_of_ble_eq_true rfl⟩) hP hD hS hA [1] [0] 2 rfl (by decide) rfl rfl (fun u2 H locs hu2 hP hD hS => ?_)
  have hP : va_P D classes (cat [[(h, .inr (7, [.null, .null, .null, .int 0, .null, .null, .null, .null, .null]))], wNe kA q1 u2 x0Ne a0Ne]) H := hP
  have hD : va_D A (cat [[(h, .inr (7, [.null, .null, .null, .int 0, .null, .null, .null, .null, .null]))], wNe kA q1 u2 x0Ne a0Ne]) := hD
  refine W.widen (k := 11) (n := 1461) (by omega) (by omega) ?_
  refine k_put (pc := 12) X hK hP hD hS 0 rfl rfl i_Pn t_Pn t_Pn_ok n_Pn 0 (by decide) wm_1473 rfl (Or.inr ⟨rfl, rfl⟩) rfl rfl (Nat.le_of_ble_eq_true rfl) d_Pn_init_12 (fun H locs hP hD hS => ?_)
  have hP : va_P D classes (cat [[(h, .inr (7, [.ref q1, .null, .null, .int 0, .null, .null, .null, .null, .null]))], wNe kA q1 u2 x0Ne a0Ne]) H := hP
  have hD : va_D A (cat [[(h, .inr (7, [.ref q1, .null, .null, .int 0, .null, .null, .null, .null, .null]))], wNe kA q1 u2 x0Ne a0Ne]) := hD
  refine lv_aload_n (pc := 15) hx hb d_Pn_init_15 rfl (lv_at hl 0 rfl) ?_
  refine lv_bipush (pc := 16) (v := 24) hx hb d_Pn_init_16 (by decide) ?_
  refine k_newa (pc := 18) (atype := .int) X (ty := .int) (a0 := (24, .inl (fun _ => 0))) rfl rfl wm_193 hK hP hD hS hA 0 rfl (fun _ => rfl) (by decide) rfl (by decide) (Nat.le_of_ble_eq_true rfl) (Nat.le_of_ble_eq_true rfl) d_Pn_init_18 (fun q3 H hP hD hS => ?_)
  have hP : va_P D classes (cat [[(h, .inr (7, [.ref q1, .null, .null, .int 0, .null, .null, .null, .null, .null]))], wNe kA q1 u2 x0Ne a0Ne, [(q3, .inl (kA 0, 24, .inl (fun _ => 0)))]]) H := hP
  have hD : va_D A (cat [[(h, .inr (7, [.ref q1, .null, .null, .int 0, .null, .null, .null, .null, .null]))], wNe kA q1 u2 x0Ne a0Ne, [(q3, .inl (kA 0, 24, .inl (fun _ => 0)))]]) := hD
  refine W.widen (k := 12) (n := 1485) (by omega) (by omega) ?_
  refine k_put (pc := 20) X hK hP hD hS 0 rfl rfl i_Pn t_Pn t_Pn_ok n_Pn 1 (by decide) wm_1474 rfl (Or.inr ⟨rfl, rfl⟩) rfl rfl (Nat.le_of_ble_eq_true rfl) d_Pn_init_20 (fun H locs hP hD hS => ?_)
  have hP : va_P D classes (cat [[(h, .inr (7, [.ref q1, .ref q3, .null, .int 0, .null, .null, .null, .null, .null]))], wNe kA q1 u2 x0Ne a0Ne, [(q3, .inl (kA 0, 24, .inl (fun _ => 0)))]]) H := hP
  have hD : va_D A (cat [[(h, .inr (7, [.ref q1, .ref q3, .null, .int 0, .null, .null, .null, .null, .null]))], wNe kA q1 u2 x0Ne a0Ne, [(q3, .inl (kA 0, 24, .inl (fun _ => 0)))]]) := hD
  refine lv_aload_n (pc := 23) hx hb d_Pn_init_23 rfl (lv_at hl 0 rfl) ?_
  refine lv_bipush (pc := 24) (v := 24) hx hb d_Pn_init_24 (by decide) ?_
  refine k_newa (pc := 26) (atype := .int) X (ty := .int) (a0 := (24, .inl (fun _ => 0))) rfl rfl wm_193 hK hP hD hS hA 0 rfl (fun _ => rfl) (by decide) rfl (by decide) (Nat.le_of_ble_eq_true rfl) (Nat.le_of_ble_eq_true rfl) d_Pn_init_26 (fun q4 H hP hD hS => ?_)
  have hP : va_P D classes (cat [[(h, .inr (7, [.ref q1, .ref q3, .null, .int 0, .null, .null, .null, .null, .null]))], wNe kA q1 u2 x0Ne a0Ne, [(q3, .inl (kA 0, 24, .inl (fun _ => 0)))], [(q4, .inl (kA 0, 24, .inl (fun _ => 0)))]]) H := hP
  have hD : va_D A (cat [[(h, .inr (7, [.ref q1, .ref q3, .null, .int 0, .null, .null, .null, .null, .null]))], wNe kA q1 u2 x0Ne a0Ne, [(q3, .inl (kA 0, 24, .inl (fun _ => 0)))], [(q4, .inl (kA 0, 24, .inl (fun _ => 0)))]]) := hD
  refine W.widen (k := 13) (n := 1509) (by omega) (by omega) ?_
  refine k_put (pc := 28) X hK hP hD hS 0 rfl rfl i_Pn t_Pn t_Pn_ok n_Pn 2 (by decide) wm_1475 rfl (Or.inr ⟨rfl, rfl⟩) rfl rfl (Nat.le_of_ble_eq_true rfl) d_Pn_init_28 (fun H locs hP hD hS => ?_)
  have hP : va_P D classes (cat [[(h, .inr (7, [.ref q1, .ref q3, .ref q4, .int 0, .null, .null, .null, .null, .null]))], wNe kA q1 u2 x0Ne a0Ne, [(q3, .inl (kA 0, 24, .inl (fun _ => 0)))], [(q4, .inl (kA 0, 24, .inl (fun _ => 0)))]]) H := hP
  have hD : va_D A (cat [[(h, .inr (7, [.ref q1, .ref q3, .ref q4, .int 0, .null, .null, .null, .null, .null]))], wNe kA q1 u2 x0Ne a0Ne, [(q3, .inl (kA 0, 24, .inl (fun _ => 0)))], [(q4, .inl (kA 0, 24, .inl (fun _ => 0)))]]) := hD
  refine lv_aload_n (pc := 31) hx hb d_Pn_init_31 rfl (lv_at hl 0 rfl) ?_
  refine lv_iconst (pc := 32) (v := 0) hx hb d_Pn_init_32 (by decide) ?_
  refine k_put (pc := 33) X hK hP hD hS 0 rfl rfl i_Pn t_Pn t_Pn_ok n_Pn 3 (by decide) wm_1476 rfl (Or.inl rfl) rfl rfl (Nat.le_of_ble_eq_true rfl) d_Pn_init_33 (fun H locs hP hD hS => ?_)
  have hP : va_P D classes (cat [[(h, .inr (7, [.ref q1, .ref q3, .ref q4, .int 0, .null, .null, .null, .null, .null]))], wNe kA q1 u2 x0Ne a0Ne, [(q3, .inl (kA 0, 24, .inl (fun _ => 0)))], [(q4, .inl (kA 0, 24, .inl (fun _ => 0)))]]) H := hP
  have hD : va_D A (cat [[(h, .inr (7, [.ref q1, .ref q3, .ref q4, .int 0, .null, .null, .null, .null, .null]))], wNe kA q1 u2 x0Ne a0Ne, [(q3, .inl (kA 0, 24, .inl (fun _ => 0)))], [(q4, .inl (kA 0, 24, .inl (fun _ => 0)))]]) := hD
  refine lv_aload_n (pc := 36) hx hb d_Pn_init_36 rfl (lv_at hl 0 rfl) ?_
  refine lv_bipush (pc := 37) (v := 24) hx hb d_Pn_init_37 (by decide) ?_
  refine k_newa (pc := 39) (atype := .int) X (ty := .int) (a0 := (24, .inl (fun _ => 0))) rfl rfl wm_193 hK hP hD hS hA 0 rfl (fun _ => rfl) (by decide) rfl (by decide) (Nat.le_of_ble_eq_true rfl) (Nat.le_of_ble_eq_true rfl) d_Pn_init_39 (fun q5 H hP hD hS => ?_)
  have hP : va_P D classes (cat [[(h, .inr (7, [.ref q1, .ref q3, .ref q4, .int 0, .null, .null, .null, .null, .null]))], wNe kA q1 u2 x0Ne a0Ne, [(q3, .inl (kA 0, 24, .inl (fun _ => 0)))], [(q4, .inl (kA 0, 24, .inl (fun _ => 0)))], [(q5, .inl (kA 0, 24, .inl (fun _ => 0)))]]) H := hP
  have hD : va_D A (cat [[(h, .inr (7, [.ref q1, .ref q3, .ref q4, .int 0, .null, .null, .null, .null, .null]))], wNe kA q1 u2 x0Ne a0Ne, [(q3, .inl (kA 0, 24, .inl (fun _ => 0)))], [(q4, .inl (kA 0, 24, .inl (fun _ => 0)))], [(q5, .inl (kA 0, 24, .inl (fun _ => 0)))]]) := hD
  refine W.widen (k := 14) (n := 1533) (by omega) (by omega) ?_
  refine k_put (pc := 41) X hK hP hD hS 0 rfl rfl i_Pn t_Pn t_Pn_ok n_Pn 4 (by decide) wm_1477 rfl (Or.inr ⟨rfl, rfl⟩) rfl rfl (Nat.le_of_ble_eq_true rfl) d_Pn_init_41 (fun H locs hP hD hS => ?_)
  have hP : va_P D classes (cat [[(h, .inr (7, [.ref q1, .ref q3, .ref q4, .int 0, .ref q5, .null, .null, .null, .null]))], wNe kA q1 u2 x0Ne a0Ne, [(q3, .inl (kA 0, 24, .inl (fun _ => 0)))], [(q4, .inl (kA 0, 24, .inl (fun _ => 0)))], [(q5, .inl (kA 0, 24, .inl (fun _ => 0)))]]) H := hP
  have hD : va_D A (cat [[(h, .inr (7, [.ref q1, .ref q3, .ref q4, .int 0, .ref q5, .null, .null, .null, .null]))], wNe kA q1 u2 x0Ne a0Ne, [(q3, .inl (kA 0, 24, .inl (fun _ => 0)))], [(q4, .inl (kA 0, 24, .inl (fun _ => 0)))], [(q5, .inl (kA 0, 24, .inl (fun _ => 0)))]]) := hD
  refine lv_aload_n (pc := 44) hx hb d_Pn_init_44 rfl (lv_at hl 0 rfl) ?_
  refine lv_bipush (pc := 45) (v := 26) hx hb d_Pn_init_45 (by decide) ?_
  refine k_newa (pc := 47) (atype := .int) X (ty := .int) (a0 := (26, .inl (fun _ => 0))) rfl rfl wm_193 hK hP hD hS hA 0 rfl (fun _ => rfl) (by decide) rfl (by decide) (Nat.le_of_ble_eq_true rfl) (Nat.le_of_ble_eq_true rfl) d_Pn_init_47 (fun q6 H hP hD hS => ?_)
  have hP : va_P D classes (cat [[(h, .inr (7, [.ref q1, .ref q3, .ref q4, .int 0, .ref q5, .null, .null, .null, .null]))], wNe kA q1 u2 x0Ne a0Ne, [(q3, .inl (kA 0, 24, .inl (fun _ => 0)))], [(q4, .inl (kA 0, 24, .inl (fun _ => 0)))], [(q5, .inl (kA 0, 24, .inl (fun _ => 0)))], [(q6, .inl (kA 0, 26, .inl (fun _ => 0)))]]) H := hP
  have hD : va_D A (cat [[(h, .inr (7, [.ref q1, .ref q3, .ref q4, .int 0, .ref q5, .null, .null, .null, .null]))], wNe kA q1 u2 x0Ne a0Ne, [(q3, .inl (kA 0, 24, .inl (fun _ => 0)))], [(q4, .inl (kA 0, 24, .inl (fun _ => 0)))], [(q5, .inl (kA 0, 24, .inl (fun _ => 0)))], [(q6, .inl (kA 0, 26, .inl (fun _ => 0)))]]) := hD
  refine W.widen (k := 15) (n := 1559) (by omega) (by omega) ?_
  refine k_put (pc := 49) X hK hP hD hS 0 rfl rfl i_Pn t_Pn t_Pn_ok n_Pn 5 (by decide) wm_1478 rfl (Or.inr ⟨rfl, rfl⟩) rfl rfl (Nat.le_of_ble_eq_true rfl) d_Pn_init_49 (fun H locs hP hD hS => ?_)
  have hP : va_P D classes (cat [[(h, .inr (7, [.ref q1, .ref q3, .ref q4, .int 0, .ref q5, .ref q6, .null, .null, .null]))], wNe kA q1 u2 x0Ne a0Ne, [(q3, .inl (kA 0, 24, .inl (fun _ => 0)))], [(q4, .inl (kA 0, 24, .inl (fun _ => 0)))], [(q5, .inl (kA 0, 24, .inl (fun _ => 0)))], [(q6, .inl (kA 0, 26, .inl (fun _ => 0)))]]) H := hP
  have hD : va_D A (cat [[(h, .inr (7, [.ref q1, .ref q3, .ref q4, .int 0, .ref q5, .ref q6, .null, .null, .null]))], wNe kA q1 u2 x0Ne a0Ne, [(q3, .inl (kA 0, 24, .inl (fun _ => 0)))], [(q4, .inl (kA 0, 24, .inl (fun _ => 0)))], [(q5, .inl (kA 0, 24, .inl (fun _ => 0)))], [(q6, .inl (kA 0, 26, .inl (fun _ => 0)))]]) := hD
  refine lv_aload_n (pc := 52) hx hb d_Pn_init_52 rfl (lv_at hl 0 rfl) ?_
  refine lv_bipush (pc := 53) (v := 27) hx hb d_Pn_init_53 (by decide) ?_
  refine k_newa (pc := 55) (atype := .int) X (ty := .int) (a0 := (27, .inl (fun _ => 0))) rfl rfl wm_193 hK hP hD hS hA 0 rfl (fun _ => rfl) (by decide) rfl (by decide) (Nat.le_of_ble_eq_true rfl) (Nat.le_of_ble_eq_true rfl) d_Pn_init_55 (fun q7 H hP hD hS => ?_)
  have hP : va_P D classes (cat [[(h, .inr (7, [.ref q1, .ref q3, .ref q4, .int 0, .ref q5, .ref q6, .null, .null, .null]))], wNe kA q1 u2 x0Ne a0Ne, [(q3, .inl (kA 0, 24, .inl (fun _ => 0)))], [(q4, .inl (kA 0, 24, .inl (fun _ => 0)))], [(q5, .inl (kA 0, 24, .inl (fun _ => 0)))], [(q6, .inl (kA 0, 26, .inl (fun _ => 0)))], [(q7, .inl (kA 0, 27, .inl (fun _ => 0)))]]) H := hP
  have hD : va_D A (cat [[(h, .inr (7, [.ref q1, .ref q3, .ref q4, .int 0, .ref q5, .ref q6, .null, .null, .null]))], wNe kA q1 u2 x0Ne a0Ne, [(q3, .inl (kA 0, 24, .inl (fun _ => 0)))], [(q4, .inl (kA 0, 24, .inl (fun _ => 0)))], [(q5, .inl (kA 0, 24, .inl (fun _ => 0)))], [(q6, .inl (kA 0, 26, .inl (fun _ => 0)))], [(q7, .inl (kA 0, 27, .inl (fun _ => 0)))]]) := hD
  refine W.widen (k := 16) (n := 1586) (by omega) (by omega) ?_
  refine k_put (pc := 57) X hK hP hD hS 0 rfl rfl i_Pn t_Pn t_Pn_ok n_Pn 6 (by decide) wm_1479 rfl (Or.inr ⟨rfl, rfl⟩) rfl rfl (Nat.le_of_ble_eq_true rfl) d_Pn_init_57 (fun H locs hP hD hS => ?_)
  have hP : va_P D classes (cat [[(h, .inr (7, [.ref q1, .ref q3, .ref q4, .int 0, .ref q5, .ref q6, .ref q7, .null, .null]))], wNe kA q1 u2 x0Ne a0Ne, [(q3, .inl (kA 0, 24, .inl (fun _ => 0)))], [(q4, .inl (kA 0, 24, .inl (fun _ => 0)))], [(q5, .inl (kA 0, 24, .inl (fun _ => 0)))], [(q6, .inl (kA 0, 26, .inl (fun _ => 0)))], [(q7, .inl (kA 0, 27, .inl (fun _ => 0)))]]) H := hP
  have hD : va_D A (cat [[(h, .inr (7, [.ref q1, .ref q3, .ref q4, .int 0, .ref q5, .ref q6, .ref q7, .null, .null]))], wNe kA q1 u2 x0Ne a0Ne, [(q3, .inl (kA 0, 24, .inl (fun _ => 0)))], [(q4, .inl (kA 0, 24, .inl (fun _ => 0)))], [(q5, .inl (kA 0, 24, .inl (fun _ => 0)))], [(q6, .inl (kA 0, 26, .inl (fun _ => 0)))], [(q7, .inl (kA 0, 27, .inl (fun _ => 0)))]]) := hD
  refine lv_aload_n (pc := 60) hx hb d_Pn_init_60 rfl (lv_at hl 0 rfl) ?_
  refine lv_sipush (pc := 61) (v := 144) hx hb d_Pn_init_61 (by decide) ?_
  refine k_newa (pc := 64) (atype := .int) X (ty := .int) (a0 := (144, .inl (fun _ => 0))) rfl rfl wm_193 hK hP hD hS hA 0 rfl (fun _ => rfl) (by decide) rfl (by decide) (Nat.le_of_ble_eq_true rfl) (Nat.le_of_ble_eq_true rfl) d_Pn_init_64 (fun q8 H hP hD hS => ?_)
  have hP : va_P D classes (cat [[(h, .inr (7, [.ref q1, .ref q3, .ref q4, .int 0, .ref q5, .ref q6, .ref q7, .null, .null]))], wNe kA q1 u2 x0Ne a0Ne, [(q3, .inl (kA 0, 24, .inl (fun _ => 0)))], [(q4, .inl (kA 0, 24, .inl (fun _ => 0)))], [(q5, .inl (kA 0, 24, .inl (fun _ => 0)))], [(q6, .inl (kA 0, 26, .inl (fun _ => 0)))], [(q7, .inl (kA 0, 27, .inl (fun _ => 0)))], [(q8, .inl (kA 0, 144, .inl (fun _ => 0)))]]) H := hP
  have hD : va_D A (cat [[(h, .inr (7, [.ref q1, .ref q3, .ref q4, .int 0, .ref q5, .ref q6, .ref q7, .null, .null]))], wNe kA q1 u2 x0Ne a0Ne, [(q3, .inl (kA 0, 24, .inl (fun _ => 0)))], [(q4, .inl (kA 0, 24, .inl (fun _ => 0)))], [(q5, .inl (kA 0, 24, .inl (fun _ => 0)))], [(q6, .inl (kA 0, 26, .inl (fun _ => 0)))], [(q7, .inl (kA 0, 27, .inl (fun _ => 0)))], [(q8, .inl (kA 0, 144, .inl (fun _ => 0)))]]) := hD
  refine W.widen (k := 17) (n := 1730) (by omega) (by omega) ?_
  refine k_put (pc := 66) X hK hP hD hS 0 rfl rfl i_Pn t_Pn t_Pn_ok n_Pn 7 (by decide) wm_1480 rfl (Or.inr ⟨rfl, rfl⟩) rfl rfl (Nat.le_of_ble_eq_true rfl) d_Pn_init_66 (fun H locs hP hD hS => ?_)
  have hP : va_P D classes (cat [[(h, .inr (7, [.ref q1, .ref q3, .ref q4, .int 0, .ref q5, .ref q6, .ref q7, .ref q8, .null]))], wNe kA q1 u2 x0Ne a0Ne, [(q3, .inl (kA 0, 24, .inl (fun _ => 0)))], [(q4, .inl (kA 0, 24, .inl (fun _ => 0)))], [(q5, .inl (kA 0, 24, .inl (fun _ => 0)))], [(q6, .inl (kA 0, 26, .inl (fun _ => 0)))], [(q7, .inl (kA 0, 27, .inl (fun _ => 0)))], [(q8, .inl (kA 0, 144, .inl (fun _ => 0)))]]) H := hP
  have hD : va_D A (cat [[(h, .inr (7, [.ref q1, .ref q3, .ref q4, .int 0, .ref q5, .ref q6, .ref q7, .ref q8, .null]))], wNe kA q1 u2 x0Ne a0Ne, [(q3, .inl (kA 0, 24, .inl (fun _ => 0)))], [(q4, .inl (kA 0, 24, .inl (fun _ => 0)))], [(q5, .inl (kA 0, 24, .inl (fun _ => 0)))], [(q6, .inl (kA 0, 26, .inl (fun _ => 0)))], [(q7, .inl (kA 0, 27, .inl (fun _ => 0)))], [(q8, .inl (kA 0, 144, .inl (fun _ => 0)))]]) := hD
  refine lv_aload_n (pc := 69) hx hb d_Pn_init_69 rfl (lv_at hl 0 rfl) ?_
  refine lv_bipush (pc := 70) (v := 48) hx hb d_Pn_init_70 (by decide) ?_
  refine k_newa (pc := 72) (atype := .int) X (ty := .int) (a0 := (48, .inl (fun _ => 0))) rfl rfl wm_193 hK hP hD hS hA 0 rfl (fun _ => rfl) (by decide) rfl (by decide) (Nat.le_of_ble_eq_true rfl) (Nat.le_of_ble_eq_true rfl) d_Pn_init_72 (fun q9 H hP hD hS => ?_)
  have hP : va_P D classes (cat [[(h, .inr (7, [.ref q1, .ref q3, .ref q4, .int 0, .ref q5, .ref q6, .ref q7, .ref q8, .null]))], wNe kA q1 u2 x0Ne a0Ne, [(q3, .inl (kA 0, 24, .inl (fun _ => 0)))], [(q4, .inl (kA 0, 24, .inl (fun _ => 0)))], [(q5, .inl (kA 0, 24, .inl (fun _ => 0)))], [(q6, .inl (kA 0, 26, .inl (fun _ => 0)))], [(q7, .inl (kA 0, 27, .inl (fun _ => 0)))], [(q8, .inl (kA 0, 144, .inl (fun _ => 0)))], [(q9, .inl (kA 0, 48, .inl (fun _ => 0)))]]) H := hP
  have hD : va_D A (cat [[(h, .inr (7, [.ref q1, .ref q3, .ref q4, .int 0, .ref q5, .ref q6, .ref q7, .ref q8, .null]))], wNe kA q1 u2 x0Ne a0Ne, [(q3, .inl (kA 0, 24, .inl (fun _ => 0)))], [(q4, .inl (kA 0, 24, .inl (fun _ => 0)))], [(q5, .inl (kA 0, 24, .inl (fun _ => 0)))], [(q6, .inl (kA 0, 26, .inl (fun _ => 0)))], [(q7, .inl (kA 0, 27, .inl (fun _ => 0)))], [(q8, .inl (kA 0, 144, .inl (fun _ => 0)))], [(q9, .inl (kA 0, 48, .inl (fun _ => 0)))]]) := hD
  refine W.widen (k := 18) (n := 1778) (by omega) (by omega) ?_
  refine k_put (pc := 74) X hK hP hD hS 0 rfl rfl i_Pn t_Pn t_Pn_ok n_Pn 8 (by decide) wm_1481 rfl (Or.inr ⟨rfl, rfl⟩) rfl rfl (Nat.le_of_ble_eq_true rfl) d_Pn_init_74 (fun H locs hP hD hS => ?_)
  have hP : va_P D classes (cat [[(h, .inr (7, [.ref q1, .ref q3, .ref q4, .int 0, .ref q5, .ref q6, .ref q7, .ref q8, .ref q9]))], wNe kA q1 u2 x0Ne a0Ne, [(q3, .inl (kA 0, 24, .inl (fun _ => 0)))], [(q4, .inl (kA 0, 24, .inl (fun _ => 0)))], [(q5, .inl (kA 0, 24, .inl (fun _ => 0)))], [(q6, .inl (kA 0, 26, .inl (fun _ => 0)))], [(q7, .inl (kA 0, 27, .inl (fun _ => 0)))], [(q8, .inl (kA 0, 144, .inl (fun _ => 0)))], [(q9, .inl (kA 0, 48, .inl (fun _ => 0)))]]) H := hP
  have hD : va_D A (cat [[(h, .inr (7, [.ref q1, .ref q3, .ref q4, .int 0, .ref q5, .ref q6, .ref q7, .ref q8, .ref q9]))], wNe kA q1 u2 x0Ne a0Ne, [(q3, .inl (kA 0, 24, .inl (fun _ => 0)))], [(q4, .inl (kA 0, 24, .inl (fun _ => 0)))], [(q5, .inl (kA 0, 24, .inl (fun _ => 0)))], [(q6, .inl (kA 0, 26, .inl (fun _ => 0)))], [(q7, .inl (kA 0, 27, .inl (fun _ => 0)))], [(q8, .inl (kA 0, 144, .inl (fun _ => 0)))], [(q9, .inl (kA 0, 48, .inl (fun _ => 0)))]]) := hD
  obtain ⟨hP, hD⟩ := k_ord (gc := [[(h, .inr (7, [.ref q1, .ref q3, .ref q4, .int 0, .ref q5, .ref q6, .ref q7, .ref q8, .ref q9]))], [(q3, .inl (kA 0, 24, .inl (fun _ => 0)))], [(q4, .inl (kA 0, 24, .inl (fun _ => 0)))], [(q5, .inl (kA 0, 24, .inl (fun _ => 0)))], [(q6, .inl (kA 0, 26, .inl (fun _ => 0)))], [(q7, .inl (kA 0, 27, .inl (fun _ => 0)))], [(q8, .inl (kA 0, 144, .inl (fun _ => 0)))], [(q9, .inl (kA 0, 48, .inl (fun _ => 0)))], wNe kA q1 u2 x0Ne a0Ne]) hP hD [0, 2, 3, 4, 5, 6, 7, 8, 1] 9 rfl (by decide) rfl
  refine W.widen (k := 18) (n := 1778) (Nat.le_of_ble_eq_true rfl) (Nat.le_of_ble_eq_true rfl) ?_
  exact W.vret hx hb hr (fun t ht hW => ⟨⟨(fun i => match i with | 0 => (fun k => match k with | 1 => q3 | 2 => q4 | 4 => q5 | 5 => q6 | 6 => q7 | 7 => q8 | 8 => q9 | 0 => q1 | _ => 0) | 1 => u2 | _ => fun _ => 0), rfl, trivial, by rw [ht]; exact hP, va_K.moved hW.alike hK, hD⟩, hS.F ht⟩) hS.2.2 d_Pn_init_77
