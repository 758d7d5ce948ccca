theorem wm_3 : (Cond.initialized "DrawingHouse$Graph" : Cond) ∈ lw_g := lw_gi (lw_c1 (List.mem_of_getElem? (i := 3) rfl)) rfl
theorem wm_45 : (Cond.code ({ cls := "DrawingHouse$Reader", name := "<init>", desc := "()V" } : MethodName) prog_10_method_1_code (1 : Nat) (Option.none : Option ClassFile.FieldType) : Cond) ∈ lw_g := lw_gi (lw_c1 (List.mem_of_getElem? (i := 45) rfl)) rfl
theorem wm_46 : (Cond.methodLink "DrawingHouse$Reader" (3 : Nat) ({ cls := "java/lang/Object", name := "<init>", desc := "()V" } : MethodName) : Cond) ∈ lw_g := lw_gi (lw_c1 (List.mem_of_getElem? (i := 46) rfl)) rfl
theorem wm_47 : (Cond.classLink "DrawingHouse$Reader" (25 : Nat) "DrawingHouse$Graph" : Cond) ∈ lw_g := lw_gi (lw_c1 (List.mem_of_getElem? (i := 47) rfl)) rfl
theorem wm_48 : (Cond.instantiable "DrawingHouse$Graph" (19 : Nat) : Cond) ∈ lw_g := lw_gi (lw_c1 (List.mem_of_getElem? (i := 48) rfl)) rfl
theorem wm_49 : (Cond.methodLink "DrawingHouse$Reader" (27 : Nat) ({ cls := "DrawingHouse$Graph", name := "<init>", desc := "()V" } : MethodName) : Cond) ∈ lw_g := lw_gi (lw_c1 (List.mem_of_getElem? (i := 49) rfl)) rfl
theorem wm_50 : (Cond.instanceMethod ({ cls := "DrawingHouse$Graph", name := "<init>", desc := "()V" } : MethodName) : Cond) ∈ lw_g := lw_gi (lw_c1 (List.mem_of_getElem? (i := 50) rfl)) rfl
theorem wm_194 : (Cond.fieldLink "DrawingHouse$Reader" (9 : Nat) "DrawingHouse$Reader" "tape" "[B" : Cond) ∈ lw_g := lw_gi (lw_c1 (List.mem_of_getElem? (i := 194) rfl)) rfl
theorem wm_196 : (Cond.fieldLink "DrawingHouse$Reader" (15 : Nat) "DrawingHouse$Reader" "length" "I" : Cond) ∈ lw_g := lw_gi (lw_c1 (List.mem_of_getElem? (i := 196) rfl)) rfl
theorem wm_198 : (Cond.fieldLink "DrawingHouse$Reader" (19 : Nat) "DrawingHouse$Reader" "fault" "I" : Cond) ∈ lw_g := lw_gi (lw_c1 (List.mem_of_getElem? (i := 198) rfl)) rfl
theorem wm_200 : (Cond.fieldLink "DrawingHouse$Reader" (22 : Nat) "DrawingHouse$Reader" "faultPlace" "I" : Cond) ∈ lw_g := lw_gi (lw_c1 (List.mem_of_getElem? (i := 200) rfl)) rfl
theorem wm_202 : (Cond.fieldLink "DrawingHouse$Reader" (28 : Nat) "DrawingHouse$Reader" "graph" "LDrawingHouse$Graph;" : Cond) ∈ lw_g := lw_gi (lw_c1 (List.mem_of_getElem? (i := 202) rfl)) rfl
theorem wm_204 : (Cond.fieldLink "DrawingHouse$Reader" (32 : Nat) "DrawingHouse$Reader" "end" "I" : Cond) ∈ lw_g := lw_gi (lw_c1 (List.mem_of_getElem? (i := 204) rfl)) rfl
theorem wm_205 : (Cond.fieldLink "DrawingHouse$Reader" (35 : Nat) "DrawingHouse$Reader" "next" "I" : Cond) ∈ lw_g := lw_gi (lw_c1 (List.mem_of_getElem? (i := 205) rfl)) rfl
theorem wm_206 : (Cond.fieldLink "DrawingHouse$Reader" (38 : Nat) "DrawingHouse$Reader" "kind" "I" : Cond) ∈ lw_g := lw_gi (lw_c1 (List.mem_of_getElem? (i := 206) rfl)) rfl
theorem wm_207 : (Cond.fieldLink "DrawingHouse$Reader" (41 : Nat) "DrawingHouse$Reader" "begin" "I" : Cond) ∈ lw_g := lw_gi (lw_c1 (List.mem_of_getElem? (i := 207) rfl)) rfl
theorem wm_208 : (Cond.fieldLink "DrawingHouse$Reader" (44 : Nat) "DrawingHouse$Reader" "number" "I" : Cond) ∈ lw_g := lw_gi (lw_c1 (List.mem_of_getElem? (i := 208) rfl)) rfl
theorem wm_209 : (Cond.fieldLink "DrawingHouse$Reader" (47 : Nat) "DrawingHouse$Reader" "open" "[I" : Cond) ∈ lw_g := lw_gi (lw_c1 (List.mem_of_getElem? (i := 209) rfl)) rfl
theorem wm_210 : (Cond.fieldLink "DrawingHouse$Reader" (51 : Nat) "DrawingHouse$Reader" "depth" "I" : Cond) ∈ lw_g := lw_gi (lw_c1 (List.mem_of_getElem? (i := 210) rfl)) rfl
theorem wm_1196 : (Cond.code ({ cls := "DrawingHouse$Stretch", name := "<init>", desc := "()V" } : MethodName) prog_12_method_1_code (1 : Nat) (Option.none : Option ClassFile.FieldType) : Cond) ∈ lw_g := lw_gi (lw_c5 (List.mem_of_getElem? (i := 236) rfl)) rfl
theorem wm_1197 : (Cond.methodLink "DrawingHouse$Stretch" (3 : Nat) ({ cls := "java/lang/Object", name := "<init>", desc := "()V" } : MethodName) : Cond) ∈ lw_g := lw_gi (lw_c5 (List.mem_of_getElem? (i := 237) rfl)) rfl
theorem wm_1198 : (Cond.fieldLink "DrawingHouse$Stretch" (9 : Nat) "DrawingHouse$Stretch" "nodes" "I" : Cond) ∈ lw_g := lw_gi (lw_c5 (List.mem_of_getElem? (i := 238) rfl)) rfl
theorem wm_1199 : (Cond.fieldLink "DrawingHouse$Stretch" (15 : Nat) "DrawingHouse$Stretch" "arcs" "I" : Cond) ∈ lw_g := lw_gi (lw_c5 (List.mem_of_getElem? (i := 239) rfl)) rfl
theorem wm_1200 : (Cond.fieldLink "DrawingHouse$Stretch" (18 : Nat) "DrawingHouse$Stretch" "from" "[I" : Cond) ∈ lw_g := lw_gi (lw_c6 (List.mem_of_getElem? (i := 0) rfl)) rfl
theorem wm_1201 : (Cond.fieldLink "DrawingHouse$Stretch" (22 : Nat) "DrawingHouse$Stretch" "to" "[I" : Cond) ∈ lw_g := lw_gi (lw_c6 (List.mem_of_getElem? (i := 1) rfl)) rfl
theorem wm_1202 : (Cond.fieldLink "DrawingHouse$Stretch" (25 : Nat) "DrawingHouse$Stretch" "room" "[I" : Cond) ∈ lw_g := lw_gi (lw_c6 (List.mem_of_getElem? (i := 2) rfl)) rfl
theorem wm_1203 : (Cond.fieldLink "DrawingHouse$Stretch" (28 : Nat) "DrawingHouse$Stretch" "gain" "[I" : Cond) ∈ lw_g := lw_gi (lw_c6 (List.mem_of_getElem? (i := 3) rfl)) rfl
theorem wm_1204 : (Cond.fieldLink "DrawingHouse$Stretch" (31 : Nat) "DrawingHouse$Stretch" "place" "[I" : Cond) ∈ lw_g := lw_gi (lw_c6 (List.mem_of_getElem? (i := 4) rfl)) rfl
theorem wm_1206 : (Cond.fieldLink "DrawingHouse$Stretch" (34 : Nat) "DrawingHouse$Stretch" "by" "[I" : Cond) ∈ lw_g := lw_gi (lw_c6 (List.mem_of_getElem? (i := 6) rfl)) rfl
theorem wm_1207 : (Cond.fieldLink "DrawingHouse$Stretch" (37 : Nat) "DrawingHouse$Stretch" "mark" "[I" : Cond) ∈ lw_g := lw_gi (lw_c6 (List.mem_of_getElem? (i := 7) rfl)) rfl
abbrev b_Re_init : ByteArray := prog_10_method_1_code
def y_Re_init : MethodName := ⟨"DrawingHouse$Reader", "<init>", "()V"⟩
abbrev z_Re_init : List Cond := Cond.code y_Re_init b_Re_init 1 none :: lw_g
theorem d_Re_init_0 : decode b_Re_init 0 = .ok (.aload_n 0, 1) := by decide +kernel
theorem d_Re_init_1 : decode b_Re_init 1 = .ok (.invokespecial 3, 3) := by decide +kernel
theorem d_Re_init_4 : decode b_Re_init 4 = .ok (.aload_n 0, 1) := by decide +kernel
theorem d_Re_init_5 : decode b_Re_init 5 = .ok (.sipush 2000, 3) := by decide +kernel
theorem d_Re_init_8 : decode b_Re_init 8 = .ok (.newarray .byte, 2) := by decide +kernel
theorem d_Re_init_10 : decode b_Re_init 10 = .ok (.putfield 9, 3) := by decide +kernel
theorem d_Re_init_13 : decode b_Re_init 13 = .ok (.aload_n 0, 1) := by decide +kernel
theorem d_Re_init_14 : decode b_Re_init 14 = .ok (.iconst 0, 1) := by decide +kernel
theorem d_Re_init_15 : decode b_Re_init 15 = .ok (.putfield 15, 3) := by decide +kernel
theorem d_Re_init_18 : decode b_Re_init 18 = .ok (.aload_n 0, 1) := by decide +kernel
theorem d_Re_init_19 : decode b_Re_init 19 = .ok (.iconst (-1), 1) := by decide +kernel
theorem d_Re_init_20 : decode b_Re_init 20 = .ok (.putfield 19, 3) := by decide +kernel
theorem d_Re_init_23 : decode b_Re_init 23 = .ok (.aload_n 0, 1) := by decide +kernel
theorem d_Re_init_24 : decode b_Re_init 24 = .ok (.iconst (-1), 1) := by decide +kernel
theorem d_Re_init_25 : decode b_Re_init 25 = .ok (.putfield 22, 3) := by decide +kernel
theorem d_Re_init_28 : decode b_Re_init 28 = .ok (.aload_n 0, 1) := by decide +kernel
theorem d_Re_init_29 : decode b_Re_init 29 = .ok (.new 25, 3) := by decide +kernel
theorem d_Re_init_32 : decode b_Re_init 32 = .ok (.dup, 1) := by decide +kernel
theorem d_Re_init_33 : decode b_Re_init 33 = .ok (.invokespecial 27, 3) := by decide +kernel
theorem d_Re_init_36 : decode b_Re_init 36 = .ok (.putfield 28, 3) := by decide +kernel
theorem d_Re_init_39 : decode b_Re_init 39 = .ok (.aload_n 0, 1) := by decide +kernel
theorem d_Re_init_40 : decode b_Re_init 40 = .ok (.iconst 0, 1) := by decide +kernel
theorem d_Re_init_41 : decode b_Re_init 41 = .ok (.putfield 32, 3) := by decide +kernel
theorem d_Re_init_44 : decode b_Re_init 44 = .ok (.aload_n 0, 1) := by decide +kernel
theorem d_Re_init_45 : decode b_Re_init 45 = .ok (.iconst 0, 1) := by decide +kernel
theorem d_Re_init_46 : decode b_Re_init 46 = .ok (.putfield 35, 3) := by decide +kernel
theorem d_Re_init_49 : decode b_Re_init 49 = .ok (.aload_n 0, 1) := by decide +kernel
theorem d_Re_init_50 : decode b_Re_init 50 = .ok (.iconst 0, 1) := by decide +kernel
theorem d_Re_init_51 : decode b_Re_init 51 = .ok (.putfield 38, 3) := by decide +kernel
theorem d_Re_init_54 : decode b_Re_init 54 = .ok (.aload_n 0, 1) := by decide +kernel
theorem d_Re_init_55 : decode b_Re_init 55 = .ok (.iconst 0, 1) := by decide +kernel
theorem d_Re_init_56 : decode b_Re_init 56 = .ok (.putfield 41, 3) := by decide +kernel
theorem d_Re_init_59 : decode b_Re_init 59 = .ok (.aload_n 0, 1) := by decide +kernel
theorem d_Re_init_60 : decode b_Re_init 60 = .ok (.iconst 0, 1) := by decide +kernel
theorem d_Re_init_61 : decode b_Re_init 61 = .ok (.putfield 44, 3) := by decide +kernel
theorem d_Re_init_64 : decode b_Re_init 64 = .ok (.aload_n 0, 1) := by decide +kernel
theorem d_Re_init_65 : decode b_Re_init 65 = .ok (.iconst 5, 1) := by decide +kernel
theorem d_Re_init_66 : decode b_Re_init 66 = .ok (.newarray .int, 2) := by decide +kernel
theorem d_Re_init_68 : decode b_Re_init 68 = .ok (.putfield 47, 3) := by decide +kernel
theorem d_Re_init_71 : decode b_Re_init 71 = .ok (.aload_n 0, 1) := by decide +kernel
theorem d_Re_init_72 : decode b_Re_init 72 = .ok (.iconst 0, 1) := by decide +kernel
theorem d_Re_init_73 : decode b_Re_init 73 = .ok (.putfield 51, 3) := by decide +kernel
theorem d_Re_init_76 : decode b_Re_init 76 = .ok (.return_, 1) := by decide +kernel
abbrev f0Re : List Value := [.null, .int 0, .int 0, .int 0, .null, .int 0, .int 0, .int 0, .int 0, .int 0, .null, .int 0]
set_option maxRecDepth 20000 in
theorem f0Re_ok : ∀ j, j < 12 → defaultValue (t_Re j) = vp_V f0Re j := by decide +kernel
def wRe (kA : Nat → ClassId) (h : Nat) (q : Nat → Nat) (x : Nat → Int32) (a : Nat → Nat → Int32) : va_W := [(h, .inr (8, [.ref (q 0), .int (x 1), .int (x 2), .int (x 3), .ref (q 4), .int (x 5), .int (x 6), .int (x 7), .int (x 8), .int (x 9), .ref (q 10), .int (x 11)])), (q 0, .inl (kA 1, 2000, .inl (a 0))), (q 10, .inl (kA 0, 5, .inl (a 10)))]
def x0Re : Nat → Int32 := fun k => match k with | 2 => (-1) | 3 => (-1) | _ => 0
def a0Re : Nat → Nat → Int32 := fun _ => fun _ => 0
set_option maxRecDepth 100000 in
set_option maxHeartbeats 4000000 in
/-- DrawingHouse$Reader()V -/
theorem c_Re_init (l : Launch) (D : va_G) (kA : Nat → ClassId) (h : Nat) : Cv l y_Re_init z_Re_init { frames := 2, cells := 16, slots := 3160, locals := 43 } D classes (TY kA) [.ref h] [[(h, .inr (8, f0Re))]] (fun u : (Nat → Nat → Nat) => True) (fun u => [wRe kA h ((u 0)) x0Re a0Re, wGr kA (u 0 4) ((u 1)) x0Gr a0Gr none]) 16 3160 := by
  intro sz
  refine k_met (cc := b_Re_init) (maxL := 1) (ret := none) (by decide) rfl (Nat.le_of_ble_eq_true rfl) (fun p e s m below meth c ls X hl hB => ?_)
  obtain ⟨hsz, hP, hK, hD0, hN⟩ := hB
  subst hsz
  have hD := hD0.self (sz := s.heap.size)
  generalize hAe : va_A (cat [[(h, .inr (8, [.null, .int 0, .int 0, .int 0, .null, .int 0, .int 0, .int 0, .int 0, .int 0, .null, .int 0]))]]) s.heap.size = A at hD ⊢
  have hA : ∀ q : Nat, s.heap.size ≤ q → A q := fun q h => by rw [← hAe]; exact Or.inr h
  have hS : va_S A s.heap s.heap [] := va_S.rf
  obtain ⟨hx, hb, hml, hown, hts, hr, hlk, hnm⟩ := id X
  have hl : lv_has ls 1 [(0, .ref h)] := hl
  have hP : va_P D classes (cat [[(h, .inr (8, [.null, .int 0, .int 0, .int 0, .null, .int 0, .int 0, .int 0, .int 0, .int 0, .null, .int 0]))]]) s.heap := hP
  have hK : va_K D classes (TY kA) s := hK
  refine lv_aload_n (pc := 0) hx hb d_Re_init_0 rfl (lv_at hl 0 rfl) ?_
  refine W.objInit hx hb hown (hts _ wm_46) (hts _ wm_31) (hts _ wm_32) rfl (by rw [hml]; exact hl.1) rfl d_Re_init_1 (Nat.le_of_ble_eq_true rfl) (Nat.le_of_ble_eq_true rfl) ?_
  refine W.eq (g2 := F0 m 4 ls []) rfl ?_
  refine lv_aload_n (pc := 4) hx hb d_Re_init_4 rfl (lv_at hl 0 rfl) ?_
  refine lv_sipush (pc := 5) (v := 2000) hx hb d_Re_init_5 (by decide) ?_
  refine k_newa (pc := 8) (atype := .byte) X (ty := .byte) (a0 := (2000, .inl (fun _ => 0))) rfl rfl wm_192 hK hP hD hS hA 1 rfl (fun _ => rfl) (by decide) rfl (by decide) (Nat.le_of_ble_eq_true rfl) (Nat.le_of_ble_eq_true rfl) d_Re_init_8 (fun q1 H hP hD hS => ?_)
  have hP : va_P D classes (cat [[(h, .inr (8, [.null, .int 0, .int 0, .int 0, .null, .int 0, .int 0, .int 0, .int 0, .int 0, .null, .int 0]))], [(q1, .inl (kA 1, 2000, .inl (fun _ => 0)))]]) H := hP
  have hD : va_D A (cat [[(h, .inr (8, [.null, .int 0, .int 0, .int 0, .null, .int 0, .int 0, .int 0, .int 0, .int 0, .null, .int 0]))], [(q1, .inl (kA 1, 2000, .inl (fun _ => 0)))]]) := hD
  refine W.widen (k := 1) (n := 2000) (by omega) (by omega) ?_
  refine k_put (pc := 10) X hK hP hD hS 0 rfl rfl i_Re t_Re t_Re_ok n_Re 0 (by decide) wm_194 rfl (Or.inr ⟨rfl, rfl⟩) rfl rfl (Nat.le_of_ble_eq_true rfl) d_Re_init_10 (fun H locs hP hD hS => ?_)
  have hP : va_P D classes (cat [[(h, .inr (8, [.ref q1, .int 0, .int 0, .int 0, .null, .int 0, .int 0, .int 0, .int 0, .int 0, .null, .int 0]))], [(q1, .inl (kA 1, 2000, .inl (fun _ => 0)))]]) H := hP
  have hD : va_D A (cat [[(h, .inr (8, [.ref q1, .int 0, .int 0, .int 0, .null, .int 0, .int 0, .int 0, .int 0, .int 0, .null, .int 0]))], [(q1, .inl (kA 1, 2000, .inl (fun _ => 0)))]]) := hD
  refine lv_aload_n (pc := 13) hx hb d_Re_init_13 rfl (lv_at hl 0 rfl) ?_
  refine lv_iconst (pc := 14) (v := 0) hx hb d_Re_init_14 (by decide) ?_
  refine k_put (pc := 15) X hK hP hD hS 0 rfl rfl i_Re t_Re t_Re_ok n_Re 1 (by decide) wm_196 rfl (Or.inl rfl) rfl rfl (Nat.le_of_ble_eq_true rfl) d_Re_init_15 (fun H locs hP hD hS => ?_)
  have hP : va_P D classes (cat [[(h, .inr (8, [.ref q1, .int 0, .int 0, .int 0, .null, .int 0, .int 0, .int 0, .int 0, .int 0, .null, .int 0]))], [(q1, .inl (kA 1, 2000, .inl (fun _ => 0)))]]) H := hP
  have hD : va_D A (cat [[(h, .inr (8, [.ref q1, .int 0, .int 0, .int 0, .null, .int 0, .int 0, .int 0, .int 0, .int 0, .null, .int 0]))], [(q1, .inl (kA 1, 2000, .inl (fun _ => 0)))]]) := hD
  refine lv_aload_n (pc := 18) hx hb d_Re_init_18 rfl (lv_at hl 0 rfl) ?_
  refine lv_iconst (pc := 19) (v := -1) hx hb d_Re_init_19 (by decide) ?_
  refine k_put (pc := 20) X hK hP hD hS 0 rfl rfl i_Re t_Re t_Re_ok n_Re 2 (by decide) wm_198 rfl (Or.inl rfl) rfl rfl (Nat.le_of_ble_eq_true rfl) d_Re_init_20 (fun H locs hP hD hS => ?_)
  have hP : va_P D classes (cat [[(h, .inr (8, [.ref q1, .int 0, .int ((-1)), .int 0, .null, .int 0, .int 0, .int 0, .int 0, .int 0, .null, .int 0]))], [(q1, .inl (kA 1, 2000, .inl (fun _ => 0)))]]) H := hP
  have hD : va_D A (cat [[(h, .inr (8, [.ref q1, .int 0, .int ((-1)), .int 0, .null, .int 0, .int 0, .int 0, .int 0, .int 0, .null, .int 0]))], [(q1, .inl (kA 1, 2000, .inl (fun _ => 0)))]]) := hD
  refine lv_aload_n (pc := 23) hx hb d_Re_init_23 rfl (lv_at hl 0 rfl) ?_
  refine lv_iconst (pc := 24) (v := -1) hx hb d_Re_init_24 (by decide) ?_
  refine k_put (pc := 25) X hK hP hD hS 0 rfl rfl i_Re t_Re t_Re_ok n_Re 3 (by decide) wm_200 rfl (Or.inl rfl) rfl rfl (Nat.le_of_ble_eq_true rfl) d_Re_init_25 (fun H locs hP hD hS => ?_)
  have hP : va_P D classes (cat [[(h, .inr (8, [.ref q1, .int 0, .int ((-1)), .int ((-1)), .null, .int 0, .int 0, .int 0, .int 0, .int 0, .null, .int 0]))], [(q1, .inl (kA 1, 2000, .inl (fun _ => 0)))]]) H := hP
  have hD : va_D A (cat [[(h, .inr (8, [.ref q1, .int 0, .int ((-1)), .int ((-1)), .null, .int 0, .int 0, .int 0, .int 0, .int 0, .null, .int 0]))], [(q1, .inl (kA 1, 2000, .inl (fun _ => 0)))]]) := hD
  refine lv_aload_n (pc := 28) hx hb d_Re_init_28 rfl (lv_at hl 0 rfl) ?_
  refine k_new (pc := 29) (fs := f0Gr) X i_Gr t_Gr t_Gr_ok wm_47 wm_48 wm_3 hK hP hD hS hA (ci := 3) rfl f0Gr_ok (Nat.le_of_ble_eq_true rfl) (Nat.le_of_ble_eq_true rfl) d_Re_init_29 (fun q2 H hP hD hS => ?_)
  have hP : va_P D classes (cat [[(h, .inr (8, [.ref q1, .int 0, .int ((-1)), .int ((-1)), .null, .int 0, .int 0, .int 0, .int 0, .int 0, .null, .int 0]))], [(q1, .inl (kA 1, 2000, .inl (fun _ => 0)))], [(q2, .inr (3, [.int 0, .int 0, .int 0, .null, .null, .null, .null, .null, .null, .null, .null, .null, .null, .null, .null, .null, .null, .int 0, .int 0]))]]) H := hP
  have hD : va_D A (cat [[(h, .inr (8, [.ref q1, .int 0, .int ((-1)), .int ((-1)), .null, .int 0, .int 0, .int 0, .int 0, .int 0, .null, .int 0]))], [(q1, .inl (kA 1, 2000, .inl (fun _ => 0)))], [(q2, .inr (3, [.int 0, .int 0, .int 0, .null, .null, .null, .null, .null, .null, .null, .null, .null, .null, .null, .null, .null, .null, .int 0, .int 0]))]]) := hD
  refine W.widen (k := 2) (n := 2019) (by omega) (by omega) ?_
  refine lv_dup (pc := 32) hx hb d_Re_init_32 rfl ?_
  refine k_goV (gr := [[(h, .inr (8, [.ref q1, .int 0, .int ((-1)), .int ((-1)), .null, .int 0, .int 0, .int 0, .int 0, .int 0, .null, .int 0]))], [(q1, .inl (kA 1, 2000, .inl (fun _ => 0)))]]) (k_rI (pc := 33) (As := []) (rest := [.ref q2, .ref h]) X (c_Gr_init l D kA q2 H.size) rfl wm_51 wm_3 wm_49 wm_50 rfl 0 (by decide +kernel) ⟨Nat.le_of_ble_eq_true rfl, Nat.le_of_ble_eq_true rfl⟩ rfl rfl (k_pre hN hK hP hD [2] [0, 1] 3 rfl (by decide) rfl) rfl hl.1 rfl (Nat.le_of_ble_eq_true rfl) d_Re_init_33 ⟨Nat.le_of_ble_eq_true rfl, Nat.le_of_ble_eq_true rfl⟩) hP hD hS hA [2] [0, 1] 3 rfl (by decide) rfl rfl (fun u3 H locs hu3 hP hD hS => ?_)
  have hP : va_P D classes (cat [[(h, .inr (8, [.ref q1, .int 0, .int ((-1)), .int ((-1)), .null, .int 0, .int 0, .int 0, .int 0, .int 0, .null, .int 0]))], [(q1, .inl (kA 1, 2000, .inl (fun _ => 0)))], wGr kA q2 u3 x0Gr a0Gr none]) H := hP
  have hD : va_D A (cat [[(h, .inr (8, [.ref q1, .int 0, .int ((-1)), .int ((-1)), .null, .int 0, .int 0, .int 0, .int 0, .int 0, .null, .int 0]))], [(q1, .inl (kA 1, 2000, .inl (fun _ => 0)))], wGr kA q2 u3 x0Gr a0Gr none]) := hD
  refine W.widen (k := 15) (n := 3155) (by omega) (by omega) ?_
  refine k_put (pc := 36) X hK hP hD hS 0 rfl rfl i_Re t_Re t_Re_ok n_Re 4 (by decide) wm_202 rfl (Or.inr ⟨rfl, rfl⟩) rfl rfl (Nat.le_of_ble_eq_true rfl) d_Re_init_36 (fun H locs hP hD hS => ?_)
  have hP : va_P D classes (cat [[(h, .inr (8, [.ref q1, .int 0, .int ((-1)), .int ((-1)), .ref q2, .int 0, .int 0, .int 0, .int 0, .int 0, .null, .int 0]))], [(q1, .inl (kA 1, 2000, .inl (fun _ => 0)))], wGr kA q2 u3 x0Gr a0Gr none]) H := hP
  have hD : va_D A (cat [[(h, .inr (8, [.ref q1, .int 0, .int ((-1)), .int ((-1)), .ref q2, .int 0, .int 0, .int 0, .int 0, .int 0, .null, .int 0]))], [(q1, .inl (kA 1, 2000, .inl (fun _ => 0)))], wGr kA q2 u3 x0Gr a0Gr none]) := hD
  refine lv_aload_n (pc := 39) hx hb d_Re_init_39 rfl (lv_at hl 0 rfl) ?_
  refine lv_iconst (pc := 40) (v := 0) hx hb d_Re_init_40 (by decide) ?_
  refine k_put (pc := 41) X hK hP hD hS 0 rfl rfl i_Re t_Re t_Re_ok n_Re 5 (by decide) wm_204 rfl (Or.inl rfl) rfl rfl (Nat.le_of_ble_eq_true rfl) d_Re_init_41 (fun H locs hP hD hS => ?_)
  have hP : va_P D classes (cat [[(h, .inr (8, [.ref q1, .int 0, .int ((-1)), .int ((-1)), .ref q2, .int 0, .int 0, .int 0, .int 0, .int 0, .null, .int 0]))], [(q1, .inl (kA 1, 2000, .inl (fun _ => 0)))], wGr kA q2 u3 x0Gr a0Gr none]) H := hP
  have hD : va_D A (cat [[(h, .inr (8, [.ref q1, .int 0, .int ((-1)), .int ((-1)), .ref q2, .int 0, .int 0, .int 0, .int 0, .int 0, .null, .int 0]))], [(q1, .inl (kA 1, 2000, .inl (fun _ => 0)))], wGr kA q2 u3 x0Gr a0Gr none]) := hD
  refine lv_aload_n (pc := 44) hx hb d_Re_init_44 rfl (lv_at hl 0 rfl) ?_
  refine lv_iconst (pc := 45) (v := 0) hx hb d_Re_init_45 (by decide) ?_
  refine k_put (pc := 46) X hK hP hD hS 0 rfl rfl i_Re t_Re t_Re_ok n_Re 6 (by decide) wm_205 rfl (Or.inl rfl) rfl rfl (Nat.le_of_ble_eq_true rfl) d_Re_init_46 (fun H locs hP hD hS => ?_)
  have hP : va_P D classes (cat [[(h, .inr (8, [.ref q1, .int 0, .int ((-1)), .int ((-1)), .ref q2, .int 0, .int 0, .int 0, .int 0, .int 0, .null, .int 0]))], [(q1, .inl (kA 1, 2000, .inl (fun _ => 0)))], wGr kA q2 u3 x0Gr a0Gr none]) H := hP
  have hD : va_D A (cat [[(h, .inr (8, [.ref q1, .int 0, .int ((-1)), .int ((-1)), .ref q2, .int 0, .int 0, .int 0, .int 0, .int 0, .null, .int 0]))], [(q1, .inl (kA 1, 2000, .inl (fun _ => 0)))], wGr kA q2 u3 x0Gr a0Gr none]) := hD
  refine lv_aload_n (pc := 49) hx hb d_Re_init_49 rfl (lv_at hl 0 rfl) ?_
  refine lv_iconst (pc := 50) (v := 0) hx hb d_Re_init_50 (by decide) ?_
  refine k_put (pc := 51) X hK hP hD hS 0 rfl rfl i_Re t_Re t_Re_ok n_Re 7 (by decide) wm_206 rfl (Or.inl rfl) rfl rfl (Nat.le_of_ble_eq_true rfl) d_Re_init_51 (fun H locs hP hD hS => ?_)
  have hP : va_P D classes (cat [[(h, .inr (8, [.ref q1, .int 0, .int ((-1)), .int ((-1)), .ref q2, .int 0, .int 0, .int 0, .int 0, .int 0, .null, .int 0]))], [(q1, .inl (kA 1, 2000, .inl (fun _ => 0)))], wGr kA q2 u3 x0Gr a0Gr none]) H := hP
  have hD : va_D A (cat [[(h, .inr (8, [.ref q1, .int 0, .int ((-1)), .int ((-1)), .ref q2, .int 0, .int 0, .int 0, .int 0, .int 0, .null, .int 0]))], [(q1, .inl (kA 1, 2000, .inl (fun _ => 0)))], wGr kA q2 u3 x0Gr a0Gr none]) := hD
  refine lv_aload_n (pc := 54) hx hb d_Re_init_54 rfl (lv_at hl 0 rfl) ?_
  refine lv_iconst (pc := 55) (v := 0) hx hb d_Re_init_55 (by decide) ?_
  refine k_put (pc := 56) X hK hP hD hS 0 rfl rfl i_Re t_Re t_Re_ok n_Re 8 (by decide) wm_207 rfl (Or.inl rfl) rfl rfl (Nat.le_of_ble_eq_true rfl) d_Re_init_56 (fun H locs hP hD hS => ?_)
  have hP : va_P D classes (cat [[(h, .inr (8, [.ref q1, .int 0, .int ((-1)), .int ((-1)), .ref q2, .int 0, .int 0, .int 0, .int 0, .int 0, .null, .int 0]))], [(q1, .inl (kA 1, 2000, .inl (fun _ => 0)))], wGr kA q2 u3 x0Gr a0Gr none]) H := hP
  have hD : va_D A (cat [[(h, .inr (8, [.ref q1, .int 0, .int ((-1)), .int ((-1)), .ref q2, .int 0, .int 0, .int 0, .int 0, .int 0, .null, .int 0]))], [(q1, .inl (kA 1, 2000, .inl (fun _ => 0)))], wGr kA q2 u3 x0Gr a0Gr none]) := hD
  refine lv_aload_n (pc := 59) hx hb d_Re_init_59 rfl (lv_at hl 0 rfl) ?_
  refine lv_iconst (pc := 60) (v := 0) hx hb d_Re_init_60 (by decide) ?_
  refine k_put (pc := 61) X hK hP hD hS 0 rfl rfl i_Re t_Re t_Re_ok n_Re 9 (by decide) wm_208 rfl (Or.inl rfl) rfl rfl (Nat.le_of_ble_eq_true rfl) d_Re_init_61 (fun H locs hP hD hS => ?_)
  have hP : va_P D classes (cat [[(h, .inr (8, [.ref q1, .int 0, .int ((-1)), .int ((-1)), .ref q2, .int 0, .int 0, .int 0, .int 0, .int 0, .null, .int 0]))], [(q1, .inl (kA 1, 2000, .inl (fun _ => 0)))], wGr kA q2 u3 x0Gr a0Gr none]) H := hP
  have hD : va_D A (cat [[(h, .inr (8, [.ref q1, .int 0, .int ((-1)), .int ((-1)), .ref q2, .int 0, .int 0, .int 0, .int 0, .int 0, .null, .int 0]))], [(q1, .inl (kA 1, 2000, .inl (fun _ => 0)))], wGr kA q2 u3 x0Gr a0Gr none]) := hD
  refine lv_aload_n (pc := 64) hx hb d_Re_init_64 rfl (lv_at hl 0 rfl) ?_
  refine lv_iconst (pc := 65) (v := 5) hx hb d_Re_init_65 (by decide) ?_
  refine k_newa (pc := 66) (atype := .int) X (ty := .int) (a0 := (5, .inl (fun _ => 0))) rfl rfl wm_193 hK hP hD hS hA 0 rfl (fun _ => rfl) (by decide) rfl (by decide) (Nat.le_of_ble_eq_true rfl) (Nat.le_of_ble_eq_true rfl) d_Re_init_66 (fun q4 H hP hD hS => ?_)
  have hP : va_P D classes (cat [[(h, .inr (8, [.ref q1, .int 0, .int ((-1)), .int ((-1)), .ref q2, .int 0, .int 0, .int 0, .int 0, .int 0, .null, .int 0]))], [(q1, .inl (kA 1, 2000, .inl (fun _ => 0)))], wGr kA q2 u3 x0Gr a0Gr none, [(q4, .inl (kA 0, 5, .inl (fun _ => 0)))]]) H := hP
  have hD : va_D A (cat [[(h, .inr (8, [.ref q1, .int 0, .int ((-1)), .int ((-1)), .ref q2, .int 0, .int 0, .int 0, .int 0, .int 0, .null, .int 0]))], [(q1, .inl (kA 1, 2000, .inl (fun _ => 0)))], wGr kA q2 u3 x0Gr a0Gr none, [(q4, .inl (kA 0, 5, .inl (fun _ => 0)))]]) := hD
  refine W.widen (k := 16) (n := 3160) (by omega) (by omega) ?_
  refine k_put (pc := 68) X hK hP hD hS 0 rfl rfl i_Re t_Re t_Re_ok n_Re 10 (by decide) wm_209 rfl (Or.inr ⟨rfl, rfl⟩) rfl rfl (Nat.le_of_ble_eq_true rfl) d_Re_init_68 (fun H locs hP hD hS => ?_)
  have hP : va_P D classes (cat [[(h, .inr (8, [.ref q1, .int 0, .int ((-1)), .int ((-1)), .ref q2, .int 0, .int 0, .int 0, .int 0, .int 0, .ref q4, .int 0]))], [(q1, .inl (kA 1, 2000, .inl (fun _ => 0)))], wGr kA q2 u3 x0Gr a0Gr none, [(q4, .inl (kA 0, 5, .inl (fun _ => 0)))]]) H := hP
  have hD : va_D A (cat [[(h, .inr (8, [.ref q1, .int 0, .int ((-1)), .int ((-1)), .ref q2, .int 0, .int 0, .int 0, .int 0, .int 0, .ref q4, .int 0]))], [(q1, .inl (kA 1, 2000, .inl (fun _ => 0)))], wGr kA q2 u3 x0Gr a0Gr none, [(q4, .inl (kA 0, 5, .inl (fun _ => 0)))]]) := hD
  refine lv_aload_n (pc := 71) hx hb d_Re_init_71 rfl (lv_at hl 0 rfl) ?_
  refine lv_iconst (pc := 72) (v := 0) hx hb d_Re_init_72 (by decide) ?_
  refine k_put (pc := 73) X hK hP hD hS 0 rfl rfl i_Re t_Re t_Re_ok n_Re 11 (by decide) wm_210 rfl (Or.inl rfl) rfl rfl (Nat.le_of_ble_eq_true rfl) d_Re_init_73 (fun H locs hP hD hS => ?_)
  have hP : va_P D classes (cat [[(h, .inr (8, [.ref q1, .int 0, .int ((-1)), .int ((-1)), .ref q2, .int 0, .int 0, .int 0, .int 0, .int 0, .ref q4, .int 0]))], [(q1, .inl (kA 1, 2000, .inl (fun _ => 0)))], wGr kA q2 u3 x0Gr a0Gr none, [(q4, .inl (kA 0, 5, .inl (fun _ => 0)))]]) H := hP
  have hD : va_D A (cat [[(h, .inr (8, [.ref q1, .int 0, .int ((-1)), .int ((-1)), .ref q2, .int 0, .int 0, .int 0, .int 0, .int 0, .ref q4, .int 0]))], [(q1, .inl (kA 1, 2000, .inl (fun _ => 0)))], wGr kA q2 u3 x0Gr a0Gr none, [(q4, .inl (kA 0, 5, .inl (fun _ => 0)))]]) := hD
  obtain ⟨hP, hD⟩ := k_ord (gc := [[(h, .inr (8, [.ref q1, .int 0, .int ((-1)), .int ((-1)), .ref q2, .int 0, .int 0, .int 0, .int 0, .int 0, .ref q4, .int 0]))], [(q1, .inl (kA 1, 2000, .inl (fun _ => 0)))], [(q4, .inl (kA 0, 5, .inl (fun _ => 0)))], wGr kA q2 u3 x0Gr a0Gr none]) hP hD [0, 1, 3, 2] 4 rfl (by decide) rfl
  refine W.widen (k := 16) (n := 3160) (Nat.le_of_ble_eq_true rfl) (Nat.le_of_ble_eq_true rfl) ?_
  exact W.vret hx hb hr (fun t ht hW => ⟨⟨(fun i => match i with | 0 => (fun k => match k with | 0 => q1 | 10 => q4 | 4 => q2 | _ => 0) | 1 => u3 | _ => fun _ => 0), rfl, trivial, by rw [ht]; exact hP, va_K.moved hW.alike hK, hD⟩, hS.F ht⟩) hS.2.2 d_Re_init_76
