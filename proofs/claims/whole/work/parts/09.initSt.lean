theorem wm_1196 : (Cond.code ({ cls := "DrawingHouse$Stretch", name := "<init>", desc := "()V" } : MethodName) prog_12_method_1_code (1 : Nat) (Option.none : Option ClassFile.FieldType) : Cond) ∈ lw_g := lw_gi (lw_c5 (List.mem_of_getElem? (i := 236) rfl)) rfl
theorem wm_1197 : (Cond.methodLink "DrawingHouse$Stretch" (3 : Nat) ({ cls := "java/lang/Object", name := "<init>", desc := "()V" } : MethodName) : Cond) ∈ lw_g := lw_gi (lw_c5 (List.mem_of_getElem? (i := 237) rfl)) rfl
theorem wm_1198 : (Cond.fieldLink "DrawingHouse$Stretch" (9 : Nat) "DrawingHouse$Stretch" "nodes" "I" : Cond) ∈ lw_g := lw_gi (lw_c5 (List.mem_of_getElem? (i := 238) rfl)) rfl
theorem wm_1199 : (Cond.fieldLink "DrawingHouse$Stretch" (15 : Nat) "DrawingHouse$Stretch" "arcs" "I" : Cond) ∈ lw_g := lw_gi (lw_c5 (List.mem_of_getElem? (i := 239) rfl)) rfl
theorem wm_1200 : (Cond.fieldLink "DrawingHouse$Stretch" (18 : Nat) "DrawingHouse$Stretch" "from" "[I" : Cond) ∈ lw_g := lw_gi (lw_c6 (List.mem_of_getElem? (i := 0) rfl)) rfl
theorem wm_1201 : (Cond.fieldLink "DrawingHouse$Stretch" (22 : Nat) "DrawingHouse$Stretch" "to" "[I" : Cond) ∈ lw_g := lw_gi (lw_c6 (List.mem_of_getElem? (i := 1) rfl)) rfl
theorem wm_1202 : (Cond.fieldLink "DrawingHouse$Stretch" (25 : Nat) "DrawingHouse$Stretch" "room" "[I" : Cond) ∈ lw_g := lw_gi (lw_c6 (List.mem_of_getElem? (i := 2) rfl)) rfl
theorem wm_1203 : (Cond.fieldLink "DrawingHouse$Stretch" (28 : Nat) "DrawingHouse$Stretch" "gain" "[I" : Cond) ∈ lw_g := lw_gi (lw_c6 (List.mem_of_getElem? (i := 3) rfl)) rfl
theorem wm_1204 : (Cond.fieldLink "DrawingHouse$Stretch" (31 : Nat) "DrawingHouse$Stretch" "place" "[I" : Cond) ∈ lw_g := lw_gi (lw_c6 (List.mem_of_getElem? (i := 4) rfl)) rfl
theorem wm_1206 : (Cond.fieldLink "DrawingHouse$Stretch" (34 : Nat) "DrawingHouse$Stretch" "by" "[I" : Cond) ∈ lw_g := lw_gi (lw_c6 (List.mem_of_getElem? (i := 6) rfl)) rfl
theorem wm_1207 : (Cond.fieldLink "DrawingHouse$Stretch" (37 : Nat) "DrawingHouse$Stretch" "mark" "[I" : Cond) ∈ lw_g := lw_gi (lw_c6 (List.mem_of_getElem? (i := 7) rfl)) rfl
abbrev b_St_init : ByteArray := prog_12_method_1_code
def y_St_init : MethodName := ⟨"DrawingHouse$Stretch", "<init>", "()V"⟩
abbrev z_St_init : List Cond := Cond.code y_St_init b_St_init 1 none :: lw_g
theorem d_St_init_0 : decode b_St_init 0 = .ok (.aload_n 0, 1) := by decide +kernel
theorem d_St_init_1 : decode b_St_init 1 = .ok (.invokespecial 3, 3) := by decide +kernel
theorem d_St_init_4 : decode b_St_init 4 = .ok (.aload_n 0, 1) := by decide +kernel
theorem d_St_init_5 : decode b_St_init 5 = .ok (.iconst 0, 1) := by decide +kernel
theorem d_St_init_6 : decode b_St_init 6 = .ok (.putfield 9, 3) := by decide +kernel
theorem d_St_init_9 : decode b_St_init 9 = .ok (.aload_n 0, 1) := by decide +kernel
theorem d_St_init_10 : decode b_St_init 10 = .ok (.iconst 0, 1) := by decide +kernel
theorem d_St_init_11 : decode b_St_init 11 = .ok (.putfield 15, 3) := by decide +kernel
theorem d_St_init_14 : decode b_St_init 14 = .ok (.aload_n 0, 1) := by decide +kernel
theorem d_St_init_15 : decode b_St_init 15 = .ok (.sipush 384, 3) := by decide +kernel
theorem d_St_init_18 : decode b_St_init 18 = .ok (.newarray .int, 2) := by decide +kernel
theorem d_St_init_20 : decode b_St_init 20 = .ok (.putfield 18, 3) := by decide +kernel
theorem d_St_init_23 : decode b_St_init 23 = .ok (.aload_n 0, 1) := by decide +kernel
theorem d_St_init_24 : decode b_St_init 24 = .ok (.sipush 384, 3) := by decide +kernel
theorem d_St_init_27 : decode b_St_init 27 = .ok (.newarray .int, 2) := by decide +kernel
theorem d_St_init_29 : decode b_St_init 29 = .ok (.putfield 22, 3) := by decide +kernel
theorem d_St_init_32 : decode b_St_init 32 = .ok (.aload_n 0, 1) := by decide +kernel
theorem d_St_init_33 : decode b_St_init 33 = .ok (.sipush 384, 3) := by decide +kernel
theorem d_St_init_36 : decode b_St_init 36 = .ok (.newarray .int, 2) := by decide +kernel
theorem d_St_init_38 : decode b_St_init 38 = .ok (.putfield 25, 3) := by decide +kernel
theorem d_St_init_41 : decode b_St_init 41 = .ok (.aload_n 0, 1) := by decide +kernel
theorem d_St_init_42 : decode b_St_init 42 = .ok (.sipush 384, 3) := by decide +kernel
theorem d_St_init_45 : decode b_St_init 45 = .ok (.newarray .int, 2) := by decide +kernel
theorem d_St_init_47 : decode b_St_init 47 = .ok (.putfield 28, 3) := by decide +kernel
theorem d_St_init_50 : decode b_St_init 50 = .ok (.aload_n 0, 1) := by decide +kernel
theorem d_St_init_51 : decode b_St_init 51 = .ok (.bipush 72, 2) := by decide +kernel
theorem d_St_init_53 : decode b_St_init 53 = .ok (.newarray .int, 2) := by decide +kernel
theorem d_St_init_55 : decode b_St_init 55 = .ok (.putfield 31, 3) := by decide +kernel
theorem d_St_init_58 : decode b_St_init 58 = .ok (.aload_n 0, 1) := by decide +kernel
theorem d_St_init_59 : decode b_St_init 59 = .ok (.bipush 72, 2) := by decide +kernel
theorem d_St_init_61 : decode b_St_init 61 = .ok (.newarray .int, 2) := by decide +kernel
theorem d_St_init_63 : decode b_St_init 63 = .ok (.putfield 34, 3) := by decide +kernel
theorem d_St_init_66 : decode b_St_init 66 = .ok (.aload_n 0, 1) := by decide +kernel
theorem d_St_init_67 : decode b_St_init 67 = .ok (.bipush 72, 2) := by decide +kernel
theorem d_St_init_69 : decode b_St_init 69 = .ok (.newarray .int, 2) := by decide +kernel
theorem d_St_init_71 : decode b_St_init 71 = .ok (.putfield 37, 3) := by decide +kernel
theorem d_St_init_74 : decode b_St_init 74 = .ok (.return_, 1) := by decide +kernel
abbrev f0St : List Value := [.int 0, .int 0, .null, .null, .null, .null, .null, .null, .null]
set_option maxRecDepth 20000 in
theorem f0St_ok : ∀ j, j < 9 → defaultValue (t_St j) = vp_V f0St j := by decide +kernel
def wSt (kA : Nat → ClassId) (h : Nat) (q : Nat → Nat) (x : Nat → Int32) (a : Nat → Nat → Int32) : va_W := [(h, .inr (10, [.int (x 0), .int (x 1), .ref (q 2), .ref (q 3), .ref (q 4), .ref (q 5), .ref (q 6), .ref (q 7), .ref (q 8)])), (q 2, .inl (kA 0, 384, .inl (a 2))), (q 3, .inl (kA 0, 384, .inl (a 3))), (q 4, .inl (kA 0, 384, .inl (a 4))), (q 5, .inl (kA 0, 384, .inl (a 5))), (q 6, .inl (kA 0, 72, .inl (a 6))), (q 7, .inl (kA 0, 72, .inl (a 7))), (q 8, .inl (kA 0, 72, .inl (a 8)))]
def x0St : Nat → Int32 := fun _ => 0
def a0St : Nat → Nat → Int32 := fun _ => fun _ => 0
set_option maxRecDepth 100000 in
set_option maxHeartbeats 4000000 in
/-- DrawingHouse$Stretch()V -/
theorem c_St_init (l : Launch) (D : va_G) (kA : Nat → ClassId) (h : Nat) : Cv l y_St_init z_St_init { frames := 1, cells := 7, slots := 1752, locals := 12 } D classes (TY kA) [.ref h] [[(h, .inr (10, f0St))]] (fun u : (Nat → Nat) => True) (fun u => [wSt kA h u x0St a0St]) 7 1752 := by
  intro sz
  refine k_met (cc := b_St_init) (maxL := 1) (ret := none) (by decide) rfl (Nat.le_of_ble_eq_true rfl) (fun p e s m below meth c ls X hl hB => ?_)
  obtain ⟨hsz, hP, hK, hD0, hN⟩ := hB
  subst hsz
  have hD := hD0.self (sz := s.heap.size)
  generalize hAe : va_A (cat [[(h, .inr (10, [.int 0, .int 0, .null, .null, .null, .null, .null, .null, .null]))]]) s.heap.size = A at hD ⊢
  have hA : ∀ q : Nat, s.heap.size ≤ q → A q := fun q h => by rw [← hAe]; exact Or.inr h
  have hS : va_S A s.heap s.heap [] := va_S.rf
  obtain ⟨hx, hb, hml, hown, hts, hr, hlk, hnm⟩ := id X
  have hl : lv_has ls 1 [(0, .ref h)] := hl
  have hP : va_P D classes (cat [[(h, .inr (10, [.int 0, .int 0, .null, .null, .null, .null, .null, .null, .null]))]]) s.heap := hP
  have hK : va_K D classes (TY kA) s := hK
  refine lv_aload_n (pc := 0) hx hb d_St_init_0 rfl (lv_at hl 0 rfl) ?_
  refine W.objInit hx hb hown (hts _ wm_1197) (hts _ wm_31) (hts _ wm_32) rfl (by rw [hml]; exact hl.1) rfl d_St_init_1 (Nat.le_of_ble_eq_true rfl) (Nat.le_of_ble_eq_true rfl) ?_
  refine W.eq (g2 := F0 m 4 ls []) rfl ?_
  refine lv_aload_n (pc := 4) hx hb d_St_init_4 rfl (lv_at hl 0 rfl) ?_
  refine lv_iconst (pc := 5) (v := 0) hx hb d_St_init_5 (by decide) ?_
  refine k_put (pc := 6) X hK hP hD hS 0 rfl rfl i_St t_St t_St_ok n_St 0 (by decide) wm_1198 rfl (Or.inl rfl) rfl rfl (Nat.le_of_ble_eq_true rfl) d_St_init_6 (fun H locs hP hD hS => ?_)
  have hP : va_P D classes (cat [[(h, .inr (10, [.int 0, .int 0, .null, .null, .null, .null, .null, .null, .null]))]]) H := hP
  have hD : va_D A (cat [[(h, .inr (10, [.int 0, .int 0, .null, .null, .null, .null, .null, .null, .null]))]]) := hD
  refine lv_aload_n (pc := 9) hx hb d_St_init_9 rfl (lv_at hl 0 rfl) ?_
  refine lv_iconst (pc := 10) (v := 0) hx hb d_St_init_10 (by decide) ?_
  refine k_put (pc := 11) X hK hP hD hS 0 rfl rfl i_St t_St t_St_ok n_St 1 (by decide) wm_1199 rfl (Or.inl rfl) rfl rfl (Nat.le_of_ble_eq_true rfl) d_St_init_11 (fun H locs hP hD hS => ?_)
  have hP : va_P D classes (cat [[(h, .inr (10, [.int 0, .int 0, .null, .null, .null, .null, .null, .null, .null]))]]) H := hP
  have hD : va_D A (cat [[(h, .inr (10, [.int 0, .int 0, .null, .null, .null, .null, .null, .null, .null]))]]) := hD
  refine lv_aload_n (pc := 14) hx hb d_St_init_14 rfl (lv_at hl 0 rfl) ?_
  refine lv_sipush (pc := 15) (v := 384) hx hb d_St_init_15 (by decide) ?_
  refine k_newa (pc := 18) (atype := .int) X (ty := .int) (a0 := (384, .inl (fun _ => 0))) rfl rfl wm_193 hK hP hD hS hA 0 rfl (fun _ => rfl) (by decide) rfl (by decide) (Nat.le_of_ble_eq_true rfl) (Nat.le_of_ble_eq_true rfl) d_St_init_18 (fun q1 H hP hD hS => ?_)
  have hP : va_P D classes (cat [[(h, .inr (10, [.int 0, .int 0, .null, .null, .null, .null, .null, .null, .null]))], [(q1, .inl (kA 0, 384, .inl (fun _ => 0)))]]) H := hP
  have hD : va_D A (cat [[(h, .inr (10, [.int 0, .int 0, .null, .null, .null, .null, .null, .null, .null]))], [(q1, .inl (kA 0, 384, .inl (fun _ => 0)))]]) := hD
  refine W.widen (k := 1) (n := 384) (by omega) (by omega) ?_
  refine k_put (pc := 20) X hK hP hD hS 0 rfl rfl i_St t_St t_St_ok n_St 2 (by decide) wm_1200 rfl (Or.inr ⟨rfl, rfl⟩) rfl rfl (Nat.le_of_ble_eq_true rfl) d_St_init_20 (fun H locs hP hD hS => ?_)
  have hP : va_P D classes (cat [[(h, .inr (10, [.int 0, .int 0, .ref q1, .null, .null, .null, .null, .null, .null]))], [(q1, .inl (kA 0, 384, .inl (fun _ => 0)))]]) H := hP
  have hD : va_D A (cat [[(h, .inr (10, [.int 0, .int 0, .ref q1, .null, .null, .null, .null, .null, .null]))], [(q1, .inl (kA 0, 384, .inl (fun _ => 0)))]]) := hD
  refine lv_aload_n (pc := 23) hx hb d_St_init_23 rfl (lv_at hl 0 rfl) ?_
  refine lv_sipush (pc := 24) (v := 384) hx hb d_St_init_24 (by decide) ?_
  refine k_newa (pc := 27) (atype := .int) X (ty := .int) (a0 := (384, .inl (fun _ => 0))) rfl rfl wm_193 hK hP hD hS hA 0 rfl (fun _ => rfl) (by decide) rfl (by decide) (Nat.le_of_ble_eq_true rfl) (Nat.le_of_ble_eq_true rfl) d_St_init_27 (fun q2 H hP hD hS => ?_)
  have hP : va_P D classes (cat [[(h, .inr (10, [.int 0, .int 0, .ref q1, .null, .null, .null, .null, .null, .null]))], [(q1, .inl (kA 0, 384, .inl (fun _ => 0)))], [(q2, .inl (kA 0, 384, .inl (fun _ => 0)))]]) H := hP
  have hD : va_D A (cat [[(h, .inr (10, [.int 0, .int 0, .ref q1, .null, .null, .null, .null, .null, .null]))], [(q1, .inl (kA 0, 384, .inl (fun _ => 0)))], [(q2, .inl (kA 0, 384, .inl (fun _ => 0)))]]) := hD
  refine W.widen (k := 2) (n := 768) (by omega) (by omega) ?_
  refine k_put (pc := 29) X hK hP hD hS 0 rfl rfl i_St t_St t_St_ok n_St 3 (by decide) wm_1201 rfl (Or.inr ⟨rfl, rfl⟩) rfl rfl (Nat.le_of_ble_eq_true rfl) d_St_init_29 (fun H locs hP hD hS => ?_)
  have hP : va_P D classes (cat [[(h, .inr (10, [.int 0, .int 0, .ref q1, .ref q2, .null, .null, .null, .null, .null]))], [(q1, .inl (kA 0, 384, .inl (fun _ => 0)))], [(q2, .inl (kA 0, 384, .inl (fun _ => 0)))]]) H := hP
  have hD : va_D A (cat [[(h, .inr (10, [.int 0, .int 0, .ref q1, .ref q2, .null, .null, .null, .null, .null]))], [(q1, .inl (kA 0, 384, .inl (fun _ => 0)))], [(q2, .inl (kA 0, 384, .inl (fun _ => 0)))]]) := hD
  refine lv_aload_n (pc := 32) hx hb d_St_init_32 rfl (lv_at hl 0 rfl) ?_
  refine lv_sipush (pc := 33) (v := 384) hx hb d_St_init_33 (by decide) ?_
  refine k_newa (pc := 36) (atype := .int) X (ty := .int) (a0 := (384, .inl (fun _ => 0))) rfl rfl wm_193 hK hP hD hS hA 0 rfl (fun _ => rfl) (by decide) rfl (by decide) (Nat.le_of_ble_eq_true rfl) (Nat.le_of_ble_eq_true rfl) d_St_init_36 (fun q3 H hP hD hS => ?_)
  have hP : va_P D classes (cat [[(h, .inr (10, [.int 0, .int 0, .ref q1, .ref q2, .null, .null, .null, .null, .null]))], [(q1, .inl (kA 0, 384, .inl (fun _ => 0)))], [(q2, .inl (kA 0, 384, .inl (fun _ => 0)))], [(q3, .inl (kA 0, 384, .inl (fun _ => 0)))]]) H := hP
  have hD : va_D A (cat [[(h, .inr (10, [.int 0, .int 0, .ref q1, .ref q2, .null, .null, .null, .null, .null]))], [(q1, .inl (kA 0, 384, .inl (fun _ => 0)))], [(q2, .inl (kA 0, 384, .inl (fun _ => 0)))], [(q3, .inl (kA 0, 384, .inl (fun _ => 0)))]]) := hD
  refine W.widen (k := 3) (n := 1152) (by omega) (by omega) ?_
  refine k_put (pc := 38) X hK hP hD hS 0 rfl rfl i_St t_St t_St_ok n_St 4 (by decide) wm_1202 rfl (Or.inr ⟨rfl, rfl⟩) rfl rfl (Nat.le_of_ble_eq_true rfl) d_St_init_38 (fun H locs hP hD hS => ?_)
  have hP : va_P D classes (cat [[(h, .inr (10, [.int 0, .int 0, .ref q1, .ref q2, .ref q3, .null, .null, .null, .null]))], [(q1, .inl (kA 0, 384, .inl (fun _ => 0)))], [(q2, .inl (kA 0, 384, .inl (fun _ => 0)))], [(q3, .inl (kA 0, 384, .inl (fun _ => 0)))]]) H := hP
  have hD : va_D A (cat [[(h, .inr (10, [.int 0, .int 0, .ref q1, .ref q2, .ref q3, .null, .null, .null, .null]))], [(q1, .inl (kA 0, 384, .inl (fun _ => 0)))], [(q2, .inl (kA 0, 384, .inl (fun _ => 0)))], [(q3, .inl (kA 0, 384, .inl (fun _ => 0)))]]) := hD
  refine lv_aload_n (pc := 41) hx hb d_St_init_41 rfl (lv_at hl 0 rfl) ?_
  refine lv_sipush (pc := 42) (v := 384) hx hb d_St_init_42 (by decide) ?_
  refine k_newa (pc := 45) (atype := .int) X (ty := .int) (a0 := (384, .inl (fun _ => 0))) rfl rfl wm_193 hK hP hD hS hA 0 rfl (fun _ => rfl) (by decide) rfl (by decide) (Nat.le_of_ble_eq_true rfl) (Nat.le_of_ble_eq_true rfl) d_St_init_45 (fun q4 H hP hD hS => ?_)
  have hP : va_P D classes (cat [[(h, .inr (10, [.int 0, .int 0, .ref q1, .ref q2, .ref q3, .null, .null, .null, .null]))], [(q1, .inl (kA 0, 384, .inl (fun _ => 0)))], [(q2, .inl (kA 0, 384, .inl (fun _ => 0)))], [(q3, .inl (kA 0, 384, .inl (fun _ => 0)))], [(q4, .inl (kA 0, 384, .inl (fun _ => 0)))]]) H := hP
  have hD : va_D A (cat [[(h, .inr (10, [.int 0, .int 0, .ref q1, .ref q2, .ref q3, .null, .null, .null, .null]))], [(q1, .inl (kA 0, 384, .inl (fun _ => 0)))], [(q2, .inl (kA 0, 384, .inl (fun _ => 0)))], [(q3, .inl (kA 0, 384, .inl (fun _ => 0)))], [(q4, .inl (kA 0, 384, .inl (fun _ => 0)))]]) := hD
  refine W.widen (k := 4) (n := 1536) (by omega) (by omega) ?_
  refine k_put (pc := 47) X hK hP hD hS 0 rfl rfl i_St t_St t_St_ok n_St 5 (by decide) wm_1203 rfl (Or.inr ⟨rfl, rfl⟩) rfl rfl (Nat.le_of_ble_eq_true rfl) d_St_init_47 (fun H locs hP hD hS => ?_)
  have hP : va_P D classes (cat [[(h, .inr (10, [.int 0, .int 0, .ref q1, .ref q2, .ref q3, .ref q4, .null, .null, .null]))], [(q1, .inl (kA 0, 384, .inl (fun _ => 0)))], [(q2, .inl (kA 0, 384, .inl (fun _ => 0)))], [(q3, .inl (kA 0, 384, .inl (fun _ => 0)))], [(q4, .inl (kA 0, 384, .inl (fun _ => 0)))]]) H := hP
  have hD : va_D A (cat [[(h, .inr (10, [.int 0, .int 0, .ref q1, .ref q2, .ref q3, .ref q4, .null, .null, .null]))], [(q1, .inl (kA 0, 384, .inl (fun _ => 0)))], [(q2, .inl (kA 0, 384, .inl (fun _ => 0)))], [(q3, .inl (kA 0, 384, .inl (fun _ => 0)))], [(q4, .inl (kA 0, 384, .inl (fun _ => 0)))]]) := hD
  refine lv_aload_n (pc := 50) hx hb d_St_init_50 rfl (lv_at hl 0 rfl) ?_
  refine lv_bipush (pc := 51) (v := 72) hx hb d_St_init_51 (by decide) ?_
  refine k_newa (pc := 53) (atype := .int) X (ty := .int) (a0 := (72, .inl (fun _ => 0))) rfl rfl wm_193 hK hP hD hS hA 0 rfl (fun _ => rfl) (by decide) rfl (by decide) (Nat.le_of_ble_eq_true rfl) (Nat.le_of_ble_eq_true rfl) d_St_init_53 (fun q5 H hP hD hS => ?_)
  have hP : va_P D classes (cat [[(h, .inr (10, [.int 0, .int 0, .ref q1, .ref q2, .ref q3, .ref q4, .null, .null, .null]))], [(q1, .inl (kA 0, 384, .inl (fun _ => 0)))], [(q2, .inl (kA 0, 384, .inl (fun _ => 0)))], [(q3, .inl (kA 0, 384, .inl (fun _ => 0)))], [(q4, .inl (kA 0, 384, .inl (fun _ => 0)))], [(q5, .inl (kA 0, 72, .inl (fun _ => 0)))]]) H := hP
  have hD : va_D A (cat [[(h, .inr (10, [.int 0, .int 0, .ref q1, .ref q2, .ref q3, .ref q4, .null, .null, .null]))], [(q1, .inl (kA 0, 384, .inl (fun _ => 0)))], [(q2, .inl (kA 0, 384, .inl (fun _ => 0)))], [(q3, .inl (kA 0, 384, .inl (fun _ => 0)))], [(q4, .inl (kA 0, 384, .inl (fun _ => 0)))], [(q5, .inl (kA 0, 72, .inl (fun _ => 0)))]]) := hD
  refine W.widen (k := 5) (n := 1608) (by omega) (by omega) ?_
  refine k_put (pc := 55) X hK hP hD hS 0 rfl rfl i_St t_St t_St_ok n_St 6 (by decide) wm_1204 rfl (Or.inr ⟨rfl, rfl⟩) rfl rfl (Nat.le_of_ble_eq_true rfl) d_St_init_55 (fun H locs hP hD hS => ?_)
  have hP : va_P D classes (cat [[(h, .inr (10, [.int 0, .int 0, .ref q1, .ref q2, .ref q3, .ref q4, .ref q5, .null, .null]))], [(q1, .inl (kA 0, 384, .inl (fun _ => 0)))], [(q2, .inl (kA 0, 384, .inl (fun _ => 0)))], [(q3, .inl (kA 0, 384, .inl (fun _ => 0)))], [(q4, .inl (kA 0, 384, .inl (fun _ => 0)))], [(q5, .inl (kA 0, 72, .inl (fun _ => 0)))]]) H := hP
  have hD : va_D A (cat [[(h, .inr (10, [.int 0, .int 0, .ref q1, .ref q2, .ref q3, .ref q4, .ref q5, .null, .null]))], [(q1, .inl (kA 0, 384, .inl (fun _ => 0)))], [(q2, .inl (kA 0, 384, .inl (fun _ => 0)))], [(q3, .inl (kA 0, 384, .inl (fun _ => 0)))], [(q4, .inl (kA 0, 384, .inl (fun _ => 0)))], [(q5, .inl (kA 0, 72, .inl (fun _ => 0)))]]) := hD
  refine lv_aload_n (pc := 58) hx hb d_St_init_58 rfl (lv_at hl 0 rfl) ?_
  refine lv_bipush (pc := 59) (v := 72) hx hb d_St_init_59 (by decide) ?_
  refine k_newa (pc := 61) (atype := .int) X (ty := .int) (a0 := (72, .inl (fun _ => 0))) rfl rfl wm_193 hK hP hD hS hA 0 rfl (fun _ => rfl) (by decide) rfl (by decide) (Nat.le_of_ble_eq_true rfl) (Nat.le_of_ble_eq_true rfl) d_St_init_61 (fun q6 H hP hD hS => ?_)
  have hP : va_P D classes (cat [[(h, .inr (10, [.int 0, .int 0, .ref q1, .ref q2, .ref q3, .ref q4, .ref q5, .null, .null]))], [(q1, .inl (kA 0, 384, .inl (fun _ => 0)))], [(q2, .inl (kA 0, 384, .inl (fun _ => 0)))], [(q3, .inl (kA 0, 384, .inl (fun _ => 0)))], [(q4, .inl (kA 0, 384, .inl (fun _ => 0)))], [(q5, .inl (kA 0, 72, .inl (fun _ => 0)))], [(q6, .inl (kA 0, 72, .inl (fun _ => 0)))]]) H := hP
  have hD : va_D A (cat [[(h, .inr (10, [.int 0, .int 0, .ref q1, .ref q2, .ref q3, .ref q4, .ref q5, .null, .null]))], [(q1, .inl (kA 0, 384, .inl (fun _ => 0)))], [(q2, .inl (kA 0, 384, .inl (fun _ => 0)))], [(q3, .inl (kA 0, 384, .inl (fun _ => 0)))], [(q4, .inl (kA 0, 384, .inl (fun _ => 0)))], [(q5, .inl (kA 0, 72, .inl (fun _ => 0)))], [(q6, .inl (kA 0, 72, .inl (fun _ => 0)))]]) := hD
  refine W.widen (k := 6) (n := 1680) (by omega) (by omega) ?_
  refine k_put (pc := 63) X hK hP hD hS 0 rfl rfl i_St t_St t_St_ok n_St 7 (by decide) wm_1206 rfl (Or.inr ⟨rfl, rfl⟩) rfl rfl (Nat.le_of_ble_eq_true rfl) d_St_init_63 (fun H locs hP hD hS => ?_)
  have hP : va_P D classes (cat [[(h, .inr (10, [.int 0, .int 0, .ref q1, .ref q2, .ref q3, .ref q4, .ref q5, .ref q6, .null]))], [(q1, .inl (kA 0, 384, .inl (fun _ => 0)))], [(q2, .inl (kA 0, 384, .inl (fun _ => 0)))], [(q3, .inl (kA 0, 384, .inl (fun _ => 0)))], [(q4, .inl (kA 0, 384, .inl (fun _ => 0)))], [(q5, .inl (kA 0, 72, .inl (fun _ => 0)))], [(q6, .inl (kA 0, 72, .inl (fun _ => 0)))]]) H := hP
  have hD : va_D A (cat [[(h, .inr (10, [.int 0, .int 0, .ref q1, .ref q2, .ref q3, .ref q4, .ref q5, .ref q6, .null]))], [(q1, .inl (kA 0, 384, .inl (fun _ => 0)))], [(q2, .inl (kA 0, 384, .inl (fun _ => 0)))], [(q3, .inl (kA 0, 384, .inl (fun _ => 0)))], [(q4, .inl (kA 0, 384, .inl (fun _ => 0)))], [(q5, .inl (kA 0, 72, .inl (fun _ => 0)))], [(q6, .inl (kA 0, 72, .inl (fun _ => 0)))]]) := hD
  refine lv_aload_n (pc := 66) hx hb d_St_init_66 rfl (lv_at hl 0 rfl) ?_
  refine lv_bipush (pc := 67) (v := 72) hx hb d_St_init_67 (by decide) ?_
  refine k_newa (pc := 69) (atype := .int) X (ty := .int) (a0 := (72, .inl (fun _ => 0))) rfl rfl wm_193 hK hP hD hS hA 0 rfl (fun _ => rfl) (by decide) rfl (by decide) (Nat.le_of_ble_eq_true rfl) (Nat.le_of_ble_eq_true rfl) d_St_init_69 (fun q7 H hP hD hS => ?_)
  have hP : va_P D classes (cat [[(h, .inr (10, [.int 0, .int 0, .ref q1, .ref q2, .ref q3, .ref q4, .ref q5, .ref q6, .null]))], [(q1, .inl (kA 0, 384, .inl (fun _ => 0)))], [(q2, .inl (kA 0, 384, .inl (fun _ => 0)))], [(q3, .inl (kA 0, 384, .inl (fun _ => 0)))], [(q4, .inl (kA 0, 384, .inl (fun _ => 0)))], [(q5, .inl (kA 0, 72, .inl (fun _ => 0)))], [(q6, .inl (kA 0, 72, .inl (fun _ => 0)))], [(q7, .inl (kA 0, 72, .inl (fun _ => 0)))]]) H := hP
  have hD : va_D A (cat [[(h, .inr (10, [.int 0, .int 0, .ref q1, .ref q2, .ref q3, .ref q4, .ref q5, .ref q6, .null]))], [(q1, .inl (kA 0, 384, .inl (fun _ => 0)))], [(q2, .inl (kA 0, 384, .inl (fun _ => 0)))], [(q3, .inl (kA 0, 384, .inl (fun _ => 0)))], [(q4, .inl (kA 0, 384, .inl (fun _ => 0)))], [(q5, .inl (kA 0, 72, .inl (fun _ => 0)))], [(q6, .inl (kA 0, 72, .inl (fun _ => 0)))], [(q7, .inl (kA 0, 72, .inl (fun _ => 0)))]]) := hD
  refine W.widen (k := 7) (n := 1752) (by omega) (by omega) ?_
  refine k_put (pc := 71) X hK hP hD hS 0 rfl rfl i_St t_St t_St_ok n_St 8 (by decide) wm_1207 rfl (Or.inr ⟨rfl, rfl⟩) rfl rfl (Nat.le_of_ble_eq_true rfl) d_St_init_71 (fun H locs hP hD hS => ?_)
  have hP : va_P D classes (cat [[(h, .inr (10, [.int 0, .int 0, .ref q1, .ref q2, .ref q3, .ref q4, .ref q5, .ref q6, .ref q7]))], [(q1, .inl (kA 0, 384, .inl (fun _ => 0)))], [(q2, .inl (kA 0, 384, .inl (fun _ => 0)))], [(q3, .inl (kA 0, 384, .inl (fun _ => 0)))], [(q4, .inl (kA 0, 384, .inl (fun _ => 0)))], [(q5, .inl (kA 0, 72, .inl (fun _ => 0)))], [(q6, .inl (kA 0, 72, .inl (fun _ => 0)))], [(q7, .inl (kA 0, 72, .inl (fun _ => 0)))]]) H := hP
  have hD : va_D A (cat [[(h, .inr (10, [.int 0, .int 0, .ref q1, .ref q2, .ref q3, .ref q4, .ref q5, .ref q6, .ref q7]))], [(q1, .inl (kA 0, 384, .inl (fun _ => 0)))], [(q2, .inl (kA 0, 384, .inl (fun _ => 0)))], [(q3, .inl (kA 0, 384, .inl (fun _ => 0)))], [(q4, .inl (kA 0, 384, .inl (fun _ => 0)))], [(q5, .inl (kA 0, 72, .inl (fun _ => 0)))], [(q6, .inl (kA 0, 72, .inl (fun _ => 0)))], [(q7, .inl (kA 0, 72, .inl (fun _ => 0)))]]) := hD
  obtain ⟨hP, hD⟩ := k_ord (gc := [[(h, .inr (10, [.int 0, .int 0, .ref q1, .ref q2, .ref q3, .ref q4, .ref q5, .ref q6, .ref q7]))], [(q1, .inl (kA 0, 384, .inl (fun _ => 0)))], [(q2, .inl (kA 0, 384, .inl (fun _ => 0)))], [(q3, .inl (kA 0, 384, .inl (fun _ => 0)))], [(q4, .inl (kA 0, 384, .inl (fun _ => 0)))], [(q5, .inl (kA 0, 72, .inl (fun _ => 0)))], [(q6, .inl (kA 0, 72, .inl (fun _ => 0)))], [(q7, .inl (kA 0, 72, .inl (fun _ => 0)))]]) hP hD [0, 1, 2, 3, 4, 5, 6, 7] 8 rfl (by decide) rfl
  refine W.widen (k := 7) (n := 1752) (Nat.le_of_ble_eq_true rfl) (Nat.le_of_ble_eq_true rfl) ?_
  exact W.vret hx hb hr (fun t ht hW => ⟨⟨(fun k => match k with | 2 => q1 | 3 => q2 | 4 => q3 | 5 => q4 | 6 => q5 | 7 => q6 | 8 => q7 | _ => 0), rfl, trivial, by rw [ht]; exact hP, va_K.moved hW.alike hK, hD⟩, hS.F ht⟩) hS.2.2 d_St_init_74
