theorem wm_1864 : (Cond.code ({ cls := "DrawingHouse$Router", name := "<init>", desc := "()V" } : MethodName) prog_11_method_1_code (1 : Nat) (Option.none : Option ClassFile.FieldType) : Cond) ∈ lw_g := lw_gi (lw_c8 (List.mem_of_getElem? (i := 184) rfl)) rfl
theorem wm_1865 : (Cond.methodLink "DrawingHouse$Router" (3 : Nat) ({ cls := "java/lang/Object", name := "<init>", desc := "()V" } : MethodName) : Cond) ∈ lw_g := lw_gi (lw_c8 (List.mem_of_getElem? (i := 185) rfl)) rfl
theorem wm_1866 : (Cond.constant "DrawingHouse$Router" (52 : Nat) (48004 : Int32) : Cond) ∈ lw_g := lw_gi (lw_c8 (List.mem_of_getElem? (i := 186) rfl)) rfl
theorem wm_1867 : (Cond.fieldLink "DrawingHouse$Router" (9 : Nat) "DrawingHouse$Router" "graph" "LDrawingHouse$Graph;" : Cond) ∈ lw_g := lw_gi (lw_c8 (List.mem_of_getElem? (i := 187) rfl)) rfl
theorem wm_1868 : (Cond.fieldLink "DrawingHouse$Router" (15 : Nat) "DrawingHouse$Router" "drawing" "LDrawingHouse$Drawing;" : Cond) ∈ lw_g := lw_gi (lw_c8 (List.mem_of_getElem? (i := 188) rfl)) rfl
theorem wm_1869 : (Cond.fieldLink "DrawingHouse$Router" (19 : Nat) "DrawingHouse$Router" "left" "I" : Cond) ∈ lw_g := lw_gi (lw_c8 (List.mem_of_getElem? (i := 189) rfl)) rfl
theorem wm_1870 : (Cond.fieldLink "DrawingHouse$Router" (23 : Nat) "DrawingHouse$Router" "top" "I" : Cond) ∈ lw_g := lw_gi (lw_c8 (List.mem_of_getElem? (i := 190) rfl)) rfl
theorem wm_1871 : (Cond.fieldLink "DrawingHouse$Router" (26 : Nat) "DrawingHouse$Router" "width" "I" : Cond) ∈ lw_g := lw_gi (lw_c8 (List.mem_of_getElem? (i := 191) rfl)) rfl
theorem wm_1872 : (Cond.fieldLink "DrawingHouse$Router" (29 : Nat) "DrawingHouse$Router" "height" "I" : Cond) ∈ lw_g := lw_gi (lw_c8 (List.mem_of_getElem? (i := 192) rfl)) rfl
theorem wm_1873 : (Cond.fieldLink "DrawingHouse$Router" (32 : Nat) "DrawingHouse$Router" "start" "I" : Cond) ∈ lw_g := lw_gi (lw_c8 (List.mem_of_getElem? (i := 193) rfl)) rfl
theorem wm_1874 : (Cond.fieldLink "DrawingHouse$Router" (35 : Nat) "DrawingHouse$Router" "goal" "I" : Cond) ∈ lw_g := lw_gi (lw_c8 (List.mem_of_getElem? (i := 194) rfl)) rfl
theorem wm_1875 : (Cond.fieldLink "DrawingHouse$Router" (38 : Nat) "DrawingHouse$Router" "whole" "I" : Cond) ∈ lw_g := lw_gi (lw_c8 (List.mem_of_getElem? (i := 195) rfl)) rfl
theorem wm_1876 : (Cond.fieldLink "DrawingHouse$Router" (41 : Nat) "DrawingHouse$Router" "barred" "[Z" : Cond) ∈ lw_g := lw_gi (lw_c8 (List.mem_of_getElem? (i := 196) rfl)) rfl
theorem wm_1877 : (Cond.fieldLink "DrawingHouse$Router" (45 : Nat) "DrawingHouse$Router" "cost" "[I" : Cond) ∈ lw_g := lw_gi (lw_c8 (List.mem_of_getElem? (i := 197) rfl)) rfl
theorem wm_1878 : (Cond.fieldLink "DrawingHouse$Router" (49 : Nat) "DrawingHouse$Router" "list" "[I" : Cond) ∈ lw_g := lw_gi (lw_c8 (List.mem_of_getElem? (i := 198) rfl)) rfl
theorem wm_1879 : (Cond.fieldLink "DrawingHouse$Router" (53 : Nat) "DrawingHouse$Router" "entryState" "[I" : Cond) ∈ lw_g := lw_gi (lw_c8 (List.mem_of_getElem? (i := 199) rfl)) rfl
theorem wm_1880 : (Cond.fieldLink "DrawingHouse$Router" (56 : Nat) "DrawingHouse$Router" "entryNext" "[I" : Cond) ∈ lw_g := lw_gi (lw_c8 (List.mem_of_getElem? (i := 200) rfl)) rfl
theorem wm_1881 : (Cond.fieldLink "DrawingHouse$Router" (59 : Nat) "DrawingHouse$Router" "entries" "I" : Cond) ∈ lw_g := lw_gi (lw_c8 (List.mem_of_getElem? (i := 201) rfl)) rfl
theorem wm_1882 : (Cond.fieldLink "DrawingHouse$Router" (62 : Nat) "DrawingHouse$Router" "turnX" "[I" : Cond) ∈ lw_g := lw_gi (lw_c8 (List.mem_of_getElem? (i := 202) rfl)) rfl
theorem wm_1883 : (Cond.fieldLink "DrawingHouse$Router" (65 : Nat) "DrawingHouse$Router" "turnY" "[I" : Cond) ∈ lw_g := lw_gi (lw_c8 (List.mem_of_getElem? (i := 203) rfl)) rfl
theorem wm_1884 : (Cond.fieldLink "DrawingHouse$Router" (68 : Nat) "DrawingHouse$Router" "turns" "I" : Cond) ∈ lw_g := lw_gi (lw_c8 (List.mem_of_getElem? (i := 204) rfl)) rfl
abbrev b_Ro_init : ByteArray := prog_11_method_1_code
def y_Ro_init : MethodName := ⟨"DrawingHouse$Router", "<init>", "()V"⟩
abbrev z_Ro_init : List Cond := Cond.code y_Ro_init b_Ro_init 1 none :: lw_g
theorem d_Ro_init_0 : decode b_Ro_init 0 = .ok (.aload_n 0, 1) := by decide +kernel
theorem d_Ro_init_1 : decode b_Ro_init 1 = .ok (.invokespecial 3, 3) := by decide +kernel
theorem d_Ro_init_4 : decode b_Ro_init 4 = .ok (.aload_n 0, 1) := by decide +kernel
theorem d_Ro_init_5 : decode b_Ro_init 5 = .ok (.aconst_null, 1) := by decide +kernel
theorem d_Ro_init_6 : decode b_Ro_init 6 = .ok (.putfield 9, 3) := by decide +kernel
theorem d_Ro_init_9 : decode b_Ro_init 9 = .ok (.aload_n 0, 1) := by decide +kernel
theorem d_Ro_init_10 : decode b_Ro_init 10 = .ok (.aconst_null, 1) := by decide +kernel
theorem d_Ro_init_11 : decode b_Ro_init 11 = .ok (.putfield 15, 3) := by decide +kernel
theorem d_Ro_init_14 : decode b_Ro_init 14 = .ok (.aload_n 0, 1) := by decide +kernel
theorem d_Ro_init_15 : decode b_Ro_init 15 = .ok (.iconst 0, 1) := by decide +kernel
theorem d_Ro_init_16 : decode b_Ro_init 16 = .ok (.putfield 19, 3) := by decide +kernel
theorem d_Ro_init_19 : decode b_Ro_init 19 = .ok (.aload_n 0, 1) := by decide +kernel
theorem d_Ro_init_20 : decode b_Ro_init 20 = .ok (.iconst 0, 1) := by decide +kernel
theorem d_Ro_init_21 : decode b_Ro_init 21 = .ok (.putfield 23, 3) := by decide +kernel
theorem d_Ro_init_24 : decode b_Ro_init 24 = .ok (.aload_n 0, 1) := by decide +kernel
theorem d_Ro_init_25 : decode b_Ro_init 25 = .ok (.iconst 0, 1) := by decide +kernel
theorem d_Ro_init_26 : decode b_Ro_init 26 = .ok (.putfield 26, 3) := by decide +kernel
theorem d_Ro_init_29 : decode b_Ro_init 29 = .ok (.aload_n 0, 1) := by decide +kernel
theorem d_Ro_init_30 : decode b_Ro_init 30 = .ok (.iconst 0, 1) := by decide +kernel
theorem d_Ro_init_31 : decode b_Ro_init 31 = .ok (.putfield 29, 3) := by decide +kernel
theorem d_Ro_init_34 : decode b_Ro_init 34 = .ok (.aload_n 0, 1) := by decide +kernel
theorem d_Ro_init_35 : decode b_Ro_init 35 = .ok (.iconst 0, 1) := by decide +kernel
theorem d_Ro_init_36 : decode b_Ro_init 36 = .ok (.putfield 32, 3) := by decide +kernel
theorem d_Ro_init_39 : decode b_Ro_init 39 = .ok (.aload_n 0, 1) := by decide +kernel
theorem d_Ro_init_40 : decode b_Ro_init 40 = .ok (.iconst 0, 1) := by decide +kernel
theorem d_Ro_init_41 : decode b_Ro_init 41 = .ok (.putfield 35, 3) := by decide +kernel
theorem d_Ro_init_44 : decode b_Ro_init 44 = .ok (.aload_n 0, 1) := by decide +kernel
theorem d_Ro_init_45 : decode b_Ro_init 45 = .ok (.iconst 0, 1) := by decide +kernel
theorem d_Ro_init_46 : decode b_Ro_init 46 = .ok (.putfield 38, 3) := by decide +kernel
theorem d_Ro_init_49 : decode b_Ro_init 49 = .ok (.aload_n 0, 1) := by decide +kernel
theorem d_Ro_init_50 : decode b_Ro_init 50 = .ok (.sipush 6000, 3) := by decide +kernel
theorem d_Ro_init_53 : decode b_Ro_init 53 = .ok (.newarray .boolean, 2) := by decide +kernel
theorem d_Ro_init_55 : decode b_Ro_init 55 = .ok (.putfield 41, 3) := by decide +kernel
theorem d_Ro_init_58 : decode b_Ro_init 58 = .ok (.aload_n 0, 1) := by decide +kernel
theorem d_Ro_init_59 : decode b_Ro_init 59 = .ok (.sipush 24000, 3) := by decide +kernel
theorem d_Ro_init_62 : decode b_Ro_init 62 = .ok (.newarray .int, 2) := by decide +kernel
theorem d_Ro_init_64 : decode b_Ro_init 64 = .ok (.putfield 45, 3) := by decide +kernel
theorem d_Ro_init_67 : decode b_Ro_init 67 = .ok (.aload_n 0, 1) := by decide +kernel
theorem d_Ro_init_68 : decode b_Ro_init 68 = .ok (.iconst 4, 1) := by decide +kernel
theorem d_Ro_init_69 : decode b_Ro_init 69 = .ok (.newarray .int, 2) := by decide +kernel
theorem d_Ro_init_71 : decode b_Ro_init 71 = .ok (.putfield 49, 3) := by decide +kernel
theorem d_Ro_init_74 : decode b_Ro_init 74 = .ok (.aload_n 0, 1) := by decide +kernel
theorem d_Ro_init_75 : decode b_Ro_init 75 = .ok (.ldc 52, 2) := by decide +kernel
theorem d_Ro_init_77 : decode b_Ro_init 77 = .ok (.newarray .int, 2) := by decide +kernel
theorem d_Ro_init_79 : decode b_Ro_init 79 = .ok (.putfield 53, 3) := by decide +kernel
theorem d_Ro_init_82 : decode b_Ro_init 82 = .ok (.aload_n 0, 1) := by decide +kernel
theorem d_Ro_init_83 : decode b_Ro_init 83 = .ok (.ldc 52, 2) := by decide +kernel
theorem d_Ro_init_85 : decode b_Ro_init 85 = .ok (.newarray .int, 2) := by decide +kernel
theorem d_Ro_init_87 : decode b_Ro_init 87 = .ok (.putfield 56, 3) := by decide +kernel
theorem d_Ro_init_90 : decode b_Ro_init 90 = .ok (.aload_n 0, 1) := by decide +kernel
theorem d_Ro_init_91 : decode b_Ro_init 91 = .ok (.iconst 0, 1) := by decide +kernel
theorem d_Ro_init_92 : decode b_Ro_init 92 = .ok (.putfield 59, 3) := by decide +kernel
theorem d_Ro_init_95 : decode b_Ro_init 95 = .ok (.aload_n 0, 1) := by decide +kernel
theorem d_Ro_init_96 : decode b_Ro_init 96 = .ok (.bipush 24, 2) := by decide +kernel
theorem d_Ro_init_98 : decode b_Ro_init 98 = .ok (.newarray .int, 2) := by decide +kernel
theorem d_Ro_init_100 : decode b_Ro_init 100 = .ok (.putfield 62, 3) := by decide +kernel
theorem d_Ro_init_103 : decode b_Ro_init 103 = .ok (.aload_n 0, 1) := by decide +kernel
theorem d_Ro_init_104 : decode b_Ro_init 104 = .ok (.bipush 24, 2) := by decide +kernel
theorem d_Ro_init_106 : decode b_Ro_init 106 = .ok (.newarray .int, 2) := by decide +kernel
theorem d_Ro_init_108 : decode b_Ro_init 108 = .ok (.putfield 65, 3) := by decide +kernel
theorem d_Ro_init_111 : decode b_Ro_init 111 = .ok (.aload_n 0, 1) := by decide +kernel
theorem d_Ro_init_112 : decode b_Ro_init 112 = .ok (.iconst 0, 1) := by decide +kernel
theorem d_Ro_init_113 : decode b_Ro_init 113 = .ok (.putfield 68, 3) := by decide +kernel
theorem d_Ro_init_116 : decode b_Ro_init 116 = .ok (.return_, 1) := by decide +kernel
abbrev f0Ro : List Value := [.null, .null, .int 0, .int 0, .int 0, .int 0, .int 0, .int 0, .int 0, .null, .null, .null, .null, .null, .int 0, .null, .null, .int 0]
set_option maxRecDepth 20000 in
theorem f0Ro_ok : ∀ j, j < 18 → defaultValue (t_Ro j) = vp_V f0Ro j := by decide +kernel
def wRo (kA : Nat → ClassId) (h : Nat) (q : Nat → Nat) (x : Nat → Int32) (a : Nat → Nat → Int32) (o0 : Option Nat) (o1 : Option Nat) : va_W := [(h, .inr (9, [va_rf o0, va_rf o1, .int (x 2), .int (x 3), .int (x 4), .int (x 5), .int (x 6), .int (x 7), .int (x 8), .ref (q 9), .ref (q 10), .ref (q 11), .ref (q 12), .ref (q 13), .int (x 14), .ref (q 15), .ref (q 16), .int (x 17)])), (q 9, .inl (kA 2, 6000, .inl (a 9))), (q 10, .inl (kA 0, 24000, .inl (a 10))), (q 11, .inl (kA 0, 4, .inl (a 11))), (q 12, .inl (kA 0, 48004, .inl (a 12))), (q 13, .inl (kA 0, 48004, .inl (a 13))), (q 15, .inl (kA 0, 24, .inl (a 15))), (q 16, .inl (kA 0, 24, .inl (a 16)))]
def x0Ro : Nat → Int32 := fun _ => 0
def a0Ro : Nat → Nat → Int32 := fun _ => fun _ => 0
set_option maxRecDepth 100000 in
set_option maxHeartbeats 4000000 in
/-- DrawingHouse$Router()V -/
theorem c_Ro_init (l : Launch) (D : va_G) (kA : Nat → ClassId) (h : Nat) : Cv l y_Ro_init z_Ro_init { frames := 1, cells := 7, slots := 126060, locals := 12 } D classes (TY kA) [.ref h] [[(h, .inr (9, f0Ro))]] (fun u : (Nat → Nat) => True) (fun u => [wRo kA h u x0Ro a0Ro none none]) 7 126060 := by
  intro sz
  refine k_met (cc := b_Ro_init) (maxL := 1) (ret := none) (by decide) rfl (Nat.le_of_ble_eq_true rfl) (fun p e s m below meth c ls X hl hB => ?_)
  obtain ⟨hsz, hP, hK, hD0, hN⟩ := hB
  subst hsz
  have hD := hD0.self (sz := s.heap.size)
  generalize hAe : va_A (cat [[(h, .inr (9, [.null, .null, .int 0, .int 0, .int 0, .int 0, .int 0, .int 0, .int 0, .null, .null, .null, .null, .null, .int 0, .null, .null, .int 0]))]]) s.heap.size = A at hD ⊢
  have hA : ∀ q : Nat, s.heap.size ≤ q → A q := fun q h => by rw [← hAe]; exact Or.inr h
  have hS : va_S A s.heap s.heap [] := va_S.rf
  obtain ⟨hx, hb, hml, hown, hts, hr, hlk, hnm⟩ := id X
  have hl : lv_has ls 1 [(0, .ref h)] := hl
  have hP : va_P D classes (cat [[(h, .inr (9, [.null, .null, .int 0, .int 0, .int 0, .int 0, .int 0, .int 0, .int 0, .null, .null, .null, .null, .null, .int 0, .null, .null, .int 0]))]]) s.heap := hP
  have hK : va_K D classes (TY kA) s := hK
  refine lv_aload_n (pc := 0) hx hb d_Ro_init_0 rfl (lv_at hl 0 rfl) ?_
  refine W.objInit hx hb hown (hts _ wm_1865) (hts _ wm_31) (hts _ wm_32) rfl (by rw [hml]; exact hl.1) rfl d_Ro_init_1 (Nat.le_of_ble_eq_true rfl) (Nat.le_of_ble_eq_true rfl) ?_
  refine W.eq (g2 := F0 m 4 ls []) rfl ?_
  refine lv_aload_n (pc := 4) hx hb d_Ro_init_4 rfl (lv_at hl 0 rfl) ?_
  refine lv_null (pc := 5) hx hb d_Ro_init_5 ?_
  refine k_put (pc := 6) X hK hP hD hS 0 rfl rfl i_Ro t_Ro t_Ro_ok n_Ro 0 (by decide) wm_1867 rfl (Or.inl rfl) rfl rfl (Nat.le_of_ble_eq_true rfl) d_Ro_init_6 (fun H locs hP hD hS => ?_)
  have hP : va_P D classes (cat [[(h, .inr (9, [.null, .null, .int 0, .int 0, .int 0, .int 0, .int 0, .int 0, .int 0, .null, .null, .null, .null, .null, .int 0, .null, .null, .int 0]))]]) H := hP
  have hD : va_D A (cat [[(h, .inr (9, [.null, .null, .int 0, .int 0, .int 0, .int 0, .int 0, .int 0, .int 0, .null, .null, .null, .null, .null, .int 0, .null, .null, .int 0]))]]) := hD
  refine lv_aload_n (pc := 9) hx hb d_Ro_init_9 rfl (lv_at hl 0 rfl) ?_
  refine lv_null (pc := 10) hx hb d_Ro_init_10 ?_
  refine k_put (pc := 11) X hK hP hD hS 0 rfl rfl i_Ro t_Ro t_Ro_ok n_Ro 1 (by decide) wm_1868 rfl (Or.inl rfl) rfl rfl (Nat.le_of_ble_eq_true rfl) d_Ro_init_11 (fun H locs hP hD hS => ?_)
  have hP : va_P D classes (cat [[(h, .inr (9, [.null, .null, .int 0, .int 0, .int 0, .int 0, .int 0, .int 0, .int 0, .null, .null, .null, .null, .null, .int 0, .null, .null, .int 0]))]]) H := hP
  have hD : va_D A (cat [[(h, .inr (9, [.null, .null, .int 0, .int 0, .int 0, .int 0, .int 0, .int 0, .int 0, .null, .null, .null, .null, .null, .int 0, .null, .null, .int 0]))]]) := hD
  refine lv_aload_n (pc := 14) hx hb d_Ro_init_14 rfl (lv_at hl 0 rfl) ?_
  refine lv_iconst (pc := 15) (v := 0) hx hb d_Ro_init_15 (by decide) ?_
  refine k_put (pc := 16) X hK hP hD hS 0 rfl rfl i_Ro t_Ro t_Ro_ok n_Ro 2 (by decide) wm_1869 rfl (Or.inl rfl) rfl rfl (Nat.le_of_ble_eq_true rfl) d_Ro_init_16 (fun H locs hP hD hS => ?_)
  have hP : va_P D classes (cat [[(h, .inr (9, [.null, .null, .int 0, .int 0, .int 0, .int 0, .int 0, .int 0, .int 0, .null, .null, .null, .null, .null, .int 0, .null, .null, .int 0]))]]) H := hP
  have hD : va_D A (cat [[(h, .inr (9, [.null, .null, .int 0, .int 0, .int 0, .int 0, .int 0, .int 0, .int 0, .null, .null, .null, .null, .null, .int 0, .null, .null, .int 0]))]]) := hD
  refine lv_aload_n (pc := 19) hx hb d_Ro_init_19 rfl (lv_at hl 0 rfl) ?_
  refine lv_iconst (pc := 20) (v := 0) hx hb d_Ro_init_20 (by decide) ?_
  refine k_put (pc := 21) X hK hP hD hS 0 rfl rfl i_Ro t_Ro t_Ro_ok n_Ro 3 (by decide) wm_1870 rfl (Or.inl rfl) rfl rfl (Nat.le_of_ble_eq_true rfl) d_Ro_init_21 (fun H locs hP hD hS => ?_)
  have hP : va_P D classes (cat [[(h, .inr (9, [.null, .null, .int 0, .int 0, .int 0, .int 0, .int 0, .int 0, .int 0, .null, .null, .null, .null, .null, .int 0, .null, .null, .int 0]))]]) H := hP
  have hD : va_D A (cat [[(h, .inr (9, [.null, .null, .int 0, .int 0, .int 0, .int 0, .int 0, .int 0, .int 0, .null, .null, .null, .null, .null, .int 0, .null, .null, .int 0]))]]) := hD
  refine lv_aload_n (pc := 24) hx hb d_Ro_init_24 rfl (lv_at hl 0 rfl) ?_
  refine lv_iconst (pc := 25) (v := 0) hx hb d_Ro_init_25 (by decide) ?_
  refine k_put (pc := 26) X hK hP hD hS 0 rfl rfl i_Ro t_Ro t_Ro_ok n_Ro 4 (by decide) wm_1871 rfl (Or.inl rfl) rfl rfl (Nat.le_of_ble_eq_true rfl) d_Ro_init_26 (fun H locs hP hD hS => ?_)
  have hP : va_P D classes (cat [[(h, .inr (9, [.null, .null, .int 0, .int 0, .int 0, .int 0, .int 0, .int 0, .int 0, .null, .null, .null, .null, .null, .int 0, .null, .null, .int 0]))]]) H := hP
  have hD : va_D A (cat [[(h, .inr (9, [.null, .null, .int 0, .int 0, .int 0, .int 0, .int 0, .int 0, .int 0, .null, .null, .null, .null, .null, .int 0, .null, .null, .int 0]))]]) := hD
  refine lv_aload_n (pc := 29) hx hb d_Ro_init_29 rfl (lv_at hl 0 rfl) ?_
  refine lv_iconst (pc := 30) (v := 0) hx hb d_Ro_init_30 (by decide) ?_
  refine k_put (pc := 31) X hK hP hD hS 0 rfl rfl i_Ro t_Ro t_Ro_ok n_Ro 5 (by decide) wm_1872 rfl (Or.inl rfl) rfl rfl (Nat.le_of_ble_eq_true rfl) d_Ro_init_31 (fun H locs hP hD hS => ?_)
  have hP : va_P D classes (cat [[(h, .inr (9, [.null, .null, .int 0, .int 0, .int 0, .int 0, .int 0, .int 0, .int 0, .null, .null, .null, .null, .null, .int 0, .null, .null, .int 0]))]]) H := hP
  have hD : va_D A (cat [[(h, .inr (9, [.null, .null, .int 0, .int 0, .int 0, .int 0, .int 0, .int 0, .int 0, .null, .null, .null, .null, .null, .int 0, .null, .null, .int 0]))]]) := hD
  refine lv_aload_n (pc := 34) hx hb d_Ro_init_34 rfl (lv_at hl 0 rfl) ?_
  refine lv_iconst (pc := 35) (v := 0) hx hb d_Ro_init_35 (by decide) ?_
  refine k_put (pc := 36) X hK hP hD hS 0 rfl rfl i_Ro t_Ro t_Ro_ok n_Ro 6 (by decide) wm_1873 rfl (Or.inl rfl) rfl rfl (Nat.le_of_ble_eq_true rfl) d_Ro_init_36 (fun H locs hP hD hS => ?_)
  have hP : va_P D classes (cat [[(h, .inr (9, [.null, .null, .int 0, .int 0, .int 0, .int 0, .int 0, .int 0, .int 0, .null, .null, .null, .null, .null, .int 0, .null, .null, .int 0]))]]) H := hP
  have hD : va_D A (cat [[(h, .inr (9, [.null, .null, .int 0, .int 0, .int 0, .int 0, .int 0, .int 0, .int 0, .null, .null, .null, .null, .null, .int 0, .null, .null, .int 0]))]]) := hD
  refine lv_aload_n (pc := 39) hx hb d_Ro_init_39 rfl (lv_at hl 0 rfl) ?_
  refine lv_iconst (pc := 40) (v := 0) hx hb d_Ro_init_40 (by decide) ?_
  refine k_put (pc := 41) X hK hP hD hS 0 rfl rfl i_Ro t_Ro t_Ro_ok n_Ro 7 (by decide) wm_1874 rfl (Or.inl rfl) rfl rfl (Nat.le_of_ble_eq_true rfl) d_Ro_init_41 (fun H locs hP hD hS => ?_)
  have hP : va_P D classes (cat [[(h, .inr (9, [.null, .null, .int 0, .int 0, .int 0, .int 0, .int 0, .int 0, .int 0, .null, .null, .null, .null, .null, .int 0, .null, .null, .int 0]))]]) H := hP
  have hD : va_D A (cat [[(h, .inr (9, [.null, .null, .int 0, .int 0, .int 0, .int 0, .int 0, .int 0, .int 0, .null, .null, .null, .null, .null, .int 0, .null, .null, .int 0]))]]) := hD
  refine lv_aload_n (pc := 44) hx hb d_Ro_init_44 rfl (lv_at hl 0 rfl) ?_
  refine lv_iconst (pc := 45) (v := 0) hx hb d_Ro_init_45 (by decide) ?_
  refine k_put (pc := 46) X hK hP hD hS 0 rfl rfl i_Ro t_Ro t_Ro_ok n_Ro 8 (by decide) wm_1875 rfl (Or.inl rfl) rfl rfl (Nat.le_of_ble_eq_true rfl) d_Ro_init_46 (fun H locs hP hD hS => ?_)
  have hP : va_P D classes (cat [[(h, .inr (9, [.null, .null, .int 0, .int 0, .int 0, .int 0, .int 0, .int 0, .int 0, .null, .null, .null, .null, .null, .int 0, .null, .null, .int 0]))]]) H := hP
  have hD : va_D A (cat [[(h, .inr (9, [.null, .null, .int 0, .int 0, .int 0, .int 0, .int 0, .int 0, .int 0, .null, .null, .null, .null, .null, .int 0, .null, .null, .int 0]))]]) := hD
  refine lv_aload_n (pc := 49) hx hb d_Ro_init_49 rfl (lv_at hl 0 rfl) ?_
  refine lv_sipush (pc := 50) (v := 6000) hx hb d_Ro_init_50 (by decide) ?_
  refine k_newa (pc := 53) (atype := .boolean) X (ty := .boolean) (a0 := (6000, .inl (fun _ => 0))) rfl rfl wm_387 hK hP hD hS hA 2 rfl (fun _ => rfl) (by decide) rfl (by decide) (Nat.le_of_ble_eq_true rfl) (Nat.le_of_ble_eq_true rfl) d_Ro_init_53 (fun q1 H hP hD hS => ?_)
  have hP : va_P D classes (cat [[(h, .inr (9, [.null, .null, .int 0, .int 0, .int 0, .int 0, .int 0, .int 0, .int 0, .null, .null, .null, .null, .null, .int 0, .null, .null, .int 0]))], [(q1, .inl (kA 2, 6000, .inl (fun _ => 0)))]]) H := hP
  have hD : va_D A (cat [[(h, .inr (9, [.null, .null, .int 0, .int 0, .int 0, .int 0, .int 0, .int 0, .int 0, .null, .null, .null, .null, .null, .int 0, .null, .null, .int 0]))], [(q1, .inl (kA 2, 6000, .inl (fun _ => 0)))]]) := hD
  refine W.widen (k := 1) (n := 6000) (by omega) (by omega) ?_
  refine k_put (pc := 55) X hK hP hD hS 0 rfl rfl i_Ro t_Ro t_Ro_ok n_Ro 9 (by decide) wm_1876 rfl (Or.inr ⟨rfl, rfl⟩) rfl rfl (Nat.le_of_ble_eq_true rfl) d_Ro_init_55 (fun H locs hP hD hS => ?_)
  have hP : va_P D classes (cat [[(h, .inr (9, [.null, .null, .int 0, .int 0, .int 0, .int 0, .int 0, .int 0, .int 0, .ref q1, .null, .null, .null, .null, .int 0, .null, .null, .int 0]))], [(q1, .inl (kA 2, 6000, .inl (fun _ => 0)))]]) H := hP
  have hD : va_D A (cat [[(h, .inr (9, [.null, .null, .int 0, .int 0, .int 0, .int 0, .int 0, .int 0, .int 0, .ref q1, .null, .null, .null, .null, .int 0, .null, .null, .int 0]))], [(q1, .inl (kA 2, 6000, .inl (fun _ => 0)))]]) := hD
  refine lv_aload_n (pc := 58) hx hb d_Ro_init_58 rfl (lv_at hl 0 rfl) ?_
  refine lv_sipush (pc := 59) (v := 24000) hx hb d_Ro_init_59 (by decide) ?_
  refine k_newa (pc := 62) (atype := .int) X (ty := .int) (a0 := (24000, .inl (fun _ => 0))) rfl rfl wm_193 hK hP hD hS hA 0 rfl (fun _ => rfl) (by decide) rfl (by decide) (Nat.le_of_ble_eq_true rfl) (Nat.le_of_ble_eq_true rfl) d_Ro_init_62 (fun q2 H hP hD hS => ?_)
  have hP : va_P D classes (cat [[(h, .inr (9, [.null, .null, .int 0, .int 0, .int 0, .int 0, .int 0, .int 0, .int 0, .ref q1, .null, .null, .null, .null, .int 0, .null, .null, .int 0]))], [(q1, .inl (kA 2, 6000, .inl (fun _ => 0)))], [(q2, .inl (kA 0, 24000, .inl (fun _ => 0)))]]) H := hP
  have hD : va_D A (cat [[(h, .inr (9, [.null, .null, .int 0, .int 0, .int 0, .int 0, .int 0, .int 0, .int 0, .ref q1, .null, .null, .null, .null, .int 0, .null, .null, .int 0]))], [(q1, .inl (kA 2, 6000, .inl (fun _ => 0)))], [(q2, .inl (kA 0, 24000, .inl (fun _ => 0)))]]) := hD
  refine W.widen (k := 2) (n := 30000) (by omega) (by omega) ?_
  refine k_put (pc := 64) X hK hP hD hS 0 rfl rfl i_Ro t_Ro t_Ro_ok n_Ro 10 (by decide) wm_1877 rfl (Or.inr ⟨rfl, rfl⟩) rfl rfl (Nat.le_of_ble_eq_true rfl) d_Ro_init_64 (fun H locs hP hD hS => ?_)
  have hP : va_P D classes (cat [[(h, .inr (9, [.null, .null, .int 0, .int 0, .int 0, .int 0, .int 0, .int 0, .int 0, .ref q1, .ref q2, .null, .null, .null, .int 0, .null, .null, .int 0]))], [(q1, .inl (kA 2, 6000, .inl (fun _ => 0)))], [(q2, .inl (kA 0, 24000, .inl (fun _ => 0)))]]) H := hP
  have hD : va_D A (cat [[(h, .inr (9, [.null, .null, .int 0, .int 0, .int 0, .int 0, .int 0, .int 0, .int 0, .ref q1, .ref q2, .null, .null, .null, .int 0, .null, .null, .int 0]))], [(q1, .inl (kA 2, 6000, .inl (fun _ => 0)))], [(q2, .inl (kA 0, 24000, .inl (fun _ => 0)))]]) := hD
  refine lv_aload_n (pc := 67) hx hb d_Ro_init_67 rfl (lv_at hl 0 rfl) ?_
  refine lv_iconst (pc := 68) (v := 4) hx hb d_Ro_init_68 (by decide) ?_
  refine k_newa (pc := 69) (atype := .int) X (ty := .int) (a0 := (4, .inl (fun _ => 0))) rfl rfl wm_193 hK hP hD hS hA 0 rfl (fun _ => rfl) (by decide) rfl (by decide) (Nat.le_of_ble_eq_true rfl) (Nat.le_of_ble_eq_true rfl) d_Ro_init_69 (fun q3 H hP hD hS => ?_)
  have hP : va_P D classes (cat [[(h, .inr (9, [.null, .null, .int 0, .int 0, .int 0, .int 0, .int 0, .int 0, .int 0, .ref q1, .ref q2, .null, .null, .null, .int 0, .null, .null, .int 0]))], [(q1, .inl (kA 2, 6000, .inl (fun _ => 0)))], [(q2, .inl (kA 0, 24000, .inl (fun _ => 0)))], [(q3, .inl (kA 0, 4, .inl (fun _ => 0)))]]) H := hP
  have hD : va_D A (cat [[(h, .inr (9, [.null, .null, .int 0, .int 0, .int 0, .int 0, .int 0, .int 0, .int 0, .ref q1, .ref q2, .null, .null, .null, .int 0, .null, .null, .int 0]))], [(q1, .inl (kA 2, 6000, .inl (fun _ => 0)))], [(q2, .inl (kA 0, 24000, .inl (fun _ => 0)))], [(q3, .inl (kA 0, 4, .inl (fun _ => 0)))]]) := hD
  refine W.widen (k := 3) (n := 30004) (by omega) (by omega) ?_
  refine k_put (pc := 71) X hK hP hD hS 0 rfl rfl i_Ro t_Ro t_Ro_ok n_Ro 11 (by decide) wm_1878 rfl (Or.inr ⟨rfl, rfl⟩) rfl rfl (Nat.le_of_ble_eq_true rfl) d_Ro_init_71 (fun H locs hP hD hS => ?_)
  have hP : va_P D classes (cat [[(h, .inr (9, [.null, .null, .int 0, .int 0, .int 0, .int 0, .int 0, .int 0, .int 0, .ref q1, .ref q2, .ref q3, .null, .null, .int 0, .null, .null, .int 0]))], [(q1, .inl (kA 2, 6000, .inl (fun _ => 0)))], [(q2, .inl (kA 0, 24000, .inl (fun _ => 0)))], [(q3, .inl (kA 0, 4, .inl (fun _ => 0)))]]) H := hP
  have hD : va_D A (cat [[(h, .inr (9, [.null, .null, .int 0, .int 0, .int 0, .int 0, .int 0, .int 0, .int 0, .ref q1, .ref q2, .ref q3, .null, .null, .int 0, .null, .null, .int 0]))], [(q1, .inl (kA 2, 6000, .inl (fun _ => 0)))], [(q2, .inl (kA 0, 24000, .inl (fun _ => 0)))], [(q3, .inl (kA 0, 4, .inl (fun _ => 0)))]]) := hD
  refine lv_aload_n (pc := 74) hx hb d_Ro_init_74 rfl (lv_at hl 0 rfl) ?_
  refine lv_ldc (pc := 75) (v := 48004) hx hb hown (hts _ wm_1866) d_Ro_init_75 ?_
  refine k_newa (pc := 77) (atype := .int) X (ty := .int) (a0 := (48004, .inl (fun _ => 0))) rfl rfl wm_193 hK hP hD hS hA 0 rfl (fun _ => rfl) (by decide) rfl (by decide) (Nat.le_of_ble_eq_true rfl) (Nat.le_of_ble_eq_true rfl) d_Ro_init_77 (fun q4 H hP hD hS => ?_)
  have hP : va_P D classes (cat [[(h, .inr (9, [.null, .null, .int 0, .int 0, .int 0, .int 0, .int 0, .int 0, .int 0, .ref q1, .ref q2, .ref q3, .null, .null, .int 0, .null, .null, .int 0]))], [(q1, .inl (kA 2, 6000, .inl (fun _ => 0)))], [(q2, .inl (kA 0, 24000, .inl (fun _ => 0)))], [(q3, .inl (kA 0, 4, .inl (fun _ => 0)))], [(q4, .inl (kA 0, 48004, .inl (fun _ => 0)))]]) H := hP
  have hD : va_D A (cat [[(h, .inr (9, [.null, .null, .int 0, .int 0, .int 0, .int 0, .int 0, .int 0, .int 0, .ref q1, .ref q2, .ref q3, .null, .null, .int 0, .null, .null, .int 0]))], [(q1, .inl (kA 2, 6000, .inl (fun _ => 0)))], [(q2, .inl (kA 0, 24000, .inl (fun _ => 0)))], [(q3, .inl (kA 0, 4, .inl (fun _ => 0)))], [(q4, .inl (kA 0, 48004, .inl (fun _ => 0)))]]) := hD
  refine W.widen (k := 4) (n := 78008) (by omega) (by omega) ?_
  refine k_put (pc := 79) X hK hP hD hS 0 rfl rfl i_Ro t_Ro t_Ro_ok n_Ro 12 (by decide) wm_1879 rfl (Or.inr ⟨rfl, rfl⟩) rfl rfl (Nat.le_of_ble_eq_true rfl) d_Ro_init_79 (fun H locs hP hD hS => ?_)
  have hP : va_P D classes (cat [[(h, .inr (9, [.null, .null, .int 0, .int 0, .int 0, .int 0, .int 0, .int 0, .int 0, .ref q1, .ref q2, .ref q3, .ref q4, .null, .int 0, .null, .null, .int 0]))], [(q1, .inl (kA 2, 6000, .inl (fun _ => 0)))], [(q2, .inl (kA 0, 24000, .inl (fun _ => 0)))], [(q3, .inl (kA 0, 4, .inl (fun _ => 0)))], [(q4, .inl (kA 0, 48004, .inl (fun _ => 0)))]]) H := hP
  have hD : va_D A (cat [[(h, .inr (9, [.null, .null, .int 0, .int 0, .int 0, .int 0, .int 0, .int 0, .int 0, .ref q1, .ref q2, .ref q3, .ref q4, .null, .int 0, .null, .null, .int 0]))], [(q1, .inl (kA 2, 6000, .inl (fun _ => 0)))], [(q2, .inl (kA 0, 24000, .inl (fun _ => 0)))], [(q3, .inl (kA 0, 4, .inl (fun _ => 0)))], [(q4, .inl (kA 0, 48004, .inl (fun _ => 0)))]]) := hD
  refine lv_aload_n (pc := 82) hx hb d_Ro_init_82 rfl (lv_at hl 0 rfl) ?_
  refine lv_ldc (pc := 83) (v := 48004) hx hb hown (hts _ wm_1866) d_Ro_init_83 ?_
  refine k_newa (pc := 85) (atype := .int) X (ty := .int) (a0 := (48004, .inl (fun _ => 0))) rfl rfl wm_193 hK hP hD hS hA 0 rfl (fun _ => rfl) (by decide) rfl (by decide) (Nat.le_of_ble_eq_true rfl) (Nat.le_of_ble_eq_true rfl) d_Ro_init_85 (fun q5 H hP hD hS => ?_)
  have hP : va_P D classes (cat [[(h, .inr (9, [.null, .null, .int 0, .int 0, .int 0, .int 0, .int 0, .int 0, .int 0, .ref q1, .ref q2, .ref q3, .ref q4, .null, .int 0, .null, .null, .int 0]))], [(q1, .inl (kA 2, 6000, .inl (fun _ => 0)))], [(q2, .inl (kA 0, 24000, .inl (fun _ => 0)))], [(q3, .inl (kA 0, 4, .inl (fun _ => 0)))], [(q4, .inl (kA 0, 48004, .inl (fun _ => 0)))], [(q5, .inl (kA 0, 48004, .inl (fun _ => 0)))]]) H := hP
  have hD : va_D A (cat [[(h, .inr (9, [.null, .null, .int 0, .int 0, .int 0, .int 0, .int 0, .int 0, .int 0, .ref q1, .ref q2, .ref q3, .ref q4, .null, .int 0, .null, .null, .int 0]))], [(q1, .inl (kA 2, 6000, .inl (fun _ => 0)))], [(q2, .inl (kA 0, 24000, .inl (fun _ => 0)))], [(q3, .inl (kA 0, 4, .inl (fun _ => 0)))], [(q4, .inl (kA 0, 48004, .inl (fun _ => 0)))], [(q5, .inl (kA 0, 48004, .inl (fun _ => 0)))]]) := hD
  refine W.widen (k := 5) (n := 126012) (by omega) (by omega) ?_
  refine k_put (pc := 87) X hK hP hD hS 0 rfl rfl i_Ro t_Ro t_Ro_ok n_Ro 13 (by decide) wm_1880 rfl (Or.inr ⟨rfl, rfl⟩) rfl rfl (Nat.le_of_ble_eq_true rfl) d_Ro_init_87 (fun H locs hP hD hS => ?_)
  have hP : va_P D classes (cat [[(h, .inr (9, [.null, .null, .int 0, .int 0, .int 0, .int 0, .int 0, .int 0, .int 0, .ref q1, .ref q2, .ref q3, .ref q4, .ref q5, .int 0, .null, .null, .int 0]))], [(q1, .inl (kA 2, 6000, .inl (fun _ => 0)))], [(q2, .inl (kA 0, 24000, .inl (fun _ => 0)))], [(q3, .inl (kA 0, 4, .inl (fun _ => 0)))], [(q4, .inl (kA 0, 48004, .inl (fun _ => 0)))], [(q5, .inl (kA 0, 48004, .inl (fun _ => 0)))]]) H := hP
  have hD : va_D A (cat [[(h, .inr (9, [.null, .null, .int 0, .int 0, .int 0, .int 0, .int 0, .int 0, .int 0, .ref q1, .ref q2, .ref q3, .ref q4, .ref q5, .int 0, .null, .null, .int 0]))], [(q1, .inl (kA 2, 6000, .inl (fun _ => 0)))], [(q2, .inl (kA 0, 24000, .inl (fun _ => 0)))], [(q3, .inl (kA 0, 4, .inl (fun _ => 0)))], [(q4, .inl (kA 0, 48004, .inl (fun _ => 0)))], [(q5, .inl (kA 0, 48004, .inl (fun _ => 0)))]]) := hD
  refine lv_aload_n (pc := 90) hx hb d_Ro_init_90 rfl (lv_at hl 0 rfl) ?_
  refine lv_iconst (pc := 91) (v := 0) hx hb d_Ro_init_91 (by decide) ?_
  refine k_put (pc := 92) X hK hP hD hS 0 rfl rfl i_Ro t_Ro t_Ro_ok n_Ro 14 (by decide) wm_1881 rfl (Or.inl rfl) rfl rfl (Nat.le_of_ble_eq_true rfl) d_Ro_init_92 (fun H locs hP hD hS => ?_)
  have hP : va_P D classes (cat [[(h, .inr (9, [.null, .null, .int 0, .int 0, .int 0, .int 0, .int 0, .int 0, .int 0, .ref q1, .ref q2, .ref q3, .ref q4, .ref q5, .int 0, .null, .null, .int 0]))], [(q1, .inl (kA 2, 6000, .inl (fun _ => 0)))], [(q2, .inl (kA 0, 24000, .inl (fun _ => 0)))], [(q3, .inl (kA 0, 4, .inl (fun _ => 0)))], [(q4, .inl (kA 0, 48004, .inl (fun _ => 0)))], [(q5, .inl (kA 0, 48004, .inl (fun _ => 0)))]]) H := hP
  have hD : va_D A (cat [[(h, .inr (9, [.null, .null, .int 0, .int 0, .int 0, .int 0, .int 0, .int 0, .int 0, .ref q1, .ref q2, .ref q3, .ref q4, .ref q5, .int 0, .null, .null, .int 0]))], [(q1, .inl (kA 2, 6000, .inl (fun _ => 0)))], [(q2, .inl (kA 0, 24000, .inl (fun _ => 0)))], [(q3, .inl (kA 0, 4, .inl (fun _ => 0)))], [(q4, .inl (kA 0, 48004, .inl (fun _ => 0)))], [(q5, .inl (kA 0, 48004, .inl (fun _ => 0)))]]) := hD
  refine lv_aload_n (pc := 95) hx hb d_Ro_init_95 rfl (lv_at hl 0 rfl) ?_
  refine lv_bipush (pc := 96) (v := 24) hx hb d_Ro_init_96 (by decide) ?_
  refine k_newa (pc := 98) (atype := .int) X (ty := .int) (a0 := (24, .inl (fun _ => 0))) rfl rfl wm_193 hK hP hD hS hA 0 rfl (fun _ => rfl) (by decide) rfl (by decide) (Nat.le_of_ble_eq_true rfl) (Nat.le_of_ble_eq_true rfl) d_Ro_init_98 (fun q6 H hP hD hS => ?_)
  have hP : va_P D classes (cat [[(h, .inr (9, [.null, .null, .int 0, .int 0, .int 0, .int 0, .int 0, .int 0, .int 0, .ref q1, .ref q2, .ref q3, .ref q4, .ref q5, .int 0, .null, .null, .int 0]))], [(q1, .inl (kA 2, 6000, .inl (fun _ => 0)))], [(q2, .inl (kA 0, 24000, .inl (fun _ => 0)))], [(q3, .inl (kA 0, 4, .inl (fun _ => 0)))], [(q4, .inl (kA 0, 48004, .inl (fun _ => 0)))], [(q5, .inl (kA 0, 48004, .inl (fun _ => 0)))], [(q6, .inl (kA 0, 24, .inl (fun _ => 0)))]]) H := hP
  have hD : va_D A (cat [[(h, .inr (9, [.null, .null, .int 0, .int 0, .int 0, .int 0, .int 0, .int 0, .int 0, .ref q1, .ref q2, .ref q3, .ref q4, .ref q5, .int 0, .null, .null, .int 0]))], [(q1, .inl (kA 2, 6000, .inl (fun _ => 0)))], [(q2, .inl (kA 0, 24000, .inl (fun _ => 0)))], [(q3, .inl (kA 0, 4, .inl (fun _ => 0)))], [(q4, .inl (kA 0, 48004, .inl (fun _ => 0)))], [(q5, .inl (kA 0, 48004, .inl (fun _ => 0)))], [(q6, .inl (kA 0, 24, .inl (fun _ => 0)))]]) := hD
  refine W.widen (k := 6) (n := 126036) (by omega) (by omega) ?_
  refine k_put (pc := 100) X hK hP hD hS 0 rfl rfl i_Ro t_Ro t_Ro_ok n_Ro 15 (by decide) wm_1882 rfl (Or.inr ⟨rfl, rfl⟩) rfl rfl (Nat.le_of_ble_eq_true rfl) d_Ro_init_100 (fun H locs hP hD hS => ?_)
  have hP : va_P D classes (cat [[(h, .inr (9, [.null, .null, .int 0, .int 0, .int 0, .int 0, .int 0, .int 0, .int 0, .ref q1, .ref q2, .ref q3, .ref q4, .ref q5, .int 0, .ref q6, .null, .int 0]))], [(q1, .inl (kA 2, 6000, .inl (fun _ => 0)))], [(q2, .inl (kA 0, 24000, .inl (fun _ => 0)))], [(q3, .inl (kA 0, 4, .inl (fun _ => 0)))], [(q4, .inl (kA 0, 48004, .inl (fun _ => 0)))], [(q5, .inl (kA 0, 48004, .inl (fun _ => 0)))], [(q6, .inl (kA 0, 24, .inl (fun _ => 0)))]]) H := hP
  have hD : va_D A (cat [[(h, .inr (9, [.null, .null, .int 0, .int 0, .int 0, .int 0, .int 0, .int 0, .int 0, .ref q1, .ref q2, .ref q3, .ref q4, .ref q5, .int 0, .ref q6, .null, .int 0]))], [(q1, .inl (kA 2, 6000, .inl (fun _ => 0)))], [(q2, .inl (kA 0, 24000, .inl (fun _ => 0)))], [(q3, .inl (kA 0, 4, .inl (fun _ => 0)))], [(q4, .inl (kA 0, 48004, .inl (fun _ => 0)))], [(q5, .inl (kA 0, 48004, .inl (fun _ => 0)))], [(q6, .inl (kA 0, 24, .inl (fun _ => 0)))]]) := hD
  refine lv_aload_n (pc := 103) hx hb d_Ro_init_103 rfl (lv_at hl 0 rfl) ?_
  refine lv_bipush (pc := 104) (v := 24) hx hb d_Ro_init_104 (by decide) ?_
  refine k_newa (pc := 106) (atype := .int) X (ty := .int) (a0 := (24, .inl (fun _ => 0))) rfl rfl wm_193 hK hP hD hS hA 0 rfl (fun _ => rfl) (by decide) rfl (by decide) (Nat.le_of_ble_eq_true rfl) (Nat.le_of_ble_eq_true rfl) d_Ro_init_106 (fun q7 H hP hD hS => ?_)
  have hP : va_P D classes (cat [[(h, .inr (9, [.null, .null, .int 0, .int 0, .int 0, .int 0, .int 0, .int 0, .int 0, .ref q1, .ref q2, .ref q3, .ref q4, .ref q5, .int 0, .ref q6, .null, .int 0]))], [(q1, .inl (kA 2, 6000, .inl (fun _ => 0)))], [(q2, .inl (kA 0, 24000, .inl (fun _ => 0)))], [(q3, .inl (kA 0, 4, .inl (fun _ => 0)))], [(q4, .inl (kA 0, 48004, .inl (fun _ => 0)))], [(q5, .inl (kA 0, 48004, .inl (fun _ => 0)))], [(q6, .inl (kA 0, 24, .inl (fun _ => 0)))], [(q7, .inl (kA 0, 24, .inl (fun _ => 0)))]]) H := hP
  have hD : va_D A (cat [[(h, .inr (9, [.null, .null, .int 0, .int 0, .int 0, .int 0, .int 0, .int 0, .int 0, .ref q1, .ref q2, .ref q3, .ref q4, .ref q5, .int 0, .ref q6, .null, .int 0]))], [(q1, .inl (kA 2, 6000, .inl (fun _ => 0)))], [(q2, .inl (kA 0, 24000, .inl (fun _ => 0)))], [(q3, .inl (kA 0, 4, .inl (fun _ => 0)))], [(q4, .inl (kA 0, 48004, .inl (fun _ => 0)))], [(q5, .inl (kA 0, 48004, .inl (fun _ => 0)))], [(q6, .inl (kA 0, 24, .inl (fun _ => 0)))], [(q7, .inl (kA 0, 24, .inl (fun _ => 0)))]]) := hD
  refine W.widen (k := 7) (n := 126060) (by omega) (by omega) ?_
  refine k_put (pc := 108) X hK hP hD hS 0 rfl rfl i_Ro t_Ro t_Ro_ok n_Ro 16 (by decide) wm_1883 rfl (Or.inr ⟨rfl, rfl⟩) rfl rfl (Nat.le_of_ble_eq_true rfl) d_Ro_init_108 (fun H locs hP hD hS => ?_)
  have hP : va_P D classes (cat [[(h, .inr (9, [.null, .null, .int 0, .int 0, .int 0, .int 0, .int 0, .int 0, .int 0, .ref q1, .ref q2, .ref q3, .ref q4, .ref q5, .int 0, .ref q6, .ref q7, .int 0]))], [(q1, .inl (kA 2, 6000, .inl (fun _ => 0)))], [(q2, .inl (kA 0, 24000, .inl (fun _ => 0)))], [(q3, .inl (kA 0, 4, .inl (fun _ => 0)))], [(q4, .inl (kA 0, 48004, .inl (fun _ => 0)))], [(q5, .inl (kA 0, 48004, .inl (fun _ => 0)))], [(q6, .inl (kA 0, 24, .inl (fun _ => 0)))], [(q7, .inl (kA 0, 24, .inl (fun _ => 0)))]]) H := hP
  have hD : va_D A (cat [[(h, .inr (9, [.null, .null, .int 0, .int 0, .int 0, .int 0, .int 0, .int 0, .int 0, .ref q1, .ref q2, .ref q3, .ref q4, .ref q5, .int 0, .ref q6, .ref q7, .int 0]))], [(q1, .inl (kA 2, 6000, .inl (fun _ => 0)))], [(q2, .inl (kA 0, 24000, .inl (fun _ => 0)))], [(q3, .inl (kA 0, 4, .inl (fun _ => 0)))], [(q4, .inl (kA 0, 48004, .inl (fun _ => 0)))], [(q5, .inl (kA 0, 48004, .inl (fun _ => 0)))], [(q6, .inl (kA 0, 24, .inl (fun _ => 0)))], [(q7, .inl (kA 0, 24, .inl (fun _ => 0)))]]) := hD
  refine lv_aload_n (pc := 111) hx hb d_Ro_init_111 rfl (lv_at hl 0 rfl) ?_
  refine lv_iconst (pc := 112) (v := 0) hx hb d_Ro_init_112 (by decide) ?_
  refine k_put (pc := 113) X hK hP hD hS 0 rfl rfl i_Ro t_Ro t_Ro_ok n_Ro 17 (by decide) wm_1884 rfl (Or.inl rfl) rfl rfl (Nat.le_of_ble_eq_true rfl) d_Ro_init_113 (fun H locs hP hD hS => ?_)
  have hP : va_P D classes (cat [[(h, .inr (9, [.null, .null, .int 0, .int 0, .int 0, .int 0, .int 0, .int 0, .int 0, .ref q1, .ref q2, .ref q3, .ref q4, .ref q5, .int 0, .ref q6, .ref q7, .int 0]))], [(q1, .inl (kA 2, 6000, .inl (fun _ => 0)))], [(q2, .inl (kA 0, 24000, .inl (fun _ => 0)))], [(q3, .inl (kA 0, 4, .inl (fun _ => 0)))], [(q4, .inl (kA 0, 48004, .inl (fun _ => 0)))], [(q5, .inl (kA 0, 48004, .inl (fun _ => 0)))], [(q6, .inl (kA 0, 24, .inl (fun _ => 0)))], [(q7, .inl (kA 0, 24, .inl (fun _ => 0)))]]) H := hP
  have hD : va_D A (cat [[(h, .inr (9, [.null, .null, .int 0, .int 0, .int 0, .int 0, .int 0, .int 0, .int 0, .ref q1, .ref q2, .ref q3, .ref q4, .ref q5, .int 0, .ref q6, .ref q7, .int 0]))], [(q1, .inl (kA 2, 6000, .inl (fun _ => 0)))], [(q2, .inl (kA 0, 24000, .inl (fun _ => 0)))], [(q3, .inl (kA 0, 4, .inl (fun _ => 0)))], [(q4, .inl (kA 0, 48004, .inl (fun _ => 0)))], [(q5, .inl (kA 0, 48004, .inl (fun _ => 0)))], [(q6, .inl (kA 0, 24, .inl (fun _ => 0)))], [(q7, .inl (kA 0, 24, .inl (fun _ => 0)))]]) := hD
  obtain ⟨hP, hD⟩ := k_ord (gc := [[(h, .inr (9, [.null, .null, .int 0, .int 0, .int 0, .int 0, .int 0, .int 0, .int 0, .ref q1, .ref q2, .ref q3, .ref q4, .ref q5, .int 0, .ref q6, .ref q7, .int 0]))], [(q1, .inl (kA 2, 6000, .inl (fun _ => 0)))], [(q2, .inl (kA 0, 24000, .inl (fun _ => 0)))], [(q3, .inl (kA 0, 4, .inl (fun _ => 0)))], [(q4, .inl (kA 0, 48004, .inl (fun _ => 0)))], [(q5, .inl (kA 0, 48004, .inl (fun _ => 0)))], [(q6, .inl (kA 0, 24, .inl (fun _ => 0)))], [(q7, .inl (kA 0, 24, .inl (fun _ => 0)))]]) hP hD [0, 1, 2, 3, 4, 5, 6, 7] 8 rfl (by decide) rfl
  refine W.widen (k := 7) (n := 126060) (Nat.le_of_ble_eq_true rfl) (Nat.le_of_ble_eq_true rfl) ?_
  exact W.vret hx hb hr (fun t ht hW => ⟨⟨(fun k => match k with | 9 => q1 | 10 => q2 | 11 => q3 | 12 => q4 | 13 => q5 | 15 => q6 | 16 => q7 | _ => 0), rfl, trivial, by rw [ht]; exact hP, va_K.moved hW.alike hK, hD⟩, hS.F ht⟩) hS.2.2 d_Ro_init_116
