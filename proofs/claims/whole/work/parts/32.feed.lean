theorem wm_197 : (Cond.fieldLink "DrawingHouse" (108 : Nat) "DrawingHouse$Reader" "length" "I" : Cond) ∈ lw_g := lw_gi (lw_c1 (List.mem_of_getElem? (i := 197) rfl)) rfl
theorem wm_622 : (Cond.code ({ cls := "DrawingHouse", name := "feed", desc := "(IIIII)I" } : MethodName) prog_1_method_2_code (6 : Nat) (Option.some ClassFile.FieldType.int) : Cond) ∈ lw_g := lw_gi (lw_c3 (List.mem_of_getElem? (i := 142) rfl)) rfl
theorem wm_623 : (Cond.methodLink "DrawingHouse" (111 : Nat) ({ cls := "DrawingHouse$Reader", name := "append", desc := "(I)V" } : MethodName) : Cond) ∈ lw_g := lw_gi (lw_c3 (List.mem_of_getElem? (i := 143) rfl)) rfl
theorem wm_624 : (Cond.instanceMethod ({ cls := "DrawingHouse$Reader", name := "append", desc := "(I)V" } : MethodName) : Cond) ∈ lw_g := lw_gi (lw_c3 (List.mem_of_getElem? (i := 144) rfl)) rfl
theorem wm_625 : (Cond.selects "DrawingHouse$Reader" ({ cls := "DrawingHouse$Reader", name := "append", desc := "(I)V" } : MethodName) ({ cls := "DrawingHouse$Reader", name := "append", desc := "(I)V" } : MethodName) : Cond) ∈ lw_g := lw_gi (lw_c3 (List.mem_of_getElem? (i := 145) rfl)) rfl
theorem wm_626 : (Cond.code ({ cls := "DrawingHouse$Reader", name := "append", desc := "(I)V" } : MethodName) prog_10_method_2_code (3 : Nat) (Option.none : Option ClassFile.FieldType) : Cond) ∈ lw_g := lw_gi (lw_c3 (List.mem_of_getElem? (i := 146) rfl)) rfl
theorem wm_2433 : (Cond.fieldLink "DrawingHouseModel" (383 : Nat) "DrawingHouseModel" "taped" "I" : Cond) ∈ lw_g := lw_gi (lw_c11 (List.mem_of_getElem? (i := 33) rfl)) rfl
theorem wm_2964 : (Cond.code ({ cls := "DrawingHouseModel", name := "feed", desc := "(IIIII)I" } : MethodName) prog_15_method_6_code (8 : Nat) (Option.some ClassFile.FieldType.int) : Cond) ∈ lw_g := lw_gi (lw_c13 (List.mem_of_getElem? (i := 84) rfl)) rfl
abbrev b_Re_append : ByteArray := prog_10_method_2_code
def y_Re_append : MethodName := ⟨"DrawingHouse$Reader", "append", "(I)V"⟩
abbrev z_Re_append : List Cond := Cond.code y_Re_append b_Re_append 3 none :: lw_g
theorem d_Re_append_0 : decode b_Re_append 0 = .ok (.bipush 24, 2) := by decide +kernel
theorem d_Re_append_2 : decode b_Re_append 2 = .ok (.istore_n 2, 1) := by decide +kernel
theorem d_Re_append_3 : decode b_Re_append 3 = .ok (.iload_n 2, 1) := by decide +kernel
theorem d_Re_append_4 : decode b_Re_append 4 = .ok (.ifCond .lt 32, 3) := by decide +kernel
theorem d_Re_append_7 : decode b_Re_append 7 = .ok (.aload_n 0, 1) := by decide +kernel
theorem d_Re_append_8 : decode b_Re_append 8 = .ok (.getfield 9, 3) := by decide +kernel
theorem d_Re_append_11 : decode b_Re_append 11 = .ok (.aload_n 0, 1) := by decide +kernel
theorem d_Re_append_12 : decode b_Re_append 12 = .ok (.getfield 15, 3) := by decide +kernel
theorem d_Re_append_15 : decode b_Re_append 15 = .ok (.iload_n 1, 1) := by decide +kernel
theorem d_Re_append_16 : decode b_Re_append 16 = .ok (.iload_n 2, 1) := by decide +kernel
theorem d_Re_append_17 : decode b_Re_append 17 = .ok (.ishr, 1) := by decide +kernel
theorem d_Re_append_18 : decode b_Re_append 18 = .ok (.i2b, 1) := by decide +kernel
theorem d_Re_append_19 : decode b_Re_append 19 = .ok (.bastore, 1) := by decide +kernel
theorem d_Re_append_20 : decode b_Re_append 20 = .ok (.aload_n 0, 1) := by decide +kernel
theorem d_Re_append_21 : decode b_Re_append 21 = .ok (.dup, 1) := by decide +kernel
theorem d_Re_append_22 : decode b_Re_append 22 = .ok (.getfield 15, 3) := by decide +kernel
theorem d_Re_append_25 : decode b_Re_append 25 = .ok (.iconst 1, 1) := by decide +kernel
theorem d_Re_append_26 : decode b_Re_append 26 = .ok (.iadd, 1) := by decide +kernel
theorem d_Re_append_27 : decode b_Re_append 27 = .ok (.putfield 15, 3) := by decide +kernel
theorem d_Re_append_30 : decode b_Re_append 30 = .ok (.iinc 2 (-8), 3) := by decide +kernel
theorem d_Re_append_33 : decode b_Re_append 33 = .ok (.goto (-30), 3) := by decide +kernel
theorem d_Re_append_36 : decode b_Re_append 36 = .ok (.return_, 1) := by decide +kernel
abbrev b_Ho_feed : ByteArray := prog_1_method_2_code
def y_Ho_feed : MethodName := ⟨"DrawingHouse", "feed", "(IIIII)I"⟩
abbrev z_Ho_feed : List Cond := Cond.code y_Ho_feed b_Ho_feed 6 (some .int) :: lw_g
theorem d_Ho_feed_0 : decode b_Ho_feed 0 = .ok (.aload_n 0, 1) := by decide +kernel
theorem d_Ho_feed_1 : decode b_Ho_feed 1 = .ok (.getfield 38, 3) := by decide +kernel
theorem d_Ho_feed_4 : decode b_Ho_feed 4 = .ok (.getfield 108, 3) := by decide +kernel
theorem d_Ho_feed_7 : decode b_Ho_feed 7 = .ok (.bipush 20, 2) := by decide +kernel
theorem d_Ho_feed_9 : decode b_Ho_feed 9 = .ok (.iadd, 1) := by decide +kernel
theorem d_Ho_feed_10 : decode b_Ho_feed 10 = .ok (.sipush 2000, 3) := by decide +kernel
theorem d_Ho_feed_13 : decode b_Ho_feed 13 = .ok (.if_icmp .le 5, 3) := by decide +kernel
theorem d_Ho_feed_16 : decode b_Ho_feed 16 = .ok (.iconst (-1), 1) := by decide +kernel
theorem d_Ho_feed_17 : decode b_Ho_feed 17 = .ok (.ireturn, 1) := by decide +kernel
theorem d_Ho_feed_18 : decode b_Ho_feed 18 = .ok (.aload_n 0, 1) := by decide +kernel
theorem d_Ho_feed_19 : decode b_Ho_feed 19 = .ok (.getfield 38, 3) := by decide +kernel
theorem d_Ho_feed_22 : decode b_Ho_feed 22 = .ok (.iload_n 1, 1) := by decide +kernel
theorem d_Ho_feed_23 : decode b_Ho_feed 23 = .ok (.invokevirtual 111, 3) := by decide +kernel
theorem d_Ho_feed_26 : decode b_Ho_feed 26 = .ok (.aload_n 0, 1) := by decide +kernel
theorem d_Ho_feed_27 : decode b_Ho_feed 27 = .ok (.getfield 38, 3) := by decide +kernel
theorem d_Ho_feed_30 : decode b_Ho_feed 30 = .ok (.iload_n 2, 1) := by decide +kernel
theorem d_Ho_feed_31 : decode b_Ho_feed 31 = .ok (.invokevirtual 111, 3) := by decide +kernel
theorem d_Ho_feed_34 : decode b_Ho_feed 34 = .ok (.aload_n 0, 1) := by decide +kernel
theorem d_Ho_feed_35 : decode b_Ho_feed 35 = .ok (.getfield 38, 3) := by decide +kernel
theorem d_Ho_feed_38 : decode b_Ho_feed 38 = .ok (.iload_n 3, 1) := by decide +kernel
theorem d_Ho_feed_39 : decode b_Ho_feed 39 = .ok (.invokevirtual 111, 3) := by decide +kernel
theorem d_Ho_feed_42 : decode b_Ho_feed 42 = .ok (.aload_n 0, 1) := by decide +kernel
theorem d_Ho_feed_43 : decode b_Ho_feed 43 = .ok (.getfield 38, 3) := by decide +kernel
theorem d_Ho_feed_46 : decode b_Ho_feed 46 = .ok (.iload 4, 2) := by decide +kernel
theorem d_Ho_feed_48 : decode b_Ho_feed 48 = .ok (.invokevirtual 111, 3) := by decide +kernel
theorem d_Ho_feed_51 : decode b_Ho_feed 51 = .ok (.aload_n 0, 1) := by decide +kernel
theorem d_Ho_feed_52 : decode b_Ho_feed 52 = .ok (.getfield 38, 3) := by decide +kernel
theorem d_Ho_feed_55 : decode b_Ho_feed 55 = .ok (.iload 5, 2) := by decide +kernel
theorem d_Ho_feed_57 : decode b_Ho_feed 57 = .ok (.invokevirtual 111, 3) := by decide +kernel
theorem d_Ho_feed_60 : decode b_Ho_feed 60 = .ok (.aload_n 0, 1) := by decide +kernel
theorem d_Ho_feed_61 : decode b_Ho_feed 61 = .ok (.getfield 38, 3) := by decide +kernel
theorem d_Ho_feed_64 : decode b_Ho_feed 64 = .ok (.getfield 108, 3) := by decide +kernel
theorem d_Ho_feed_67 : decode b_Ho_feed 67 = .ok (.ireturn, 1) := by decide +kernel
abbrev b_Mo_feed : ByteArray := prog_15_method_6_code
def y_Mo_feed : MethodName := ⟨"DrawingHouseModel", "feed", "(IIIII)I"⟩
abbrev z_Mo_feed : List Cond := Cond.code y_Mo_feed b_Mo_feed 8 (some .int) :: lw_g
theorem d_Mo_feed_0 : decode b_Mo_feed 0 = .ok (.aload_n 0, 1) := by decide +kernel
theorem d_Mo_feed_1 : decode b_Mo_feed 1 = .ok (.getfield 383, 3) := by decide +kernel
theorem d_Mo_feed_4 : decode b_Mo_feed 4 = .ok (.bipush 20, 2) := by decide +kernel
theorem d_Mo_feed_6 : decode b_Mo_feed 6 = .ok (.iadd, 1) := by decide +kernel
theorem d_Mo_feed_7 : decode b_Mo_feed 7 = .ok (.sipush 2000, 3) := by decide +kernel
theorem d_Mo_feed_10 : decode b_Mo_feed 10 = .ok (.if_icmp .le 5, 3) := by decide +kernel
theorem d_Mo_feed_13 : decode b_Mo_feed 13 = .ok (.iconst (-1), 1) := by decide +kernel
theorem d_Mo_feed_14 : decode b_Mo_feed 14 = .ok (.ireturn, 1) := by decide +kernel
theorem d_Mo_feed_15 : decode b_Mo_feed 15 = .ok (.iconst 0, 1) := by decide +kernel
theorem d_Mo_feed_16 : decode b_Mo_feed 16 = .ok (.istore 6, 2) := by decide +kernel
theorem d_Mo_feed_18 : decode b_Mo_feed 18 = .ok (.iload 6, 2) := by decide +kernel
theorem d_Mo_feed_20 : decode b_Mo_feed 20 = .ok (.bipush 20, 2) := by decide +kernel
theorem d_Mo_feed_22 : decode b_Mo_feed 22 = .ok (.if_icmp .ge 90, 3) := by decide +kernel
theorem d_Mo_feed_25 : decode b_Mo_feed 25 = .ok (.iload 6, 2) := by decide +kernel
theorem d_Mo_feed_27 : decode b_Mo_feed 27 = .ok (.iconst 4, 1) := by decide +kernel
theorem d_Mo_feed_28 : decode b_Mo_feed 28 = .ok (.if_icmp .ge 7, 3) := by decide +kernel
theorem d_Mo_feed_31 : decode b_Mo_feed 31 = .ok (.iload_n 1, 1) := by decide +kernel
theorem d_Mo_feed_32 : decode b_Mo_feed 32 = .ok (.goto 39, 3) := by decide +kernel
theorem d_Mo_feed_35 : decode b_Mo_feed 35 = .ok (.iload 6, 2) := by decide +kernel
theorem d_Mo_feed_37 : decode b_Mo_feed 37 = .ok (.bipush 8, 2) := by decide +kernel
theorem d_Mo_feed_39 : decode b_Mo_feed 39 = .ok (.if_icmp .ge 7, 3) := by decide +kernel
theorem d_Mo_feed_42 : decode b_Mo_feed 42 = .ok (.iload_n 2, 1) := by decide +kernel
theorem d_Mo_feed_43 : decode b_Mo_feed 43 = .ok (.goto 28, 3) := by decide +kernel
theorem d_Mo_feed_46 : decode b_Mo_feed 46 = .ok (.iload 6, 2) := by decide +kernel
theorem d_Mo_feed_48 : decode b_Mo_feed 48 = .ok (.bipush 12, 2) := by decide +kernel
theorem d_Mo_feed_50 : decode b_Mo_feed 50 = .ok (.if_icmp .ge 7, 3) := by decide +kernel
theorem d_Mo_feed_53 : decode b_Mo_feed 53 = .ok (.iload_n 3, 1) := by decide +kernel
theorem d_Mo_feed_54 : decode b_Mo_feed 54 = .ok (.goto 17, 3) := by decide +kernel
theorem d_Mo_feed_57 : decode b_Mo_feed 57 = .ok (.iload 6, 2) := by decide +kernel
theorem d_Mo_feed_59 : decode b_Mo_feed 59 = .ok (.bipush 16, 2) := by decide +kernel
theorem d_Mo_feed_61 : decode b_Mo_feed 61 = .ok (.if_icmp .ge 8, 3) := by decide +kernel
theorem d_Mo_feed_64 : decode b_Mo_feed 64 = .ok (.iload 4, 2) := by decide +kernel
theorem d_Mo_feed_66 : decode b_Mo_feed 66 = .ok (.goto 5, 3) := by decide +kernel
theorem d_Mo_feed_69 : decode b_Mo_feed 69 = .ok (.iload 5, 2) := by decide +kernel
theorem d_Mo_feed_71 : decode b_Mo_feed 71 = .ok (.istore 7, 2) := by decide +kernel
theorem d_Mo_feed_73 : decode b_Mo_feed 73 = .ok (.aload_n 0, 1) := by decide +kernel
theorem d_Mo_feed_74 : decode b_Mo_feed 74 = .ok (.getfield 9, 3) := by decide +kernel
theorem d_Mo_feed_77 : decode b_Mo_feed 77 = .ok (.aload_n 0, 1) := by decide +kernel
theorem d_Mo_feed_78 : decode b_Mo_feed 78 = .ok (.getfield 383, 3) := by decide +kernel
theorem d_Mo_feed_81 : decode b_Mo_feed 81 = .ok (.iload 7, 2) := by decide +kernel
theorem d_Mo_feed_83 : decode b_Mo_feed 83 = .ok (.bipush 24, 2) := by decide +kernel
theorem d_Mo_feed_85 : decode b_Mo_feed 85 = .ok (.bipush 8, 2) := by decide +kernel
theorem d_Mo_feed_87 : decode b_Mo_feed 87 = .ok (.iload 6, 2) := by decide +kernel
theorem d_Mo_feed_89 : decode b_Mo_feed 89 = .ok (.iconst 3, 1) := by decide +kernel
theorem d_Mo_feed_90 : decode b_Mo_feed 90 = .ok (.iand, 1) := by decide +kernel
theorem d_Mo_feed_91 : decode b_Mo_feed 91 = .ok (.imul, 1) := by decide +kernel
theorem d_Mo_feed_92 : decode b_Mo_feed 92 = .ok (.isub, 1) := by decide +kernel
theorem d_Mo_feed_93 : decode b_Mo_feed 93 = .ok (.ishr, 1) := by decide +kernel
theorem d_Mo_feed_94 : decode b_Mo_feed 94 = .ok (.i2b, 1) := by decide +kernel
theorem d_Mo_feed_95 : decode b_Mo_feed 95 = .ok (.bastore, 1) := by decide +kernel
theorem d_Mo_feed_96 : decode b_Mo_feed 96 = .ok (.aload_n 0, 1) := by decide +kernel
theorem d_Mo_feed_97 : decode b_Mo_feed 97 = .ok (.dup, 1) := by decide +kernel
theorem d_Mo_feed_98 : decode b_Mo_feed 98 = .ok (.getfield 383, 3) := by decide +kernel
theorem d_Mo_feed_101 : decode b_Mo_feed 101 = .ok (.iconst 1, 1) := by decide +kernel
theorem d_Mo_feed_102 : decode b_Mo_feed 102 = .ok (.iadd, 1) := by decide +kernel
theorem d_Mo_feed_103 : decode b_Mo_feed 103 = .ok (.putfield 383, 3) := by decide +kernel
theorem d_Mo_feed_106 : decode b_Mo_feed 106 = .ok (.iinc 6 1, 3) := by decide +kernel
theorem d_Mo_feed_109 : decode b_Mo_feed 109 = .ok (.goto (-91), 3) := by decide +kernel
theorem d_Mo_feed_112 : decode b_Mo_feed 112 = .ok (.aload_n 0, 1) := by decide +kernel
theorem d_Mo_feed_113 : decode b_Mo_feed 113 = .ok (.getfield 383, 3) := by decide +kernel
theorem d_Mo_feed_116 : decode b_Mo_feed 116 = .ok (.ireturn, 1) := by decide +kernel
/-- four bytes of v from place n on, the highest first -/
def fd (f : Nat → Int32) (n : Nat) (v : Int32) : Nat → Int32 := upd (upd (upd (upd f n (vp_nar .byte ((v >>> (24 &&& 31)).toInt8.toInt32))) (n + 1) (vp_nar .byte ((v >>> (16 &&& 31)).toInt8.toInt32))) (n + 2) (vp_nar .byte ((v >>> (8 &&& 31)).toInt8.toInt32))) (n + 3) (vp_nar .byte ((v >>> (0 &&& 31)).toInt8.toInt32))
set_option maxRecDepth 100000 in
set_option maxHeartbeats 4000000 in
/-- Reader.append(v) -/
theorem c_Re_append (l : Launch) (D : va_G) (kA : Nat → ClassId) (h : Nat) (q : Nat → Nat) (x : Nat → Int32) (f : Nat → Int32) (n : Nat) (hn : n + 4 ≤ 2000) (v : Int32) : Cv l y_Re_append z_Re_append { frames := 0, cells := 0, slots := 0, locals := 0 } D classes (TY kA) [.ref h, .int v] [[(h, .inr (8, fRe q (va_up x 1 (nI n))))], [(q 0, .inl (kA 1, 2000, .inl f))]] (fun _ : Unit => True) (fun _ => [[(h, .inr (8, fRe q (va_up x 1 (nI (n + 4)))))], [(q 0, .inl (kA 1, 2000, .inl (fd f n v)))]]) 0 0 := by
  intro sz
  refine k_met (cc := b_Re_append) (maxL := 3) (ret := none) (by decide) rfl (Nat.le_of_ble_eq_true rfl) (fun p e s m below meth c ls X hl hB => ?_)
  obtain ⟨hsz, hP, hK, hD0, hN⟩ := hB
  subst hsz
  have hD := hD0.self (sz := s.heap.size)
  generalize hAe : va_A (cat [[(h, .inr (8, fRe q (va_up x 1 (nI n))))], [(q 0, .inl (kA 1, 2000, .inl f))]]) s.heap.size = A at hD ⊢
  have hA : ∀ q : Nat, s.heap.size ≤ q → A q := fun q h => by rw [← hAe]; exact Or.inr h
  have hS : va_S A s.heap s.heap [] := va_S.rf
  obtain ⟨hx, hb, hml, hown, hts, hr, hlk, hnm⟩ := id X
  have hl : lv_has ls 3 [(0, .ref h), (1, .int v)] := hl
  have hP : va_P D classes (cat [[(h, .inr (8, fRe q (va_up x 1 (nI n))))], [(q 0, .inl (kA 1, 2000, .inl f))]]) s.heap := hP
  have hK : va_K D classes (TY kA) s := hK
  refine lv_bipush (pc := 0) (v := 24) hx hb d_Re_append_0 (by decide) ?_
  refine lv_istore_n (pc := 2) (lv' := [(2, .int 24), (0, .ref h), (1, .int v)]) hx hb d_Re_append_2 rfl hl (by decide) rfl (fun ls hl => ?_)
  refine lv_iload_n (pc := 3) hx hb d_Re_append_3 rfl (lv_at hl 0 rfl) ?_
  refine lv_if_lt (pc := 4) (tgt := 36) hx hb d_Re_append_4 (by decide) (fun c1 => absurd c1 (by decide)) (fun c1 => ?_)
  refine lv_aload_n (pc := 7) hx hb d_Re_append_7 rfl (lv_at hl 1 rfl) ?_
  refine k_get (pc := 8) (v := .ref (q 0)) X hK hP 0 rfl rfl i_Re 0 (by decide) wm_194 rfl rfl d_Re_append_8 ?_
  refine lv_aload_n (pc := 11) hx hb d_Re_append_11 rfl (lv_at hl 1 rfl) ?_
  refine k_get (pc := 12) (v := .int (nI n)) X hK hP 0 rfl rfl i_Re 1 (by decide) wm_196 rfl rfl d_Re_append_12 ?_
  refine lv_iload_n (pc := 15) hx hb d_Re_append_15 rfl (lv_at hl 2 rfl) ?_
  refine lv_iload_n (pc := 16) hx hb d_Re_append_16 rfl (lv_at hl 0 rfl) ?_
  refine lv_ishr (pc := 17) hx hb d_Re_append_17 ?_
  refine lv_i2b (pc := 18) hx hb d_Re_append_18 rfl ?_
  refine k_bst (pc := 19) hx hb hK hP hD hS 1 1 rfl rfl (n) rfl (by omega) (by decide) d_Re_append_19 (fun H locs hP hD hS => ?_)
  have hP : va_P D classes (cat [[(h, .inr (8, fRe q (va_up x 1 (nI n))))], [(q 0, .inl (kA 1, 2000, .inl (upd f n (vp_nar .byte ((v >>> (24 &&& 31)).toInt8.toInt32)))))]]) H := hP
  have hD : va_D A (cat [[(h, .inr (8, fRe q (va_up x 1 (nI n))))], [(q 0, .inl (kA 1, 2000, .inl (upd f n (vp_nar .byte ((v >>> (24 &&& 31)).toInt8.toInt32)))))]]) := hD
  refine lv_aload_n (pc := 20) hx hb d_Re_append_20 rfl (lv_at hl 1 rfl) ?_
  refine lv_dup (pc := 21) hx hb d_Re_append_21 rfl ?_
  refine k_get (pc := 22) (v := .int (nI n)) X hK hP 0 rfl rfl i_Re 1 (by decide) wm_196 rfl rfl d_Re_append_22 ?_
  refine lv_iconst (pc := 25) (v := 1) hx hb d_Re_append_25 (by decide) ?_
  refine k_add (pc := 26) (x := n) (y := 1) hx hb d_Re_append_26 ?_
  refine k_put (pc := 27) X hK hP hD hS 0 rfl rfl i_Re t_Re t_Re_ok n_Re 1 (by decide) wm_196 rfl (Or.inl rfl) rfl rfl (Nat.le_of_ble_eq_true rfl) d_Re_append_27 (fun H locs hP hD hS => ?_)
  have hP : va_P D classes (cat [[(h, .inr (8, fRe q (va_up x 1 (nI (n + 1)))))], [(q 0, .inl (kA 1, 2000, .inl (upd f n (vp_nar .byte ((v >>> (24 &&& 31)).toInt8.toInt32)))))]]) H := hP
  have hD : va_D A (cat [[(h, .inr (8, fRe q (va_up x 1 (nI (n + 1)))))], [(q 0, .inl (kA 1, 2000, .inl (upd f n (vp_nar .byte ((v >>> (24 &&& 31)).toInt8.toInt32)))))]]) := hD
  refine lv_iinc (pc := 30) (v := 16) (lv' := [(2, .int 16), (0, .ref h), (1, .int v)]) hx hb d_Re_append_30 hl (k := 0) rfl (by decide) (by decide) rfl (fun ls hl => ?_)
  refine lv_goto (pc := 33) (tgt := 3) hx hb d_Re_append_33 (by decide) ?_
  refine lv_iload_n (pc := 3) hx hb d_Re_append_3 rfl (lv_at hl 0 rfl) ?_
  refine lv_if_lt (pc := 4) (tgt := 36) hx hb d_Re_append_4 (by decide) (fun c1 => absurd c1 (by decide)) (fun c1 => ?_)
  refine lv_aload_n (pc := 7) hx hb d_Re_append_7 rfl (lv_at hl 1 rfl) ?_
  refine k_get (pc := 8) (v := .ref (q 0)) X hK hP 0 rfl rfl i_Re 0 (by decide) wm_194 rfl rfl d_Re_append_8 ?_
  refine lv_aload_n (pc := 11) hx hb d_Re_append_11 rfl (lv_at hl 1 rfl) ?_
  refine k_get (pc := 12) (v := .int (nI (n + 1))) X hK hP 0 rfl rfl i_Re 1 (by decide) wm_196 rfl rfl d_Re_append_12 ?_
  refine lv_iload_n (pc := 15) hx hb d_Re_append_15 rfl (lv_at hl 2 rfl) ?_
  refine lv_iload_n (pc := 16) hx hb d_Re_append_16 rfl (lv_at hl 0 rfl) ?_
  refine lv_ishr (pc := 17) hx hb d_Re_append_17 ?_
  refine lv_i2b (pc := 18) hx hb d_Re_append_18 rfl ?_
  refine k_bst (pc := 19) hx hb hK hP hD hS 1 1 rfl rfl (n + 1) rfl (by omega) (by decide) d_Re_append_19 (fun H locs hP hD hS => ?_)
  have hP : va_P D classes (cat [[(h, .inr (8, fRe q (va_up x 1 (nI (n + 1)))))], [(q 0, .inl (kA 1, 2000, .inl (upd (upd f n (vp_nar .byte ((v >>> (24 &&& 31)).toInt8.toInt32))) (n + 1) (vp_nar .byte ((v >>> (16 &&& 31)).toInt8.toInt32)))))]]) H := hP
  have hD : va_D A (cat [[(h, .inr (8, fRe q (va_up x 1 (nI (n + 1)))))], [(q 0, .inl (kA 1, 2000, .inl (upd (upd f n (vp_nar .byte ((v >>> (24 &&& 31)).toInt8.toInt32))) (n + 1) (vp_nar .byte ((v >>> (16 &&& 31)).toInt8.toInt32)))))]]) := hD
  refine lv_aload_n (pc := 20) hx hb d_Re_append_20 rfl (lv_at hl 1 rfl) ?_
  refine lv_dup (pc := 21) hx hb d_Re_append_21 rfl ?_
  refine k_get (pc := 22) (v := .int (nI (n + 1))) X hK hP 0 rfl rfl i_Re 1 (by decide) wm_196 rfl rfl d_Re_append_22 ?_
  refine lv_iconst (pc := 25) (v := 1) hx hb d_Re_append_25 (by decide) ?_
  refine k_add (pc := 26) (x := n + 1) (y := 1) hx hb d_Re_append_26 ?_
  refine k_put (pc := 27) X hK hP hD hS 0 rfl rfl i_Re t_Re t_Re_ok n_Re 1 (by decide) wm_196 rfl (Or.inl rfl) rfl rfl (Nat.le_of_ble_eq_true rfl) d_Re_append_27 (fun H locs hP hD hS => ?_)
  have hP : va_P D classes (cat [[(h, .inr (8, fRe q (va_up x 1 (nI ((n + 1) + 1)))))], [(q 0, .inl (kA 1, 2000, .inl (upd (upd f n (vp_nar .byte ((v >>> (24 &&& 31)).toInt8.toInt32))) (n + 1) (vp_nar .byte ((v >>> (16 &&& 31)).toInt8.toInt32)))))]]) H := hP
  have hD : va_D A (cat [[(h, .inr (8, fRe q (va_up x 1 (nI ((n + 1) + 1)))))], [(q 0, .inl (kA 1, 2000, .inl (upd (upd f n (vp_nar .byte ((v >>> (24 &&& 31)).toInt8.toInt32))) (n + 1) (vp_nar .byte ((v >>> (16 &&& 31)).toInt8.toInt32)))))]]) := hD
  refine lv_iinc (pc := 30) (v := 8) (lv' := [(2, .int 8), (0, .ref h), (1, .int v)]) hx hb d_Re_append_30 hl (k := 0) rfl (by decide) (by decide) rfl (fun ls hl => ?_)
  refine lv_goto (pc := 33) (tgt := 3) hx hb d_Re_append_33 (by decide) ?_
  refine lv_iload_n (pc := 3) hx hb d_Re_append_3 rfl (lv_at hl 0 rfl) ?_
  refine lv_if_lt (pc := 4) (tgt := 36) hx hb d_Re_append_4 (by decide) (fun c1 => absurd c1 (by decide)) (fun c1 => ?_)
  refine lv_aload_n (pc := 7) hx hb d_Re_append_7 rfl (lv_at hl 1 rfl) ?_
  refine k_get (pc := 8) (v := .ref (q 0)) X hK hP 0 rfl rfl i_Re 0 (by decide) wm_194 rfl rfl d_Re_append_8 ?_
  refine lv_aload_n (pc := 11) hx hb d_Re_append_11 rfl (lv_at hl 1 rfl) ?_
  refine k_get (pc := 12) (v := .int (nI ((n + 1) + 1))) X hK hP 0 rfl rfl i_Re 1 (by decide) wm_196 rfl rfl d_Re_append_12 ?_
  refine lv_iload_n (pc := 15) hx hb d_Re_append_15 rfl (lv_at hl 2 rfl) ?_
  refine lv_iload_n (pc := 16) hx hb d_Re_append_16 rfl (lv_at hl 0 rfl) ?_
  refine lv_ishr (pc := 17) hx hb d_Re_append_17 ?_
  refine lv_i2b (pc := 18) hx hb d_Re_append_18 rfl ?_
  refine k_bst (pc := 19) hx hb hK hP hD hS 1 1 rfl rfl ((n + 1) + 1) rfl (by omega) (by decide) d_Re_append_19 (fun H locs hP hD hS => ?_)
  have hP : va_P D classes (cat [[(h, .inr (8, fRe q (va_up x 1 (nI ((n + 1) + 1)))))], [(q 0, .inl (kA 1, 2000, .inl (upd (upd (upd f n (vp_nar .byte ((v >>> (24 &&& 31)).toInt8.toInt32))) (n + 1) (vp_nar .byte ((v >>> (16 &&& 31)).toInt8.toInt32))) ((n + 1) + 1) (vp_nar .byte ((v >>> (8 &&& 31)).toInt8.toInt32)))))]]) H := hP
  have hD : va_D A (cat [[(h, .inr (8, fRe q (va_up x 1 (nI ((n + 1) + 1)))))], [(q 0, .inl (kA 1, 2000, .inl (upd (upd (upd f n (vp_nar .byte ((v >>> (24 &&& 31)).toInt8.toInt32))) (n + 1) (vp_nar .byte ((v >>> (16 &&& 31)).toInt8.toInt32))) ((n + 1) + 1) (vp_nar .byte ((v >>> (8 &&& 31)).toInt8.toInt32)))))]]) := hD
  refine lv_aload_n (pc := 20) hx hb d_Re_append_20 rfl (lv_at hl 1 rfl) ?_
  refine lv_dup (pc := 21) hx hb d_Re_append_21 rfl ?_
  refine k_get (pc := 22) (v := .int (nI ((n + 1) + 1))) X hK hP 0 rfl rfl i_Re 1 (by decide) wm_196 rfl rfl d_Re_append_22 ?_
  refine lv_iconst (pc := 25) (v := 1) hx hb d_Re_append_25 (by decide) ?_
  refine k_add (pc := 26) (x := (n + 1) + 1) (y := 1) hx hb d_Re_append_26 ?_
  refine k_put (pc := 27) X hK hP hD hS 0 rfl rfl i_Re t_Re t_Re_ok n_Re 1 (by decide) wm_196 rfl (Or.inl rfl) rfl rfl (Nat.le_of_ble_eq_true rfl) d_Re_append_27 (fun H locs hP hD hS => ?_)
  have hP : va_P D classes (cat [[(h, .inr (8, fRe q (va_up x 1 (nI (((n + 1) + 1) + 1)))))], [(q 0, .inl (kA 1, 2000, .inl (upd (upd (upd f n (vp_nar .byte ((v >>> (24 &&& 31)).toInt8.toInt32))) (n + 1) (vp_nar .byte ((v >>> (16 &&& 31)).toInt8.toInt32))) ((n + 1) + 1) (vp_nar .byte ((v >>> (8 &&& 31)).toInt8.toInt32)))))]]) H := hP
  have hD : va_D A (cat [[(h, .inr (8, fRe q (va_up x 1 (nI (((n + 1) + 1) + 1)))))], [(q 0, .inl (kA 1, 2000, .inl (upd (upd (upd f n (vp_nar .byte ((v >>> (24 &&& 31)).toInt8.toInt32))) (n + 1) (vp_nar .byte ((v >>> (16 &&& 31)).toInt8.toInt32))) ((n + 1) + 1) (vp_nar .byte ((v >>> (8 &&& 31)).toInt8.toInt32)))))]]) := hD
  refine lv_iinc (pc := 30) (v := 0) (lv' := [(2, .int 0), (0, .ref h), (1, .int v)]) hx hb d_Re_append_30 hl (k := 0) rfl (by decide) (by decide) rfl (fun ls hl => ?_)
  refine lv_goto (pc := 33) (tgt := 3) hx hb d_Re_append_33 (by decide) ?_
  refine lv_iload_n (pc := 3) hx hb d_Re_append_3 rfl (lv_at hl 0 rfl) ?_
  refine lv_if_lt (pc := 4) (tgt := 36) hx hb d_Re_append_4 (by decide) (fun c1 => absurd c1 (by decide)) (fun c1 => ?_)
  refine lv_aload_n (pc := 7) hx hb d_Re_append_7 rfl (lv_at hl 1 rfl) ?_
  refine k_get (pc := 8) (v := .ref (q 0)) X hK hP 0 rfl rfl i_Re 0 (by decide) wm_194 rfl rfl d_Re_append_8 ?_
  refine lv_aload_n (pc := 11) hx hb d_Re_append_11 rfl (lv_at hl 1 rfl) ?_
  refine k_get (pc := 12) (v := .int (nI (((n + 1) + 1) + 1))) X hK hP 0 rfl rfl i_Re 1 (by decide) wm_196 rfl rfl d_Re_append_12 ?_
  refine lv_iload_n (pc := 15) hx hb d_Re_append_15 rfl (lv_at hl 2 rfl) ?_
  refine lv_iload_n (pc := 16) hx hb d_Re_append_16 rfl (lv_at hl 0 rfl) ?_
  refine lv_ishr (pc := 17) hx hb d_Re_append_17 ?_
  refine lv_i2b (pc := 18) hx hb d_Re_append_18 rfl ?_
  refine k_bst (pc := 19) hx hb hK hP hD hS 1 1 rfl rfl (((n + 1) + 1) + 1) rfl (by omega) (by decide) d_Re_append_19 (fun H locs hP hD hS => ?_)
  have hP : va_P D classes (cat [[(h, .inr (8, fRe q (va_up x 1 (nI (((n + 1) + 1) + 1)))))], [(q 0, .inl (kA 1, 2000, .inl (upd (upd (upd (upd f n (vp_nar .byte ((v >>> (24 &&& 31)).toInt8.toInt32))) (n + 1) (vp_nar .byte ((v >>> (16 &&& 31)).toInt8.toInt32))) ((n + 1) + 1) (vp_nar .byte ((v >>> (8 &&& 31)).toInt8.toInt32))) (((n + 1) + 1) + 1) (vp_nar .byte ((v >>> (0 &&& 31)).toInt8.toInt32)))))]]) H := hP
  have hD : va_D A (cat [[(h, .inr (8, fRe q (va_up x 1 (nI (((n + 1) + 1) + 1)))))], [(q 0, .inl (kA 1, 2000, .inl (upd (upd (upd (upd f n (vp_nar .byte ((v >>> (24 &&& 31)).toInt8.toInt32))) (n + 1) (vp_nar .byte ((v >>> (16 &&& 31)).toInt8.toInt32))) ((n + 1) + 1) (vp_nar .byte ((v >>> (8 &&& 31)).toInt8.toInt32))) (((n + 1) + 1) + 1) (vp_nar .byte ((v >>> (0 &&& 31)).toInt8.toInt32)))))]]) := hD
  refine lv_aload_n (pc := 20) hx hb d_Re_append_20 rfl (lv_at hl 1 rfl) ?_
  refine lv_dup (pc := 21) hx hb d_Re_append_21 rfl ?_
  refine k_get (pc := 22) (v := .int (nI (((n + 1) + 1) + 1))) X hK hP 0 rfl rfl i_Re 1 (by decide) wm_196 rfl rfl d_Re_append_22 ?_
  refine lv_iconst (pc := 25) (v := 1) hx hb d_Re_append_25 (by decide) ?_
  refine k_add (pc := 26) (x := ((n + 1) + 1) + 1) (y := 1) hx hb d_Re_append_26 ?_
  refine k_put (pc := 27) X hK hP hD hS 0 rfl rfl i_Re t_Re t_Re_ok n_Re 1 (by decide) wm_196 rfl (Or.inl rfl) rfl rfl (Nat.le_of_ble_eq_true rfl) d_Re_append_27 (fun H locs hP hD hS => ?_)
  have hP : va_P D classes (cat [[(h, .inr (8, fRe q (va_up x 1 (nI ((((n + 1) + 1) + 1) + 1)))))], [(q 0, .inl (kA 1, 2000, .inl (upd (upd (upd (upd f n (vp_nar .byte ((v >>> (24 &&& 31)).toInt8.toInt32))) (n + 1) (vp_nar .byte ((v >>> (16 &&& 31)).toInt8.toInt32))) ((n + 1) + 1) (vp_nar .byte ((v >>> (8 &&& 31)).toInt8.toInt32))) (((n + 1) + 1) + 1) (vp_nar .byte ((v >>> (0 &&& 31)).toInt8.toInt32)))))]]) H := hP
  have hD : va_D A (cat [[(h, .inr (8, fRe q (va_up x 1 (nI ((((n + 1) + 1) + 1) + 1)))))], [(q 0, .inl (kA 1, 2000, .inl (upd (upd (upd (upd f n (vp_nar .byte ((v >>> (24 &&& 31)).toInt8.toInt32))) (n + 1) (vp_nar .byte ((v >>> (16 &&& 31)).toInt8.toInt32))) ((n + 1) + 1) (vp_nar .byte ((v >>> (8 &&& 31)).toInt8.toInt32))) (((n + 1) + 1) + 1) (vp_nar .byte ((v >>> (0 &&& 31)).toInt8.toInt32)))))]]) := hD
  refine lv_iinc (pc := 30) (v := (-8)) (lv' := [(2, .int ((-8))), (0, .ref h), (1, .int v)]) hx hb d_Re_append_30 hl (k := 0) rfl (by decide) (by decide) rfl (fun ls hl => ?_)
  refine lv_goto (pc := 33) (tgt := 3) hx hb d_Re_append_33 (by decide) ?_
  refine lv_iload_n (pc := 3) hx hb d_Re_append_3 rfl (lv_at hl 0 rfl) ?_
  refine lv_if_lt (pc := 4) (tgt := 36) hx hb d_Re_append_4 (by decide) (fun c1 => ?_) (fun c1 => absurd (by decide) c1)
  refine W.widen (k := 0) (n := 0) (Nat.le_of_ble_eq_true rfl) (Nat.le_of_ble_eq_true rfl) ?_
  exact W.vret hx hb hr (fun t ht hW => ⟨⟨(), rfl, trivial, by rw [ht]; exact hP, va_K.moved hW.alike hK, hD⟩, hS.F ht⟩) hS.2.2 d_Re_append_36
set_option maxRecDepth 100000 in
set_option maxHeartbeats 4000000 in
/-- feed, when there is room -/
theorem c_Ho_feed (l : Launch) (D : va_G) (kA : Nat → ClassId) (h : Nat) (q : Nat → Nat) (x : Nat → Int32) (o16 o17 o18 o19 o20 : Option Nat) (q1 : Nat → Nat) (x1 : Nat → Int32) (f : Nat → Int32) (n : Nat) (v1 v2 v3 v4 v5 : Int32) (hn : n + 20 ≤ 2000) : Ci l y_Ho_feed z_Ho_feed { frames := 1, cells := 0, slots := 0, locals := 22 } D classes (TY kA) [.ref h, .int v1, .int v2, .int v3, .int v4, .int v5] [[(h, .inr (12, fHo q x o16 o17 o18 o19 o20))], [(q 4, .inr (8, fRe q1 (va_up x1 1 (nI n))))], [(q1 0, .inl (kA 1, 2000, .inl f))]] (fun r (_ : Unit) => r = nI (n + 20)) (fun _ => [[(h, .inr (12, fHo q x o16 o17 o18 o19 o20))], [(q 4, .inr (8, fRe q1 (va_up x1 1 (nI (n + 20)))))], [(q1 0, .inl (kA 1, 2000, .inl (fd (fd (fd (fd (fd f n v1) (n + 4) v2) (n + 8) v3) (n + 12) v4) (n + 16) v5)))]]) 0 0 := by
  intro sz
  refine k_met (cc := b_Ho_feed) (maxL := 6) (ret := (some .int)) (by decide) rfl (Nat.le_of_ble_eq_true rfl) (fun p e s m below meth c ls X hl hB => ?_)
  obtain ⟨hsz, hP, hK, hD0, hN⟩ := hB
  subst hsz
  have hD := hD0.self (sz := s.heap.size)
  generalize hAe : va_A (cat [[(h, .inr (12, fHo q x o16 o17 o18 o19 o20))], [(q 4, .inr (8, fRe q1 (va_up x1 1 (nI n))))], [(q1 0, .inl (kA 1, 2000, .inl f))]]) s.heap.size = A at hD ⊢
  have hA : ∀ q : Nat, s.heap.size ≤ q → A q := fun q h => by rw [← hAe]; exact Or.inr h
  have hS : va_S A s.heap s.heap [] := va_S.rf
  obtain ⟨hx, hb, hml, hown, hts, hr, hlk, hnm⟩ := id X
  have hl : lv_has ls 6 [(0, .ref h), (1, .int v1), (2, .int v2), (3, .int v3), (4, .int v4), (5, .int v5)] := hl
  have hP : va_P D classes (cat [[(h, .inr (12, fHo q x o16 o17 o18 o19 o20))], [(q 4, .inr (8, fRe q1 (va_up x1 1 (nI n))))], [(q1 0, .inl (kA 1, 2000, .inl f))]]) s.heap := hP
  have hK : va_K D classes (TY kA) s := hK
  refine lv_aload_n (pc := 0) hx hb d_Ho_feed_0 rfl (lv_at hl 0 rfl) ?_
  refine k_get (pc := 1) X hK hP 0 rfl rfl i_Ho 4 (by decide) wm_559 rfl rfl d_Ho_feed_1 ?_
  refine k_get (pc := 4) (v := .int (nI n)) X hK hP 1 rfl rfl i_Re 1 (by decide) wm_197 rfl rfl d_Ho_feed_4 ?_
  refine lv_bipush (pc := 7) (v := 20) hx hb d_Ho_feed_7 (by decide) ?_
  refine k_add (pc := 9) (x := n) (y := 20) hx hb d_Ho_feed_9 ?_
  refine lv_sipush (pc := 10) (v := 2000) hx hb d_Ho_feed_10 (by decide) ?_
  refine k_cle (pc := 13) (x := n + 20) (y := 2000) (tgt := 18) hx hb (by omega) (by decide) d_Ho_feed_13 (by decide) (fun c1 => ?_) (fun c1 => absurd c1 (by omega))
  refine lv_aload_n (pc := 18) hx hb d_Ho_feed_18 rfl (lv_at hl 0 rfl) ?_
  refine k_get (pc := 19) X hK hP 0 rfl rfl i_Ho 4 (by decide) wm_559 rfl rfl d_Ho_feed_19 ?_
  refine lv_iload_n (pc := 22) hx hb d_Ho_feed_22 rfl (lv_at hl 1 rfl) ?_
  refine k_goV (gr := [[(h, .inr (12, fHo q x o16 o17 o18 o19 o20))]]) (k_rV (pc := 23) (As := [.int v1]) (rest := []) X (c_Re_append l D kA (q 4) q1 x1 f n (by omega) v1 s.heap.size) rfl wm_626 wm_2 wm_623 wm_624 wm_625 1 (by decide +kernel) ⟨Nat.le_of_ble_eq_true rfl, Nat.le_of_ble_eq_true rfl⟩ rfl rfl (va_recv hK hP (ci := 8) (q0 := 1) rfl rfl) (k_pre hN hK hP hD [1, 2] [0] 3 rfl (by decide) rfl) rfl hl.1 rfl (Nat.le_of_ble_eq_true rfl) d_Ho_feed_23 ⟨Nat.le_of_ble_eq_true rfl, Nat.le_of_ble_eq_true rfl⟩) hP hD hS hA [1, 2] [0] 3 rfl (by decide) rfl rfl (fun u1 H locs hu1 hP hD hS => ?_)
  have hP : va_P D classes (cat [[(h, .inr (12, fHo q x o16 o17 o18 o19 o20))], [(q 4, .inr (8, fRe q1 (va_up x1 1 (nI (n + 4)))))], [(q1 0, .inl (kA 1, 2000, .inl (fd f n v1)))]]) H := hP
  have hD : va_D A (cat [[(h, .inr (12, fHo q x o16 o17 o18 o19 o20))], [(q 4, .inr (8, fRe q1 (va_up x1 1 (nI (n + 4)))))], [(q1 0, .inl (kA 1, 2000, .inl (fd f n v1)))]]) := hD
  refine lv_aload_n (pc := 26) hx hb d_Ho_feed_26 rfl (lv_at hl 0 rfl) ?_
  refine k_get (pc := 27) X hK hP 0 rfl rfl i_Ho 4 (by decide) wm_559 rfl rfl d_Ho_feed_27 ?_
  refine lv_iload_n (pc := 30) hx hb d_Ho_feed_30 rfl (lv_at hl 2 rfl) ?_
  refine k_goV (gr := [[(h, .inr (12, fHo q x o16 o17 o18 o19 o20))]]) (k_rV (pc := 31) (As := [.int v2]) (rest := []) X (c_Re_append l D kA (q 4) q1 x1 (fd f n v1) (n + 4) (by omega) v2 H.size) rfl wm_626 wm_2 wm_623 wm_624 wm_625 1 (by decide +kernel) ⟨Nat.le_of_ble_eq_true rfl, Nat.le_of_ble_eq_true rfl⟩ rfl rfl (va_recv hK hP (ci := 8) (q0 := 1) rfl rfl) (k_pre hN hK hP hD [1, 2] [0] 3 rfl (by decide) rfl) rfl hl.1 rfl (Nat.le_of_ble_eq_true rfl) d_Ho_feed_31 ⟨Nat.le_of_ble_eq_true rfl, Nat.le_of_ble_eq_true rfl⟩) hP hD hS hA [1, 2] [0] 3 rfl (by decide) rfl rfl (fun u2 H locs hu2 hP hD hS => ?_)
  have hP : va_P D classes (cat [[(h, .inr (12, fHo q x o16 o17 o18 o19 o20))], [(q 4, .inr (8, fRe q1 (va_up x1 1 (nI (n + 8)))))], [(q1 0, .inl (kA 1, 2000, .inl (fd (fd f n v1) (n + 4) v2)))]]) H := hP
  have hD : va_D A (cat [[(h, .inr (12, fHo q x o16 o17 o18 o19 o20))], [(q 4, .inr (8, fRe q1 (va_up x1 1 (nI (n + 8)))))], [(q1 0, .inl (kA 1, 2000, .inl (fd (fd f n v1) (n + 4) v2)))]]) := hD
  refine lv_aload_n (pc := 34) hx hb d_Ho_feed_34 rfl (lv_at hl 0 rfl) ?_
  refine k_get (pc := 35) X hK hP 0 rfl rfl i_Ho 4 (by decide) wm_559 rfl rfl d_Ho_feed_35 ?_
  refine lv_iload_n (pc := 38) hx hb d_Ho_feed_38 rfl (lv_at hl 3 rfl) ?_
  refine k_goV (gr := [[(h, .inr (12, fHo q x o16 o17 o18 o19 o20))]]) (k_rV (pc := 39) (As := [.int v3]) (rest := []) X (c_Re_append l D kA (q 4) q1 x1 (fd (fd f n v1) (n + 4) v2) (n + 8) (by omega) v3 H.size) rfl wm_626 wm_2 wm_623 wm_624 wm_625 1 (by decide +kernel) ⟨Nat.le_of_ble_eq_true rfl, Nat.le_of_ble_eq_true rfl⟩ rfl rfl (va_recv hK hP (ci := 8) (q0 := 1) rfl rfl) (k_pre hN hK hP hD [1, 2] [0] 3 rfl (by decide) rfl) rfl hl.1 rfl (Nat.le_of_ble_eq_true rfl) d_Ho_feed_39 ⟨Nat.le_of_ble_eq_true rfl, Nat.le_of_ble_eq_true rfl⟩) hP hD hS hA [1, 2] [0] 3 rfl (by decide) rfl rfl (fun u3 H locs hu3 hP hD hS => ?_)
  have hP : va_P D classes (cat [[(h, .inr (12, fHo q x o16 o17 o18 o19 o20))], [(q 4, .inr (8, fRe q1 (va_up x1 1 (nI (n + 12)))))], [(q1 0, .inl (kA 1, 2000, .inl (fd (fd (fd f n v1) (n + 4) v2) (n + 8) v3)))]]) H := hP
  have hD : va_D A (cat [[(h, .inr (12, fHo q x o16 o17 o18 o19 o20))], [(q 4, .inr (8, fRe q1 (va_up x1 1 (nI (n + 12)))))], [(q1 0, .inl (kA 1, 2000, .inl (fd (fd (fd f n v1) (n + 4) v2) (n + 8) v3)))]]) := hD
  refine lv_aload_n (pc := 42) hx hb d_Ho_feed_42 rfl (lv_at hl 0 rfl) ?_
  refine k_get (pc := 43) X hK hP 0 rfl rfl i_Ho 4 (by decide) wm_559 rfl rfl d_Ho_feed_43 ?_
  refine lv_iload (pc := 46) hx hb d_Ho_feed_46 (lv_at hl 4 rfl) ?_
  refine k_goV (gr := [[(h, .inr (12, fHo q x o16 o17 o18 o19 o20))]]) (k_rV (pc := 48) (As := [.int v4]) (rest := []) X (c_Re_append l D kA (q 4) q1 x1 (fd (fd (fd f n v1) (n + 4) v2) (n + 8) v3) (n + 12) (by omega) v4 H.size) rfl wm_626 wm_2 wm_623 wm_624 wm_625 1 (by decide +kernel) ⟨Nat.le_of_ble_eq_true rfl, Nat.le_of_ble_eq_true rfl⟩ rfl rfl (va_recv hK hP (ci := 8) (q0 := 1) rfl rfl) (k_pre hN hK hP hD [1, 2] [0] 3 rfl (by decide) rfl) rfl hl.1 rfl (Nat.le_of_ble_eq_true rfl) d_Ho_feed_48 ⟨Nat.le_of_ble_eq_true rfl, Nat.le_of_ble_eq_true rfl⟩) hP hD hS hA [1, 2] [0] 3 rfl (by decide) rfl rfl (fun u4 H locs hu4 hP hD hS => ?_)
  have hP : va_P D classes (cat [[(h, .inr (12, fHo q x o16 o17 o18 o19 o20))], [(q 4, .inr (8, fRe q1 (va_up x1 1 (nI (n + 16)))))], [(q1 0, .inl (kA 1, 2000, .inl (fd (fd (fd (fd f n v1) (n + 4) v2) (n + 8) v3) (n + 12) v4)))]]) H := hP
  have hD : va_D A (cat [[(h, .inr (12, fHo q x o16 o17 o18 o19 o20))], [(q 4, .inr (8, fRe q1 (va_up x1 1 (nI (n + 16)))))], [(q1 0, .inl (kA 1, 2000, .inl (fd (fd (fd (fd f n v1) (n + 4) v2) (n + 8) v3) (n + 12) v4)))]]) := hD
  refine lv_aload_n (pc := 51) hx hb d_Ho_feed_51 rfl (lv_at hl 0 rfl) ?_
  refine k_get (pc := 52) X hK hP 0 rfl rfl i_Ho 4 (by decide) wm_559 rfl rfl d_Ho_feed_52 ?_
  refine lv_iload (pc := 55) hx hb d_Ho_feed_55 (lv_at hl 5 rfl) ?_
  refine k_goV (gr := [[(h, .inr (12, fHo q x o16 o17 o18 o19 o20))]]) (k_rV (pc := 57) (As := [.int v5]) (rest := []) X (c_Re_append l D kA (q 4) q1 x1 (fd (fd (fd (fd f n v1) (n + 4) v2) (n + 8) v3) (n + 12) v4) (n + 16) (by omega) v5 H.size) rfl wm_626 wm_2 wm_623 wm_624 wm_625 1 (by decide +kernel) ⟨Nat.le_of_ble_eq_true rfl, Nat.le_of_ble_eq_true rfl⟩ rfl rfl (va_recv hK hP (ci := 8) (q0 := 1) rfl rfl) (k_pre hN hK hP hD [1, 2] [0] 3 rfl (by decide) rfl) rfl hl.1 rfl (Nat.le_of_ble_eq_true rfl) d_Ho_feed_57 ⟨Nat.le_of_ble_eq_true rfl, Nat.le_of_ble_eq_true rfl⟩) hP hD hS hA [1, 2] [0] 3 rfl (by decide) rfl rfl (fun u5 H locs hu5 hP hD hS => ?_)
  have hP : va_P D classes (cat [[(h, .inr (12, fHo q x o16 o17 o18 o19 o20))], [(q 4, .inr (8, fRe q1 (va_up x1 1 (nI (n + 20)))))], [(q1 0, .inl (kA 1, 2000, .inl (fd (fd (fd (fd (fd f n v1) (n + 4) v2) (n + 8) v3) (n + 12) v4) (n + 16) v5)))]]) H := hP
  have hD : va_D A (cat [[(h, .inr (12, fHo q x o16 o17 o18 o19 o20))], [(q 4, .inr (8, fRe q1 (va_up x1 1 (nI (n + 20)))))], [(q1 0, .inl (kA 1, 2000, .inl (fd (fd (fd (fd (fd f n v1) (n + 4) v2) (n + 8) v3) (n + 12) v4) (n + 16) v5)))]]) := hD
  refine lv_aload_n (pc := 60) hx hb d_Ho_feed_60 rfl (lv_at hl 0 rfl) ?_
  refine k_get (pc := 61) X hK hP 0 rfl rfl i_Ho 4 (by decide) wm_559 rfl rfl d_Ho_feed_61 ?_
  refine k_get (pc := 64) (v := .int (nI (n + 20))) X hK hP 1 rfl rfl i_Re 1 (by decide) wm_197 rfl rfl d_Ho_feed_64 ?_
  obtain ⟨hP, hD⟩ := k_ord (gc := [[(h, .inr (12, fHo q x o16 o17 o18 o19 o20))], [(q 4, .inr (8, fRe q1 (va_up x1 1 (nI (n + 20)))))], [(q1 0, .inl (kA 1, 2000, .inl (fd (fd (fd (fd (fd f n v1) (n + 4) v2) (n + 8) v3) (n + 12) v4) (n + 16) v5)))]]) hP hD [0, 1, 2] 3 rfl (by decide) rfl
  refine W.widen (k := 0) (n := 0) (Nat.le_of_ble_eq_true rfl) (Nat.le_of_ble_eq_true rfl) ?_
  exact W.iret (v := (nI (n + 20))) hx hb hr (fun t ht hW => ⟨⟨(nI (n + 20)), (), rfl, rfl, by rw [ht]; exact hP, va_K.moved hW.alike hK, hD⟩, hS.F ht⟩) hS.2.2 d_Ho_feed_67
set_option maxRecDepth 100000 in
set_option maxHeartbeats 4000000 in
/-- feed, when there is none -/
theorem c_Ho_feed_no (l : Launch) (D : va_G) (kA : Nat → ClassId) (h : Nat) (q : Nat → Nat) (x : Nat → Int32) (o16 o17 o18 o19 o20 : Option Nat) (q1 : Nat → Nat) (x1 : Nat → Int32) (f : Nat → Int32) (n : Nat) (v1 v2 v3 v4 v5 : Int32) (hn : 2000 < n + 20) (hn2 : n ≤ 2000) : Ci l y_Ho_feed z_Ho_feed { frames := 0, cells := 0, slots := 0, locals := 0 } D classes (TY kA) [.ref h, .int v1, .int v2, .int v3, .int v4, .int v5] [[(h, .inr (12, fHo q x o16 o17 o18 o19 o20))], [(q 4, .inr (8, fRe q1 (va_up x1 1 (nI n))))], [(q1 0, .inl (kA 1, 2000, .inl f))]] (fun r (_ : Unit) => r = -1) (fun _ => [[(h, .inr (12, fHo q x o16 o17 o18 o19 o20))], [(q 4, .inr (8, fRe q1 (va_up x1 1 (nI n))))], [(q1 0, .inl (kA 1, 2000, .inl f))]]) 0 0 := by
  intro sz
  refine k_met (cc := b_Ho_feed) (maxL := 6) (ret := (some .int)) (by decide) rfl (Nat.le_of_ble_eq_true rfl) (fun p e s m below meth c ls X hl hB => ?_)
  obtain ⟨hsz, hP, hK, hD0, hN⟩ := hB
  subst hsz
  have hD := hD0.self (sz := s.heap.size)
  generalize hAe : va_A (cat [[(h, .inr (12, fHo q x o16 o17 o18 o19 o20))], [(q 4, .inr (8, fRe q1 (va_up x1 1 (nI n))))], [(q1 0, .inl (kA 1, 2000, .inl f))]]) s.heap.size = A at hD ⊢
  have hA : ∀ q : Nat, s.heap.size ≤ q → A q := fun q h => by rw [← hAe]; exact Or.inr h
  have hS : va_S A s.heap s.heap [] := va_S.rf
  obtain ⟨hx, hb, hml, hown, hts, hr, hlk, hnm⟩ := id X
  have hl : lv_has ls 6 [(0, .ref h), (1, .int v1), (2, .int v2), (3, .int v3), (4, .int v4), (5, .int v5)] := hl
  have hP : va_P D classes (cat [[(h, .inr (12, fHo q x o16 o17 o18 o19 o20))], [(q 4, .inr (8, fRe q1 (va_up x1 1 (nI n))))], [(q1 0, .inl (kA 1, 2000, .inl f))]]) s.heap := hP
  have hK : va_K D classes (TY kA) s := hK
  refine lv_aload_n (pc := 0) hx hb d_Ho_feed_0 rfl (lv_at hl 0 rfl) ?_
  refine k_get (pc := 1) X hK hP 0 rfl rfl i_Ho 4 (by decide) wm_559 rfl rfl d_Ho_feed_1 ?_
  refine k_get (pc := 4) (v := .int (nI n)) X hK hP 1 rfl rfl i_Re 1 (by decide) wm_197 rfl rfl d_Ho_feed_4 ?_
  refine lv_bipush (pc := 7) (v := 20) hx hb d_Ho_feed_7 (by decide) ?_
  refine k_add (pc := 9) (x := n) (y := 20) hx hb d_Ho_feed_9 ?_
  refine lv_sipush (pc := 10) (v := 2000) hx hb d_Ho_feed_10 (by decide) ?_
  refine k_cle (pc := 13) (x := n + 20) (y := 2000) (tgt := 18) hx hb (by omega) (by decide) d_Ho_feed_13 (by decide) (fun c1 => absurd c1 (by omega)) (fun c1 => ?_)
  refine lv_iconst (pc := 16) (v := -1) hx hb d_Ho_feed_16 (by decide) ?_
  refine W.widen (k := 0) (n := 0) (Nat.le_of_ble_eq_true rfl) (Nat.le_of_ble_eq_true rfl) ?_
  exact W.iret (v := (-1)) hx hb hr (fun t ht hW => ⟨⟨(-1), (), rfl, rfl, by rw [ht]; exact hP, va_K.moved hW.alike hK, hD⟩, hS.F ht⟩) hS.2.2 d_Ho_feed_17
set_option maxRecDepth 100000 in
set_option maxHeartbeats 4000000 in
/-- the reference: feed, when there is room -/
theorem c_Mo_feed (l : Launch) (D : va_G) (kA : Nat → ClassId) (h : Nat) (q : Nat → Nat) (x : Nat → Int32) (y : Nat → Int64) (f : Nat → Int32) (n : Nat) (v1 v2 v3 v4 v5 : Int32) (hn : n + 20 ≤ 2000) : Ci l y_Mo_feed z_Mo_feed { frames := 0, cells := 0, slots := 0, locals := 0 } D classes (TY kA) [.ref h, .int v1, .int v2, .int v3, .int v4, .int v5] [[(h, .inr (13, mF q (va_up x 0 (nI n)) y))], [(q 1, .inl (kA 1, 2000, .inl f))]] (fun r (_ : Unit) => r = nI (n + 20)) (fun _ => [[(h, .inr (13, mF q (va_up x 0 (nI (n + 20))) y))], [(q 1, .inl (kA 1, 2000, .inl (fd (fd (fd (fd (fd f n v1) (n + 4) v2) (n + 8) v3) (n + 12) v4) (n + 16) v5)))]]) 0 0 := by
  intro sz
  refine k_met (cc := b_Mo_feed) (maxL := 8) (ret := (some .int)) (by decide) rfl (Nat.le_of_ble_eq_true rfl) (fun p e s m below meth c ls X hl hB => ?_)
  obtain ⟨hsz, hP, hK, hD0, hN⟩ := hB
  subst hsz
  have hD := hD0.self (sz := s.heap.size)
  generalize hAe : va_A (cat [[(h, .inr (13, mF q (va_up x 0 (nI n)) y))], [(q 1, .inl (kA 1, 2000, .inl f))]]) s.heap.size = A at hD ⊢
  have hA : ∀ q : Nat, s.heap.size ≤ q → A q := fun q h => by rw [← hAe]; exact Or.inr h
  have hS : va_S A s.heap s.heap [] := va_S.rf
  obtain ⟨hx, hb, hml, hown, hts, hr, hlk, hnm⟩ := id X
  have hl : lv_has ls 8 [(0, .ref h), (1, .int v1), (2, .int v2), (3, .int v3), (4, .int v4), (5, .int v5)] := hl
  have hP : va_P D classes (cat [[(h, .inr (13, mF q (va_up x 0 (nI n)) y))], [(q 1, .inl (kA 1, 2000, .inl f))]]) s.heap := hP
  have hK : va_K D classes (TY kA) s := hK
  refine lv_aload_n (pc := 0) hx hb d_Mo_feed_0 rfl (lv_at hl 0 rfl) ?_
  refine k_get (pc := 1) X hK hP 0 rfl rfl i_Mo 0 (by decide) wm_2433 rfl rfl d_Mo_feed_1 ?_
  refine lv_bipush (pc := 4) (v := 20) hx hb d_Mo_feed_4 (by decide) ?_
  refine k_add (pc := 6) (x := n) (y := 20) hx hb d_Mo_feed_6 ?_
  refine lv_sipush (pc := 7) (v := 2000) hx hb d_Mo_feed_7 (by decide) ?_
  refine k_cle (pc := 10) (x := n + 20) (y := 2000) (tgt := 15) hx hb (by omega) (by decide) d_Mo_feed_10 (by decide) (fun c1 => ?_) (fun c1 => absurd c1 (by omega))
  refine lv_iconst (pc := 15) (v := 0) hx hb d_Mo_feed_15 (by decide) ?_
  refine lv_istore (pc := 16) (lv' := [(6, .int 0), (0, .ref h), (1, .int v1), (2, .int v2), (3, .int v3), (4, .int v4), (5, .int v5)]) hx hb d_Mo_feed_16 hl (by decide) rfl (fun ls hl => ?_)
  refine lv_iload (pc := 18) hx hb d_Mo_feed_18 (lv_at hl 0 rfl) ?_
  refine lv_bipush (pc := 20) (v := 20) hx hb d_Mo_feed_20 (by decide) ?_
  refine lv_icmp_ge (pc := 22) (tgt := 112) hx hb d_Mo_feed_22 (by decide) (fun c1 => absurd c1 (by decide)) (fun _ => ?_)
  refine lv_iload (pc := 25) hx hb d_Mo_feed_25 (lv_at hl 0 rfl) ?_
  refine lv_iconst (pc := 27) (v := 4) hx hb d_Mo_feed_27 (by decide) ?_
  refine lv_icmp_ge (pc := 28) (tgt := 35) hx hb d_Mo_feed_28 (by decide) (fun c1 => absurd c1 (by decide)) (fun _ => ?_)
  refine lv_iload_n (pc := 31) hx hb d_Mo_feed_31 rfl (lv_at hl 2 rfl) ?_
  refine lv_goto (pc := 32) (tgt := 71) hx hb d_Mo_feed_32 (by decide) ?_
  refine lv_istore (pc := 71) (lv' := [(7, .int v1), (6, .int 0), (0, .ref h), (1, .int v1), (2, .int v2), (3, .int v3), (4, .int v4), (5, .int v5)]) hx hb d_Mo_feed_71 hl (by decide) rfl (fun ls hl => ?_)
  refine lv_aload_n (pc := 73) hx hb d_Mo_feed_73 rfl (lv_at hl 2 rfl) ?_
  refine k_get (pc := 74) X hK hP 0 rfl rfl i_Mo 1 (by decide) wm_2434 rfl rfl d_Mo_feed_74 ?_
  refine lv_aload_n (pc := 77) hx hb d_Mo_feed_77 rfl (lv_at hl 2 rfl) ?_
  refine k_get (pc := 78) X hK hP 0 rfl rfl i_Mo 0 (by decide) wm_2433 rfl rfl d_Mo_feed_78 ?_
  refine lv_iload (pc := 81) hx hb d_Mo_feed_81 (lv_at hl 0 rfl) ?_
  refine lv_bipush (pc := 83) (v := 24) hx hb d_Mo_feed_83 (by decide) ?_
  refine lv_bipush (pc := 85) (v := 8) hx hb d_Mo_feed_85 (by decide) ?_
  refine lv_iload (pc := 87) hx hb d_Mo_feed_87 (lv_at hl 1 rfl) ?_
  refine lv_iconst (pc := 89) (v := 3) hx hb d_Mo_feed_89 (by decide) ?_
  refine lv_iand (pc := 90) hx hb d_Mo_feed_90 ?_
  refine k_cst (v := 0) (by decide) ?_
  refine k_mul (pc := 91) (x := 8) (y := 0) hx hb d_Mo_feed_91 ?_
  refine k_sub (pc := 92) (x := 24) (y := 0) hx hb (by decide) d_Mo_feed_92 ?_
  refine lv_ishr (pc := 93) hx hb d_Mo_feed_93 ?_
  refine lv_i2b (pc := 94) hx hb d_Mo_feed_94 rfl ?_
  refine k_bst (pc := 95) hx hb hK hP hD hS 1 1 rfl rfl (n) rfl (by omega) (by decide) d_Mo_feed_95 (fun H locs hP hD hS => ?_)
  have hP : va_P D classes (cat [[(h, .inr (13, mF q (va_up x 0 (nI n)) y))], [(q 1, .inl (kA 1, 2000, .inl (upd f n (vp_nar .byte ((v1 >>> ((nI 24) &&& 31)).toInt8.toInt32)))))]]) H := hP
  have hD : va_D A (cat [[(h, .inr (13, mF q (va_up x 0 (nI n)) y))], [(q 1, .inl (kA 1, 2000, .inl (upd f n (vp_nar .byte ((v1 >>> ((nI 24) &&& 31)).toInt8.toInt32)))))]]) := hD
  refine lv_aload_n (pc := 96) hx hb d_Mo_feed_96 rfl (lv_at hl 2 rfl) ?_
  refine lv_dup (pc := 97) hx hb d_Mo_feed_97 rfl ?_
  refine k_get (pc := 98) X hK hP 0 rfl rfl i_Mo 0 (by decide) wm_2433 rfl rfl d_Mo_feed_98 ?_
  refine lv_iconst (pc := 101) (v := 1) hx hb d_Mo_feed_101 (by decide) ?_
  refine k_add (pc := 102) (x := n) (y := 1) hx hb d_Mo_feed_102 ?_
  refine k_put (pc := 103) X hK hP hD hS 0 rfl rfl i_Mo t_Mo t_Mo_ok n_Mo 0 (by decide) wm_2433 rfl (Or.inl rfl) rfl rfl (Nat.le_of_ble_eq_true rfl) d_Mo_feed_103 (fun H locs hP hD hS => ?_)
  have hP : va_P D classes (cat [[(h, .inr (13, mF q (va_up x 0 (nI (n + 1))) y))], [(q 1, .inl (kA 1, 2000, .inl (upd f n (vp_nar .byte ((v1 >>> ((nI 24) &&& 31)).toInt8.toInt32)))))]]) H := hP
  have hD : va_D A (cat [[(h, .inr (13, mF q (va_up x 0 (nI (n + 1))) y))], [(q 1, .inl (kA 1, 2000, .inl (upd f n (vp_nar .byte ((v1 >>> ((nI 24) &&& 31)).toInt8.toInt32)))))]]) := hD
  refine lv_iinc (pc := 106) (v := 1) (lv' := [(6, .int 1), (7, .int v1), (0, .ref h), (1, .int v1), (2, .int v2), (3, .int v3), (4, .int v4), (5, .int v5)]) hx hb d_Mo_feed_106 hl (k := 1) rfl (by decide) (by decide) rfl (fun ls hl => ?_)
  refine lv_goto (pc := 109) (tgt := 18) hx hb d_Mo_feed_109 (by decide) ?_
  refine lv_iload (pc := 18) hx hb d_Mo_feed_18 (lv_at hl 0 rfl) ?_
  refine lv_bipush (pc := 20) (v := 20) hx hb d_Mo_feed_20 (by decide) ?_
  refine lv_icmp_ge (pc := 22) (tgt := 112) hx hb d_Mo_feed_22 (by decide) (fun c1 => absurd c1 (by decide)) (fun _ => ?_)
  refine lv_iload (pc := 25) hx hb d_Mo_feed_25 (lv_at hl 0 rfl) ?_
  refine lv_iconst (pc := 27) (v := 4) hx hb d_Mo_feed_27 (by decide) ?_
  refine lv_icmp_ge (pc := 28) (tgt := 35) hx hb d_Mo_feed_28 (by decide) (fun c1 => absurd c1 (by decide)) (fun _ => ?_)
  refine lv_iload_n (pc := 31) hx hb d_Mo_feed_31 rfl (lv_at hl 3 rfl) ?_
  refine lv_goto (pc := 32) (tgt := 71) hx hb d_Mo_feed_32 (by decide) ?_
  refine lv_istore (pc := 71) (lv' := [(7, .int v1), (6, .int 1), (0, .ref h), (1, .int v1), (2, .int v2), (3, .int v3), (4, .int v4), (5, .int v5)]) hx hb d_Mo_feed_71 hl (by decide) rfl (fun ls hl => ?_)
  refine lv_aload_n (pc := 73) hx hb d_Mo_feed_73 rfl (lv_at hl 2 rfl) ?_
  refine k_get (pc := 74) X hK hP 0 rfl rfl i_Mo 1 (by decide) wm_2434 rfl rfl d_Mo_feed_74 ?_
  refine lv_aload_n (pc := 77) hx hb d_Mo_feed_77 rfl (lv_at hl 2 rfl) ?_
  refine k_get (pc := 78) X hK hP 0 rfl rfl i_Mo 0 (by decide) wm_2433 rfl rfl d_Mo_feed_78 ?_
  refine lv_iload (pc := 81) hx hb d_Mo_feed_81 (lv_at hl 0 rfl) ?_
  refine lv_bipush (pc := 83) (v := 24) hx hb d_Mo_feed_83 (by decide) ?_
  refine lv_bipush (pc := 85) (v := 8) hx hb d_Mo_feed_85 (by decide) ?_
  refine lv_iload (pc := 87) hx hb d_Mo_feed_87 (lv_at hl 1 rfl) ?_
  refine lv_iconst (pc := 89) (v := 3) hx hb d_Mo_feed_89 (by decide) ?_
  refine lv_iand (pc := 90) hx hb d_Mo_feed_90 ?_
  refine k_cst (v := 1) (by decide) ?_
  refine k_mul (pc := 91) (x := 8) (y := 1) hx hb d_Mo_feed_91 ?_
  refine k_sub (pc := 92) (x := 24) (y := 8) hx hb (by decide) d_Mo_feed_92 ?_
  refine lv_ishr (pc := 93) hx hb d_Mo_feed_93 ?_
  refine lv_i2b (pc := 94) hx hb d_Mo_feed_94 rfl ?_
  refine k_bst (pc := 95) hx hb hK hP hD hS 1 1 rfl rfl (n + 1) rfl (by omega) (by decide) d_Mo_feed_95 (fun H locs hP hD hS => ?_)
  have hP : va_P D classes (cat [[(h, .inr (13, mF q (va_up x 0 (nI (n + 1))) y))], [(q 1, .inl (kA 1, 2000, .inl (upd (upd f n (vp_nar .byte ((v1 >>> ((nI 24) &&& 31)).toInt8.toInt32))) (n + 1) (vp_nar .byte ((v1 >>> ((nI 16) &&& 31)).toInt8.toInt32)))))]]) H := hP
  have hD : va_D A (cat [[(h, .inr (13, mF q (va_up x 0 (nI (n + 1))) y))], [(q 1, .inl (kA 1, 2000, .inl (upd (upd f n (vp_nar .byte ((v1 >>> ((nI 24) &&& 31)).toInt8.toInt32))) (n + 1) (vp_nar .byte ((v1 >>> ((nI 16) &&& 31)).toInt8.toInt32)))))]]) := hD
  refine lv_aload_n (pc := 96) hx hb d_Mo_feed_96 rfl (lv_at hl 2 rfl) ?_
  refine lv_dup (pc := 97) hx hb d_Mo_feed_97 rfl ?_
  refine k_get (pc := 98) X hK hP 0 rfl rfl i_Mo 0 (by decide) wm_2433 rfl rfl d_Mo_feed_98 ?_
  refine lv_iconst (pc := 101) (v := 1) hx hb d_Mo_feed_101 (by decide) ?_
  refine k_add (pc := 102) (x := n + 1) (y := 1) hx hb d_Mo_feed_102 ?_
  refine k_put (pc := 103) X hK hP hD hS 0 rfl rfl i_Mo t_Mo t_Mo_ok n_Mo 0 (by decide) wm_2433 rfl (Or.inl rfl) rfl rfl (Nat.le_of_ble_eq_true rfl) d_Mo_feed_103 (fun H locs hP hD hS => ?_)
  have hP : va_P D classes (cat [[(h, .inr (13, mF q (va_up x 0 (nI ((n + 1) + 1))) y))], [(q 1, .inl (kA 1, 2000, .inl (upd (upd f n (vp_nar .byte ((v1 >>> ((nI 24) &&& 31)).toInt8.toInt32))) (n + 1) (vp_nar .byte ((v1 >>> ((nI 16) &&& 31)).toInt8.toInt32)))))]]) H := hP
  have hD : va_D A (cat [[(h, .inr (13, mF q (va_up x 0 (nI ((n + 1) + 1))) y))], [(q 1, .inl (kA 1, 2000, .inl (upd (upd f n (vp_nar .byte ((v1 >>> ((nI 24) &&& 31)).toInt8.toInt32))) (n + 1) (vp_nar .byte ((v1 >>> ((nI 16) &&& 31)).toInt8.toInt32)))))]]) := hD
  refine lv_iinc (pc := 106) (v := 2) (lv' := [(6, .int 2), (7, .int v1), (0, .ref h), (1, .int v1), (2, .int v2), (3, .int v3), (4, .int v4), (5, .int v5)]) hx hb d_Mo_feed_106 hl (k := 1) rfl (by decide) (by decide) rfl (fun ls hl => ?_)
  refine lv_goto (pc := 109) (tgt := 18) hx hb d_Mo_feed_109 (by decide) ?_
  refine lv_iload (pc := 18) hx hb d_Mo_feed_18 (lv_at hl 0 rfl) ?_
  refine lv_bipush (pc := 20) (v := 20) hx hb d_Mo_feed_20 (by decide) ?_
  refine lv_icmp_ge (pc := 22) (tgt := 112) hx hb d_Mo_feed_22 (by decide) (fun c1 => absurd c1 (by decide)) (fun _ => ?_)
  refine lv_iload (pc := 25) hx hb d_Mo_feed_25 (lv_at hl 0 rfl) ?_
  refine lv_iconst (pc := 27) (v := 4) hx hb d_Mo_feed_27 (by decide) ?_
  refine lv_icmp_ge (pc := 28) (tgt := 35) hx hb d_Mo_feed_28 (by decide) (fun c1 => absurd c1 (by decide)) (fun _ => ?_)
  refine lv_iload_n (pc := 31) hx hb d_Mo_feed_31 rfl (lv_at hl 3 rfl) ?_
  refine lv_goto (pc := 32) (tgt := 71) hx hb d_Mo_feed_32 (by decide) ?_
  refine lv_istore (pc := 71) (lv' := [(7, .int v1), (6, .int 2), (0, .ref h), (1, .int v1), (2, .int v2), (3, .int v3), (4, .int v4), (5, .int v5)]) hx hb d_Mo_feed_71 hl (by decide) rfl (fun ls hl => ?_)
  refine lv_aload_n (pc := 73) hx hb d_Mo_feed_73 rfl (lv_at hl 2 rfl) ?_
  refine k_get (pc := 74) X hK hP 0 rfl rfl i_Mo 1 (by decide) wm_2434 rfl rfl d_Mo_feed_74 ?_
  refine lv_aload_n (pc := 77) hx hb d_Mo_feed_77 rfl (lv_at hl 2 rfl) ?_
  refine k_get (pc := 78) X hK hP 0 rfl rfl i_Mo 0 (by decide) wm_2433 rfl rfl d_Mo_feed_78 ?_
  refine lv_iload (pc := 81) hx hb d_Mo_feed_81 (lv_at hl 0 rfl) ?_
  refine lv_bipush (pc := 83) (v := 24) hx hb d_Mo_feed_83 (by decide) ?_
  refine lv_bipush (pc := 85) (v := 8) hx hb d_Mo_feed_85 (by decide) ?_
  refine lv_iload (pc := 87) hx hb d_Mo_feed_87 (lv_at hl 1 rfl) ?_
  refine lv_iconst (pc := 89) (v := 3) hx hb d_Mo_feed_89 (by decide) ?_
  refine lv_iand (pc := 90) hx hb d_Mo_feed_90 ?_
  refine k_cst (v := 2) (by decide) ?_
  refine k_mul (pc := 91) (x := 8) (y := 2) hx hb d_Mo_feed_91 ?_
  refine k_sub (pc := 92) (x := 24) (y := 16) hx hb (by decide) d_Mo_feed_92 ?_
  refine lv_ishr (pc := 93) hx hb d_Mo_feed_93 ?_
  refine lv_i2b (pc := 94) hx hb d_Mo_feed_94 rfl ?_
  refine k_bst (pc := 95) hx hb hK hP hD hS 1 1 rfl rfl ((n + 1) + 1) rfl (by omega) (by decide) d_Mo_feed_95 (fun H locs hP hD hS => ?_)
  have hP : va_P D classes (cat [[(h, .inr (13, mF q (va_up x 0 (nI ((n + 1) + 1))) y))], [(q 1, .inl (kA 1, 2000, .inl (upd (upd (upd f n (vp_nar .byte ((v1 >>> ((nI 24) &&& 31)).toInt8.toInt32))) (n + 1) (vp_nar .byte ((v1 >>> ((nI 16) &&& 31)).toInt8.toInt32))) ((n + 1) + 1) (vp_nar .byte ((v1 >>> ((nI 8) &&& 31)).toInt8.toInt32)))))]]) H := hP
  have hD : va_D A (cat [[(h, .inr (13, mF q (va_up x 0 (nI ((n + 1) + 1))) y))], [(q 1, .inl (kA 1, 2000, .inl (upd (upd (upd f n (vp_nar .byte ((v1 >>> ((nI 24) &&& 31)).toInt8.toInt32))) (n + 1) (vp_nar .byte ((v1 >>> ((nI 16) &&& 31)).toInt8.toInt32))) ((n + 1) + 1) (vp_nar .byte ((v1 >>> ((nI 8) &&& 31)).toInt8.toInt32)))))]]) := hD
  refine lv_aload_n (pc := 96) hx hb d_Mo_feed_96 rfl (lv_at hl 2 rfl) ?_
  refine lv_dup (pc := 97) hx hb d_Mo_feed_97 rfl ?_
  refine k_get (pc := 98) X hK hP 0 rfl rfl i_Mo 0 (by decide) wm_2433 rfl rfl d_Mo_feed_98 ?_
  refine lv_iconst (pc := 101) (v := 1) hx hb d_Mo_feed_101 (by decide) ?_
  refine k_add (pc := 102) (x := (n + 1) + 1) (y := 1) hx hb d_Mo_feed_102 ?_
  refine k_put (pc := 103) X hK hP hD hS 0 rfl rfl i_Mo t_Mo t_Mo_ok n_Mo 0 (by decide) wm_2433 rfl (Or.inl rfl) rfl rfl (Nat.le_of_ble_eq_true rfl) d_Mo_feed_103 (fun H locs hP hD hS => ?_)
  have hP : va_P D classes (cat [[(h, .inr (13, mF q (va_up x 0 (nI (((n + 1) + 1) + 1))) y))], [(q 1, .inl (kA 1, 2000, .inl (upd (upd (upd f n (vp_nar .byte ((v1 >>> ((nI 24) &&& 31)).toInt8.toInt32))) (n + 1) (vp_nar .byte ((v1 >>> ((nI 16) &&& 31)).toInt8.toInt32))) ((n + 1) + 1) (vp_nar .byte ((v1 >>> ((nI 8) &&& 31)).toInt8.toInt32)))))]]) H := hP
  have hD : va_D A (cat [[(h, .inr (13, mF q (va_up x 0 (nI (((n + 1) + 1) + 1))) y))], [(q 1, .inl (kA 1, 2000, .inl (upd (upd (upd f n (vp_nar .byte ((v1 >>> ((nI 24) &&& 31)).toInt8.toInt32))) (n + 1) (vp_nar .byte ((v1 >>> ((nI 16) &&& 31)).toInt8.toInt32))) ((n + 1) + 1) (vp_nar .byte ((v1 >>> ((nI 8) &&& 31)).toInt8.toInt32)))))]]) := hD
  refine lv_iinc (pc := 106) (v := 3) (lv' := [(6, .int 3), (7, .int v1), (0, .ref h), (1, .int v1), (2, .int v2), (3, .int v3), (4, .int v4), (5, .int v5)]) hx hb d_Mo_feed_106 hl (k := 1) rfl (by decide) (by decide) rfl (fun ls hl => ?_)
  refine lv_goto (pc := 109) (tgt := 18) hx hb d_Mo_feed_109 (by decide) ?_
  refine lv_iload (pc := 18) hx hb d_Mo_feed_18 (lv_at hl 0 rfl) ?_
  refine lv_bipush (pc := 20) (v := 20) hx hb d_Mo_feed_20 (by decide) ?_
  refine lv_icmp_ge (pc := 22) (tgt := 112) hx hb d_Mo_feed_22 (by decide) (fun c1 => absurd c1 (by decide)) (fun _ => ?_)
  refine lv_iload (pc := 25) hx hb d_Mo_feed_25 (lv_at hl 0 rfl) ?_
  refine lv_iconst (pc := 27) (v := 4) hx hb d_Mo_feed_27 (by decide) ?_
  refine lv_icmp_ge (pc := 28) (tgt := 35) hx hb d_Mo_feed_28 (by decide) (fun c1 => absurd c1 (by decide)) (fun _ => ?_)
  refine lv_iload_n (pc := 31) hx hb d_Mo_feed_31 rfl (lv_at hl 3 rfl) ?_
  refine lv_goto (pc := 32) (tgt := 71) hx hb d_Mo_feed_32 (by decide) ?_
  refine lv_istore (pc := 71) (lv' := [(7, .int v1), (6, .int 3), (0, .ref h), (1, .int v1), (2, .int v2), (3, .int v3), (4, .int v4), (5, .int v5)]) hx hb d_Mo_feed_71 hl (by decide) rfl (fun ls hl => ?_)
  refine lv_aload_n (pc := 73) hx hb d_Mo_feed_73 rfl (lv_at hl 2 rfl) ?_
  refine k_get (pc := 74) X hK hP 0 rfl rfl i_Mo 1 (by decide) wm_2434 rfl rfl d_Mo_feed_74 ?_
  refine lv_aload_n (pc := 77) hx hb d_Mo_feed_77 rfl (lv_at hl 2 rfl) ?_
  refine k_get (pc := 78) X hK hP 0 rfl rfl i_Mo 0 (by decide) wm_2433 rfl rfl d_Mo_feed_78 ?_
  refine lv_iload (pc := 81) hx hb d_Mo_feed_81 (lv_at hl 0 rfl) ?_
  refine lv_bipush (pc := 83) (v := 24) hx hb d_Mo_feed_83 (by decide) ?_
  refine lv_bipush (pc := 85) (v := 8) hx hb d_Mo_feed_85 (by decide) ?_
  refine lv_iload (pc := 87) hx hb d_Mo_feed_87 (lv_at hl 1 rfl) ?_
  refine lv_iconst (pc := 89) (v := 3) hx hb d_Mo_feed_89 (by decide) ?_
  refine lv_iand (pc := 90) hx hb d_Mo_feed_90 ?_
  refine k_cst (v := 3) (by decide) ?_
  refine k_mul (pc := 91) (x := 8) (y := 3) hx hb d_Mo_feed_91 ?_
  refine k_sub (pc := 92) (x := 24) (y := 24) hx hb (by decide) d_Mo_feed_92 ?_
  refine lv_ishr (pc := 93) hx hb d_Mo_feed_93 ?_
  refine lv_i2b (pc := 94) hx hb d_Mo_feed_94 rfl ?_
  refine k_bst (pc := 95) hx hb hK hP hD hS 1 1 rfl rfl (((n + 1) + 1) + 1) rfl (by omega) (by decide) d_Mo_feed_95 (fun H locs hP hD hS => ?_)
  have hP : va_P D classes (cat [[(h, .inr (13, mF q (va_up x 0 (nI (((n + 1) + 1) + 1))) y))], [(q 1, .inl (kA 1, 2000, .inl (upd (upd (upd (upd f n (vp_nar .byte ((v1 >>> ((nI 24) &&& 31)).toInt8.toInt32))) (n + 1) (vp_nar .byte ((v1 >>> ((nI 16) &&& 31)).toInt8.toInt32))) ((n + 1) + 1) (vp_nar .byte ((v1 >>> ((nI 8) &&& 31)).toInt8.toInt32))) (((n + 1) + 1) + 1) (vp_nar .byte ((v1 >>> ((nI 0) &&& 31)).toInt8.toInt32)))))]]) H := hP
  have hD : va_D A (cat [[(h, .inr (13, mF q (va_up x 0 (nI (((n + 1) + 1) + 1))) y))], [(q 1, .inl (kA 1, 2000, .inl (upd (upd (upd (upd f n (vp_nar .byte ((v1 >>> ((nI 24) &&& 31)).toInt8.toInt32))) (n + 1) (vp_nar .byte ((v1 >>> ((nI 16) &&& 31)).toInt8.toInt32))) ((n + 1) + 1) (vp_nar .byte ((v1 >>> ((nI 8) &&& 31)).toInt8.toInt32))) (((n + 1) + 1) + 1) (vp_nar .byte ((v1 >>> ((nI 0) &&& 31)).toInt8.toInt32)))))]]) := hD
  refine lv_aload_n (pc := 96) hx hb d_Mo_feed_96 rfl (lv_at hl 2 rfl) ?_
  refine lv_dup (pc := 97) hx hb d_Mo_feed_97 rfl ?_
  refine k_get (pc := 98) X hK hP 0 rfl rfl i_Mo 0 (by decide) wm_2433 rfl rfl d_Mo_feed_98 ?_
  refine lv_iconst (pc := 101) (v := 1) hx hb d_Mo_feed_101 (by decide) ?_
  refine k_add (pc := 102) (x := ((n + 1) + 1) + 1) (y := 1) hx hb d_Mo_feed_102 ?_
  refine k_put (pc := 103) X hK hP hD hS 0 rfl rfl i_Mo t_Mo t_Mo_ok n_Mo 0 (by decide) wm_2433 rfl (Or.inl rfl) rfl rfl (Nat.le_of_ble_eq_true rfl) d_Mo_feed_103 (fun H locs hP hD hS => ?_)
  have hP : va_P D classes (cat [[(h, .inr (13, mF q (va_up x 0 (nI ((((n + 1) + 1) + 1) + 1))) y))], [(q 1, .inl (kA 1, 2000, .inl (upd (upd (upd (upd f n (vp_nar .byte ((v1 >>> ((nI 24) &&& 31)).toInt8.toInt32))) (n + 1) (vp_nar .byte ((v1 >>> ((nI 16) &&& 31)).toInt8.toInt32))) ((n + 1) + 1) (vp_nar .byte ((v1 >>> ((nI 8) &&& 31)).toInt8.toInt32))) (((n + 1) + 1) + 1) (vp_nar .byte ((v1 >>> ((nI 0) &&& 31)).toInt8.toInt32)))))]]) H := hP
  have hD : va_D A (cat [[(h, .inr (13, mF q (va_up x 0 (nI ((((n + 1) + 1) + 1) + 1))) y))], [(q 1, .inl (kA 1, 2000, .inl (upd (upd (upd (upd f n (vp_nar .byte ((v1 >>> ((nI 24) &&& 31)).toInt8.toInt32))) (n + 1) (vp_nar .byte ((v1 >>> ((nI 16) &&& 31)).toInt8.toInt32))) ((n + 1) + 1) (vp_nar .byte ((v1 >>> ((nI 8) &&& 31)).toInt8.toInt32))) (((n + 1) + 1) + 1) (vp_nar .byte ((v1 >>> ((nI 0) &&& 31)).toInt8.toInt32)))))]]) := hD
  refine lv_iinc (pc := 106) (v := 4) (lv' := [(6, .int 4), (7, .int v1), (0, .ref h), (1, .int v1), (2, .int v2), (3, .int v3), (4, .int v4), (5, .int v5)]) hx hb d_Mo_feed_106 hl (k := 1) rfl (by decide) (by decide) rfl (fun ls hl => ?_)
  refine lv_goto (pc := 109) (tgt := 18) hx hb d_Mo_feed_109 (by decide) ?_
  have hP : va_P D classes (cat [[(h, .inr (13, mF q (va_up x 0 (nI (n + 4))) y))], [(q 1, .inl (kA 1, 2000, .inl (fd f n v1)))]]) H := hP
  have hD : va_D A (cat [[(h, .inr (13, mF q (va_up x 0 (nI (n + 4))) y))], [(q 1, .inl (kA 1, 2000, .inl (fd f n v1)))]]) := hD
  refine lv_iload (pc := 18) hx hb d_Mo_feed_18 (lv_at hl 0 rfl) ?_
  refine lv_bipush (pc := 20) (v := 20) hx hb d_Mo_feed_20 (by decide) ?_
  refine lv_icmp_ge (pc := 22) (tgt := 112) hx hb d_Mo_feed_22 (by decide) (fun c1 => absurd c1 (by decide)) (fun _ => ?_)
  refine lv_iload (pc := 25) hx hb d_Mo_feed_25 (lv_at hl 0 rfl) ?_
  refine lv_iconst (pc := 27) (v := 4) hx hb d_Mo_feed_27 (by decide) ?_
  refine lv_icmp_ge (pc := 28) (tgt := 35) hx hb d_Mo_feed_28 (by decide) (fun _ => ?_) (fun c1 => absurd (by decide) c1)
  refine lv_iload (pc := 35) hx hb d_Mo_feed_35 (lv_at hl 0 rfl) ?_
  refine lv_bipush (pc := 37) (v := 8) hx hb d_Mo_feed_37 (by decide) ?_
  refine lv_icmp_ge (pc := 39) (tgt := 46) hx hb d_Mo_feed_39 (by decide) (fun c1 => absurd c1 (by decide)) (fun _ => ?_)
  refine lv_iload_n (pc := 42) hx hb d_Mo_feed_42 rfl (lv_at hl 4 rfl) ?_
  refine lv_goto (pc := 43) (tgt := 71) hx hb d_Mo_feed_43 (by decide) ?_
  refine lv_istore (pc := 71) (lv' := [(7, .int v2), (6, .int 4), (0, .ref h), (1, .int v1), (2, .int v2), (3, .int v3), (4, .int v4), (5, .int v5)]) hx hb d_Mo_feed_71 hl (by decide) rfl (fun ls hl => ?_)
  refine lv_aload_n (pc := 73) hx hb d_Mo_feed_73 rfl (lv_at hl 2 rfl) ?_
  refine k_get (pc := 74) X hK hP 0 rfl rfl i_Mo 1 (by decide) wm_2434 rfl rfl d_Mo_feed_74 ?_
  refine lv_aload_n (pc := 77) hx hb d_Mo_feed_77 rfl (lv_at hl 2 rfl) ?_
  refine k_get (pc := 78) X hK hP 0 rfl rfl i_Mo 0 (by decide) wm_2433 rfl rfl d_Mo_feed_78 ?_
  refine lv_iload (pc := 81) hx hb d_Mo_feed_81 (lv_at hl 0 rfl) ?_
  refine lv_bipush (pc := 83) (v := 24) hx hb d_Mo_feed_83 (by decide) ?_
  refine lv_bipush (pc := 85) (v := 8) hx hb d_Mo_feed_85 (by decide) ?_
  refine lv_iload (pc := 87) hx hb d_Mo_feed_87 (lv_at hl 1 rfl) ?_
  refine lv_iconst (pc := 89) (v := 3) hx hb d_Mo_feed_89 (by decide) ?_
  refine lv_iand (pc := 90) hx hb d_Mo_feed_90 ?_
  refine k_cst (v := 0) (by decide) ?_
  refine k_mul (pc := 91) (x := 8) (y := 0) hx hb d_Mo_feed_91 ?_
  refine k_sub (pc := 92) (x := 24) (y := 0) hx hb (by decide) d_Mo_feed_92 ?_
  refine lv_ishr (pc := 93) hx hb d_Mo_feed_93 ?_
  refine lv_i2b (pc := 94) hx hb d_Mo_feed_94 rfl ?_
  refine k_bst (pc := 95) hx hb hK hP hD hS 1 1 rfl rfl (n + 4) rfl (by omega) (by decide) d_Mo_feed_95 (fun H locs hP hD hS => ?_)
  have hP : va_P D classes (cat [[(h, .inr (13, mF q (va_up x 0 (nI (n + 4))) y))], [(q 1, .inl (kA 1, 2000, .inl (upd (fd f n v1) (n + 4) (vp_nar .byte ((v2 >>> ((nI 24) &&& 31)).toInt8.toInt32)))))]]) H := hP
  have hD : va_D A (cat [[(h, .inr (13, mF q (va_up x 0 (nI (n + 4))) y))], [(q 1, .inl (kA 1, 2000, .inl (upd (fd f n v1) (n + 4) (vp_nar .byte ((v2 >>> ((nI 24) &&& 31)).toInt8.toInt32)))))]]) := hD
  refine lv_aload_n (pc := 96) hx hb d_Mo_feed_96 rfl (lv_at hl 2 rfl) ?_
  refine lv_dup (pc := 97) hx hb d_Mo_feed_97 rfl ?_
  refine k_get (pc := 98) X hK hP 0 rfl rfl i_Mo 0 (by decide) wm_2433 rfl rfl d_Mo_feed_98 ?_
  refine lv_iconst (pc := 101) (v := 1) hx hb d_Mo_feed_101 (by decide) ?_
  refine k_add (pc := 102) (x := n + 4) (y := 1) hx hb d_Mo_feed_102 ?_
  refine k_put (pc := 103) X hK hP hD hS 0 rfl rfl i_Mo t_Mo t_Mo_ok n_Mo 0 (by decide) wm_2433 rfl (Or.inl rfl) rfl rfl (Nat.le_of_ble_eq_true rfl) d_Mo_feed_103 (fun H locs hP hD hS => ?_)
  have hP : va_P D classes (cat [[(h, .inr (13, mF q (va_up x 0 (nI ((n + 4) + 1))) y))], [(q 1, .inl (kA 1, 2000, .inl (upd (fd f n v1) (n + 4) (vp_nar .byte ((v2 >>> ((nI 24) &&& 31)).toInt8.toInt32)))))]]) H := hP
  have hD : va_D A (cat [[(h, .inr (13, mF q (va_up x 0 (nI ((n + 4) + 1))) y))], [(q 1, .inl (kA 1, 2000, .inl (upd (fd f n v1) (n + 4) (vp_nar .byte ((v2 >>> ((nI 24) &&& 31)).toInt8.toInt32)))))]]) := hD
  refine lv_iinc (pc := 106) (v := 5) (lv' := [(6, .int 5), (7, .int v2), (0, .ref h), (1, .int v1), (2, .int v2), (3, .int v3), (4, .int v4), (5, .int v5)]) hx hb d_Mo_feed_106 hl (k := 1) rfl (by decide) (by decide) rfl (fun ls hl => ?_)
  refine lv_goto (pc := 109) (tgt := 18) hx hb d_Mo_feed_109 (by decide) ?_
  refine lv_iload (pc := 18) hx hb d_Mo_feed_18 (lv_at hl 0 rfl) ?_
  refine lv_bipush (pc := 20) (v := 20) hx hb d_Mo_feed_20 (by decide) ?_
  refine lv_icmp_ge (pc := 22) (tgt := 112) hx hb d_Mo_feed_22 (by decide) (fun c1 => absurd c1 (by decide)) (fun _ => ?_)
  refine lv_iload (pc := 25) hx hb d_Mo_feed_25 (lv_at hl 0 rfl) ?_
  refine lv_iconst (pc := 27) (v := 4) hx hb d_Mo_feed_27 (by decide) ?_
  refine lv_icmp_ge (pc := 28) (tgt := 35) hx hb d_Mo_feed_28 (by decide) (fun _ => ?_) (fun c1 => absurd (by decide) c1)
  refine lv_iload (pc := 35) hx hb d_Mo_feed_35 (lv_at hl 0 rfl) ?_
  refine lv_bipush (pc := 37) (v := 8) hx hb d_Mo_feed_37 (by decide) ?_
  refine lv_icmp_ge (pc := 39) (tgt := 46) hx hb d_Mo_feed_39 (by decide) (fun c1 => absurd c1 (by decide)) (fun _ => ?_)
  refine lv_iload_n (pc := 42) hx hb d_Mo_feed_42 rfl (lv_at hl 4 rfl) ?_
  refine lv_goto (pc := 43) (tgt := 71) hx hb d_Mo_feed_43 (by decide) ?_
  refine lv_istore (pc := 71) (lv' := [(7, .int v2), (6, .int 5), (0, .ref h), (1, .int v1), (2, .int v2), (3, .int v3), (4, .int v4), (5, .int v5)]) hx hb d_Mo_feed_71 hl (by decide) rfl (fun ls hl => ?_)
  refine lv_aload_n (pc := 73) hx hb d_Mo_feed_73 rfl (lv_at hl 2 rfl) ?_
  refine k_get (pc := 74) X hK hP 0 rfl rfl i_Mo 1 (by decide) wm_2434 rfl rfl d_Mo_feed_74 ?_
  refine lv_aload_n (pc := 77) hx hb d_Mo_feed_77 rfl (lv_at hl 2 rfl) ?_
  refine k_get (pc := 78) X hK hP 0 rfl rfl i_Mo 0 (by decide) wm_2433 rfl rfl d_Mo_feed_78 ?_
  refine lv_iload (pc := 81) hx hb d_Mo_feed_81 (lv_at hl 0 rfl) ?_
  refine lv_bipush (pc := 83) (v := 24) hx hb d_Mo_feed_83 (by decide) ?_
  refine lv_bipush (pc := 85) (v := 8) hx hb d_Mo_feed_85 (by decide) ?_
  refine lv_iload (pc := 87) hx hb d_Mo_feed_87 (lv_at hl 1 rfl) ?_
  refine lv_iconst (pc := 89) (v := 3) hx hb d_Mo_feed_89 (by decide) ?_
  refine lv_iand (pc := 90) hx hb d_Mo_feed_90 ?_
  refine k_cst (v := 1) (by decide) ?_
  refine k_mul (pc := 91) (x := 8) (y := 1) hx hb d_Mo_feed_91 ?_
  refine k_sub (pc := 92) (x := 24) (y := 8) hx hb (by decide) d_Mo_feed_92 ?_
  refine lv_ishr (pc := 93) hx hb d_Mo_feed_93 ?_
  refine lv_i2b (pc := 94) hx hb d_Mo_feed_94 rfl ?_
  refine k_bst (pc := 95) hx hb hK hP hD hS 1 1 rfl rfl ((n + 4) + 1) rfl (by omega) (by decide) d_Mo_feed_95 (fun H locs hP hD hS => ?_)
  have hP : va_P D classes (cat [[(h, .inr (13, mF q (va_up x 0 (nI ((n + 4) + 1))) y))], [(q 1, .inl (kA 1, 2000, .inl (upd (upd (fd f n v1) (n + 4) (vp_nar .byte ((v2 >>> ((nI 24) &&& 31)).toInt8.toInt32))) ((n + 4) + 1) (vp_nar .byte ((v2 >>> ((nI 16) &&& 31)).toInt8.toInt32)))))]]) H := hP
  have hD : va_D A (cat [[(h, .inr (13, mF q (va_up x 0 (nI ((n + 4) + 1))) y))], [(q 1, .inl (kA 1, 2000, .inl (upd (upd (fd f n v1) (n + 4) (vp_nar .byte ((v2 >>> ((nI 24) &&& 31)).toInt8.toInt32))) ((n + 4) + 1) (vp_nar .byte ((v2 >>> ((nI 16) &&& 31)).toInt8.toInt32)))))]]) := hD
  refine lv_aload_n (pc := 96) hx hb d_Mo_feed_96 rfl (lv_at hl 2 rfl) ?_
  refine lv_dup (pc := 97) hx hb d_Mo_feed_97 rfl ?_
  refine k_get (pc := 98) X hK hP 0 rfl rfl i_Mo 0 (by decide) wm_2433 rfl rfl d_Mo_feed_98 ?_
  refine lv_iconst (pc := 101) (v := 1) hx hb d_Mo_feed_101 (by decide) ?_
  refine k_add (pc := 102) (x := (n + 4) + 1) (y := 1) hx hb d_Mo_feed_102 ?_
  refine k_put (pc := 103) X hK hP hD hS 0 rfl rfl i_Mo t_Mo t_Mo_ok n_Mo 0 (by decide) wm_2433 rfl (Or.inl rfl) rfl rfl (Nat.le_of_ble_eq_true rfl) d_Mo_feed_103 (fun H locs hP hD hS => ?_)
  have hP : va_P D classes (cat [[(h, .inr (13, mF q (va_up x 0 (nI (((n + 4) + 1) + 1))) y))], [(q 1, .inl (kA 1, 2000, .inl (upd (upd (fd f n v1) (n + 4) (vp_nar .byte ((v2 >>> ((nI 24) &&& 31)).toInt8.toInt32))) ((n + 4) + 1) (vp_nar .byte ((v2 >>> ((nI 16) &&& 31)).toInt8.toInt32)))))]]) H := hP
  have hD : va_D A (cat [[(h, .inr (13, mF q (va_up x 0 (nI (((n + 4) + 1) + 1))) y))], [(q 1, .inl (kA 1, 2000, .inl (upd (upd (fd f n v1) (n + 4) (vp_nar .byte ((v2 >>> ((nI 24) &&& 31)).toInt8.toInt32))) ((n + 4) + 1) (vp_nar .byte ((v2 >>> ((nI 16) &&& 31)).toInt8.toInt32)))))]]) := hD
  refine lv_iinc (pc := 106) (v := 6) (lv' := [(6, .int 6), (7, .int v2), (0, .ref h), (1, .int v1), (2, .int v2), (3, .int v3), (4, .int v4), (5, .int v5)]) hx hb d_Mo_feed_106 hl (k := 1) rfl (by decide) (by decide) rfl (fun ls hl => ?_)
  refine lv_goto (pc := 109) (tgt := 18) hx hb d_Mo_feed_109 (by decide) ?_
  refine lv_iload (pc := 18) hx hb d_Mo_feed_18 (lv_at hl 0 rfl) ?_
  refine lv_bipush (pc := 20) (v := 20) hx hb d_Mo_feed_20 (by decide) ?_
  refine lv_icmp_ge (pc := 22) (tgt := 112) hx hb d_Mo_feed_22 (by decide) (fun c1 => absurd c1 (by decide)) (fun _ => ?_)
  refine lv_iload (pc := 25) hx hb d_Mo_feed_25 (lv_at hl 0 rfl) ?_
  refine lv_iconst (pc := 27) (v := 4) hx hb d_Mo_feed_27 (by decide) ?_
  refine lv_icmp_ge (pc := 28) (tgt := 35) hx hb d_Mo_feed_28 (by decide) (fun _ => ?_) (fun c1 => absurd (by decide) c1)
  refine lv_iload (pc := 35) hx hb d_Mo_feed_35 (lv_at hl 0 rfl) ?_
  refine lv_bipush (pc := 37) (v := 8) hx hb d_Mo_feed_37 (by decide) ?_
  refine lv_icmp_ge (pc := 39) (tgt := 46) hx hb d_Mo_feed_39 (by decide) (fun c1 => absurd c1 (by decide)) (fun _ => ?_)
  refine lv_iload_n (pc := 42) hx hb d_Mo_feed_42 rfl (lv_at hl 4 rfl) ?_
  refine lv_goto (pc := 43) (tgt := 71) hx hb d_Mo_feed_43 (by decide) ?_
  refine lv_istore (pc := 71) (lv' := [(7, .int v2), (6, .int 6), (0, .ref h), (1, .int v1), (2, .int v2), (3, .int v3), (4, .int v4), (5, .int v5)]) hx hb d_Mo_feed_71 hl (by decide) rfl (fun ls hl => ?_)
  refine lv_aload_n (pc := 73) hx hb d_Mo_feed_73 rfl (lv_at hl 2 rfl) ?_
  refine k_get (pc := 74) X hK hP 0 rfl rfl i_Mo 1 (by decide) wm_2434 rfl rfl d_Mo_feed_74 ?_
  refine lv_aload_n (pc := 77) hx hb d_Mo_feed_77 rfl (lv_at hl 2 rfl) ?_
  refine k_get (pc := 78) X hK hP 0 rfl rfl i_Mo 0 (by decide) wm_2433 rfl rfl d_Mo_feed_78 ?_
  refine lv_iload (pc := 81) hx hb d_Mo_feed_81 (lv_at hl 0 rfl) ?_
  refine lv_bipush (pc := 83) (v := 24) hx hb d_Mo_feed_83 (by decide) ?_
  refine lv_bipush (pc := 85) (v := 8) hx hb d_Mo_feed_85 (by decide) ?_
  refine lv_iload (pc := 87) hx hb d_Mo_feed_87 (lv_at hl 1 rfl) ?_
  refine lv_iconst (pc := 89) (v := 3) hx hb d_Mo_feed_89 (by decide) ?_
  refine lv_iand (pc := 90) hx hb d_Mo_feed_90 ?_
  refine k_cst (v := 2) (by decide) ?_
  refine k_mul (pc := 91) (x := 8) (y := 2) hx hb d_Mo_feed_91 ?_
  refine k_sub (pc := 92) (x := 24) (y := 16) hx hb (by decide) d_Mo_feed_92 ?_
  refine lv_ishr (pc := 93) hx hb d_Mo_feed_93 ?_
  refine lv_i2b (pc := 94) hx hb d_Mo_feed_94 rfl ?_
  refine k_bst (pc := 95) hx hb hK hP hD hS 1 1 rfl rfl (((n + 4) + 1) + 1) rfl (by omega) (by decide) d_Mo_feed_95 (fun H locs hP hD hS => ?_)
  have hP : va_P D classes (cat [[(h, .inr (13, mF q (va_up x 0 (nI (((n + 4) + 1) + 1))) y))], [(q 1, .inl (kA 1, 2000, .inl (upd (upd (upd (fd f n v1) (n + 4) (vp_nar .byte ((v2 >>> ((nI 24) &&& 31)).toInt8.toInt32))) ((n + 4) + 1) (vp_nar .byte ((v2 >>> ((nI 16) &&& 31)).toInt8.toInt32))) (((n + 4) + 1) + 1) (vp_nar .byte ((v2 >>> ((nI 8) &&& 31)).toInt8.toInt32)))))]]) H := hP
  have hD : va_D A (cat [[(h, .inr (13, mF q (va_up x 0 (nI (((n + 4) + 1) + 1))) y))], [(q 1, .inl (kA 1, 2000, .inl (upd (upd (upd (fd f n v1) (n + 4) (vp_nar .byte ((v2 >>> ((nI 24) &&& 31)).toInt8.toInt32))) ((n + 4) + 1) (vp_nar .byte ((v2 >>> ((nI 16) &&& 31)).toInt8.toInt32))) (((n + 4) + 1) + 1) (vp_nar .byte ((v2 >>> ((nI 8) &&& 31)).toInt8.toInt32)))))]]) := hD
  refine lv_aload_n (pc := 96) hx hb d_Mo_feed_96 rfl (lv_at hl 2 rfl) ?_
  refine lv_dup (pc := 97) hx hb d_Mo_feed_97 rfl ?_
  refine k_get (pc := 98) X hK hP 0 rfl rfl i_Mo 0 (by decide) wm_2433 rfl rfl d_Mo_feed_98 ?_
  refine lv_iconst (pc := 101) (v := 1) hx hb d_Mo_feed_101 (by decide) ?_
  refine k_add (pc := 102) (x := ((n + 4) + 1) + 1) (y := 1) hx hb d_Mo_feed_102 ?_
  refine k_put (pc := 103) X hK hP hD hS 0 rfl rfl i_Mo t_Mo t_Mo_ok n_Mo 0 (by decide) wm_2433 rfl (Or.inl rfl) rfl rfl (Nat.le_of_ble_eq_true rfl) d_Mo_feed_103 (fun H locs hP hD hS => ?_)
  have hP : va_P D classes (cat [[(h, .inr (13, mF q (va_up x 0 (nI ((((n + 4) + 1) + 1) + 1))) y))], [(q 1, .inl (kA 1, 2000, .inl (upd (upd (upd (fd f n v1) (n + 4) (vp_nar .byte ((v2 >>> ((nI 24) &&& 31)).toInt8.toInt32))) ((n + 4) + 1) (vp_nar .byte ((v2 >>> ((nI 16) &&& 31)).toInt8.toInt32))) (((n + 4) + 1) + 1) (vp_nar .byte ((v2 >>> ((nI 8) &&& 31)).toInt8.toInt32)))))]]) H := hP
  have hD : va_D A (cat [[(h, .inr (13, mF q (va_up x 0 (nI ((((n + 4) + 1) + 1) + 1))) y))], [(q 1, .inl (kA 1, 2000, .inl (upd (upd (upd (fd f n v1) (n + 4) (vp_nar .byte ((v2 >>> ((nI 24) &&& 31)).toInt8.toInt32))) ((n + 4) + 1) (vp_nar .byte ((v2 >>> ((nI 16) &&& 31)).toInt8.toInt32))) (((n + 4) + 1) + 1) (vp_nar .byte ((v2 >>> ((nI 8) &&& 31)).toInt8.toInt32)))))]]) := hD
  refine lv_iinc (pc := 106) (v := 7) (lv' := [(6, .int 7), (7, .int v2), (0, .ref h), (1, .int v1), (2, .int v2), (3, .int v3), (4, .int v4), (5, .int v5)]) hx hb d_Mo_feed_106 hl (k := 1) rfl (by decide) (by decide) rfl (fun ls hl => ?_)
  refine lv_goto (pc := 109) (tgt := 18) hx hb d_Mo_feed_109 (by decide) ?_
  refine lv_iload (pc := 18) hx hb d_Mo_feed_18 (lv_at hl 0 rfl) ?_
  refine lv_bipush (pc := 20) (v := 20) hx hb d_Mo_feed_20 (by decide) ?_
  refine lv_icmp_ge (pc := 22) (tgt := 112) hx hb d_Mo_feed_22 (by decide) (fun c1 => absurd c1 (by decide)) (fun _ => ?_)
  refine lv_iload (pc := 25) hx hb d_Mo_feed_25 (lv_at hl 0 rfl) ?_
  refine lv_iconst (pc := 27) (v := 4) hx hb d_Mo_feed_27 (by decide) ?_
  refine lv_icmp_ge (pc := 28) (tgt := 35) hx hb d_Mo_feed_28 (by decide) (fun _ => ?_) (fun c1 => absurd (by decide) c1)
  refine lv_iload (pc := 35) hx hb d_Mo_feed_35 (lv_at hl 0 rfl) ?_
  refine lv_bipush (pc := 37) (v := 8) hx hb d_Mo_feed_37 (by decide) ?_
  refine lv_icmp_ge (pc := 39) (tgt := 46) hx hb d_Mo_feed_39 (by decide) (fun c1 => absurd c1 (by decide)) (fun _ => ?_)
  refine lv_iload_n (pc := 42) hx hb d_Mo_feed_42 rfl (lv_at hl 4 rfl) ?_
  refine lv_goto (pc := 43) (tgt := 71) hx hb d_Mo_feed_43 (by decide) ?_
  refine lv_istore (pc := 71) (lv' := [(7, .int v2), (6, .int 7), (0, .ref h), (1, .int v1), (2, .int v2), (3, .int v3), (4, .int v4), (5, .int v5)]) hx hb d_Mo_feed_71 hl (by decide) rfl (fun ls hl => ?_)
  refine lv_aload_n (pc := 73) hx hb d_Mo_feed_73 rfl (lv_at hl 2 rfl) ?_
  refine k_get (pc := 74) X hK hP 0 rfl rfl i_Mo 1 (by decide) wm_2434 rfl rfl d_Mo_feed_74 ?_
  refine lv_aload_n (pc := 77) hx hb d_Mo_feed_77 rfl (lv_at hl 2 rfl) ?_
  refine k_get (pc := 78) X hK hP 0 rfl rfl i_Mo 0 (by decide) wm_2433 rfl rfl d_Mo_feed_78 ?_
  refine lv_iload (pc := 81) hx hb d_Mo_feed_81 (lv_at hl 0 rfl) ?_
  refine lv_bipush (pc := 83) (v := 24) hx hb d_Mo_feed_83 (by decide) ?_
  refine lv_bipush (pc := 85) (v := 8) hx hb d_Mo_feed_85 (by decide) ?_
  refine lv_iload (pc := 87) hx hb d_Mo_feed_87 (lv_at hl 1 rfl) ?_
  refine lv_iconst (pc := 89) (v := 3) hx hb d_Mo_feed_89 (by decide) ?_
  refine lv_iand (pc := 90) hx hb d_Mo_feed_90 ?_
  refine k_cst (v := 3) (by decide) ?_
  refine k_mul (pc := 91) (x := 8) (y := 3) hx hb d_Mo_feed_91 ?_
  refine k_sub (pc := 92) (x := 24) (y := 24) hx hb (by decide) d_Mo_feed_92 ?_
  refine lv_ishr (pc := 93) hx hb d_Mo_feed_93 ?_
  refine lv_i2b (pc := 94) hx hb d_Mo_feed_94 rfl ?_
  refine k_bst (pc := 95) hx hb hK hP hD hS 1 1 rfl rfl ((((n + 4) + 1) + 1) + 1) rfl (by omega) (by decide) d_Mo_feed_95 (fun H locs hP hD hS => ?_)
  have hP : va_P D classes (cat [[(h, .inr (13, mF q (va_up x 0 (nI ((((n + 4) + 1) + 1) + 1))) y))], [(q 1, .inl (kA 1, 2000, .inl (upd (upd (upd (upd (fd f n v1) (n + 4) (vp_nar .byte ((v2 >>> ((nI 24) &&& 31)).toInt8.toInt32))) ((n + 4) + 1) (vp_nar .byte ((v2 >>> ((nI 16) &&& 31)).toInt8.toInt32))) (((n + 4) + 1) + 1) (vp_nar .byte ((v2 >>> ((nI 8) &&& 31)).toInt8.toInt32))) ((((n + 4) + 1) + 1) + 1) (vp_nar .byte ((v2 >>> ((nI 0) &&& 31)).toInt8.toInt32)))))]]) H := hP
  have hD : va_D A (cat [[(h, .inr (13, mF q (va_up x 0 (nI ((((n + 4) + 1) + 1) + 1))) y))], [(q 1, .inl (kA 1, 2000, .inl (upd (upd (upd (upd (fd f n v1) (n + 4) (vp_nar .byte ((v2 >>> ((nI 24) &&& 31)).toInt8.toInt32))) ((n + 4) + 1) (vp_nar .byte ((v2 >>> ((nI 16) &&& 31)).toInt8.toInt32))) (((n + 4) + 1) + 1) (vp_nar .byte ((v2 >>> ((nI 8) &&& 31)).toInt8.toInt32))) ((((n + 4) + 1) + 1) + 1) (vp_nar .byte ((v2 >>> ((nI 0) &&& 31)).toInt8.toInt32)))))]]) := hD
  refine lv_aload_n (pc := 96) hx hb d_Mo_feed_96 rfl (lv_at hl 2 rfl) ?_
  refine lv_dup (pc := 97) hx hb d_Mo_feed_97 rfl ?_
  refine k_get (pc := 98) X hK hP 0 rfl rfl i_Mo 0 (by decide) wm_2433 rfl rfl d_Mo_feed_98 ?_
  refine lv_iconst (pc := 101) (v := 1) hx hb d_Mo_feed_101 (by decide) ?_
  refine k_add (pc := 102) (x := (((n + 4) + 1) + 1) + 1) (y := 1) hx hb d_Mo_feed_102 ?_
  refine k_put (pc := 103) X hK hP hD hS 0 rfl rfl i_Mo t_Mo t_Mo_ok n_Mo 0 (by decide) wm_2433 rfl (Or.inl rfl) rfl rfl (Nat.le_of_ble_eq_true rfl) d_Mo_feed_103 (fun H locs hP hD hS => ?_)
  have hP : va_P D classes (cat [[(h, .inr (13, mF q (va_up x 0 (nI (((((n + 4) + 1) + 1) + 1) + 1))) y))], [(q 1, .inl (kA 1, 2000, .inl (upd (upd (upd (upd (fd f n v1) (n + 4) (vp_nar .byte ((v2 >>> ((nI 24) &&& 31)).toInt8.toInt32))) ((n + 4) + 1) (vp_nar .byte ((v2 >>> ((nI 16) &&& 31)).toInt8.toInt32))) (((n + 4) + 1) + 1) (vp_nar .byte ((v2 >>> ((nI 8) &&& 31)).toInt8.toInt32))) ((((n + 4) + 1) + 1) + 1) (vp_nar .byte ((v2 >>> ((nI 0) &&& 31)).toInt8.toInt32)))))]]) H := hP
  have hD : va_D A (cat [[(h, .inr (13, mF q (va_up x 0 (nI (((((n + 4) + 1) + 1) + 1) + 1))) y))], [(q 1, .inl (kA 1, 2000, .inl (upd (upd (upd (upd (fd f n v1) (n + 4) (vp_nar .byte ((v2 >>> ((nI 24) &&& 31)).toInt8.toInt32))) ((n + 4) + 1) (vp_nar .byte ((v2 >>> ((nI 16) &&& 31)).toInt8.toInt32))) (((n + 4) + 1) + 1) (vp_nar .byte ((v2 >>> ((nI 8) &&& 31)).toInt8.toInt32))) ((((n + 4) + 1) + 1) + 1) (vp_nar .byte ((v2 >>> ((nI 0) &&& 31)).toInt8.toInt32)))))]]) := hD
  refine lv_iinc (pc := 106) (v := 8) (lv' := [(6, .int 8), (7, .int v2), (0, .ref h), (1, .int v1), (2, .int v2), (3, .int v3), (4, .int v4), (5, .int v5)]) hx hb d_Mo_feed_106 hl (k := 1) rfl (by decide) (by decide) rfl (fun ls hl => ?_)
  refine lv_goto (pc := 109) (tgt := 18) hx hb d_Mo_feed_109 (by decide) ?_
  have hP : va_P D classes (cat [[(h, .inr (13, mF q (va_up x 0 (nI (n + 8))) y))], [(q 1, .inl (kA 1, 2000, .inl (fd (fd f n v1) (n + 4) v2)))]]) H := hP
  have hD : va_D A (cat [[(h, .inr (13, mF q (va_up x 0 (nI (n + 8))) y))], [(q 1, .inl (kA 1, 2000, .inl (fd (fd f n v1) (n + 4) v2)))]]) := hD
  refine lv_iload (pc := 18) hx hb d_Mo_feed_18 (lv_at hl 0 rfl) ?_
  refine lv_bipush (pc := 20) (v := 20) hx hb d_Mo_feed_20 (by decide) ?_
  refine lv_icmp_ge (pc := 22) (tgt := 112) hx hb d_Mo_feed_22 (by decide) (fun c1 => absurd c1 (by decide)) (fun _ => ?_)
  refine lv_iload (pc := 25) hx hb d_Mo_feed_25 (lv_at hl 0 rfl) ?_
  refine lv_iconst (pc := 27) (v := 4) hx hb d_Mo_feed_27 (by decide) ?_
  refine lv_icmp_ge (pc := 28) (tgt := 35) hx hb d_Mo_feed_28 (by decide) (fun _ => ?_) (fun c1 => absurd (by decide) c1)
  refine lv_iload (pc := 35) hx hb d_Mo_feed_35 (lv_at hl 0 rfl) ?_
  refine lv_bipush (pc := 37) (v := 8) hx hb d_Mo_feed_37 (by decide) ?_
  refine lv_icmp_ge (pc := 39) (tgt := 46) hx hb d_Mo_feed_39 (by decide) (fun _ => ?_) (fun c1 => absurd (by decide) c1)
  refine lv_iload (pc := 46) hx hb d_Mo_feed_46 (lv_at hl 0 rfl) ?_
  refine lv_bipush (pc := 48) (v := 12) hx hb d_Mo_feed_48 (by decide) ?_
  refine lv_icmp_ge (pc := 50) (tgt := 57) hx hb d_Mo_feed_50 (by decide) (fun c1 => absurd c1 (by decide)) (fun _ => ?_)
  refine lv_iload_n (pc := 53) hx hb d_Mo_feed_53 rfl (lv_at hl 5 rfl) ?_
  refine lv_goto (pc := 54) (tgt := 71) hx hb d_Mo_feed_54 (by decide) ?_
  refine lv_istore (pc := 71) (lv' := [(7, .int v3), (6, .int 8), (0, .ref h), (1, .int v1), (2, .int v2), (3, .int v3), (4, .int v4), (5, .int v5)]) hx hb d_Mo_feed_71 hl (by decide) rfl (fun ls hl => ?_)
  refine lv_aload_n (pc := 73) hx hb d_Mo_feed_73 rfl (lv_at hl 2 rfl) ?_
  refine k_get (pc := 74) X hK hP 0 rfl rfl i_Mo 1 (by decide) wm_2434 rfl rfl d_Mo_feed_74 ?_
  refine lv_aload_n (pc := 77) hx hb d_Mo_feed_77 rfl (lv_at hl 2 rfl) ?_
  refine k_get (pc := 78) X hK hP 0 rfl rfl i_Mo 0 (by decide) wm_2433 rfl rfl d_Mo_feed_78 ?_
  refine lv_iload (pc := 81) hx hb d_Mo_feed_81 (lv_at hl 0 rfl) ?_
  refine lv_bipush (pc := 83) (v := 24) hx hb d_Mo_feed_83 (by decide) ?_
  refine lv_bipush (pc := 85) (v := 8) hx hb d_Mo_feed_85 (by decide) ?_
  refine lv_iload (pc := 87) hx hb d_Mo_feed_87 (lv_at hl 1 rfl) ?_
  refine lv_iconst (pc := 89) (v := 3) hx hb d_Mo_feed_89 (by decide) ?_
  refine lv_iand (pc := 90) hx hb d_Mo_feed_90 ?_
  refine k_cst (v := 0) (by decide) ?_
  refine k_mul (pc := 91) (x := 8) (y := 0) hx hb d_Mo_feed_91 ?_
  refine k_sub (pc := 92) (x := 24) (y := 0) hx hb (by decide) d_Mo_feed_92 ?_
  refine lv_ishr (pc := 93) hx hb d_Mo_feed_93 ?_
  refine lv_i2b (pc := 94) hx hb d_Mo_feed_94 rfl ?_
  refine k_bst (pc := 95) hx hb hK hP hD hS 1 1 rfl rfl (n + 8) rfl (by omega) (by decide) d_Mo_feed_95 (fun H locs hP hD hS => ?_)
  have hP : va_P D classes (cat [[(h, .inr (13, mF q (va_up x 0 (nI (n + 8))) y))], [(q 1, .inl (kA 1, 2000, .inl (upd (fd (fd f n v1) (n + 4) v2) (n + 8) (vp_nar .byte ((v3 >>> ((nI 24) &&& 31)).toInt8.toInt32)))))]]) H := hP
  have hD : va_D A (cat [[(h, .inr (13, mF q (va_up x 0 (nI (n + 8))) y))], [(q 1, .inl (kA 1, 2000, .inl (upd (fd (fd f n v1) (n + 4) v2) (n + 8) (vp_nar .byte ((v3 >>> ((nI 24) &&& 31)).toInt8.toInt32)))))]]) := hD
  refine lv_aload_n (pc := 96) hx hb d_Mo_feed_96 rfl (lv_at hl 2 rfl) ?_
  refine lv_dup (pc := 97) hx hb d_Mo_feed_97 rfl ?_
  refine k_get (pc := 98) X hK hP 0 rfl rfl i_Mo 0 (by decide) wm_2433 rfl rfl d_Mo_feed_98 ?_
  refine lv_iconst (pc := 101) (v := 1) hx hb d_Mo_feed_101 (by decide) ?_
  refine k_add (pc := 102) (x := n + 8) (y := 1) hx hb d_Mo_feed_102 ?_
  refine k_put (pc := 103) X hK hP hD hS 0 rfl rfl i_Mo t_Mo t_Mo_ok n_Mo 0 (by decide) wm_2433 rfl (Or.inl rfl) rfl rfl (Nat.le_of_ble_eq_true rfl) d_Mo_feed_103 (fun H locs hP hD hS => ?_)
  have hP : va_P D classes (cat [[(h, .inr (13, mF q (va_up x 0 (nI ((n + 8) + 1))) y))], [(q 1, .inl (kA 1, 2000, .inl (upd (fd (fd f n v1) (n + 4) v2) (n + 8) (vp_nar .byte ((v3 >>> ((nI 24) &&& 31)).toInt8.toInt32)))))]]) H := hP
  have hD : va_D A (cat [[(h, .inr (13, mF q (va_up x 0 (nI ((n + 8) + 1))) y))], [(q 1, .inl (kA 1, 2000, .inl (upd (fd (fd f n v1) (n + 4) v2) (n + 8) (vp_nar .byte ((v3 >>> ((nI 24) &&& 31)).toInt8.toInt32)))))]]) := hD
  refine lv_iinc (pc := 106) (v := 9) (lv' := [(6, .int 9), (7, .int v3), (0, .ref h), (1, .int v1), (2, .int v2), (3, .int v3), (4, .int v4), (5, .int v5)]) hx hb d_Mo_feed_106 hl (k := 1) rfl (by decide) (by decide) rfl (fun ls hl => ?_)
  refine lv_goto (pc := 109) (tgt := 18) hx hb d_Mo_feed_109 (by decide) ?_
  refine lv_iload (pc := 18) hx hb d_Mo_feed_18 (lv_at hl 0 rfl) ?_
  refine lv_bipush (pc := 20) (v := 20) hx hb d_Mo_feed_20 (by decide) ?_
  refine lv_icmp_ge (pc := 22) (tgt := 112) hx hb d_Mo_feed_22 (by decide) (fun c1 => absurd c1 (by decide)) (fun _ => ?_)
  refine lv_iload (pc := 25) hx hb d_Mo_feed_25 (lv_at hl 0 rfl) ?_
  refine lv_iconst (pc := 27) (v := 4) hx hb d_Mo_feed_27 (by decide) ?_
  refine lv_icmp_ge (pc := 28) (tgt := 35) hx hb d_Mo_feed_28 (by decide) (fun _ => ?_) (fun c1 => absurd (by decide) c1)
  refine lv_iload (pc := 35) hx hb d_Mo_feed_35 (lv_at hl 0 rfl) ?_
  refine lv_bipush (pc := 37) (v := 8) hx hb d_Mo_feed_37 (by decide) ?_
  refine lv_icmp_ge (pc := 39) (tgt := 46) hx hb d_Mo_feed_39 (by decide) (fun _ => ?_) (fun c1 => absurd (by decide) c1)
  refine lv_iload (pc := 46) hx hb d_Mo_feed_46 (lv_at hl 0 rfl) ?_
  refine lv_bipush (pc := 48) (v := 12) hx hb d_Mo_feed_48 (by decide) ?_
  refine lv_icmp_ge (pc := 50) (tgt := 57) hx hb d_Mo_feed_50 (by decide) (fun c1 => absurd c1 (by decide)) (fun _ => ?_)
  refine lv_iload_n (pc := 53) hx hb d_Mo_feed_53 rfl (lv_at hl 5 rfl) ?_
  refine lv_goto (pc := 54) (tgt := 71) hx hb d_Mo_feed_54 (by decide) ?_
  refine lv_istore (pc := 71) (lv' := [(7, .int v3), (6, .int 9), (0, .ref h), (1, .int v1), (2, .int v2), (3, .int v3), (4, .int v4), (5, .int v5)]) hx hb d_Mo_feed_71 hl (by decide) rfl (fun ls hl => ?_)
  refine lv_aload_n (pc := 73) hx hb d_Mo_feed_73 rfl (lv_at hl 2 rfl) ?_
  refine k_get (pc := 74) X hK hP 0 rfl rfl i_Mo 1 (by decide) wm_2434 rfl rfl d_Mo_feed_74 ?_
  refine lv_aload_n (pc := 77) hx hb d_Mo_feed_77 rfl (lv_at hl 2 rfl) ?_
  refine k_get (pc := 78) X hK hP 0 rfl rfl i_Mo 0 (by decide) wm_2433 rfl rfl d_Mo_feed_78 ?_
  refine lv_iload (pc := 81) hx hb d_Mo_feed_81 (lv_at hl 0 rfl) ?_
  refine lv_bipush (pc := 83) (v := 24) hx hb d_Mo_feed_83 (by decide) ?_
  refine lv_bipush (pc := 85) (v := 8) hx hb d_Mo_feed_85 (by decide) ?_
  refine lv_iload (pc := 87) hx hb d_Mo_feed_87 (lv_at hl 1 rfl) ?_
  refine lv_iconst (pc := 89) (v := 3) hx hb d_Mo_feed_89 (by decide) ?_
  refine lv_iand (pc := 90) hx hb d_Mo_feed_90 ?_
  refine k_cst (v := 1) (by decide) ?_
  refine k_mul (pc := 91) (x := 8) (y := 1) hx hb d_Mo_feed_91 ?_
  refine k_sub (pc := 92) (x := 24) (y := 8) hx hb (by decide) d_Mo_feed_92 ?_
  refine lv_ishr (pc := 93) hx hb d_Mo_feed_93 ?_
  refine lv_i2b (pc := 94) hx hb d_Mo_feed_94 rfl ?_
  refine k_bst (pc := 95) hx hb hK hP hD hS 1 1 rfl rfl ((n + 8) + 1) rfl (by omega) (by decide) d_Mo_feed_95 (fun H locs hP hD hS => ?_)
  have hP : va_P D classes (cat [[(h, .inr (13, mF q (va_up x 0 (nI ((n + 8) + 1))) y))], [(q 1, .inl (kA 1, 2000, .inl (upd (upd (fd (fd f n v1) (n + 4) v2) (n + 8) (vp_nar .byte ((v3 >>> ((nI 24) &&& 31)).toInt8.toInt32))) ((n + 8) + 1) (vp_nar .byte ((v3 >>> ((nI 16) &&& 31)).toInt8.toInt32)))))]]) H := hP
  have hD : va_D A (cat [[(h, .inr (13, mF q (va_up x 0 (nI ((n + 8) + 1))) y))], [(q 1, .inl (kA 1, 2000, .inl (upd (upd (fd (fd f n v1) (n + 4) v2) (n + 8) (vp_nar .byte ((v3 >>> ((nI 24) &&& 31)).toInt8.toInt32))) ((n + 8) + 1) (vp_nar .byte ((v3 >>> ((nI 16) &&& 31)).toInt8.toInt32)))))]]) := hD
  refine lv_aload_n (pc := 96) hx hb d_Mo_feed_96 rfl (lv_at hl 2 rfl) ?_
  refine lv_dup (pc := 97) hx hb d_Mo_feed_97 rfl ?_
  refine k_get (pc := 98) X hK hP 0 rfl rfl i_Mo 0 (by decide) wm_2433 rfl rfl d_Mo_feed_98 ?_
  refine lv_iconst (pc := 101) (v := 1) hx hb d_Mo_feed_101 (by decide) ?_
  refine k_add (pc := 102) (x := (n + 8) + 1) (y := 1) hx hb d_Mo_feed_102 ?_
  refine k_put (pc := 103) X hK hP hD hS 0 rfl rfl i_Mo t_Mo t_Mo_ok n_Mo 0 (by decide) wm_2433 rfl (Or.inl rfl) rfl rfl (Nat.le_of_ble_eq_true rfl) d_Mo_feed_103 (fun H locs hP hD hS => ?_)
  have hP : va_P D classes (cat [[(h, .inr (13, mF q (va_up x 0 (nI (((n + 8) + 1) + 1))) y))], [(q 1, .inl (kA 1, 2000, .inl (upd (upd (fd (fd f n v1) (n + 4) v2) (n + 8) (vp_nar .byte ((v3 >>> ((nI 24) &&& 31)).toInt8.toInt32))) ((n + 8) + 1) (vp_nar .byte ((v3 >>> ((nI 16) &&& 31)).toInt8.toInt32)))))]]) H := hP
  have hD : va_D A (cat [[(h, .inr (13, mF q (va_up x 0 (nI (((n + 8) + 1) + 1))) y))], [(q 1, .inl (kA 1, 2000, .inl (upd (upd (fd (fd f n v1) (n + 4) v2) (n + 8) (vp_nar .byte ((v3 >>> ((nI 24) &&& 31)).toInt8.toInt32))) ((n + 8) + 1) (vp_nar .byte ((v3 >>> ((nI 16) &&& 31)).toInt8.toInt32)))))]]) := hD
  refine lv_iinc (pc := 106) (v := 10) (lv' := [(6, .int 10), (7, .int v3), (0, .ref h), (1, .int v1), (2, .int v2), (3, .int v3), (4, .int v4), (5, .int v5)]) hx hb d_Mo_feed_106 hl (k := 1) rfl (by decide) (by decide) rfl (fun ls hl => ?_)
  refine lv_goto (pc := 109) (tgt := 18) hx hb d_Mo_feed_109 (by decide) ?_
  refine lv_iload (pc := 18) hx hb d_Mo_feed_18 (lv_at hl 0 rfl) ?_
  refine lv_bipush (pc := 20) (v := 20) hx hb d_Mo_feed_20 (by decide) ?_
  refine lv_icmp_ge (pc := 22) (tgt := 112) hx hb d_Mo_feed_22 (by decide) (fun c1 => absurd c1 (by decide)) (fun _ => ?_)
  refine lv_iload (pc := 25) hx hb d_Mo_feed_25 (lv_at hl 0 rfl) ?_
  refine lv_iconst (pc := 27) (v := 4) hx hb d_Mo_feed_27 (by decide) ?_
  refine lv_icmp_ge (pc := 28) (tgt := 35) hx hb d_Mo_feed_28 (by decide) (fun _ => ?_) (fun c1 => absurd (by decide) c1)
  refine lv_iload (pc := 35) hx hb d_Mo_feed_35 (lv_at hl 0 rfl) ?_
  refine lv_bipush (pc := 37) (v := 8) hx hb d_Mo_feed_37 (by decide) ?_
  refine lv_icmp_ge (pc := 39) (tgt := 46) hx hb d_Mo_feed_39 (by decide) (fun _ => ?_) (fun c1 => absurd (by decide) c1)
  refine lv_iload (pc := 46) hx hb d_Mo_feed_46 (lv_at hl 0 rfl) ?_
  refine lv_bipush (pc := 48) (v := 12) hx hb d_Mo_feed_48 (by decide) ?_
  refine lv_icmp_ge (pc := 50) (tgt := 57) hx hb d_Mo_feed_50 (by decide) (fun c1 => absurd c1 (by decide)) (fun _ => ?_)
  refine lv_iload_n (pc := 53) hx hb d_Mo_feed_53 rfl (lv_at hl 5 rfl) ?_
  refine lv_goto (pc := 54) (tgt := 71) hx hb d_Mo_feed_54 (by decide) ?_
  refine lv_istore (pc := 71) (lv' := [(7, .int v3), (6, .int 10), (0, .ref h), (1, .int v1), (2, .int v2), (3, .int v3), (4, .int v4), (5, .int v5)]) hx hb d_Mo_feed_71 hl (by decide) rfl (fun ls hl => ?_)
  refine lv_aload_n (pc := 73) hx hb d_Mo_feed_73 rfl (lv_at hl 2 rfl) ?_
  refine k_get (pc := 74) X hK hP 0 rfl rfl i_Mo 1 (by decide) wm_2434 rfl rfl d_Mo_feed_74 ?_
  refine lv_aload_n (pc := 77) hx hb d_Mo_feed_77 rfl (lv_at hl 2 rfl) ?_
  refine k_get (pc := 78) X hK hP 0 rfl rfl i_Mo 0 (by decide) wm_2433 rfl rfl d_Mo_feed_78 ?_
  refine lv_iload (pc := 81) hx hb d_Mo_feed_81 (lv_at hl 0 rfl) ?_
  refine lv_bipush (pc := 83) (v := 24) hx hb d_Mo_feed_83 (by decide) ?_
  refine lv_bipush (pc := 85) (v := 8) hx hb d_Mo_feed_85 (by decide) ?_
  refine lv_iload (pc := 87) hx hb d_Mo_feed_87 (lv_at hl 1 rfl) ?_
  refine lv_iconst (pc := 89) (v := 3) hx hb d_Mo_feed_89 (by decide) ?_
  refine lv_iand (pc := 90) hx hb d_Mo_feed_90 ?_
  refine k_cst (v := 2) (by decide) ?_
  refine k_mul (pc := 91) (x := 8) (y := 2) hx hb d_Mo_feed_91 ?_
  refine k_sub (pc := 92) (x := 24) (y := 16) hx hb (by decide) d_Mo_feed_92 ?_
  refine lv_ishr (pc := 93) hx hb d_Mo_feed_93 ?_
  refine lv_i2b (pc := 94) hx hb d_Mo_feed_94 rfl ?_
  refine k_bst (pc := 95) hx hb hK hP hD hS 1 1 rfl rfl (((n + 8) + 1) + 1) rfl (by omega) (by decide) d_Mo_feed_95 (fun H locs hP hD hS => ?_)
  have hP : va_P D classes (cat [[(h, .inr (13, mF q (va_up x 0 (nI (((n + 8) + 1) + 1))) y))], [(q 1, .inl (kA 1, 2000, .inl (upd (upd (upd (fd (fd f n v1) (n + 4) v2) (n + 8) (vp_nar .byte ((v3 >>> ((nI 24) &&& 31)).toInt8.toInt32))) ((n + 8) + 1) (vp_nar .byte ((v3 >>> ((nI 16) &&& 31)).toInt8.toInt32))) (((n + 8) + 1) + 1) (vp_nar .byte ((v3 >>> ((nI 8) &&& 31)).toInt8.toInt32)))))]]) H := hP
  have hD : va_D A (cat [[(h, .inr (13, mF q (va_up x 0 (nI (((n + 8) + 1) + 1))) y))], [(q 1, .inl (kA 1, 2000, .inl (upd (upd (upd (fd (fd f n v1) (n + 4) v2) (n + 8) (vp_nar .byte ((v3 >>> ((nI 24) &&& 31)).toInt8.toInt32))) ((n + 8) + 1) (vp_nar .byte ((v3 >>> ((nI 16) &&& 31)).toInt8.toInt32))) (((n + 8) + 1) + 1) (vp_nar .byte ((v3 >>> ((nI 8) &&& 31)).toInt8.toInt32)))))]]) := hD
  refine lv_aload_n (pc := 96) hx hb d_Mo_feed_96 rfl (lv_at hl 2 rfl) ?_
  refine lv_dup (pc := 97) hx hb d_Mo_feed_97 rfl ?_
  refine k_get (pc := 98) X hK hP 0 rfl rfl i_Mo 0 (by decide) wm_2433 rfl rfl d_Mo_feed_98 ?_
  refine lv_iconst (pc := 101) (v := 1) hx hb d_Mo_feed_101 (by decide) ?_
  refine k_add (pc := 102) (x := ((n + 8) + 1) + 1) (y := 1) hx hb d_Mo_feed_102 ?_
  refine k_put (pc := 103) X hK hP hD hS 0 rfl rfl i_Mo t_Mo t_Mo_ok n_Mo 0 (by decide) wm_2433 rfl (Or.inl rfl) rfl rfl (Nat.le_of_ble_eq_true rfl) d_Mo_feed_103 (fun H locs hP hD hS => ?_)
  have hP : va_P D classes (cat [[(h, .inr (13, mF q (va_up x 0 (nI ((((n + 8) + 1) + 1) + 1))) y))], [(q 1, .inl (kA 1, 2000, .inl (upd (upd (upd (fd (fd f n v1) (n + 4) v2) (n + 8) (vp_nar .byte ((v3 >>> ((nI 24) &&& 31)).toInt8.toInt32))) ((n + 8) + 1) (vp_nar .byte ((v3 >>> ((nI 16) &&& 31)).toInt8.toInt32))) (((n + 8) + 1) + 1) (vp_nar .byte ((v3 >>> ((nI 8) &&& 31)).toInt8.toInt32)))))]]) H := hP
  have hD : va_D A (cat [[(h, .inr (13, mF q (va_up x 0 (nI ((((n + 8) + 1) + 1) + 1))) y))], [(q 1, .inl (kA 1, 2000, .inl (upd (upd (upd (fd (fd f n v1) (n + 4) v2) (n + 8) (vp_nar .byte ((v3 >>> ((nI 24) &&& 31)).toInt8.toInt32))) ((n + 8) + 1) (vp_nar .byte ((v3 >>> ((nI 16) &&& 31)).toInt8.toInt32))) (((n + 8) + 1) + 1) (vp_nar .byte ((v3 >>> ((nI 8) &&& 31)).toInt8.toInt32)))))]]) := hD
  refine lv_iinc (pc := 106) (v := 11) (lv' := [(6, .int 11), (7, .int v3), (0, .ref h), (1, .int v1), (2, .int v2), (3, .int v3), (4, .int v4), (5, .int v5)]) hx hb d_Mo_feed_106 hl (k := 1) rfl (by decide) (by decide) rfl (fun ls hl => ?_)
  refine lv_goto (pc := 109) (tgt := 18) hx hb d_Mo_feed_109 (by decide) ?_
  refine lv_iload (pc := 18) hx hb d_Mo_feed_18 (lv_at hl 0 rfl) ?_
  refine lv_bipush (pc := 20) (v := 20) hx hb d_Mo_feed_20 (by decide) ?_
  refine lv_icmp_ge (pc := 22) (tgt := 112) hx hb d_Mo_feed_22 (by decide) (fun c1 => absurd c1 (by decide)) (fun _ => ?_)
  refine lv_iload (pc := 25) hx hb d_Mo_feed_25 (lv_at hl 0 rfl) ?_
  refine lv_iconst (pc := 27) (v := 4) hx hb d_Mo_feed_27 (by decide) ?_
  refine lv_icmp_ge (pc := 28) (tgt := 35) hx hb d_Mo_feed_28 (by decide) (fun _ => ?_) (fun c1 => absurd (by decide) c1)
  refine lv_iload (pc := 35) hx hb d_Mo_feed_35 (lv_at hl 0 rfl) ?_
  refine lv_bipush (pc := 37) (v := 8) hx hb d_Mo_feed_37 (by decide) ?_
  refine lv_icmp_ge (pc := 39) (tgt := 46) hx hb d_Mo_feed_39 (by decide) (fun _ => ?_) (fun c1 => absurd (by decide) c1)
  refine lv_iload (pc := 46) hx hb d_Mo_feed_46 (lv_at hl 0 rfl) ?_
  refine lv_bipush (pc := 48) (v := 12) hx hb d_Mo_feed_48 (by decide) ?_
  refine lv_icmp_ge (pc := 50) (tgt := 57) hx hb d_Mo_feed_50 (by decide) (fun c1 => absurd c1 (by decide)) (fun _ => ?_)
  refine lv_iload_n (pc := 53) hx hb d_Mo_feed_53 rfl (lv_at hl 5 rfl) ?_
  refine lv_goto (pc := 54) (tgt := 71) hx hb d_Mo_feed_54 (by decide) ?_
  refine lv_istore (pc := 71) (lv' := [(7, .int v3), (6, .int 11), (0, .ref h), (1, .int v1), (2, .int v2), (3, .int v3), (4, .int v4), (5, .int v5)]) hx hb d_Mo_feed_71 hl (by decide) rfl (fun ls hl => ?_)
  refine lv_aload_n (pc := 73) hx hb d_Mo_feed_73 rfl (lv_at hl 2 rfl) ?_
  refine k_get (pc := 74) X hK hP 0 rfl rfl i_Mo 1 (by decide) wm_2434 rfl rfl d_Mo_feed_74 ?_
  refine lv_aload_n (pc := 77) hx hb d_Mo_feed_77 rfl (lv_at hl 2 rfl) ?_
  refine k_get (pc := 78) X hK hP 0 rfl rfl i_Mo 0 (by decide) wm_2433 rfl rfl d_Mo_feed_78 ?_
  refine lv_iload (pc := 81) hx hb d_Mo_feed_81 (lv_at hl 0 rfl) ?_
  refine lv_bipush (pc := 83) (v := 24) hx hb d_Mo_feed_83 (by decide) ?_
  refine lv_bipush (pc := 85) (v := 8) hx hb d_Mo_feed_85 (by decide) ?_
  refine lv_iload (pc := 87) hx hb d_Mo_feed_87 (lv_at hl 1 rfl) ?_
  refine lv_iconst (pc := 89) (v := 3) hx hb d_Mo_feed_89 (by decide) ?_
  refine lv_iand (pc := 90) hx hb d_Mo_feed_90 ?_
  refine k_cst (v := 3) (by decide) ?_
  refine k_mul (pc := 91) (x := 8) (y := 3) hx hb d_Mo_feed_91 ?_
  refine k_sub (pc := 92) (x := 24) (y := 24) hx hb (by decide) d_Mo_feed_92 ?_
  refine lv_ishr (pc := 93) hx hb d_Mo_feed_93 ?_
  refine lv_i2b (pc := 94) hx hb d_Mo_feed_94 rfl ?_
  refine k_bst (pc := 95) hx hb hK hP hD hS 1 1 rfl rfl ((((n + 8) + 1) + 1) + 1) rfl (by omega) (by decide) d_Mo_feed_95 (fun H locs hP hD hS => ?_)
  have hP : va_P D classes (cat [[(h, .inr (13, mF q (va_up x 0 (nI ((((n + 8) + 1) + 1) + 1))) y))], [(q 1, .inl (kA 1, 2000, .inl (upd (upd (upd (upd (fd (fd f n v1) (n + 4) v2) (n + 8) (vp_nar .byte ((v3 >>> ((nI 24) &&& 31)).toInt8.toInt32))) ((n + 8) + 1) (vp_nar .byte ((v3 >>> ((nI 16) &&& 31)).toInt8.toInt32))) (((n + 8) + 1) + 1) (vp_nar .byte ((v3 >>> ((nI 8) &&& 31)).toInt8.toInt32))) ((((n + 8) + 1) + 1) + 1) (vp_nar .byte ((v3 >>> ((nI 0) &&& 31)).toInt8.toInt32)))))]]) H := hP
  have hD : va_D A (cat [[(h, .inr (13, mF q (va_up x 0 (nI ((((n + 8) + 1) + 1) + 1))) y))], [(q 1, .inl (kA 1, 2000, .inl (upd (upd (upd (upd (fd (fd f n v1) (n + 4) v2) (n + 8) (vp_nar .byte ((v3 >>> ((nI 24) &&& 31)).toInt8.toInt32))) ((n + 8) + 1) (vp_nar .byte ((v3 >>> ((nI 16) &&& 31)).toInt8.toInt32))) (((n + 8) + 1) + 1) (vp_nar .byte ((v3 >>> ((nI 8) &&& 31)).toInt8.toInt32))) ((((n + 8) + 1) + 1) + 1) (vp_nar .byte ((v3 >>> ((nI 0) &&& 31)).toInt8.toInt32)))))]]) := hD
  refine lv_aload_n (pc := 96) hx hb d_Mo_feed_96 rfl (lv_at hl 2 rfl) ?_
  refine lv_dup (pc := 97) hx hb d_Mo_feed_97 rfl ?_
  refine k_get (pc := 98) X hK hP 0 rfl rfl i_Mo 0 (by decide) wm_2433 rfl rfl d_Mo_feed_98 ?_
  refine lv_iconst (pc := 101) (v := 1) hx hb d_Mo_feed_101 (by decide) ?_
  refine k_add (pc := 102) (x := (((n + 8) + 1) + 1) + 1) (y := 1) hx hb d_Mo_feed_102 ?_
  refine k_put (pc := 103) X hK hP hD hS 0 rfl rfl i_Mo t_Mo t_Mo_ok n_Mo 0 (by decide) wm_2433 rfl (Or.inl rfl) rfl rfl (Nat.le_of_ble_eq_true rfl) d_Mo_feed_103 (fun H locs hP hD hS => ?_)
  have hP : va_P D classes (cat [[(h, .inr (13, mF q (va_up x 0 (nI (((((n + 8) + 1) + 1) + 1) + 1))) y))], [(q 1, .inl (kA 1, 2000, .inl (upd (upd (upd (upd (fd (fd f n v1) (n + 4) v2) (n + 8) (vp_nar .byte ((v3 >>> ((nI 24) &&& 31)).toInt8.toInt32))) ((n + 8) + 1) (vp_nar .byte ((v3 >>> ((nI 16) &&& 31)).toInt8.toInt32))) (((n + 8) + 1) + 1) (vp_nar .byte ((v3 >>> ((nI 8) &&& 31)).toInt8.toInt32))) ((((n + 8) + 1) + 1) + 1) (vp_nar .byte ((v3 >>> ((nI 0) &&& 31)).toInt8.toInt32)))))]]) H := hP
  have hD : va_D A (cat [[(h, .inr (13, mF q (va_up x 0 (nI (((((n + 8) + 1) + 1) + 1) + 1))) y))], [(q 1, .inl (kA 1, 2000, .inl (upd (upd (upd (upd (fd (fd f n v1) (n + 4) v2) (n + 8) (vp_nar .byte ((v3 >>> ((nI 24) &&& 31)).toInt8.toInt32))) ((n + 8) + 1) (vp_nar .byte ((v3 >>> ((nI 16) &&& 31)).toInt8.toInt32))) (((n + 8) + 1) + 1) (vp_nar .byte ((v3 >>> ((nI 8) &&& 31)).toInt8.toInt32))) ((((n + 8) + 1) + 1) + 1) (vp_nar .byte ((v3 >>> ((nI 0) &&& 31)).toInt8.toInt32)))))]]) := hD
  refine lv_iinc (pc := 106) (v := 12) (lv' := [(6, .int 12), (7, .int v3), (0, .ref h), (1, .int v1), (2, .int v2), (3, .int v3), (4, .int v4), (5, .int v5)]) hx hb d_Mo_feed_106 hl (k := 1) rfl (by decide) (by decide) rfl (fun ls hl => ?_)
  refine lv_goto (pc := 109) (tgt := 18) hx hb d_Mo_feed_109 (by decide) ?_
  have hP : va_P D classes (cat [[(h, .inr (13, mF q (va_up x 0 (nI (n + 12))) y))], [(q 1, .inl (kA 1, 2000, .inl (fd (fd (fd f n v1) (n + 4) v2) (n + 8) v3)))]]) H := hP
  have hD : va_D A (cat [[(h, .inr (13, mF q (va_up x 0 (nI (n + 12))) y))], [(q 1, .inl (kA 1, 2000, .inl (fd (fd (fd f n v1) (n + 4) v2) (n + 8) v3)))]]) := hD
  refine lv_iload (pc := 18) hx hb d_Mo_feed_18 (lv_at hl 0 rfl) ?_
  refine lv_bipush (pc := 20) (v := 20) hx hb d_Mo_feed_20 (by decide) ?_
  refine lv_icmp_ge (pc := 22) (tgt := 112) hx hb d_Mo_feed_22 (by decide) (fun c1 => absurd c1 (by decide)) (fun _ => ?_)
  refine lv_iload (pc := 25) hx hb d_Mo_feed_25 (lv_at hl 0 rfl) ?_
  refine lv_iconst (pc := 27) (v := 4) hx hb d_Mo_feed_27 (by decide) ?_
  refine lv_icmp_ge (pc := 28) (tgt := 35) hx hb d_Mo_feed_28 (by decide) (fun _ => ?_) (fun c1 => absurd (by decide) c1)
  refine lv_iload (pc := 35) hx hb d_Mo_feed_35 (lv_at hl 0 rfl) ?_
  refine lv_bipush (pc := 37) (v := 8) hx hb d_Mo_feed_37 (by decide) ?_
  refine lv_icmp_ge (pc := 39) (tgt := 46) hx hb d_Mo_feed_39 (by decide) (fun _ => ?_) (fun c1 => absurd (by decide) c1)
  refine lv_iload (pc := 46) hx hb d_Mo_feed_46 (lv_at hl 0 rfl) ?_
  refine lv_bipush (pc := 48) (v := 12) hx hb d_Mo_feed_48 (by decide) ?_
  refine lv_icmp_ge (pc := 50) (tgt := 57) hx hb d_Mo_feed_50 (by decide) (fun _ => ?_) (fun c1 => absurd (by decide) c1)
  refine lv_iload (pc := 57) hx hb d_Mo_feed_57 (lv_at hl 0 rfl) ?_
  refine lv_bipush (pc := 59) (v := 16) hx hb d_Mo_feed_59 (by decide) ?_
  refine lv_icmp_ge (pc := 61) (tgt := 69) hx hb d_Mo_feed_61 (by decide) (fun c1 => absurd c1 (by decide)) (fun _ => ?_)
  refine lv_iload (pc := 64) hx hb d_Mo_feed_64 (lv_at hl 6 rfl) ?_
  refine lv_goto (pc := 66) (tgt := 71) hx hb d_Mo_feed_66 (by decide) ?_
  refine lv_istore (pc := 71) (lv' := [(7, .int v4), (6, .int 12), (0, .ref h), (1, .int v1), (2, .int v2), (3, .int v3), (4, .int v4), (5, .int v5)]) hx hb d_Mo_feed_71 hl (by decide) rfl (fun ls hl => ?_)
  refine lv_aload_n (pc := 73) hx hb d_Mo_feed_73 rfl (lv_at hl 2 rfl) ?_
  refine k_get (pc := 74) X hK hP 0 rfl rfl i_Mo 1 (by decide) wm_2434 rfl rfl d_Mo_feed_74 ?_
  refine lv_aload_n (pc := 77) hx hb d_Mo_feed_77 rfl (lv_at hl 2 rfl) ?_
  refine k_get (pc := 78) X hK hP 0 rfl rfl i_Mo 0 (by decide) wm_2433 rfl rfl d_Mo_feed_78 ?_
  refine lv_iload (pc := 81) hx hb d_Mo_feed_81 (lv_at hl 0 rfl) ?_
  refine lv_bipush (pc := 83) (v := 24) hx hb d_Mo_feed_83 (by decide) ?_
  refine lv_bipush (pc := 85) (v := 8) hx hb d_Mo_feed_85 (by decide) ?_
  refine lv_iload (pc := 87) hx hb d_Mo_feed_87 (lv_at hl 1 rfl) ?_
  refine lv_iconst (pc := 89) (v := 3) hx hb d_Mo_feed_89 (by decide) ?_
  refine lv_iand (pc := 90) hx hb d_Mo_feed_90 ?_
  refine k_cst (v := 0) (by decide) ?_
  refine k_mul (pc := 91) (x := 8) (y := 0) hx hb d_Mo_feed_91 ?_
  refine k_sub (pc := 92) (x := 24) (y := 0) hx hb (by decide) d_Mo_feed_92 ?_
  refine lv_ishr (pc := 93) hx hb d_Mo_feed_93 ?_
  refine lv_i2b (pc := 94) hx hb d_Mo_feed_94 rfl ?_
  refine k_bst (pc := 95) hx hb hK hP hD hS 1 1 rfl rfl (n + 12) rfl (by omega) (by decide) d_Mo_feed_95 (fun H locs hP hD hS => ?_)
  have hP : va_P D classes (cat [[(h, .inr (13, mF q (va_up x 0 (nI (n + 12))) y))], [(q 1, .inl (kA 1, 2000, .inl (upd (fd (fd (fd f n v1) (n + 4) v2) (n + 8) v3) (n + 12) (vp_nar .byte ((v4 >>> ((nI 24) &&& 31)).toInt8.toInt32)))))]]) H := hP
  have hD : va_D A (cat [[(h, .inr (13, mF q (va_up x 0 (nI (n + 12))) y))], [(q 1, .inl (kA 1, 2000, .inl (upd (fd (fd (fd f n v1) (n + 4) v2) (n + 8) v3) (n + 12) (vp_nar .byte ((v4 >>> ((nI 24) &&& 31)).toInt8.toInt32)))))]]) := hD
  refine lv_aload_n (pc := 96) hx hb d_Mo_feed_96 rfl (lv_at hl 2 rfl) ?_
  refine lv_dup (pc := 97) hx hb d_Mo_feed_97 rfl ?_
  refine k_get (pc := 98) X hK hP 0 rfl rfl i_Mo 0 (by decide) wm_2433 rfl rfl d_Mo_feed_98 ?_
  refine lv_iconst (pc := 101) (v := 1) hx hb d_Mo_feed_101 (by decide) ?_
  refine k_add (pc := 102) (x := n + 12) (y := 1) hx hb d_Mo_feed_102 ?_
  refine k_put (pc := 103) X hK hP hD hS 0 rfl rfl i_Mo t_Mo t_Mo_ok n_Mo 0 (by decide) wm_2433 rfl (Or.inl rfl) rfl rfl (Nat.le_of_ble_eq_true rfl) d_Mo_feed_103 (fun H locs hP hD hS => ?_)
  have hP : va_P D classes (cat [[(h, .inr (13, mF q (va_up x 0 (nI ((n + 12) + 1))) y))], [(q 1, .inl (kA 1, 2000, .inl (upd (fd (fd (fd f n v1) (n + 4) v2) (n + 8) v3) (n + 12) (vp_nar .byte ((v4 >>> ((nI 24) &&& 31)).toInt8.toInt32)))))]]) H := hP
  have hD : va_D A (cat [[(h, .inr (13, mF q (va_up x 0 (nI ((n + 12) + 1))) y))], [(q 1, .inl (kA 1, 2000, .inl (upd (fd (fd (fd f n v1) (n + 4) v2) (n + 8) v3) (n + 12) (vp_nar .byte ((v4 >>> ((nI 24) &&& 31)).toInt8.toInt32)))))]]) := hD
  refine lv_iinc (pc := 106) (v := 13) (lv' := [(6, .int 13), (7, .int v4), (0, .ref h), (1, .int v1), (2, .int v2), (3, .int v3), (4, .int v4), (5, .int v5)]) hx hb d_Mo_feed_106 hl (k := 1) rfl (by decide) (by decide) rfl (fun ls hl => ?_)
  refine lv_goto (pc := 109) (tgt := 18) hx hb d_Mo_feed_109 (by decide) ?_
  refine lv_iload (pc := 18) hx hb d_Mo_feed_18 (lv_at hl 0 rfl) ?_
  refine lv_bipush (pc := 20) (v := 20) hx hb d_Mo_feed_20 (by decide) ?_
  refine lv_icmp_ge (pc := 22) (tgt := 112) hx hb d_Mo_feed_22 (by decide) (fun c1 => absurd c1 (by decide)) (fun _ => ?_)
  refine lv_iload (pc := 25) hx hb d_Mo_feed_25 (lv_at hl 0 rfl) ?_
  refine lv_iconst (pc := 27) (v := 4) hx hb d_Mo_feed_27 (by decide) ?_
  refine lv_icmp_ge (pc := 28) (tgt := 35) hx hb d_Mo_feed_28 (by decide) (fun _ => ?_) (fun c1 => absurd (by decide) c1)
  refine lv_iload (pc := 35) hx hb d_Mo_feed_35 (lv_at hl 0 rfl) ?_
  refine lv_bipush (pc := 37) (v := 8) hx hb d_Mo_feed_37 (by decide) ?_
  refine lv_icmp_ge (pc := 39) (tgt := 46) hx hb d_Mo_feed_39 (by decide) (fun _ => ?_) (fun c1 => absurd (by decide) c1)
  refine lv_iload (pc := 46) hx hb d_Mo_feed_46 (lv_at hl 0 rfl) ?_
  refine lv_bipush (pc := 48) (v := 12) hx hb d_Mo_feed_48 (by decide) ?_
  refine lv_icmp_ge (pc := 50) (tgt := 57) hx hb d_Mo_feed_50 (by decide) (fun _ => ?_) (fun c1 => absurd (by decide) c1)
  refine lv_iload (pc := 57) hx hb d_Mo_feed_57 (lv_at hl 0 rfl) ?_
  refine lv_bipush (pc := 59) (v := 16) hx hb d_Mo_feed_59 (by decide) ?_
  refine lv_icmp_ge (pc := 61) (tgt := 69) hx hb d_Mo_feed_61 (by decide) (fun c1 => absurd c1 (by decide)) (fun _ => ?_)
  refine lv_iload (pc := 64) hx hb d_Mo_feed_64 (lv_at hl 6 rfl) ?_
  refine lv_goto (pc := 66) (tgt := 71) hx hb d_Mo_feed_66 (by decide) ?_
  refine lv_istore (pc := 71) (lv' := [(7, .int v4), (6, .int 13), (0, .ref h), (1, .int v1), (2, .int v2), (3, .int v3), (4, .int v4), (5, .int v5)]) hx hb d_Mo_feed_71 hl (by decide) rfl (fun ls hl => ?_)
  refine lv_aload_n (pc := 73) hx hb d_Mo_feed_73 rfl (lv_at hl 2 rfl) ?_
  refine k_get (pc := 74) X hK hP 0 rfl rfl i_Mo 1 (by decide) wm_2434 rfl rfl d_Mo_feed_74 ?_
  refine lv_aload_n (pc := 77) hx hb d_Mo_feed_77 rfl (lv_at hl 2 rfl) ?_
  refine k_get (pc := 78) X hK hP 0 rfl rfl i_Mo 0 (by decide) wm_2433 rfl rfl d_Mo_feed_78 ?_
  refine lv_iload (pc := 81) hx hb d_Mo_feed_81 (lv_at hl 0 rfl) ?_
  refine lv_bipush (pc := 83) (v := 24) hx hb d_Mo_feed_83 (by decide) ?_
  refine lv_bipush (pc := 85) (v := 8) hx hb d_Mo_feed_85 (by decide) ?_
  refine lv_iload (pc := 87) hx hb d_Mo_feed_87 (lv_at hl 1 rfl) ?_
  refine lv_iconst (pc := 89) (v := 3) hx hb d_Mo_feed_89 (by decide) ?_
  refine lv_iand (pc := 90) hx hb d_Mo_feed_90 ?_
  refine k_cst (v := 1) (by decide) ?_
  refine k_mul (pc := 91) (x := 8) (y := 1) hx hb d_Mo_feed_91 ?_
  refine k_sub (pc := 92) (x := 24) (y := 8) hx hb (by decide) d_Mo_feed_92 ?_
  refine lv_ishr (pc := 93) hx hb d_Mo_feed_93 ?_
  refine lv_i2b (pc := 94) hx hb d_Mo_feed_94 rfl ?_
  refine k_bst (pc := 95) hx hb hK hP hD hS 1 1 rfl rfl ((n + 12) + 1) rfl (by omega) (by decide) d_Mo_feed_95 (fun H locs hP hD hS => ?_)
  have hP : va_P D classes (cat [[(h, .inr (13, mF q (va_up x 0 (nI ((n + 12) + 1))) y))], [(q 1, .inl (kA 1, 2000, .inl (upd (upd (fd (fd (fd f n v1) (n + 4) v2) (n + 8) v3) (n + 12) (vp_nar .byte ((v4 >>> ((nI 24) &&& 31)).toInt8.toInt32))) ((n + 12) + 1) (vp_nar .byte ((v4 >>> ((nI 16) &&& 31)).toInt8.toInt32)))))]]) H := hP
  have hD : va_D A (cat [[(h, .inr (13, mF q (va_up x 0 (nI ((n + 12) + 1))) y))], [(q 1, .inl (kA 1, 2000, .inl (upd (upd (fd (fd (fd f n v1) (n + 4) v2) (n + 8) v3) (n + 12) (vp_nar .byte ((v4 >>> ((nI 24) &&& 31)).toInt8.toInt32))) ((n + 12) + 1) (vp_nar .byte ((v4 >>> ((nI 16) &&& 31)).toInt8.toInt32)))))]]) := hD
  refine lv_aload_n (pc := 96) hx hb d_Mo_feed_96 rfl (lv_at hl 2 rfl) ?_
  refine lv_dup (pc := 97) hx hb d_Mo_feed_97 rfl ?_
  refine k_get (pc := 98) X hK hP 0 rfl rfl i_Mo 0 (by decide) wm_2433 rfl rfl d_Mo_feed_98 ?_
  refine lv_iconst (pc := 101) (v := 1) hx hb d_Mo_feed_101 (by decide) ?_
  refine k_add (pc := 102) (x := (n + 12) + 1) (y := 1) hx hb d_Mo_feed_102 ?_
  refine k_put (pc := 103) X hK hP hD hS 0 rfl rfl i_Mo t_Mo t_Mo_ok n_Mo 0 (by decide) wm_2433 rfl (Or.inl rfl) rfl rfl (Nat.le_of_ble_eq_true rfl) d_Mo_feed_103 (fun H locs hP hD hS => ?_)
  have hP : va_P D classes (cat [[(h, .inr (13, mF q (va_up x 0 (nI (((n + 12) + 1) + 1))) y))], [(q 1, .inl (kA 1, 2000, .inl (upd (upd (fd (fd (fd f n v1) (n + 4) v2) (n + 8) v3) (n + 12) (vp_nar .byte ((v4 >>> ((nI 24) &&& 31)).toInt8.toInt32))) ((n + 12) + 1) (vp_nar .byte ((v4 >>> ((nI 16) &&& 31)).toInt8.toInt32)))))]]) H := hP
  have hD : va_D A (cat [[(h, .inr (13, mF q (va_up x 0 (nI (((n + 12) + 1) + 1))) y))], [(q 1, .inl (kA 1, 2000, .inl (upd (upd (fd (fd (fd f n v1) (n + 4) v2) (n + 8) v3) (n + 12) (vp_nar .byte ((v4 >>> ((nI 24) &&& 31)).toInt8.toInt32))) ((n + 12) + 1) (vp_nar .byte ((v4 >>> ((nI 16) &&& 31)).toInt8.toInt32)))))]]) := hD
  refine lv_iinc (pc := 106) (v := 14) (lv' := [(6, .int 14), (7, .int v4), (0, .ref h), (1, .int v1), (2, .int v2), (3, .int v3), (4, .int v4), (5, .int v5)]) hx hb d_Mo_feed_106 hl (k := 1) rfl (by decide) (by decide) rfl (fun ls hl => ?_)
  refine lv_goto (pc := 109) (tgt := 18) hx hb d_Mo_feed_109 (by decide) ?_
  refine lv_iload (pc := 18) hx hb d_Mo_feed_18 (lv_at hl 0 rfl) ?_
  refine lv_bipush (pc := 20) (v := 20) hx hb d_Mo_feed_20 (by decide) ?_
  refine lv_icmp_ge (pc := 22) (tgt := 112) hx hb d_Mo_feed_22 (by decide) (fun c1 => absurd c1 (by decide)) (fun _ => ?_)
  refine lv_iload (pc := 25) hx hb d_Mo_feed_25 (lv_at hl 0 rfl) ?_
  refine lv_iconst (pc := 27) (v := 4) hx hb d_Mo_feed_27 (by decide) ?_
  refine lv_icmp_ge (pc := 28) (tgt := 35) hx hb d_Mo_feed_28 (by decide) (fun _ => ?_) (fun c1 => absurd (by decide) c1)
  refine lv_iload (pc := 35) hx hb d_Mo_feed_35 (lv_at hl 0 rfl) ?_
  refine lv_bipush (pc := 37) (v := 8) hx hb d_Mo_feed_37 (by decide) ?_
  refine lv_icmp_ge (pc := 39) (tgt := 46) hx hb d_Mo_feed_39 (by decide) (fun _ => ?_) (fun c1 => absurd (by decide) c1)
  refine lv_iload (pc := 46) hx hb d_Mo_feed_46 (lv_at hl 0 rfl) ?_
  refine lv_bipush (pc := 48) (v := 12) hx hb d_Mo_feed_48 (by decide) ?_
  refine lv_icmp_ge (pc := 50) (tgt := 57) hx hb d_Mo_feed_50 (by decide) (fun _ => ?_) (fun c1 => absurd (by decide) c1)
  refine lv_iload (pc := 57) hx hb d_Mo_feed_57 (lv_at hl 0 rfl) ?_
  refine lv_bipush (pc := 59) (v := 16) hx hb d_Mo_feed_59 (by decide) ?_
  refine lv_icmp_ge (pc := 61) (tgt := 69) hx hb d_Mo_feed_61 (by decide) (fun c1 => absurd c1 (by decide)) (fun _ => ?_)
  refine lv_iload (pc := 64) hx hb d_Mo_feed_64 (lv_at hl 6 rfl) ?_
  refine lv_goto (pc := 66) (tgt := 71) hx hb d_Mo_feed_66 (by decide) ?_
  refine lv_istore (pc := 71) (lv' := [(7, .int v4), (6, .int 14), (0, .ref h), (1, .int v1), (2, .int v2), (3, .int v3), (4, .int v4), (5, .int v5)]) hx hb d_Mo_feed_71 hl (by decide) rfl (fun ls hl => ?_)
  refine lv_aload_n (pc := 73) hx hb d_Mo_feed_73 rfl (lv_at hl 2 rfl) ?_
  refine k_get (pc := 74) X hK hP 0 rfl rfl i_Mo 1 (by decide) wm_2434 rfl rfl d_Mo_feed_74 ?_
  refine lv_aload_n (pc := 77) hx hb d_Mo_feed_77 rfl (lv_at hl 2 rfl) ?_
  refine k_get (pc := 78) X hK hP 0 rfl rfl i_Mo 0 (by decide) wm_2433 rfl rfl d_Mo_feed_78 ?_
  refine lv_iload (pc := 81) hx hb d_Mo_feed_81 (lv_at hl 0 rfl) ?_
  refine lv_bipush (pc := 83) (v := 24) hx hb d_Mo_feed_83 (by decide) ?_
  refine lv_bipush (pc := 85) (v := 8) hx hb d_Mo_feed_85 (by decide) ?_
  refine lv_iload (pc := 87) hx hb d_Mo_feed_87 (lv_at hl 1 rfl) ?_
  refine lv_iconst (pc := 89) (v := 3) hx hb d_Mo_feed_89 (by decide) ?_
  refine lv_iand (pc := 90) hx hb d_Mo_feed_90 ?_
  refine k_cst (v := 2) (by decide) ?_
  refine k_mul (pc := 91) (x := 8) (y := 2) hx hb d_Mo_feed_91 ?_
  refine k_sub (pc := 92) (x := 24) (y := 16) hx hb (by decide) d_Mo_feed_92 ?_
  refine lv_ishr (pc := 93) hx hb d_Mo_feed_93 ?_
  refine lv_i2b (pc := 94) hx hb d_Mo_feed_94 rfl ?_
  refine k_bst (pc := 95) hx hb hK hP hD hS 1 1 rfl rfl (((n + 12) + 1) + 1) rfl (by omega) (by decide) d_Mo_feed_95 (fun H locs hP hD hS => ?_)
  have hP : va_P D classes (cat [[(h, .inr (13, mF q (va_up x 0 (nI (((n + 12) + 1) + 1))) y))], [(q 1, .inl (kA 1, 2000, .inl (upd (upd (upd (fd (fd (fd f n v1) (n + 4) v2) (n + 8) v3) (n + 12) (vp_nar .byte ((v4 >>> ((nI 24) &&& 31)).toInt8.toInt32))) ((n + 12) + 1) (vp_nar .byte ((v4 >>> ((nI 16) &&& 31)).toInt8.toInt32))) (((n + 12) + 1) + 1) (vp_nar .byte ((v4 >>> ((nI 8) &&& 31)).toInt8.toInt32)))))]]) H := hP
  have hD : va_D A (cat [[(h, .inr (13, mF q (va_up x 0 (nI (((n + 12) + 1) + 1))) y))], [(q 1, .inl (kA 1, 2000, .inl (upd (upd (upd (fd (fd (fd f n v1) (n + 4) v2) (n + 8) v3) (n + 12) (vp_nar .byte ((v4 >>> ((nI 24) &&& 31)).toInt8.toInt32))) ((n + 12) + 1) (vp_nar .byte ((v4 >>> ((nI 16) &&& 31)).toInt8.toInt32))) (((n + 12) + 1) + 1) (vp_nar .byte ((v4 >>> ((nI 8) &&& 31)).toInt8.toInt32)))))]]) := hD
  refine lv_aload_n (pc := 96) hx hb d_Mo_feed_96 rfl (lv_at hl 2 rfl) ?_
  refine lv_dup (pc := 97) hx hb d_Mo_feed_97 rfl ?_
  refine k_get (pc := 98) X hK hP 0 rfl rfl i_Mo 0 (by decide) wm_2433 rfl rfl d_Mo_feed_98 ?_
  refine lv_iconst (pc := 101) (v := 1) hx hb d_Mo_feed_101 (by decide) ?_
  refine k_add (pc := 102) (x := ((n + 12) + 1) + 1) (y := 1) hx hb d_Mo_feed_102 ?_
  refine k_put (pc := 103) X hK hP hD hS 0 rfl rfl i_Mo t_Mo t_Mo_ok n_Mo 0 (by decide) wm_2433 rfl (Or.inl rfl) rfl rfl (Nat.le_of_ble_eq_true rfl) d_Mo_feed_103 (fun H locs hP hD hS => ?_)
  have hP : va_P D classes (cat [[(h, .inr (13, mF q (va_up x 0 (nI ((((n + 12) + 1) + 1) + 1))) y))], [(q 1, .inl (kA 1, 2000, .inl (upd (upd (upd (fd (fd (fd f n v1) (n + 4) v2) (n + 8) v3) (n + 12) (vp_nar .byte ((v4 >>> ((nI 24) &&& 31)).toInt8.toInt32))) ((n + 12) + 1) (vp_nar .byte ((v4 >>> ((nI 16) &&& 31)).toInt8.toInt32))) (((n + 12) + 1) + 1) (vp_nar .byte ((v4 >>> ((nI 8) &&& 31)).toInt8.toInt32)))))]]) H := hP
  have hD : va_D A (cat [[(h, .inr (13, mF q (va_up x 0 (nI ((((n + 12) + 1) + 1) + 1))) y))], [(q 1, .inl (kA 1, 2000, .inl (upd (upd (upd (fd (fd (fd f n v1) (n + 4) v2) (n + 8) v3) (n + 12) (vp_nar .byte ((v4 >>> ((nI 24) &&& 31)).toInt8.toInt32))) ((n + 12) + 1) (vp_nar .byte ((v4 >>> ((nI 16) &&& 31)).toInt8.toInt32))) (((n + 12) + 1) + 1) (vp_nar .byte ((v4 >>> ((nI 8) &&& 31)).toInt8.toInt32)))))]]) := hD
  refine lv_iinc (pc := 106) (v := 15) (lv' := [(6, .int 15), (7, .int v4), (0, .ref h), (1, .int v1), (2, .int v2), (3, .int v3), (4, .int v4), (5, .int v5)]) hx hb d_Mo_feed_106 hl (k := 1) rfl (by decide) (by decide) rfl (fun ls hl => ?_)
  refine lv_goto (pc := 109) (tgt := 18) hx hb d_Mo_feed_109 (by decide) ?_
  refine lv_iload (pc := 18) hx hb d_Mo_feed_18 (lv_at hl 0 rfl) ?_
  refine lv_bipush (pc := 20) (v := 20) hx hb d_Mo_feed_20 (by decide) ?_
  refine lv_icmp_ge (pc := 22) (tgt := 112) hx hb d_Mo_feed_22 (by decide) (fun c1 => absurd c1 (by decide)) (fun _ => ?_)
  refine lv_iload (pc := 25) hx hb d_Mo_feed_25 (lv_at hl 0 rfl) ?_
  refine lv_iconst (pc := 27) (v := 4) hx hb d_Mo_feed_27 (by decide) ?_
  refine lv_icmp_ge (pc := 28) (tgt := 35) hx hb d_Mo_feed_28 (by decide) (fun _ => ?_) (fun c1 => absurd (by decide) c1)
  refine lv_iload (pc := 35) hx hb d_Mo_feed_35 (lv_at hl 0 rfl) ?_
  refine lv_bipush (pc := 37) (v := 8) hx hb d_Mo_feed_37 (by decide) ?_
  refine lv_icmp_ge (pc := 39) (tgt := 46) hx hb d_Mo_feed_39 (by decide) (fun _ => ?_) (fun c1 => absurd (by decide) c1)
  refine lv_iload (pc := 46) hx hb d_Mo_feed_46 (lv_at hl 0 rfl) ?_
  refine lv_bipush (pc := 48) (v := 12) hx hb d_Mo_feed_48 (by decide) ?_
  refine lv_icmp_ge (pc := 50) (tgt := 57) hx hb d_Mo_feed_50 (by decide) (fun _ => ?_) (fun c1 => absurd (by decide) c1)
  refine lv_iload (pc := 57) hx hb d_Mo_feed_57 (lv_at hl 0 rfl) ?_
  refine lv_bipush (pc := 59) (v := 16) hx hb d_Mo_feed_59 (by decide) ?_
  refine lv_icmp_ge (pc := 61) (tgt := 69) hx hb d_Mo_feed_61 (by decide) (fun c1 => absurd c1 (by decide)) (fun _ => ?_)
  refine lv_iload (pc := 64) hx hb d_Mo_feed_64 (lv_at hl 6 rfl) ?_
  refine lv_goto (pc := 66) (tgt := 71) hx hb d_Mo_feed_66 (by decide) ?_
  refine lv_istore (pc := 71) (lv' := [(7, .int v4), (6, .int 15), (0, .ref h), (1, .int v1), (2, .int v2), (3, .int v3), (4, .int v4), (5, .int v5)]) hx hb d_Mo_feed_71 hl (by decide) rfl (fun ls hl => ?_)
  refine lv_aload_n (pc := 73) hx hb d_Mo_feed_73 rfl (lv_at hl 2 rfl) ?_
  refine k_get (pc := 74) X hK hP 0 rfl rfl i_Mo 1 (by decide) wm_2434 rfl rfl d_Mo_feed_74 ?_
  refine lv_aload_n (pc := 77) hx hb d_Mo_feed_77 rfl (lv_at hl 2 rfl) ?_
  refine k_get (pc := 78) X hK hP 0 rfl rfl i_Mo 0 (by decide) wm_2433 rfl rfl d_Mo_feed_78 ?_
  refine lv_iload (pc := 81) hx hb d_Mo_feed_81 (lv_at hl 0 rfl) ?_
  refine lv_bipush (pc := 83) (v := 24) hx hb d_Mo_feed_83 (by decide) ?_
  refine lv_bipush (pc := 85) (v := 8) hx hb d_Mo_feed_85 (by decide) ?_
  refine lv_iload (pc := 87) hx hb d_Mo_feed_87 (lv_at hl 1 rfl) ?_
  refine lv_iconst (pc := 89) (v := 3) hx hb d_Mo_feed_89 (by decide) ?_
  refine lv_iand (pc := 90) hx hb d_Mo_feed_90 ?_
  refine k_cst (v := 3) (by decide) ?_
  refine k_mul (pc := 91) (x := 8) (y := 3) hx hb d_Mo_feed_91 ?_
  refine k_sub (pc := 92) (x := 24) (y := 24) hx hb (by decide) d_Mo_feed_92 ?_
  refine lv_ishr (pc := 93) hx hb d_Mo_feed_93 ?_
  refine lv_i2b (pc := 94) hx hb d_Mo_feed_94 rfl ?_
  refine k_bst (pc := 95) hx hb hK hP hD hS 1 1 rfl rfl ((((n + 12) + 1) + 1) + 1) rfl (by omega) (by decide) d_Mo_feed_95 (fun H locs hP hD hS => ?_)
  have hP : va_P D classes (cat [[(h, .inr (13, mF q (va_up x 0 (nI ((((n + 12) + 1) + 1) + 1))) y))], [(q 1, .inl (kA 1, 2000, .inl (upd (upd (upd (upd (fd (fd (fd f n v1) (n + 4) v2) (n + 8) v3) (n + 12) (vp_nar .byte ((v4 >>> ((nI 24) &&& 31)).toInt8.toInt32))) ((n + 12) + 1) (vp_nar .byte ((v4 >>> ((nI 16) &&& 31)).toInt8.toInt32))) (((n + 12) + 1) + 1) (vp_nar .byte ((v4 >>> ((nI 8) &&& 31)).toInt8.toInt32))) ((((n + 12) + 1) + 1) + 1) (vp_nar .byte ((v4 >>> ((nI 0) &&& 31)).toInt8.toInt32)))))]]) H := hP
  have hD : va_D A (cat [[(h, .inr (13, mF q (va_up x 0 (nI ((((n + 12) + 1) + 1) + 1))) y))], [(q 1, .inl (kA 1, 2000, .inl (upd (upd (upd (upd (fd (fd (fd f n v1) (n + 4) v2) (n + 8) v3) (n + 12) (vp_nar .byte ((v4 >>> ((nI 24) &&& 31)).toInt8.toInt32))) ((n + 12) + 1) (vp_nar .byte ((v4 >>> ((nI 16) &&& 31)).toInt8.toInt32))) (((n + 12) + 1) + 1) (vp_nar .byte ((v4 >>> ((nI 8) &&& 31)).toInt8.toInt32))) ((((n + 12) + 1) + 1) + 1) (vp_nar .byte ((v4 >>> ((nI 0) &&& 31)).toInt8.toInt32)))))]]) := hD
  refine lv_aload_n (pc := 96) hx hb d_Mo_feed_96 rfl (lv_at hl 2 rfl) ?_
  refine lv_dup (pc := 97) hx hb d_Mo_feed_97 rfl ?_
  refine k_get (pc := 98) X hK hP 0 rfl rfl i_Mo 0 (by decide) wm_2433 rfl rfl d_Mo_feed_98 ?_
  refine lv_iconst (pc := 101) (v := 1) hx hb d_Mo_feed_101 (by decide) ?_
  refine k_add (pc := 102) (x := (((n + 12) + 1) + 1) + 1) (y := 1) hx hb d_Mo_feed_102 ?_
  refine k_put (pc := 103) X hK hP hD hS 0 rfl rfl i_Mo t_Mo t_Mo_ok n_Mo 0 (by decide) wm_2433 rfl (Or.inl rfl) rfl rfl (Nat.le_of_ble_eq_true rfl) d_Mo_feed_103 (fun H locs hP hD hS => ?_)
  have hP : va_P D classes (cat [[(h, .inr (13, mF q (va_up x 0 (nI (((((n + 12) + 1) + 1) + 1) + 1))) y))], [(q 1, .inl (kA 1, 2000, .inl (upd (upd (upd (upd (fd (fd (fd f n v1) (n + 4) v2) (n + 8) v3) (n + 12) (vp_nar .byte ((v4 >>> ((nI 24) &&& 31)).toInt8.toInt32))) ((n + 12) + 1) (vp_nar .byte ((v4 >>> ((nI 16) &&& 31)).toInt8.toInt32))) (((n + 12) + 1) + 1) (vp_nar .byte ((v4 >>> ((nI 8) &&& 31)).toInt8.toInt32))) ((((n + 12) + 1) + 1) + 1) (vp_nar .byte ((v4 >>> ((nI 0) &&& 31)).toInt8.toInt32)))))]]) H := hP
  have hD : va_D A (cat [[(h, .inr (13, mF q (va_up x 0 (nI (((((n + 12) + 1) + 1) + 1) + 1))) y))], [(q 1, .inl (kA 1, 2000, .inl (upd (upd (upd (upd (fd (fd (fd f n v1) (n + 4) v2) (n + 8) v3) (n + 12) (vp_nar .byte ((v4 >>> ((nI 24) &&& 31)).toInt8.toInt32))) ((n + 12) + 1) (vp_nar .byte ((v4 >>> ((nI 16) &&& 31)).toInt8.toInt32))) (((n + 12) + 1) + 1) (vp_nar .byte ((v4 >>> ((nI 8) &&& 31)).toInt8.toInt32))) ((((n + 12) + 1) + 1) + 1) (vp_nar .byte ((v4 >>> ((nI 0) &&& 31)).toInt8.toInt32)))))]]) := hD
  refine lv_iinc (pc := 106) (v := 16) (lv' := [(6, .int 16), (7, .int v4), (0, .ref h), (1, .int v1), (2, .int v2), (3, .int v3), (4, .int v4), (5, .int v5)]) hx hb d_Mo_feed_106 hl (k := 1) rfl (by decide) (by decide) rfl (fun ls hl => ?_)
  refine lv_goto (pc := 109) (tgt := 18) hx hb d_Mo_feed_109 (by decide) ?_
  have hP : va_P D classes (cat [[(h, .inr (13, mF q (va_up x 0 (nI (n + 16))) y))], [(q 1, .inl (kA 1, 2000, .inl (fd (fd (fd (fd f n v1) (n + 4) v2) (n + 8) v3) (n + 12) v4)))]]) H := hP
  have hD : va_D A (cat [[(h, .inr (13, mF q (va_up x 0 (nI (n + 16))) y))], [(q 1, .inl (kA 1, 2000, .inl (fd (fd (fd (fd f n v1) (n + 4) v2) (n + 8) v3) (n + 12) v4)))]]) := hD
  refine lv_iload (pc := 18) hx hb d_Mo_feed_18 (lv_at hl 0 rfl) ?_
  refine lv_bipush (pc := 20) (v := 20) hx hb d_Mo_feed_20 (by decide) ?_
  refine lv_icmp_ge (pc := 22) (tgt := 112) hx hb d_Mo_feed_22 (by decide) (fun c1 => absurd c1 (by decide)) (fun _ => ?_)
  refine lv_iload (pc := 25) hx hb d_Mo_feed_25 (lv_at hl 0 rfl) ?_
  refine lv_iconst (pc := 27) (v := 4) hx hb d_Mo_feed_27 (by decide) ?_
  refine lv_icmp_ge (pc := 28) (tgt := 35) hx hb d_Mo_feed_28 (by decide) (fun _ => ?_) (fun c1 => absurd (by decide) c1)
  refine lv_iload (pc := 35) hx hb d_Mo_feed_35 (lv_at hl 0 rfl) ?_
  refine lv_bipush (pc := 37) (v := 8) hx hb d_Mo_feed_37 (by decide) ?_
  refine lv_icmp_ge (pc := 39) (tgt := 46) hx hb d_Mo_feed_39 (by decide) (fun _ => ?_) (fun c1 => absurd (by decide) c1)
  refine lv_iload (pc := 46) hx hb d_Mo_feed_46 (lv_at hl 0 rfl) ?_
  refine lv_bipush (pc := 48) (v := 12) hx hb d_Mo_feed_48 (by decide) ?_
  refine lv_icmp_ge (pc := 50) (tgt := 57) hx hb d_Mo_feed_50 (by decide) (fun _ => ?_) (fun c1 => absurd (by decide) c1)
  refine lv_iload (pc := 57) hx hb d_Mo_feed_57 (lv_at hl 0 rfl) ?_
  refine lv_bipush (pc := 59) (v := 16) hx hb d_Mo_feed_59 (by decide) ?_
  refine lv_icmp_ge (pc := 61) (tgt := 69) hx hb d_Mo_feed_61 (by decide) (fun _ => ?_) (fun c1 => absurd (by decide) c1)
  refine lv_iload (pc := 69) hx hb d_Mo_feed_69 (lv_at hl 7 rfl) ?_
  refine lv_istore (pc := 71) (lv' := [(7, .int v5), (6, .int 16), (0, .ref h), (1, .int v1), (2, .int v2), (3, .int v3), (4, .int v4), (5, .int v5)]) hx hb d_Mo_feed_71 hl (by decide) rfl (fun ls hl => ?_)
  refine lv_aload_n (pc := 73) hx hb d_Mo_feed_73 rfl (lv_at hl 2 rfl) ?_
  refine k_get (pc := 74) X hK hP 0 rfl rfl i_Mo 1 (by decide) wm_2434 rfl rfl d_Mo_feed_74 ?_
  refine lv_aload_n (pc := 77) hx hb d_Mo_feed_77 rfl (lv_at hl 2 rfl) ?_
  refine k_get (pc := 78) X hK hP 0 rfl rfl i_Mo 0 (by decide) wm_2433 rfl rfl d_Mo_feed_78 ?_
  refine lv_iload (pc := 81) hx hb d_Mo_feed_81 (lv_at hl 0 rfl) ?_
  refine lv_bipush (pc := 83) (v := 24) hx hb d_Mo_feed_83 (by decide) ?_
  refine lv_bipush (pc := 85) (v := 8) hx hb d_Mo_feed_85 (by decide) ?_
  refine lv_iload (pc := 87) hx hb d_Mo_feed_87 (lv_at hl 1 rfl) ?_
  refine lv_iconst (pc := 89) (v := 3) hx hb d_Mo_feed_89 (by decide) ?_
  refine lv_iand (pc := 90) hx hb d_Mo_feed_90 ?_
  refine k_cst (v := 0) (by decide) ?_
  refine k_mul (pc := 91) (x := 8) (y := 0) hx hb d_Mo_feed_91 ?_
  refine k_sub (pc := 92) (x := 24) (y := 0) hx hb (by decide) d_Mo_feed_92 ?_
  refine lv_ishr (pc := 93) hx hb d_Mo_feed_93 ?_
  refine lv_i2b (pc := 94) hx hb d_Mo_feed_94 rfl ?_
  refine k_bst (pc := 95) hx hb hK hP hD hS 1 1 rfl rfl (n + 16) rfl (by omega) (by decide) d_Mo_feed_95 (fun H locs hP hD hS => ?_)
  have hP : va_P D classes (cat [[(h, .inr (13, mF q (va_up x 0 (nI (n + 16))) y))], [(q 1, .inl (kA 1, 2000, .inl (upd (fd (fd (fd (fd f n v1) (n + 4) v2) (n + 8) v3) (n + 12) v4) (n + 16) (vp_nar .byte ((v5 >>> ((nI 24) &&& 31)).toInt8.toInt32)))))]]) H := hP
  have hD : va_D A (cat [[(h, .inr (13, mF q (va_up x 0 (nI (n + 16))) y))], [(q 1, .inl (kA 1, 2000, .inl (upd (fd (fd (fd (fd f n v1) (n + 4) v2) (n + 8) v3) (n + 12) v4) (n + 16) (vp_nar .byte ((v5 >>> ((nI 24) &&& 31)).toInt8.toInt32)))))]]) := hD
  refine lv_aload_n (pc := 96) hx hb d_Mo_feed_96 rfl (lv_at hl 2 rfl) ?_
  refine lv_dup (pc := 97) hx hb d_Mo_feed_97 rfl ?_
  refine k_get (pc := 98) X hK hP 0 rfl rfl i_Mo 0 (by decide) wm_2433 rfl rfl d_Mo_feed_98 ?_
  refine lv_iconst (pc := 101) (v := 1) hx hb d_Mo_feed_101 (by decide) ?_
  refine k_add (pc := 102) (x := n + 16) (y := 1) hx hb d_Mo_feed_102 ?_
  refine k_put (pc := 103) X hK hP hD hS 0 rfl rfl i_Mo t_Mo t_Mo_ok n_Mo 0 (by decide) wm_2433 rfl (Or.inl rfl) rfl rfl (Nat.le_of_ble_eq_true rfl) d_Mo_feed_103 (fun H locs hP hD hS => ?_)
  have hP : va_P D classes (cat [[(h, .inr (13, mF q (va_up x 0 (nI ((n + 16) + 1))) y))], [(q 1, .inl (kA 1, 2000, .inl (upd (fd (fd (fd (fd f n v1) (n + 4) v2) (n + 8) v3) (n + 12) v4) (n + 16) (vp_nar .byte ((v5 >>> ((nI 24) &&& 31)).toInt8.toInt32)))))]]) H := hP
  have hD : va_D A (cat [[(h, .inr (13, mF q (va_up x 0 (nI ((n + 16) + 1))) y))], [(q 1, .inl (kA 1, 2000, .inl (upd (fd (fd (fd (fd f n v1) (n + 4) v2) (n + 8) v3) (n + 12) v4) (n + 16) (vp_nar .byte ((v5 >>> ((nI 24) &&& 31)).toInt8.toInt32)))))]]) := hD
  refine lv_iinc (pc := 106) (v := 17) (lv' := [(6, .int 17), (7, .int v5), (0, .ref h), (1, .int v1), (2, .int v2), (3, .int v3), (4, .int v4), (5, .int v5)]) hx hb d_Mo_feed_106 hl (k := 1) rfl (by decide) (by decide) rfl (fun ls hl => ?_)
  refine lv_goto (pc := 109) (tgt := 18) hx hb d_Mo_feed_109 (by decide) ?_
  refine lv_iload (pc := 18) hx hb d_Mo_feed_18 (lv_at hl 0 rfl) ?_
  refine lv_bipush (pc := 20) (v := 20) hx hb d_Mo_feed_20 (by decide) ?_
  refine lv_icmp_ge (pc := 22) (tgt := 112) hx hb d_Mo_feed_22 (by decide) (fun c1 => absurd c1 (by decide)) (fun _ => ?_)
  refine lv_iload (pc := 25) hx hb d_Mo_feed_25 (lv_at hl 0 rfl) ?_
  refine lv_iconst (pc := 27) (v := 4) hx hb d_Mo_feed_27 (by decide) ?_
  refine lv_icmp_ge (pc := 28) (tgt := 35) hx hb d_Mo_feed_28 (by decide) (fun _ => ?_) (fun c1 => absurd (by decide) c1)
  refine lv_iload (pc := 35) hx hb d_Mo_feed_35 (lv_at hl 0 rfl) ?_
  refine lv_bipush (pc := 37) (v := 8) hx hb d_Mo_feed_37 (by decide) ?_
  refine lv_icmp_ge (pc := 39) (tgt := 46) hx hb d_Mo_feed_39 (by decide) (fun _ => ?_) (fun c1 => absurd (by decide) c1)
  refine lv_iload (pc := 46) hx hb d_Mo_feed_46 (lv_at hl 0 rfl) ?_
  refine lv_bipush (pc := 48) (v := 12) hx hb d_Mo_feed_48 (by decide) ?_
  refine lv_icmp_ge (pc := 50) (tgt := 57) hx hb d_Mo_feed_50 (by decide) (fun _ => ?_) (fun c1 => absurd (by decide) c1)
  refine lv_iload (pc := 57) hx hb d_Mo_feed_57 (lv_at hl 0 rfl) ?_
  refine lv_bipush (pc := 59) (v := 16) hx hb d_Mo_feed_59 (by decide) ?_
  refine lv_icmp_ge (pc := 61) (tgt := 69) hx hb d_Mo_feed_61 (by decide) (fun _ => ?_) (fun c1 => absurd (by decide) c1)
  refine lv_iload (pc := 69) hx hb d_Mo_feed_69 (lv_at hl 7 rfl) ?_
  refine lv_istore (pc := 71) (lv' := [(7, .int v5), (6, .int 17), (0, .ref h), (1, .int v1), (2, .int v2), (3, .int v3), (4, .int v4), (5, .int v5)]) hx hb d_Mo_feed_71 hl (by decide) rfl (fun ls hl => ?_)
  refine lv_aload_n (pc := 73) hx hb d_Mo_feed_73 rfl (lv_at hl 2 rfl) ?_
  refine k_get (pc := 74) X hK hP 0 rfl rfl i_Mo 1 (by decide) wm_2434 rfl rfl d_Mo_feed_74 ?_
  refine lv_aload_n (pc := 77) hx hb d_Mo_feed_77 rfl (lv_at hl 2 rfl) ?_
  refine k_get (pc := 78) X hK hP 0 rfl rfl i_Mo 0 (by decide) wm_2433 rfl rfl d_Mo_feed_78 ?_
  refine lv_iload (pc := 81) hx hb d_Mo_feed_81 (lv_at hl 0 rfl) ?_
  refine lv_bipush (pc := 83) (v := 24) hx hb d_Mo_feed_83 (by decide) ?_
  refine lv_bipush (pc := 85) (v := 8) hx hb d_Mo_feed_85 (by decide) ?_
  refine lv_iload (pc := 87) hx hb d_Mo_feed_87 (lv_at hl 1 rfl) ?_
  refine lv_iconst (pc := 89) (v := 3) hx hb d_Mo_feed_89 (by decide) ?_
  refine lv_iand (pc := 90) hx hb d_Mo_feed_90 ?_
  refine k_cst (v := 1) (by decide) ?_
  refine k_mul (pc := 91) (x := 8) (y := 1) hx hb d_Mo_feed_91 ?_
  refine k_sub (pc := 92) (x := 24) (y := 8) hx hb (by decide) d_Mo_feed_92 ?_
  refine lv_ishr (pc := 93) hx hb d_Mo_feed_93 ?_
  refine lv_i2b (pc := 94) hx hb d_Mo_feed_94 rfl ?_
  refine k_bst (pc := 95) hx hb hK hP hD hS 1 1 rfl rfl ((n + 16) + 1) rfl (by omega) (by decide) d_Mo_feed_95 (fun H locs hP hD hS => ?_)
  have hP : va_P D classes (cat [[(h, .inr (13, mF q (va_up x 0 (nI ((n + 16) + 1))) y))], [(q 1, .inl (kA 1, 2000, .inl (upd (upd (fd (fd (fd (fd f n v1) (n + 4) v2) (n + 8) v3) (n + 12) v4) (n + 16) (vp_nar .byte ((v5 >>> ((nI 24) &&& 31)).toInt8.toInt32))) ((n + 16) + 1) (vp_nar .byte ((v5 >>> ((nI 16) &&& 31)).toInt8.toInt32)))))]]) H := hP
  have hD : va_D A (cat [[(h, .inr (13, mF q (va_up x 0 (nI ((n + 16) + 1))) y))], [(q 1, .inl (kA 1, 2000, .inl (upd (upd (fd (fd (fd (fd f n v1) (n + 4) v2) (n + 8) v3) (n + 12) v4) (n + 16) (vp_nar .byte ((v5 >>> ((nI 24) &&& 31)).toInt8.toInt32))) ((n + 16) + 1) (vp_nar .byte ((v5 >>> ((nI 16) &&& 31)).toInt8.toInt32)))))]]) := hD
  refine lv_aload_n (pc := 96) hx hb d_Mo_feed_96 rfl (lv_at hl 2 rfl) ?_
  refine lv_dup (pc := 97) hx hb d_Mo_feed_97 rfl ?_
  refine k_get (pc := 98) X hK hP 0 rfl rfl i_Mo 0 (by decide) wm_2433 rfl rfl d_Mo_feed_98 ?_
  refine lv_iconst (pc := 101) (v := 1) hx hb d_Mo_feed_101 (by decide) ?_
  refine k_add (pc := 102) (x := (n + 16) + 1) (y := 1) hx hb d_Mo_feed_102 ?_
  refine k_put (pc := 103) X hK hP hD hS 0 rfl rfl i_Mo t_Mo t_Mo_ok n_Mo 0 (by decide) wm_2433 rfl (Or.inl rfl) rfl rfl (Nat.le_of_ble_eq_true rfl) d_Mo_feed_103 (fun H locs hP hD hS => ?_)
  have hP : va_P D classes (cat [[(h, .inr (13, mF q (va_up x 0 (nI (((n + 16) + 1) + 1))) y))], [(q 1, .inl (kA 1, 2000, .inl (upd (upd (fd (fd (fd (fd f n v1) (n + 4) v2) (n + 8) v3) (n + 12) v4) (n + 16) (vp_nar .byte ((v5 >>> ((nI 24) &&& 31)).toInt8.toInt32))) ((n + 16) + 1) (vp_nar .byte ((v5 >>> ((nI 16) &&& 31)).toInt8.toInt32)))))]]) H := hP
  have hD : va_D A (cat [[(h, .inr (13, mF q (va_up x 0 (nI (((n + 16) + 1) + 1))) y))], [(q 1, .inl (kA 1, 2000, .inl (upd (upd (fd (fd (fd (fd f n v1) (n + 4) v2) (n + 8) v3) (n + 12) v4) (n + 16) (vp_nar .byte ((v5 >>> ((nI 24) &&& 31)).toInt8.toInt32))) ((n + 16) + 1) (vp_nar .byte ((v5 >>> ((nI 16) &&& 31)).toInt8.toInt32)))))]]) := hD
  refine lv_iinc (pc := 106) (v := 18) (lv' := [(6, .int 18), (7, .int v5), (0, .ref h), (1, .int v1), (2, .int v2), (3, .int v3), (4, .int v4), (5, .int v5)]) hx hb d_Mo_feed_106 hl (k := 1) rfl (by decide) (by decide) rfl (fun ls hl => ?_)
  refine lv_goto (pc := 109) (tgt := 18) hx hb d_Mo_feed_109 (by decide) ?_
  refine lv_iload (pc := 18) hx hb d_Mo_feed_18 (lv_at hl 0 rfl) ?_
  refine lv_bipush (pc := 20) (v := 20) hx hb d_Mo_feed_20 (by decide) ?_
  refine lv_icmp_ge (pc := 22) (tgt := 112) hx hb d_Mo_feed_22 (by decide) (fun c1 => absurd c1 (by decide)) (fun _ => ?_)
  refine lv_iload (pc := 25) hx hb d_Mo_feed_25 (lv_at hl 0 rfl) ?_
  refine lv_iconst (pc := 27) (v := 4) hx hb d_Mo_feed_27 (by decide) ?_
  refine lv_icmp_ge (pc := 28) (tgt := 35) hx hb d_Mo_feed_28 (by decide) (fun _ => ?_) (fun c1 => absurd (by decide) c1)
  refine lv_iload (pc := 35) hx hb d_Mo_feed_35 (lv_at hl 0 rfl) ?_
  refine lv_bipush (pc := 37) (v := 8) hx hb d_Mo_feed_37 (by decide) ?_
  refine lv_icmp_ge (pc := 39) (tgt := 46) hx hb d_Mo_feed_39 (by decide) (fun _ => ?_) (fun c1 => absurd (by decide) c1)
  refine lv_iload (pc := 46) hx hb d_Mo_feed_46 (lv_at hl 0 rfl) ?_
  refine lv_bipush (pc := 48) (v := 12) hx hb d_Mo_feed_48 (by decide) ?_
  refine lv_icmp_ge (pc := 50) (tgt := 57) hx hb d_Mo_feed_50 (by decide) (fun _ => ?_) (fun c1 => absurd (by decide) c1)
  refine lv_iload (pc := 57) hx hb d_Mo_feed_57 (lv_at hl 0 rfl) ?_
  refine lv_bipush (pc := 59) (v := 16) hx hb d_Mo_feed_59 (by decide) ?_
  refine lv_icmp_ge (pc := 61) (tgt := 69) hx hb d_Mo_feed_61 (by decide) (fun _ => ?_) (fun c1 => absurd (by decide) c1)
  refine lv_iload (pc := 69) hx hb d_Mo_feed_69 (lv_at hl 7 rfl) ?_
  refine lv_istore (pc := 71) (lv' := [(7, .int v5), (6, .int 18), (0, .ref h), (1, .int v1), (2, .int v2), (3, .int v3), (4, .int v4), (5, .int v5)]) hx hb d_Mo_feed_71 hl (by decide) rfl (fun ls hl => ?_)
  refine lv_aload_n (pc := 73) hx hb d_Mo_feed_73 rfl (lv_at hl 2 rfl) ?_
  refine k_get (pc := 74) X hK hP 0 rfl rfl i_Mo 1 (by decide) wm_2434 rfl rfl d_Mo_feed_74 ?_
  refine lv_aload_n (pc := 77) hx hb d_Mo_feed_77 rfl (lv_at hl 2 rfl) ?_
  refine k_get (pc := 78) X hK hP 0 rfl rfl i_Mo 0 (by decide) wm_2433 rfl rfl d_Mo_feed_78 ?_
  refine lv_iload (pc := 81) hx hb d_Mo_feed_81 (lv_at hl 0 rfl) ?_
  refine lv_bipush (pc := 83) (v := 24) hx hb d_Mo_feed_83 (by decide) ?_
  refine lv_bipush (pc := 85) (v := 8) hx hb d_Mo_feed_85 (by decide) ?_
  refine lv_iload (pc := 87) hx hb d_Mo_feed_87 (lv_at hl 1 rfl) ?_
  refine lv_iconst (pc := 89) (v := 3) hx hb d_Mo_feed_89 (by decide) ?_
  refine lv_iand (pc := 90) hx hb d_Mo_feed_90 ?_
  refine k_cst (v := 2) (by decide) ?_
  refine k_mul (pc := 91) (x := 8) (y := 2) hx hb d_Mo_feed_91 ?_
  refine k_sub (pc := 92) (x := 24) (y := 16) hx hb (by decide) d_Mo_feed_92 ?_
  refine lv_ishr (pc := 93) hx hb d_Mo_feed_93 ?_
  refine lv_i2b (pc := 94) hx hb d_Mo_feed_94 rfl ?_
  refine k_bst (pc := 95) hx hb hK hP hD hS 1 1 rfl rfl (((n + 16) + 1) + 1) rfl (by omega) (by decide) d_Mo_feed_95 (fun H locs hP hD hS => ?_)
  have hP : va_P D classes (cat [[(h, .inr (13, mF q (va_up x 0 (nI (((n + 16) + 1) + 1))) y))], [(q 1, .inl (kA 1, 2000, .inl (upd (upd (upd (fd (fd (fd (fd f n v1) (n + 4) v2) (n + 8) v3) (n + 12) v4) (n + 16) (vp_nar .byte ((v5 >>> ((nI 24) &&& 31)).toInt8.toInt32))) ((n + 16) + 1) (vp_nar .byte ((v5 >>> ((nI 16) &&& 31)).toInt8.toInt32))) (((n + 16) + 1) + 1) (vp_nar .byte ((v5 >>> ((nI 8) &&& 31)).toInt8.toInt32)))))]]) H := hP
  have hD : va_D A (cat [[(h, .inr (13, mF q (va_up x 0 (nI (((n + 16) + 1) + 1))) y))], [(q 1, .inl (kA 1, 2000, .inl (upd (upd (upd (fd (fd (fd (fd f n v1) (n + 4) v2) (n + 8) v3) (n + 12) v4) (n + 16) (vp_nar .byte ((v5 >>> ((nI 24) &&& 31)).toInt8.toInt32))) ((n + 16) + 1) (vp_nar .byte ((v5 >>> ((nI 16) &&& 31)).toInt8.toInt32))) (((n + 16) + 1) + 1) (vp_nar .byte ((v5 >>> ((nI 8) &&& 31)).toInt8.toInt32)))))]]) := hD
  refine lv_aload_n (pc := 96) hx hb d_Mo_feed_96 rfl (lv_at hl 2 rfl) ?_
  refine lv_dup (pc := 97) hx hb d_Mo_feed_97 rfl ?_
  refine k_get (pc := 98) X hK hP 0 rfl rfl i_Mo 0 (by decide) wm_2433 rfl rfl d_Mo_feed_98 ?_
  refine lv_iconst (pc := 101) (v := 1) hx hb d_Mo_feed_101 (by decide) ?_
  refine k_add (pc := 102) (x := ((n + 16) + 1) + 1) (y := 1) hx hb d_Mo_feed_102 ?_
  refine k_put (pc := 103) X hK hP hD hS 0 rfl rfl i_Mo t_Mo t_Mo_ok n_Mo 0 (by decide) wm_2433 rfl (Or.inl rfl) rfl rfl (Nat.le_of_ble_eq_true rfl) d_Mo_feed_103 (fun H locs hP hD hS => ?_)
  have hP : va_P D classes (cat [[(h, .inr (13, mF q (va_up x 0 (nI ((((n + 16) + 1) + 1) + 1))) y))], [(q 1, .inl (kA 1, 2000, .inl (upd (upd (upd (fd (fd (fd (fd f n v1) (n + 4) v2) (n + 8) v3) (n + 12) v4) (n + 16) (vp_nar .byte ((v5 >>> ((nI 24) &&& 31)).toInt8.toInt32))) ((n + 16) + 1) (vp_nar .byte ((v5 >>> ((nI 16) &&& 31)).toInt8.toInt32))) (((n + 16) + 1) + 1) (vp_nar .byte ((v5 >>> ((nI 8) &&& 31)).toInt8.toInt32)))))]]) H := hP
  have hD : va_D A (cat [[(h, .inr (13, mF q (va_up x 0 (nI ((((n + 16) + 1) + 1) + 1))) y))], [(q 1, .inl (kA 1, 2000, .inl (upd (upd (upd (fd (fd (fd (fd f n v1) (n + 4) v2) (n + 8) v3) (n + 12) v4) (n + 16) (vp_nar .byte ((v5 >>> ((nI 24) &&& 31)).toInt8.toInt32))) ((n + 16) + 1) (vp_nar .byte ((v5 >>> ((nI 16) &&& 31)).toInt8.toInt32))) (((n + 16) + 1) + 1) (vp_nar .byte ((v5 >>> ((nI 8) &&& 31)).toInt8.toInt32)))))]]) := hD
  refine lv_iinc (pc := 106) (v := 19) (lv' := [(6, .int 19), (7, .int v5), (0, .ref h), (1, .int v1), (2, .int v2), (3, .int v3), (4, .int v4), (5, .int v5)]) hx hb d_Mo_feed_106 hl (k := 1) rfl (by decide) (by decide) rfl (fun ls hl => ?_)
  refine lv_goto (pc := 109) (tgt := 18) hx hb d_Mo_feed_109 (by decide) ?_
  refine lv_iload (pc := 18) hx hb d_Mo_feed_18 (lv_at hl 0 rfl) ?_
  refine lv_bipush (pc := 20) (v := 20) hx hb d_Mo_feed_20 (by decide) ?_
  refine lv_icmp_ge (pc := 22) (tgt := 112) hx hb d_Mo_feed_22 (by decide) (fun c1 => absurd c1 (by decide)) (fun _ => ?_)
  refine lv_iload (pc := 25) hx hb d_Mo_feed_25 (lv_at hl 0 rfl) ?_
  refine lv_iconst (pc := 27) (v := 4) hx hb d_Mo_feed_27 (by decide) ?_
  refine lv_icmp_ge (pc := 28) (tgt := 35) hx hb d_Mo_feed_28 (by decide) (fun _ => ?_) (fun c1 => absurd (by decide) c1)
  refine lv_iload (pc := 35) hx hb d_Mo_feed_35 (lv_at hl 0 rfl) ?_
  refine lv_bipush (pc := 37) (v := 8) hx hb d_Mo_feed_37 (by decide) ?_
  refine lv_icmp_ge (pc := 39) (tgt := 46) hx hb d_Mo_feed_39 (by decide) (fun _ => ?_) (fun c1 => absurd (by decide) c1)
  refine lv_iload (pc := 46) hx hb d_Mo_feed_46 (lv_at hl 0 rfl) ?_
  refine lv_bipush (pc := 48) (v := 12) hx hb d_Mo_feed_48 (by decide) ?_
  refine lv_icmp_ge (pc := 50) (tgt := 57) hx hb d_Mo_feed_50 (by decide) (fun _ => ?_) (fun c1 => absurd (by decide) c1)
  refine lv_iload (pc := 57) hx hb d_Mo_feed_57 (lv_at hl 0 rfl) ?_
  refine lv_bipush (pc := 59) (v := 16) hx hb d_Mo_feed_59 (by decide) ?_
  refine lv_icmp_ge (pc := 61) (tgt := 69) hx hb d_Mo_feed_61 (by decide) (fun _ => ?_) (fun c1 => absurd (by decide) c1)
  refine lv_iload (pc := 69) hx hb d_Mo_feed_69 (lv_at hl 7 rfl) ?_
  refine lv_istore (pc := 71) (lv' := [(7, .int v5), (6, .int 19), (0, .ref h), (1, .int v1), (2, .int v2), (3, .int v3), (4, .int v4), (5, .int v5)]) hx hb d_Mo_feed_71 hl (by decide) rfl (fun ls hl => ?_)
  refine lv_aload_n (pc := 73) hx hb d_Mo_feed_73 rfl (lv_at hl 2 rfl) ?_
  refine k_get (pc := 74) X hK hP 0 rfl rfl i_Mo 1 (by decide) wm_2434 rfl rfl d_Mo_feed_74 ?_
  refine lv_aload_n (pc := 77) hx hb d_Mo_feed_77 rfl (lv_at hl 2 rfl) ?_
  refine k_get (pc := 78) X hK hP 0 rfl rfl i_Mo 0 (by decide) wm_2433 rfl rfl d_Mo_feed_78 ?_
  refine lv_iload (pc := 81) hx hb d_Mo_feed_81 (lv_at hl 0 rfl) ?_
  refine lv_bipush (pc := 83) (v := 24) hx hb d_Mo_feed_83 (by decide) ?_
  refine lv_bipush (pc := 85) (v := 8) hx hb d_Mo_feed_85 (by decide) ?_
  refine lv_iload (pc := 87) hx hb d_Mo_feed_87 (lv_at hl 1 rfl) ?_
  refine lv_iconst (pc := 89) (v := 3) hx hb d_Mo_feed_89 (by decide) ?_
  refine lv_iand (pc := 90) hx hb d_Mo_feed_90 ?_
  refine k_cst (v := 3) (by decide) ?_
  refine k_mul (pc := 91) (x := 8) (y := 3) hx hb d_Mo_feed_91 ?_
  refine k_sub (pc := 92) (x := 24) (y := 24) hx hb (by decide) d_Mo_feed_92 ?_
  refine lv_ishr (pc := 93) hx hb d_Mo_feed_93 ?_
  refine lv_i2b (pc := 94) hx hb d_Mo_feed_94 rfl ?_
  refine k_bst (pc := 95) hx hb hK hP hD hS 1 1 rfl rfl ((((n + 16) + 1) + 1) + 1) rfl (by omega) (by decide) d_Mo_feed_95 (fun H locs hP hD hS => ?_)
  have hP : va_P D classes (cat [[(h, .inr (13, mF q (va_up x 0 (nI ((((n + 16) + 1) + 1) + 1))) y))], [(q 1, .inl (kA 1, 2000, .inl (upd (upd (upd (upd (fd (fd (fd (fd f n v1) (n + 4) v2) (n + 8) v3) (n + 12) v4) (n + 16) (vp_nar .byte ((v5 >>> ((nI 24) &&& 31)).toInt8.toInt32))) ((n + 16) + 1) (vp_nar .byte ((v5 >>> ((nI 16) &&& 31)).toInt8.toInt32))) (((n + 16) + 1) + 1) (vp_nar .byte ((v5 >>> ((nI 8) &&& 31)).toInt8.toInt32))) ((((n + 16) + 1) + 1) + 1) (vp_nar .byte ((v5 >>> ((nI 0) &&& 31)).toInt8.toInt32)))))]]) H := hP
  have hD : va_D A (cat [[(h, .inr (13, mF q (va_up x 0 (nI ((((n + 16) + 1) + 1) + 1))) y))], [(q 1, .inl (kA 1, 2000, .inl (upd (upd (upd (upd (fd (fd (fd (fd f n v1) (n + 4) v2) (n + 8) v3) (n + 12) v4) (n + 16) (vp_nar .byte ((v5 >>> ((nI 24) &&& 31)).toInt8.toInt32))) ((n + 16) + 1) (vp_nar .byte ((v5 >>> ((nI 16) &&& 31)).toInt8.toInt32))) (((n + 16) + 1) + 1) (vp_nar .byte ((v5 >>> ((nI 8) &&& 31)).toInt8.toInt32))) ((((n + 16) + 1) + 1) + 1) (vp_nar .byte ((v5 >>> ((nI 0) &&& 31)).toInt8.toInt32)))))]]) := hD
  refine lv_aload_n (pc := 96) hx hb d_Mo_feed_96 rfl (lv_at hl 2 rfl) ?_
  refine lv_dup (pc := 97) hx hb d_Mo_feed_97 rfl ?_
  refine k_get (pc := 98) X hK hP 0 rfl rfl i_Mo 0 (by decide) wm_2433 rfl rfl d_Mo_feed_98 ?_
  refine lv_iconst (pc := 101) (v := 1) hx hb d_Mo_feed_101 (by decide) ?_
  refine k_add (pc := 102) (x := (((n + 16) + 1) + 1) + 1) (y := 1) hx hb d_Mo_feed_102 ?_
  refine k_put (pc := 103) X hK hP hD hS 0 rfl rfl i_Mo t_Mo t_Mo_ok n_Mo 0 (by decide) wm_2433 rfl (Or.inl rfl) rfl rfl (Nat.le_of_ble_eq_true rfl) d_Mo_feed_103 (fun H locs hP hD hS => ?_)
  have hP : va_P D classes (cat [[(h, .inr (13, mF q (va_up x 0 (nI (((((n + 16) + 1) + 1) + 1) + 1))) y))], [(q 1, .inl (kA 1, 2000, .inl (upd (upd (upd (upd (fd (fd (fd (fd f n v1) (n + 4) v2) (n + 8) v3) (n + 12) v4) (n + 16) (vp_nar .byte ((v5 >>> ((nI 24) &&& 31)).toInt8.toInt32))) ((n + 16) + 1) (vp_nar .byte ((v5 >>> ((nI 16) &&& 31)).toInt8.toInt32))) (((n + 16) + 1) + 1) (vp_nar .byte ((v5 >>> ((nI 8) &&& 31)).toInt8.toInt32))) ((((n + 16) + 1) + 1) + 1) (vp_nar .byte ((v5 >>> ((nI 0) &&& 31)).toInt8.toInt32)))))]]) H := hP
  have hD : va_D A (cat [[(h, .inr (13, mF q (va_up x 0 (nI (((((n + 16) + 1) + 1) + 1) + 1))) y))], [(q 1, .inl (kA 1, 2000, .inl (upd (upd (upd (upd (fd (fd (fd (fd f n v1) (n + 4) v2) (n + 8) v3) (n + 12) v4) (n + 16) (vp_nar .byte ((v5 >>> ((nI 24) &&& 31)).toInt8.toInt32))) ((n + 16) + 1) (vp_nar .byte ((v5 >>> ((nI 16) &&& 31)).toInt8.toInt32))) (((n + 16) + 1) + 1) (vp_nar .byte ((v5 >>> ((nI 8) &&& 31)).toInt8.toInt32))) ((((n + 16) + 1) + 1) + 1) (vp_nar .byte ((v5 >>> ((nI 0) &&& 31)).toInt8.toInt32)))))]]) := hD
  refine lv_iinc (pc := 106) (v := 20) (lv' := [(6, .int 20), (7, .int v5), (0, .ref h), (1, .int v1), (2, .int v2), (3, .int v3), (4, .int v4), (5, .int v5)]) hx hb d_Mo_feed_106 hl (k := 1) rfl (by decide) (by decide) rfl (fun ls hl => ?_)
  refine lv_goto (pc := 109) (tgt := 18) hx hb d_Mo_feed_109 (by decide) ?_
  have hP : va_P D classes (cat [[(h, .inr (13, mF q (va_up x 0 (nI (n + 20))) y))], [(q 1, .inl (kA 1, 2000, .inl (fd (fd (fd (fd (fd f n v1) (n + 4) v2) (n + 8) v3) (n + 12) v4) (n + 16) v5)))]]) H := hP
  have hD : va_D A (cat [[(h, .inr (13, mF q (va_up x 0 (nI (n + 20))) y))], [(q 1, .inl (kA 1, 2000, .inl (fd (fd (fd (fd (fd f n v1) (n + 4) v2) (n + 8) v3) (n + 12) v4) (n + 16) v5)))]]) := hD
  refine lv_iload (pc := 18) hx hb d_Mo_feed_18 (lv_at hl 0 rfl) ?_
  refine lv_bipush (pc := 20) (v := 20) hx hb d_Mo_feed_20 (by decide) ?_
  refine lv_icmp_ge (pc := 22) (tgt := 112) hx hb d_Mo_feed_22 (by decide) (fun _ => ?_) (fun c1 => absurd (by decide) c1)
  refine lv_aload_n (pc := 112) hx hb d_Mo_feed_112 rfl (lv_at hl 2 rfl) ?_
  refine k_get (pc := 113) X hK hP 0 rfl rfl i_Mo 0 (by decide) wm_2433 rfl rfl d_Mo_feed_113 ?_
  refine W.widen (k := 0) (n := 0) (Nat.le_of_ble_eq_true rfl) (Nat.le_of_ble_eq_true rfl) ?_
  exact W.iret (v := (nI (n + 20))) hx hb hr (fun t ht hW => ⟨⟨(nI (n + 20)), (), rfl, rfl, by rw [ht]; exact hP, va_K.moved hW.alike hK, hD⟩, hS.F ht⟩) hS.2.2 d_Mo_feed_116
set_option maxRecDepth 100000 in
set_option maxHeartbeats 4000000 in
/-- the reference: feed, when there is none -/
theorem c_Mo_feed_no (l : Launch) (D : va_G) (kA : Nat → ClassId) (h : Nat) (q : Nat → Nat) (x : Nat → Int32) (y : Nat → Int64) (f : Nat → Int32) (n : Nat) (v1 v2 v3 v4 v5 : Int32) (hn : 2000 < n + 20) (hn2 : n ≤ 2000) : Ci l y_Mo_feed z_Mo_feed { frames := 0, cells := 0, slots := 0, locals := 0 } D classes (TY kA) [.ref h, .int v1, .int v2, .int v3, .int v4, .int v5] [[(h, .inr (13, mF q (va_up x 0 (nI n)) y))], [(q 1, .inl (kA 1, 2000, .inl f))]] (fun r (_ : Unit) => r = -1) (fun _ => [[(h, .inr (13, mF q (va_up x 0 (nI n)) y))], [(q 1, .inl (kA 1, 2000, .inl f))]]) 0 0 := by
  intro sz
  refine k_met (cc := b_Mo_feed) (maxL := 8) (ret := (some .int)) (by decide) rfl (Nat.le_of_ble_eq_true rfl) (fun p e s m below meth c ls X hl hB => ?_)
  obtain ⟨hsz, hP, hK, hD0, hN⟩ := hB
  subst hsz
  have hD := hD0.self (sz := s.heap.size)
  generalize hAe : va_A (cat [[(h, .inr (13, mF q (va_up x 0 (nI n)) y))], [(q 1, .inl (kA 1, 2000, .inl f))]]) s.heap.size = A at hD ⊢
  have hA : ∀ q : Nat, s.heap.size ≤ q → A q := fun q h => by rw [← hAe]; exact Or.inr h
  have hS : va_S A s.heap s.heap [] := va_S.rf
  obtain ⟨hx, hb, hml, hown, hts, hr, hlk, hnm⟩ := id X
  have hl : lv_has ls 8 [(0, .ref h), (1, .int v1), (2, .int v2), (3, .int v3), (4, .int v4), (5, .int v5)] := hl
  have hP : va_P D classes (cat [[(h, .inr (13, mF q (va_up x 0 (nI n)) y))], [(q 1, .inl (kA 1, 2000, .inl f))]]) s.heap := hP
  have hK : va_K D classes (TY kA) s := hK
  refine lv_aload_n (pc := 0) hx hb d_Mo_feed_0 rfl (lv_at hl 0 rfl) ?_
  refine k_get (pc := 1) X hK hP 0 rfl rfl i_Mo 0 (by decide) wm_2433 rfl rfl d_Mo_feed_1 ?_
  refine lv_bipush (pc := 4) (v := 20) hx hb d_Mo_feed_4 (by decide) ?_
  refine k_add (pc := 6) (x := n) (y := 20) hx hb d_Mo_feed_6 ?_
  refine lv_sipush (pc := 7) (v := 2000) hx hb d_Mo_feed_7 (by decide) ?_
  refine k_cle (pc := 10) (x := n + 20) (y := 2000) (tgt := 15) hx hb (by omega) (by decide) d_Mo_feed_10 (by decide) (fun c1 => absurd c1 (by omega)) (fun c1 => ?_)
  refine lv_iconst (pc := 13) (v := -1) hx hb d_Mo_feed_13 (by decide) ?_
  refine W.widen (k := 0) (n := 0) (Nat.le_of_ble_eq_true rfl) (Nat.le_of_ble_eq_true rfl) ?_
  exact W.iret (v := (-1)) hx hb hr (fun t ht hW => ⟨⟨(-1), (), rfl, rfl, by rw [ht]; exact hP, va_K.moved hW.alike hK, hD⟩, hS.F ht⟩) hS.2.2 d_Mo_feed_14
