theorem wm_9 : (Cond.initialized "DrawingHouseModel" : Cond) ∈ lw_g := lw_gi (lw_c1 (List.mem_of_getElem? (i := 9) rfl)) rfl
theorem wm_2428 : (Cond.code ({ cls := "DrawingHouseModel", name := "permutations", desc := "()V" } : MethodName) prog_15_method_130_code (5 : Nat) (Option.none : Option ClassFile.FieldType) : Cond) ∈ lw_g := lw_gi (lw_c11 (List.mem_of_getElem? (i := 28) rfl)) rfl
theorem wm_2429 : (Cond.methodLink "DrawingHouseModel" (810 : Nat) ({ cls := "DrawingHouseModel", name := "nextOrder", desc := "(I)Z" } : MethodName) : Cond) ∈ lw_g := lw_gi (lw_c11 (List.mem_of_getElem? (i := 29) rfl)) rfl
theorem wm_2431 : (Cond.instanceMethod ({ cls := "DrawingHouseModel", name := "nextOrder", desc := "(I)Z" } : MethodName) : Cond) ∈ lw_g := lw_gi (lw_c11 (List.mem_of_getElem? (i := 31) rfl)) rfl
theorem wm_2542 : (Cond.fieldLink "DrawingHouseModel" (243 : Nat) "DrawingHouseModel" "permBegin" "[I" : Cond) ∈ lw_g := lw_gi (lw_c11 (List.mem_of_getElem? (i := 142) rfl)) rfl
theorem wm_2543 : (Cond.fieldLink "DrawingHouseModel" (246 : Nat) "DrawingHouseModel" "permMany" "[I" : Cond) ∈ lw_g := lw_gi (lw_c11 (List.mem_of_getElem? (i := 143) rfl)) rfl
theorem wm_2544 : (Cond.fieldLink "DrawingHouseModel" (249 : Nat) "DrawingHouseModel" "perm" "[B" : Cond) ∈ lw_g := lw_gi (lw_c11 (List.mem_of_getElem? (i := 144) rfl)) rfl
theorem wv_12_10 : (Cond.selects "DrawingHouseModel" ⟨"DrawingHouseModel", "nextOrder", "(I)Z"⟩ ⟨"DrawingHouseModel", "nextOrder", "(I)Z"⟩ : Cond) ∈ lw_g := lw_gi (List.mem_append_left _ (List.mem_map.mpr ⟨_, lw_v12 (List.mem_of_getElem? (i := 10) rfl), rfl⟩)) rfl
abbrev b_Mo_permutations : ByteArray := prog_15_method_130_code
def y_Mo_permutations : MethodName := ⟨"DrawingHouseModel", "permutations", "()V"⟩
abbrev z_Mo_permutations : List Cond := Cond.code y_Mo_permutations b_Mo_permutations 5 none :: lw_g
theorem d_Mo_permutations_0 : decode b_Mo_permutations 0 = .ok (.iconst 0, 1) := by decide +kernel
theorem d_Mo_permutations_1 : decode b_Mo_permutations 1 = .ok (.istore_n 1, 1) := by decide +kernel
theorem d_Mo_permutations_2 : decode b_Mo_permutations 2 = .ok (.iconst 0, 1) := by decide +kernel
theorem d_Mo_permutations_3 : decode b_Mo_permutations 3 = .ok (.istore_n 2, 1) := by decide +kernel
theorem d_Mo_permutations_4 : decode b_Mo_permutations 4 = .ok (.iload_n 2, 1) := by decide +kernel
theorem d_Mo_permutations_5 : decode b_Mo_permutations 5 = .ok (.bipush 6, 2) := by decide +kernel
theorem d_Mo_permutations_7 : decode b_Mo_permutations 7 = .ok (.if_icmp .gt 116, 3) := by decide +kernel
theorem d_Mo_permutations_10 : decode b_Mo_permutations 10 = .ok (.aload_n 0, 1) := by decide +kernel
theorem d_Mo_permutations_11 : decode b_Mo_permutations 11 = .ok (.getfield 243, 3) := by decide +kernel
theorem d_Mo_permutations_14 : decode b_Mo_permutations 14 = .ok (.iload_n 2, 1) := by decide +kernel
theorem d_Mo_permutations_15 : decode b_Mo_permutations 15 = .ok (.iload_n 1, 1) := by decide +kernel
theorem d_Mo_permutations_16 : decode b_Mo_permutations 16 = .ok (.iastore, 1) := by decide +kernel
theorem d_Mo_permutations_17 : decode b_Mo_permutations 17 = .ok (.aload_n 0, 1) := by decide +kernel
theorem d_Mo_permutations_18 : decode b_Mo_permutations 18 = .ok (.getfield 246, 3) := by decide +kernel
theorem d_Mo_permutations_21 : decode b_Mo_permutations 21 = .ok (.iload_n 2, 1) := by decide +kernel
theorem d_Mo_permutations_22 : decode b_Mo_permutations 22 = .ok (.iconst 0, 1) := by decide +kernel
theorem d_Mo_permutations_23 : decode b_Mo_permutations 23 = .ok (.iastore, 1) := by decide +kernel
theorem d_Mo_permutations_24 : decode b_Mo_permutations 24 = .ok (.iconst 0, 1) := by decide +kernel
theorem d_Mo_permutations_25 : decode b_Mo_permutations 25 = .ok (.istore_n 3, 1) := by decide +kernel
theorem d_Mo_permutations_26 : decode b_Mo_permutations 26 = .ok (.iload_n 3, 1) := by decide +kernel
theorem d_Mo_permutations_27 : decode b_Mo_permutations 27 = .ok (.iload_n 2, 1) := by decide +kernel
theorem d_Mo_permutations_28 : decode b_Mo_permutations 28 = .ok (.if_icmp .ge 16, 3) := by decide +kernel
theorem d_Mo_permutations_31 : decode b_Mo_permutations 31 = .ok (.aload_n 0, 1) := by decide +kernel
theorem d_Mo_permutations_32 : decode b_Mo_permutations 32 = .ok (.getfield 213, 3) := by decide +kernel
theorem d_Mo_permutations_35 : decode b_Mo_permutations 35 = .ok (.iload_n 3, 1) := by decide +kernel
theorem d_Mo_permutations_36 : decode b_Mo_permutations 36 = .ok (.iload_n 3, 1) := by decide +kernel
theorem d_Mo_permutations_37 : decode b_Mo_permutations 37 = .ok (.iastore, 1) := by decide +kernel
theorem d_Mo_permutations_38 : decode b_Mo_permutations 38 = .ok (.iinc 3 1, 3) := by decide +kernel
theorem d_Mo_permutations_41 : decode b_Mo_permutations 41 = .ok (.goto (-15), 3) := by decide +kernel
theorem d_Mo_permutations_44 : decode b_Mo_permutations 44 = .ok (.iconst 1, 1) := by decide +kernel
theorem d_Mo_permutations_45 : decode b_Mo_permutations 45 = .ok (.istore_n 3, 1) := by decide +kernel
theorem d_Mo_permutations_46 : decode b_Mo_permutations 46 = .ok (.iload_n 3, 1) := by decide +kernel
theorem d_Mo_permutations_47 : decode b_Mo_permutations 47 = .ok (.ifCond .eq 70, 3) := by decide +kernel
theorem d_Mo_permutations_50 : decode b_Mo_permutations 50 = .ok (.iconst 0, 1) := by decide +kernel
theorem d_Mo_permutations_51 : decode b_Mo_permutations 51 = .ok (.istore 4, 2) := by decide +kernel
theorem d_Mo_permutations_53 : decode b_Mo_permutations 53 = .ok (.iload 4, 2) := by decide +kernel
theorem d_Mo_permutations_55 : decode b_Mo_permutations 55 = .ok (.iload_n 2, 1) := by decide +kernel
theorem d_Mo_permutations_56 : decode b_Mo_permutations 56 = .ok (.if_icmp .ge 26, 3) := by decide +kernel
theorem d_Mo_permutations_59 : decode b_Mo_permutations 59 = .ok (.aload_n 0, 1) := by decide +kernel
theorem d_Mo_permutations_60 : decode b_Mo_permutations 60 = .ok (.getfield 249, 3) := by decide +kernel
theorem d_Mo_permutations_63 : decode b_Mo_permutations 63 = .ok (.iload_n 1, 1) := by decide +kernel
theorem d_Mo_permutations_64 : decode b_Mo_permutations 64 = .ok (.iload 4, 2) := by decide +kernel
theorem d_Mo_permutations_66 : decode b_Mo_permutations 66 = .ok (.iadd, 1) := by decide +kernel
theorem d_Mo_permutations_67 : decode b_Mo_permutations 67 = .ok (.aload_n 0, 1) := by decide +kernel
theorem d_Mo_permutations_68 : decode b_Mo_permutations 68 = .ok (.getfield 213, 3) := by decide +kernel
theorem d_Mo_permutations_71 : decode b_Mo_permutations 71 = .ok (.iload 4, 2) := by decide +kernel
theorem d_Mo_permutations_73 : decode b_Mo_permutations 73 = .ok (.iaload, 1) := by decide +kernel
theorem d_Mo_permutations_74 : decode b_Mo_permutations 74 = .ok (.i2b, 1) := by decide +kernel
theorem d_Mo_permutations_75 : decode b_Mo_permutations 75 = .ok (.bastore, 1) := by decide +kernel
theorem d_Mo_permutations_76 : decode b_Mo_permutations 76 = .ok (.iinc 4 1, 3) := by decide +kernel
theorem d_Mo_permutations_79 : decode b_Mo_permutations 79 = .ok (.goto (-26), 3) := by decide +kernel
theorem d_Mo_permutations_82 : decode b_Mo_permutations 82 = .ok (.iload_n 1, 1) := by decide +kernel
theorem d_Mo_permutations_83 : decode b_Mo_permutations 83 = .ok (.iload_n 2, 1) := by decide +kernel
theorem d_Mo_permutations_84 : decode b_Mo_permutations 84 = .ok (.iadd, 1) := by decide +kernel
theorem d_Mo_permutations_85 : decode b_Mo_permutations 85 = .ok (.istore_n 1, 1) := by decide +kernel
theorem d_Mo_permutations_86 : decode b_Mo_permutations 86 = .ok (.aload_n 0, 1) := by decide +kernel
theorem d_Mo_permutations_87 : decode b_Mo_permutations 87 = .ok (.getfield 246, 3) := by decide +kernel
theorem d_Mo_permutations_90 : decode b_Mo_permutations 90 = .ok (.iload_n 2, 1) := by decide +kernel
theorem d_Mo_permutations_91 : decode b_Mo_permutations 91 = .ok (.dup2, 1) := by decide +kernel
theorem d_Mo_permutations_92 : decode b_Mo_permutations 92 = .ok (.iaload, 1) := by decide +kernel
theorem d_Mo_permutations_93 : decode b_Mo_permutations 93 = .ok (.iconst 1, 1) := by decide +kernel
theorem d_Mo_permutations_94 : decode b_Mo_permutations 94 = .ok (.iadd, 1) := by decide +kernel
theorem d_Mo_permutations_95 : decode b_Mo_permutations 95 = .ok (.iastore, 1) := by decide +kernel
theorem d_Mo_permutations_96 : decode b_Mo_permutations 96 = .ok (.iload_n 2, 1) := by decide +kernel
theorem d_Mo_permutations_97 : decode b_Mo_permutations 97 = .ok (.ifCond .le 15, 3) := by decide +kernel
theorem d_Mo_permutations_100 : decode b_Mo_permutations 100 = .ok (.aload_n 0, 1) := by decide +kernel
theorem d_Mo_permutations_101 : decode b_Mo_permutations 101 = .ok (.iload_n 2, 1) := by decide +kernel
theorem d_Mo_permutations_102 : decode b_Mo_permutations 102 = .ok (.invokevirtual 810, 3) := by decide +kernel
theorem d_Mo_permutations_105 : decode b_Mo_permutations 105 = .ok (.ifCond .eq 7, 3) := by decide +kernel
theorem d_Mo_permutations_108 : decode b_Mo_permutations 108 = .ok (.iconst 1, 1) := by decide +kernel
theorem d_Mo_permutations_109 : decode b_Mo_permutations 109 = .ok (.goto 4, 3) := by decide +kernel
theorem d_Mo_permutations_112 : decode b_Mo_permutations 112 = .ok (.iconst 0, 1) := by decide +kernel
theorem d_Mo_permutations_113 : decode b_Mo_permutations 113 = .ok (.istore_n 3, 1) := by decide +kernel
theorem d_Mo_permutations_114 : decode b_Mo_permutations 114 = .ok (.goto (-68), 3) := by decide +kernel
theorem d_Mo_permutations_117 : decode b_Mo_permutations 117 = .ok (.iinc 2 1, 3) := by decide +kernel
theorem d_Mo_permutations_120 : decode b_Mo_permutations 120 = .ok (.goto (-116), 3) := by decide +kernel
theorem d_Mo_permutations_123 : decode b_Mo_permutations 123 = .ok (.return_, 1) := by decide +kernel
set_option maxRecDepth 100000 in
set_option maxHeartbeats 4000000 in
theorem lpA_Mo_permutations {p : Program} {l : Launch} {e : Env} {R : Room} {s : State} {m : MethodId} {args : Array Value} {below : List Frame} {meth : Method} {c : Code} {cells slots : Nat} {Q : State → Prop} {D : va_G} {kA : Nat → ClassId} {A : Nat → Prop} (X : cx p s m args meth c b_Mo_permutations 5 none "DrawingHouseModel" "permutations") (hK : va_K D classes (TY kA) s) (h : Nat) (q : Nat → Nat) (x : Nat → Int32) (y : Nat → Int64) (f pb my pm : Nat → Int32) (n b : Nat) (hn : n ≤ 6) (hb6 : b ≤ 6000)
    (hex : ∀ (H : Heap) (locs : List Loc) (ls : Array Slot), va_P D classes (cat [[(h, .inr (13, mF q x y))], [(q 96, .inl (kA 0, 26, .inl (idf f n)))], [(q 110, .inl (kA 0, 8, .inl pb))], [(q 111, .inl (kA 0, 8, .inl my))], [(q 112, .inl (kA 1, 6000, .inl pm))]]) H → va_D A (cat [[(h, .inr (13, mF q x y))], [(q 96, .inl (kA 0, 26, .inl (idf f n)))], [(q 110, .inl (kA 0, 8, .inl pb))], [(q 111, .inl (kA 0, 8, .inl my))], [(q 112, .inl (kA 1, 6000, .inl pm))]]) → va_S A s.heap H locs → lv_has ls 5 [(3, .int (nI n)), (2, .int (nI n)), (1, .int (nI b)), (0, .ref h)] → W p l e R s m args below meth c H locs cells slots Q (F0 m 44 ls [])) :
    ∀ (k i : Nat), i + k = n → ∀ (H : Heap) (locs : List Loc) (ls : Array Slot), va_P D classes (cat [[(h, .inr (13, mF q x y))], [(q 96, .inl (kA 0, 26, .inl (idf f i)))], [(q 110, .inl (kA 0, 8, .inl pb))], [(q 111, .inl (kA 0, 8, .inl my))], [(q 112, .inl (kA 1, 6000, .inl pm))]]) H → va_D A (cat [[(h, .inr (13, mF q x y))], [(q 96, .inl (kA 0, 26, .inl (idf f i)))], [(q 110, .inl (kA 0, 8, .inl pb))], [(q 111, .inl (kA 0, 8, .inl my))], [(q 112, .inl (kA 1, 6000, .inl pm))]]) → va_S A s.heap H locs → lv_has ls 5 [(3, .int (nI i)), (2, .int (nI n)), (1, .int (nI b)), (0, .ref h)] → W p l e R s m args below meth c H locs cells slots Q (F0 m 26 ls []) := by
  obtain ⟨hx, hb, hml, hown, hts, hr, hlk, hnm⟩ := id X
  intro k
  induction k with
  | zero =>
    intro i hi H locs ls hP hD hS hl
    have hi : i = n := hi
    subst hi
    refine lv_iload_n (pc := 26) hx hb d_Mo_permutations_26 rfl (lv_at hl 0 rfl) ?_
    refine lv_iload_n (pc := 27) hx hb d_Mo_permutations_27 rfl (lv_at hl 1 rfl) ?_
    refine k_cge (pc := 28) (x := i) (y := i) (tgt := 44) hx hb (by omega) (by omega) d_Mo_permutations_28 (by decide) (fun c1 => ?_) (fun c1 => absurd c1 (by omega))
    exact hex H locs ls hP hD hS hl
  | succ k ih =>
    intro i hi H locs ls hP hD hS hl
    refine lv_iload_n (pc := 26) hx hb d_Mo_permutations_26 rfl (lv_at hl 0 rfl) ?_
    refine lv_iload_n (pc := 27) hx hb d_Mo_permutations_27 rfl (lv_at hl 1 rfl) ?_
    refine k_cge (pc := 28) (x := i) (y := n) (tgt := 44) hx hb (by omega) (by omega) d_Mo_permutations_28 (by decide) (fun c1 => absurd c1 (by omega)) (fun c1 => ?_)
    refine lv_aload_n (pc := 31) hx hb d_Mo_permutations_31 rfl (lv_at hl 3 rfl) ?_
    refine k_get (pc := 32) X hK hP 0 rfl rfl i_Mo 96 (by decide) wm_2528 rfl rfl d_Mo_permutations_32 ?_
    refine lv_iload_n (pc := 35) hx hb d_Mo_permutations_35 rfl (lv_at hl 0 rfl) ?_
    refine lv_iload_n (pc := 36) hx hb d_Mo_permutations_36 rfl (lv_at hl 0 rfl) ?_
    refine k_ist (pc := 37) hx hb hK hP hD hS 1 0 rfl rfl (i) rfl (by omega) (by decide) d_Mo_permutations_37 (fun H locs hP hD hS => ?_)
    have hP : va_P D classes (cat [[(h, .inr (13, mF q x y))], [(q 96, .inl (kA 0, 26, .inl (upd (idf f i) i (nI i))))], [(q 110, .inl (kA 0, 8, .inl pb))], [(q 111, .inl (kA 0, 8, .inl my))], [(q 112, .inl (kA 1, 6000, .inl pm))]]) H := hP
    have hD : va_D A (cat [[(h, .inr (13, mF q x y))], [(q 96, .inl (kA 0, 26, .inl (upd (idf f i) i (nI i))))], [(q 110, .inl (kA 0, 8, .inl pb))], [(q 111, .inl (kA 0, 8, .inl my))], [(q 112, .inl (kA 1, 6000, .inl pm))]]) := hD
    rw [idf_s] at hP hD
    refine lv_iinc (pc := 38) (v := nI (i + 1)) (lv' := [(3, .int (nI (i + 1))), (2, .int (nI n)), (1, .int (nI b)), (0, .ref h)]) hx hb d_Mo_permutations_38 hl (k := 0) rfl (nI_add _ 1) (by decide) rfl (fun ls hl => ?_)
    refine lv_goto (pc := 41) (tgt := 26) hx hb d_Mo_permutations_41 (by decide) ?_
    exact ih (i + 1) (by omega) H locs ls hP hD hS hl
set_option maxRecDepth 100000 in
set_option maxHeartbeats 4000000 in
theorem lpB_Mo_permutations {p : Program} {l : Launch} {e : Env} {R : Room} {s : State} {m : MethodId} {args : Array Value} {below : List Frame} {meth : Method} {c : Code} {cells slots : Nat} {Q : State → Prop} {D : va_G} {kA : Nat → ClassId} {A : Nat → Prop} (X : cx p s m args meth c b_Mo_permutations 5 none "DrawingHouseModel" "permutations") (hK : va_K D classes (TY kA) s) (h : Nat) (q : Nat → Nat) (x : Nat → Int32) (y : Nat → Int64) (f pb my pm : Nat → Int32) (n b : Nat) (hn : n ≤ 6) (hb6 : b + n ≤ 6000)
    (hex : ∀ (H : Heap) (locs : List Loc) (ls : Array Slot), va_P D classes (cat [[(h, .inr (13, mF q x y))], [(q 96, .inl (kA 0, 26, .inl f))], [(q 110, .inl (kA 0, 8, .inl pb))], [(q 111, .inl (kA 0, 8, .inl my))], [(q 112, .inl (kA 1, 6000, .inl (cpB pm b f n)))]]) H → va_D A (cat [[(h, .inr (13, mF q x y))], [(q 96, .inl (kA 0, 26, .inl f))], [(q 110, .inl (kA 0, 8, .inl pb))], [(q 111, .inl (kA 0, 8, .inl my))], [(q 112, .inl (kA 1, 6000, .inl (cpB pm b f n)))]]) → va_S A s.heap H locs → lv_has ls 5 [(4, .int (nI n)), (3, .int 1), (2, .int (nI n)), (1, .int (nI b)), (0, .ref h)] → W p l e R s m args below meth c H locs cells slots Q (F0 m 82 ls [])) :
    ∀ (k i : Nat), i + k = n → ∀ (H : Heap) (locs : List Loc) (ls : Array Slot), va_P D classes (cat [[(h, .inr (13, mF q x y))], [(q 96, .inl (kA 0, 26, .inl f))], [(q 110, .inl (kA 0, 8, .inl pb))], [(q 111, .inl (kA 0, 8, .inl my))], [(q 112, .inl (kA 1, 6000, .inl (cpB pm b f i)))]]) H → va_D A (cat [[(h, .inr (13, mF q x y))], [(q 96, .inl (kA 0, 26, .inl f))], [(q 110, .inl (kA 0, 8, .inl pb))], [(q 111, .inl (kA 0, 8, .inl my))], [(q 112, .inl (kA 1, 6000, .inl (cpB pm b f i)))]]) → va_S A s.heap H locs → lv_has ls 5 [(4, .int (nI i)), (3, .int 1), (2, .int (nI n)), (1, .int (nI b)), (0, .ref h)] → W p l e R s m args below meth c H locs cells slots Q (F0 m 53 ls []) := by
  obtain ⟨hx, hb, hml, hown, hts, hr, hlk, hnm⟩ := id X
  intro k
  induction k with
  | zero =>
    intro i hi H locs ls hP hD hS hl
    have hi : i = n := hi
    subst hi
    refine lv_iload (pc := 53) hx hb d_Mo_permutations_53 (lv_at hl 0 rfl) ?_
    refine lv_iload_n (pc := 55) hx hb d_Mo_permutations_55 rfl (lv_at hl 2 rfl) ?_
    refine k_cge (pc := 56) (x := i) (y := i) (tgt := 82) hx hb (by omega) (by omega) d_Mo_permutations_56 (by decide) (fun c1 => ?_) (fun c1 => absurd c1 (by omega))
    exact hex H locs ls hP hD hS hl
  | succ k ih =>
    intro i hi H locs ls hP hD hS hl
    refine lv_iload (pc := 53) hx hb d_Mo_permutations_53 (lv_at hl 0 rfl) ?_
    refine lv_iload_n (pc := 55) hx hb d_Mo_permutations_55 rfl (lv_at hl 2 rfl) ?_
    refine k_cge (pc := 56) (x := i) (y := n) (tgt := 82) hx hb (by omega) (by omega) d_Mo_permutations_56 (by decide) (fun c1 => absurd c1 (by omega)) (fun c1 => ?_)
    refine lv_aload_n (pc := 59) hx hb d_Mo_permutations_59 rfl (lv_at hl 4 rfl) ?_
    refine k_get (pc := 60) X hK hP 0 rfl rfl i_Mo 112 (by decide) wm_2544 rfl rfl d_Mo_permutations_60 ?_
    refine lv_iload_n (pc := 63) hx hb d_Mo_permutations_63 rfl (lv_at hl 3 rfl) ?_
    refine lv_iload (pc := 64) hx hb d_Mo_permutations_64 (lv_at hl 0 rfl) ?_
    refine k_add (pc := 66) (x := b) (y := i) hx hb d_Mo_permutations_66 ?_
    refine lv_aload_n (pc := 67) hx hb d_Mo_permutations_67 rfl (lv_at hl 4 rfl) ?_
    refine k_get (pc := 68) X hK hP 0 rfl rfl i_Mo 96 (by decide) wm_2528 rfl rfl d_Mo_permutations_68 ?_
    refine lv_iload (pc := 71) hx hb d_Mo_permutations_71 (lv_at hl 0 rfl) ?_
    refine k_ild (pc := 73) hx hb hK hP 1 0 rfl rfl (i) rfl (by omega) (by decide) d_Mo_permutations_73 ?_
    refine lv_i2b (pc := 74) hx hb d_Mo_permutations_74 rfl ?_
    refine k_bst (pc := 75) hx hb hK hP hD hS 4 1 rfl rfl (b + i) rfl (by omega) (by decide) d_Mo_permutations_75 (fun H locs hP hD hS => ?_)
    have hP : va_P D classes (cat [[(h, .inr (13, mF q x y))], [(q 96, .inl (kA 0, 26, .inl f))], [(q 110, .inl (kA 0, 8, .inl pb))], [(q 111, .inl (kA 0, 8, .inl my))], [(q 112, .inl (kA 1, 6000, .inl (upd (cpB pm b f i) (b + i) (vp_nar .byte ((f i).toInt8.toInt32)))))]]) H := hP
    have hD : va_D A (cat [[(h, .inr (13, mF q x y))], [(q 96, .inl (kA 0, 26, .inl f))], [(q 110, .inl (kA 0, 8, .inl pb))], [(q 111, .inl (kA 0, 8, .inl my))], [(q 112, .inl (kA 1, 6000, .inl (upd (cpB pm b f i) (b + i) (vp_nar .byte ((f i).toInt8.toInt32)))))]]) := hD
    rw [cpB_s] at hP hD
    refine lv_iinc (pc := 76) (v := nI (i + 1)) (lv' := [(4, .int (nI (i + 1))), (3, .int 1), (2, .int (nI n)), (1, .int (nI b)), (0, .ref h)]) hx hb d_Mo_permutations_76 hl (k := 0) rfl (nI_add _ 1) (by decide) rfl (fun ls hl => ?_)
    refine lv_goto (pc := 79) (tgt := 53) hx hb d_Mo_permutations_79 (by decide) ?_
    exact ih (i + 1) (by omega) H locs ls hP hD hS hl
set_option maxRecDepth 100000 in
set_option maxHeartbeats 4000000 in
theorem lpC_Mo_permutations {p : Program} {l : Launch} {e : Env} {R : Room} {s : State} {m : MethodId} {args : Array Value} {below : List Frame} {meth : Method} {c : Code} {cells slots : Nat} {Q : State → Prop} {D : va_G} {kA : Nat → ClassId} {A : Nat → Prop} (hRf : 1 ≤ R.frames) (hRl : 26 ≤ R.locals) (hRc : cells ≤ R.cells) (hRs : slots ≤ R.slots) (hN : nst s) (hA : ∀ q : Nat, s.heap.size ≤ q → A q) (X : cx p s m args meth c b_Mo_permutations 5 none "DrawingHouseModel" "permutations") (hK : va_K D classes (TY kA) s) (h : Nat) (q : Nat → Nat) (x : Nat → Int32) (y : Nat → Int64) (pb : Nat → Int32) (n : Nat) (hn : n ≤ 6) (z : (Nat → Int32) × (Nat → Int32) × Nat × (Nat → Int32))
    (hex : ∀ (H : Heap) (locs : List Loc) (ls : Array Slot), va_P D classes (cat [[(h, .inr (13, mF q x y))], [(q 96, .inl (kA 0, 26, .inl (z.1)))], [(q 110, .inl (kA 0, 8, .inl pb))], [(q 111, .inl (kA 0, 8, .inl (z.2.2.2)))], [(q 112, .inl (kA 1, 6000, .inl (z.2.1)))]]) H → va_D A (cat [[(h, .inr (13, mF q x y))], [(q 96, .inl (kA 0, 26, .inl (z.1)))], [(q 110, .inl (kA 0, 8, .inl pb))], [(q 111, .inl (kA 0, 8, .inl (z.2.2.2)))], [(q 112, .inl (kA 1, 6000, .inl (z.2.1)))]]) → va_S A s.heap H locs → lv_has ls 5 [(2, .int (nI n)), (1, .int (nI z.2.2.1)), (0, .ref h)] → W p l e R s m args below meth c H locs cells slots Q (F0 m 117 ls [])) :
    ∀ (k : Nat) (f my pm : Nat → Int32) (b : Nat), finf k n f = true → b + n * k ≤ 6000 → whl k n f pm b my = z → ∀ (H : Heap) (locs : List Loc) (ls : Array Slot), va_P D classes (cat [[(h, .inr (13, mF q x y))], [(q 96, .inl (kA 0, 26, .inl f))], [(q 110, .inl (kA 0, 8, .inl pb))], [(q 111, .inl (kA 0, 8, .inl my))], [(q 112, .inl (kA 1, 6000, .inl pm))]]) H → va_D A (cat [[(h, .inr (13, mF q x y))], [(q 96, .inl (kA 0, 26, .inl f))], [(q 110, .inl (kA 0, 8, .inl pb))], [(q 111, .inl (kA 0, 8, .inl my))], [(q 112, .inl (kA 1, 6000, .inl pm))]]) → va_S A s.heap H locs → lv_has ls 5 [(3, .int 1), (2, .int (nI n)), (1, .int (nI b)), (0, .ref h)] → W p l e R s m args below meth c H locs cells slots Q (F0 m 46 ls []) := by
  obtain ⟨hx, hb, hml, hown, hts, hr, hlk, hnm⟩ := id X
  intro k
  induction k with
  | zero =>
    intro f my pm b hfin
    simp [finf] at hfin
  | succ k ih =>
    intro f my pm b hfin hb6 hz H locs ls hP hD hS hl
    have hmul : n * (k + 1) = n * k + n := Nat.mul_succ n k
    refine lv_iload_n (pc := 46) hx hb d_Mo_permutations_46 rfl (lv_at hl 0 rfl) ?_
    refine lv_if_eq (pc := 47) (tgt := 117) hx hb d_Mo_permutations_47 (by decide) (fun c1 => absurd c1 (by decide)) (fun c1 => ?_)
    refine lv_iconst (pc := 50) (v := 0) hx hb d_Mo_permutations_50 (by decide) ?_
    refine lv_istore (pc := 51) (lv' := [(4, .int 0), (3, .int 1), (2, .int (nI n)), (1, .int (nI b)), (0, .ref h)]) hx hb d_Mo_permutations_51 hl (by decide) rfl (fun ls hl => ?_)
    refine lpB_Mo_permutations X hK h q x y f pb my pm n b hn (by omega) (fun H locs ls hP hD hS hl => ?_) n 0 (by omega) _ _ ls (by rw [cpB_0]; exact hP) (by rw [cpB_0]; exact hD) hS hl
    refine lv_iload_n (pc := 82) hx hb d_Mo_permutations_82 rfl (lv_at hl 3 rfl) ?_
    refine lv_iload_n (pc := 83) hx hb d_Mo_permutations_83 rfl (lv_at hl 2 rfl) ?_
    refine k_add (pc := 84) (x := b) (y := n) hx hb d_Mo_permutations_84 ?_
    refine lv_istore_n (pc := 85) (lv' := [(1, .int (nI (b + n))), (4, .int (nI n)), (3, .int 1), (2, .int (nI n)), (0, .ref h)]) hx hb d_Mo_permutations_85 rfl hl (by decide) rfl (fun ls hl => ?_)
    refine lv_aload_n (pc := 86) hx hb d_Mo_permutations_86 rfl (lv_at hl 4 rfl) ?_
    refine k_get (pc := 87) X hK hP 0 rfl rfl i_Mo 111 (by decide) wm_2543 rfl rfl d_Mo_permutations_87 ?_
    refine lv_iload_n (pc := 90) hx hb d_Mo_permutations_90 rfl (lv_at hl 3 rfl) ?_
    refine lv_dup2_11 (pc := 91) hx hb d_Mo_permutations_91 rfl rfl ?_
    refine k_ild (pc := 92) hx hb hK hP 3 0 rfl rfl (n) rfl (by omega) (by decide) d_Mo_permutations_92 ?_
    refine lv_iconst (pc := 93) (v := 1) hx hb d_Mo_permutations_93 (by decide) ?_
    refine lv_iadd (pc := 94) hx hb d_Mo_permutations_94 ?_
    refine k_ist (pc := 95) hx hb hK hP hD hS 3 0 rfl rfl (n) rfl (by omega) (by decide) d_Mo_permutations_95 (fun H locs hP hD hS => ?_)
    have hP : va_P D classes (cat [[(h, .inr (13, mF q x y))], [(q 96, .inl (kA 0, 26, .inl f))], [(q 110, .inl (kA 0, 8, .inl pb))], [(q 111, .inl (kA 0, 8, .inl (upd my n ((my n) + 1))))], [(q 112, .inl (kA 1, 6000, .inl (cpB pm b f n)))]]) H := hP
    have hD : va_D A (cat [[(h, .inr (13, mF q x y))], [(q 96, .inl (kA 0, 26, .inl f))], [(q 110, .inl (kA 0, 8, .inl pb))], [(q 111, .inl (kA 0, 8, .inl (upd my n ((my n) + 1))))], [(q 112, .inl (kA 1, 6000, .inl (cpB pm b f n)))]]) := hD
    refine lv_iload_n (pc := 96) hx hb d_Mo_permutations_96 rfl (lv_at hl 3 rfl) ?_
    rcases Nat.eq_zero_or_pos n with hn0 | hn0
    · subst hn0
      have e : ds f (0 - 1) = 0 := rfl
      simp only [whl] at hz
      rw [if_pos e] at hz
      subst hz
      refine lv_if_le (pc := 97) (tgt := 112) hx hb d_Mo_permutations_97 (by decide) (fun c1 => ?_) (fun c1 => absurd (by decide) c1)
      refine lv_iconst (pc := 112) (v := 0) hx hb d_Mo_permutations_112 (by decide) ?_
      refine lv_istore_n (pc := 113) (lv' := [(3, .int 0), (1, .int (nI (b + 0))), (4, .int (nI 0)), (2, .int (nI 0)), (0, .ref h)]) hx hb d_Mo_permutations_113 rfl hl (by decide) rfl (fun ls hl => ?_)
      refine lv_goto (pc := 114) (tgt := 46) hx hb d_Mo_permutations_114 (by decide) ?_
      refine lv_iload_n (pc := 46) hx hb d_Mo_permutations_46 rfl (lv_at hl 0 rfl) ?_
      refine lv_if_eq (pc := 47) (tgt := 117) hx hb d_Mo_permutations_47 (by decide) (fun c1 => ?_) (fun c1 => absurd (by decide) c1)
      exact hex H locs ls hP hD hS (lv_sub hl [3, 1, 4] rfl)
    · refine lv_if_le (pc := 97) (tgt := 112) hx hb d_Mo_permutations_97 (by decide) (fun c1 => absurd c1 (nI_nle hn0 (by omega))) (fun c1 => ?_)
      refine lv_aload_n (pc := 100) hx hb d_Mo_permutations_100 rfl (lv_at hl 4 rfl) ?_
      refine lv_iload_n (pc := 101) hx hb d_Mo_permutations_101 rfl (lv_at hl 3 rfl) ?_
      refine k_goI (gr := [[(q 110, .inl (kA 0, 8, .inl pb))], [(q 111, .inl (kA 0, 8, .inl (upd my n ((my n) + 1))))], [(q 112, .inl (kA 1, 6000, .inl (cpB pm b f n)))]]) (k_rV (pc := 102) (As := [.int (nI n)]) (rest := []) X (c_Mo_nextOrder l D kA h q x y f n (by omega) (by omega) H.size) rfl wm_2432 wm_9 wm_2429 wm_2431 wv_12_10 1 (by decide +kernel) ⟨hRf, hRl⟩ rfl rfl (va_recv hK hP (ci := 13) (q0 := 0) rfl rfl) (k_pre hN hK hP hD [0, 1] [2, 3, 4] 5 rfl (by decide) rfl) rfl hl.1 rfl (Nat.le_of_ble_eq_true rfl) d_Mo_permutations_102 ⟨hRc, hRs⟩) hP hD hS hA [0, 1] [2, 3, 4] 5 rfl (by decide) rfl rfl (fun r1 u2 H locs hu2 hP hD hS => ?_)
      have hP : va_P D classes (cat [[(q 110, .inl (kA 0, 8, .inl pb))], [(q 111, .inl (kA 0, 8, .inl (upd my n ((my n) + 1))))], [(q 112, .inl (kA 1, 6000, .inl (cpB pm b f n)))], [(h, .inr (13, mF q x y))], [(q 96, .inl (kA 0, 26, .inl (nof f n)))]]) H := hP
      have hD : va_D A (cat [[(q 110, .inl (kA 0, 8, .inl pb))], [(q 111, .inl (kA 0, 8, .inl (upd my n ((my n) + 1))))], [(q 112, .inl (kA 1, 6000, .inl (cpB pm b f n)))], [(h, .inr (13, mF q x y))], [(q 96, .inl (kA 0, 26, .inl (nof f n)))]]) := hD
      obtain ⟨hP, hD⟩ := k_ord (gc := [[(h, .inr (13, mF q x y))], [(q 96, .inl (kA 0, 26, .inl (nof f n)))], [(q 110, .inl (kA 0, 8, .inl pb))], [(q 111, .inl (kA 0, 8, .inl (upd my n ((my n) + 1))))], [(q 112, .inl (kA 1, 6000, .inl (cpB pm b f n)))]]) hP hD [3, 4, 0, 1, 2] 5 rfl (by decide) rfl
      by_cases hd : ds f (n - 1) = 0
      · rw [if_pos hd] at hu2
        subst hu2
        have e2 : nof f n = f := by unfold nof; rw [if_pos hd]
        rw [e2] at hP hD
        simp only [whl] at hz
        rw [if_pos hd] at hz
        subst hz
        refine lv_if_eq (pc := 105) (tgt := 112) hx hb d_Mo_permutations_105 (by decide) (fun c1 => ?_) (fun c1 => absurd (by decide) c1)
        refine lv_iconst (pc := 112) (v := 0) hx hb d_Mo_permutations_112 (by decide) ?_
        refine lv_istore_n (pc := 113) (lv' := [(3, .int 0), (1, .int (nI (b + n))), (4, .int (nI n)), (2, .int (nI n)), (0, .ref h)]) hx hb d_Mo_permutations_113 rfl hl (by decide) rfl (fun ls hl => ?_)
        refine lv_goto (pc := 114) (tgt := 46) hx hb d_Mo_permutations_114 (by decide) ?_
        refine lv_iload_n (pc := 46) hx hb d_Mo_permutations_46 rfl (lv_at hl 0 rfl) ?_
        refine lv_if_eq (pc := 47) (tgt := 117) hx hb d_Mo_permutations_47 (by decide) (fun c1 => ?_) (fun c1 => absurd (by decide) c1)
        exact hex H locs ls hP hD hS (lv_sub hl [3, 1, 4] rfl)
      · rw [if_neg hd] at hu2
        subst hu2
        simp only [whl] at hz
        rw [if_neg hd] at hz
        simp only [finf] at hfin
        rw [if_neg hd] at hfin
        refine lv_if_eq (pc := 105) (tgt := 112) hx hb d_Mo_permutations_105 (by decide) (fun c1 => absurd c1 (by decide)) (fun c1 => ?_)
        refine lv_iconst (pc := 108) (v := 1) hx hb d_Mo_permutations_108 (by decide) ?_
        refine lv_goto (pc := 109) (tgt := 113) hx hb d_Mo_permutations_109 (by decide) ?_
        refine lv_istore_n (pc := 113) (lv' := [(3, .int 1), (1, .int (nI (b + n))), (4, .int (nI n)), (2, .int (nI n)), (0, .ref h)]) hx hb d_Mo_permutations_113 rfl hl (by decide) rfl (fun ls hl => ?_)
        refine lv_goto (pc := 114) (tgt := 46) hx hb d_Mo_permutations_114 (by decide) ?_
        exact ih (nof f n) _ _ (b + n) hfin (by omega) hz H locs ls hP hD hS (lv_sub hl [0, 3, 1, 4] rfl)
def prm (f my pm pb : Nat → Int32) : Nat → (Nat → Int32) × (Nat → Int32) × Nat × (Nat → Int32) × (Nat → Int32)
  | 0 => (f, pm, 0, my, pb)
  | n + 1 => ((whl (fct n) n (idf (prm f my pm pb n).1 n) (prm f my pm pb n).2.1 (prm f my pm pb n).2.2.1 (upd (prm f my pm pb n).2.2.2.1 n 0)).1, (whl (fct n) n (idf (prm f my pm pb n).1 n) (prm f my pm pb n).2.1 (prm f my pm pb n).2.2.1 (upd (prm f my pm pb n).2.2.2.1 n 0)).2.1, (whl (fct n) n (idf (prm f my pm pb n).1 n) (prm f my pm pb n).2.1 (prm f my pm pb n).2.2.1 (upd (prm f my pm pb n).2.2.2.1 n 0)).2.2.1, (whl (fct n) n (idf (prm f my pm pb n).1 n) (prm f my pm pb n).2.1 (prm f my pm pb n).2.2.1 (upd (prm f my pm pb n).2.2.2.1 n 0)).2.2.2, upd (prm f my pm pb n).2.2.2.2 n (nI (prm f my pm pb n).2.2.1))
def bnd : Nat → Nat
  | 0 => 0
  | n + 1 => bnd n + n * fct n
theorem prm_at (f my pm pb : Nat → Int32) : ∀ n, (prm f my pm pb n).2.2.1 ≤ bnd n
  | 0 => Nat.le_refl 0
  | n + 1 => by
    have h1 := whl_at (fct n) n (idf (prm f my pm pb n).1 n) (prm f my pm pb n).2.1 (prm f my pm pb n).2.2.1 (upd (prm f my pm pb n).2.2.2.1 n 0)
    have h2 := prm_at f my pm pb n
    show (whl (fct n) n (idf (prm f my pm pb n).1 n) (prm f my pm pb n).2.1 (prm f my pm pb n).2.2.1 (upd (prm f my pm pb n).2.2.2.1 n 0)).2.2.1 ≤ bnd n + n * fct n
    omega
theorem bnd_ok : ∀ n, n ≤ 6 → bnd n + n * fct n ≤ 6000 := by decide
set_option maxRecDepth 100000 in
set_option maxHeartbeats 4000000 in
theorem lpD_Mo_permutations {p : Program} {l : Launch} {e : Env} {R : Room} {s : State} {m : MethodId} {args : Array Value} {below : List Frame} {meth : Method} {c : Code} {cells slots : Nat} {Q : State → Prop} {D : va_G} {kA : Nat → ClassId} {A : Nat → Prop} (hRf : 1 ≤ R.frames) (hRl : 26 ≤ R.locals) (hRc : cells ≤ R.cells) (hRs : slots ≤ R.slots) (hN : nst s) (hA : ∀ q : Nat, s.heap.size ≤ q → A q) (X : cx p s m args meth c b_Mo_permutations 5 none "DrawingHouseModel" "permutations") (hK : va_K D classes (TY kA) s) (h : Nat) (q : Nat → Nat) (x : Nat → Int32) (y : Nat → Int64) (f my pm pb : Nat → Int32)
    (hex : ∀ (H : Heap) (locs : List Loc) (ls : Array Slot), va_P D classes (cat [[(h, .inr (13, mF q x y))], [(q 96, .inl (kA 0, 26, .inl ((prm f my pm pb 7).1)))], [(q 110, .inl (kA 0, 8, .inl ((prm f my pm pb 7).2.2.2.2)))], [(q 111, .inl (kA 0, 8, .inl ((prm f my pm pb 7).2.2.2.1)))], [(q 112, .inl (kA 1, 6000, .inl ((prm f my pm pb 7).2.1)))]]) H → va_D A (cat [[(h, .inr (13, mF q x y))], [(q 96, .inl (kA 0, 26, .inl ((prm f my pm pb 7).1)))], [(q 110, .inl (kA 0, 8, .inl ((prm f my pm pb 7).2.2.2.2)))], [(q 111, .inl (kA 0, 8, .inl ((prm f my pm pb 7).2.2.2.1)))], [(q 112, .inl (kA 1, 6000, .inl ((prm f my pm pb 7).2.1)))]]) → va_S A s.heap H locs → W p l e R s m args below meth c H locs cells slots Q (F0 m 123 ls [])) :
    ∀ (k n : Nat), n + k = 7 → ∀ (H : Heap) (locs : List Loc) (ls : Array Slot), va_P D classes (cat [[(h, .inr (13, mF q x y))], [(q 96, .inl (kA 0, 26, .inl ((prm f my pm pb n).1)))], [(q 110, .inl (kA 0, 8, .inl ((prm f my pm pb n).2.2.2.2)))], [(q 111, .inl (kA 0, 8, .inl ((prm f my pm pb n).2.2.2.1)))], [(q 112, .inl (kA 1, 6000, .inl ((prm f my pm pb n).2.1)))]]) H → va_D A (cat [[(h, .inr (13, mF q x y))], [(q 96, .inl (kA 0, 26, .inl ((prm f my pm pb n).1)))], [(q 110, .inl (kA 0, 8, .inl ((prm f my pm pb n).2.2.2.2)))], [(q 111, .inl (kA 0, 8, .inl ((prm f my pm pb n).2.2.2.1)))], [(q 112, .inl (kA 1, 6000, .inl ((prm f my pm pb n).2.1)))]]) → va_S A s.heap H locs → lv_has ls 5 [(2, .int (nI n)), (1, .int (nI (prm f my pm pb n).2.2.1)), (0, .ref h)] → W p l e R s m args below meth c H locs cells slots Q (F0 m 4 ls []) := by
  obtain ⟨hx, hb, hml, hown, hts, hr, hlk, hnm⟩ := id X
  intro k
  induction k with
  | zero =>
    intro n hi H locs ls hP hD hS hl
    have hi : n = 7 := hi
    subst hi
    refine lv_iload_n (pc := 4) hx hb d_Mo_permutations_4 rfl (lv_at hl 0 rfl) ?_
    refine lv_bipush (pc := 5) (v := 6) hx hb d_Mo_permutations_5 (by decide) ?_
    refine k_cgt (pc := 7) (x := 7) (y := 6) (tgt := 123) hx hb (by decide) (by decide) d_Mo_permutations_7 (by decide) (fun c1 => ?_) (fun c1 => absurd c1 (by omega))
    exact hex H locs ls hP hD hS
  | succ k ih =>
    intro n hi H locs ls hP hD hS hl
    have hn6 : n ≤ 6 := by omega
    have hbb := bnd_ok n hn6
    have hat := prm_at f my pm pb n
    obtain ⟨t, ht⟩ : ∃ t, t = prm f my pm pb n := ⟨_, rfl⟩
    rw [← ht] at hP hD hl hat
    obtain ⟨z, hz⟩ : ∃ z, whl (fct n) n (idf t.1 n) t.2.1 t.2.2.1 (upd t.2.2.2.1 n 0) = z := ⟨_, rfl⟩
    have e : prm f my pm pb (n + 1) = (z.1, z.2.1, z.2.2.1, z.2.2.2, upd t.2.2.2.2 n (nI t.2.2.1)) := by rw [← hz, ht]; rfl
    refine lv_iload_n (pc := 4) hx hb d_Mo_permutations_4 rfl (lv_at hl 0 rfl) ?_
    refine lv_bipush (pc := 5) (v := 6) hx hb d_Mo_permutations_5 (by decide) ?_
    refine k_cgt (pc := 7) (x := n) (y := 6) (tgt := 123) hx hb (by omega) (by decide) d_Mo_permutations_7 (by decide) (fun c1 => absurd c1 (by omega)) (fun c1 => ?_)
    refine lv_aload_n (pc := 10) hx hb d_Mo_permutations_10 rfl (lv_at hl 2 rfl) ?_
    refine k_get (pc := 11) X hK hP 0 rfl rfl i_Mo 110 (by decide) wm_2542 rfl rfl d_Mo_permutations_11 ?_
    refine lv_iload_n (pc := 14) hx hb d_Mo_permutations_14 rfl (lv_at hl 0 rfl) ?_
    refine lv_iload_n (pc := 15) hx hb d_Mo_permutations_15 rfl (lv_at hl 1 rfl) ?_
    refine k_ist (pc := 16) hx hb hK hP hD hS 2 0 rfl rfl (n) rfl (by omega) (by decide) d_Mo_permutations_16 (fun H locs hP hD hS => ?_)
    have hP : va_P D classes (cat [[(h, .inr (13, mF q x y))], [(q 96, .inl (kA 0, 26, .inl (t.1)))], [(q 110, .inl (kA 0, 8, .inl (upd (t.2.2.2.2) n (nI (t.2.2.1)))))], [(q 111, .inl (kA 0, 8, .inl (t.2.2.2.1)))], [(q 112, .inl (kA 1, 6000, .inl (t.2.1)))]]) H := hP
    have hD : va_D A (cat [[(h, .inr (13, mF q x y))], [(q 96, .inl (kA 0, 26, .inl (t.1)))], [(q 110, .inl (kA 0, 8, .inl (upd (t.2.2.2.2) n (nI (t.2.2.1)))))], [(q 111, .inl (kA 0, 8, .inl (t.2.2.2.1)))], [(q 112, .inl (kA 1, 6000, .inl (t.2.1)))]]) := hD
    refine lv_aload_n (pc := 17) hx hb d_Mo_permutations_17 rfl (lv_at hl 2 rfl) ?_
    refine k_get (pc := 18) X hK hP 0 rfl rfl i_Mo 111 (by decide) wm_2543 rfl rfl d_Mo_permutations_18 ?_
    refine lv_iload_n (pc := 21) hx hb d_Mo_permutations_21 rfl (lv_at hl 0 rfl) ?_
    refine lv_iconst (pc := 22) (v := 0) hx hb d_Mo_permutations_22 (by decide) ?_
    refine k_ist (pc := 23) hx hb hK hP hD hS 3 0 rfl rfl (n) rfl (by omega) (by decide) d_Mo_permutations_23 (fun H locs hP hD hS => ?_)
    have hP : va_P D classes (cat [[(h, .inr (13, mF q x y))], [(q 96, .inl (kA 0, 26, .inl (t.1)))], [(q 110, .inl (kA 0, 8, .inl (upd (t.2.2.2.2) n (nI (t.2.2.1)))))], [(q 111, .inl (kA 0, 8, .inl (upd (t.2.2.2.1) n 0)))], [(q 112, .inl (kA 1, 6000, .inl (t.2.1)))]]) H := hP
    have hD : va_D A (cat [[(h, .inr (13, mF q x y))], [(q 96, .inl (kA 0, 26, .inl (t.1)))], [(q 110, .inl (kA 0, 8, .inl (upd (t.2.2.2.2) n (nI (t.2.2.1)))))], [(q 111, .inl (kA 0, 8, .inl (upd (t.2.2.2.1) n 0)))], [(q 112, .inl (kA 1, 6000, .inl (t.2.1)))]]) := hD
    refine lv_iconst (pc := 24) (v := 0) hx hb d_Mo_permutations_24 (by decide) ?_
    refine lv_istore_n (pc := 25) (lv' := [(3, .int 0), (2, .int (nI n)), (1, .int (nI (t.2.2.1))), (0, .ref h)]) hx hb d_Mo_permutations_25 rfl hl (by decide) rfl (fun ls hl => ?_)
    refine lpA_Mo_permutations X hK h q x y t.1 (upd t.2.2.2.2 n (nI t.2.2.1)) (upd t.2.2.2.1 n 0) t.2.1 n t.2.2.1 hn6 (by omega) (fun H locs ls hP hD hS hl => ?_) n 0 (by omega) _ _ ls (by rw [idf_0]; exact hP) (by rw [idf_0]; exact hD) hS (lv_sub hl [0, 1, 2, 3] rfl)
    refine lv_iconst (pc := 44) (v := 1) hx hb d_Mo_permutations_44 (by decide) ?_
    refine lv_istore_n (pc := 45) (lv' := [(3, .int 1), (2, .int (nI n)), (1, .int (nI (t.2.2.1))), (0, .ref h)]) hx hb d_Mo_permutations_45 rfl hl (by decide) rfl (fun ls hl => ?_)
    refine lpC_Mo_permutations hRf hRl hRc hRs hN hA X hK h q x y (upd t.2.2.2.2 n (nI t.2.2.1)) n hn6 z (fun H locs ls hP hD hS hl => ?_) (fct n) (idf t.1 n) (upd t.2.2.2.1 n 0) t.2.1 t.2.2.1 (finf_id t.1 n hn6) (by omega) hz _ _ ls hP hD hS (lv_sub hl [0, 1, 2, 3] rfl)
    refine lv_iinc (pc := 117) (v := nI (n + 1)) (lv' := [(2, .int (nI (n + 1))), (1, .int (nI (z.2.2.1))), (0, .ref h)]) hx hb d_Mo_permutations_117 hl (k := 0) rfl (nI_add _ 1) (by decide) rfl (fun ls hl => ?_)
    refine lv_goto (pc := 120) (tgt := 4) hx hb d_Mo_permutations_120 (by decide) ?_
    exact ih (n + 1) (by omega) H locs ls (by rw [e]; exact hP) (by rw [e]; exact hD) hS (by rw [e]; exact lv_sub hl [0, 1, 2] rfl)
set_option maxRecDepth 100000 in
set_option maxHeartbeats 4000000 in
/-- permutations() -/
theorem c_Mo_permutations (l : Launch) (D : va_G) (kA : Nat → ClassId) (h : Nat) (q : Nat → Nat) (x : Nat → Int32) (y : Nat → Int64) (f my pm pb : Nat → Int32) : Cv l y_Mo_permutations z_Mo_permutations { frames := 1, cells := 0, slots := 0, locals := 26 } D classes (TY kA) [.ref h] [[(h, .inr (13, mF q x y))], [(q 96, .inl (kA 0, 26, .inl f))], [(q 110, .inl (kA 0, 8, .inl pb))], [(q 111, .inl (kA 0, 8, .inl my))], [(q 112, .inl (kA 1, 6000, .inl pm))]] (fun _ : Unit => True) (fun _ => [[(h, .inr (13, mF q x y))], [(q 96, .inl (kA 0, 26, .inl ((prm f my pm pb 7).1)))], [(q 110, .inl (kA 0, 8, .inl ((prm f my pm pb 7).2.2.2.2)))], [(q 111, .inl (kA 0, 8, .inl ((prm f my pm pb 7).2.2.2.1)))], [(q 112, .inl (kA 1, 6000, .inl ((prm f my pm pb 7).2.1)))]]) 0 0 := by
  intro sz
  refine k_met (cc := b_Mo_permutations) (maxL := 5) (ret := none) (by decide) rfl (Nat.le_of_ble_eq_true rfl) (fun p e s m below meth c ls X hl hB => ?_)
  obtain ⟨hsz, hP, hK, hD0, hN⟩ := hB
  subst hsz
  have hD := hD0.self (sz := s.heap.size)
  generalize hAe : va_A (cat [[(h, .inr (13, mF q x y))], [(q 96, .inl (kA 0, 26, .inl f))], [(q 110, .inl (kA 0, 8, .inl pb))], [(q 111, .inl (kA 0, 8, .inl my))], [(q 112, .inl (kA 1, 6000, .inl pm))]]) s.heap.size = A at hD ⊢
  have hA : ∀ q : Nat, s.heap.size ≤ q → A q := fun q h => by rw [← hAe]; exact Or.inr h
  have hS : va_S A s.heap s.heap [] := va_S.rf
  obtain ⟨hx, hb, hml, hown, hts, hr, hlk, hnm⟩ := id X
  have hl : lv_has ls 5 [(0, .ref h)] := hl
  have hP : va_P D classes (cat [[(h, .inr (13, mF q x y))], [(q 96, .inl (kA 0, 26, .inl f))], [(q 110, .inl (kA 0, 8, .inl pb))], [(q 111, .inl (kA 0, 8, .inl my))], [(q 112, .inl (kA 1, 6000, .inl pm))]]) s.heap := hP
  have hK : va_K D classes (TY kA) s := hK
  refine lv_iconst (pc := 0) (v := 0) hx hb d_Mo_permutations_0 (by decide) ?_
  refine lv_istore_n (pc := 1) (lv' := [(1, .int 0), (0, .ref h)]) hx hb d_Mo_permutations_1 rfl hl (by decide) rfl (fun ls hl => ?_)
  refine lv_iconst (pc := 2) (v := 0) hx hb d_Mo_permutations_2 (by decide) ?_
  refine lv_istore_n (pc := 3) (lv' := [(2, .int 0), (1, .int 0), (0, .ref h)]) hx hb d_Mo_permutations_3 rfl hl (by decide) rfl (fun ls hl => ?_)
  refine lpD_Mo_permutations (Nat.le_of_ble_eq_true rfl) (Nat.le_of_ble_eq_true rfl) (Nat.le_of_ble_eq_true rfl) (Nat.le_of_ble_eq_true rfl) hN hA X hK h q x y f my pm pb (fun H locs ls hP hD hS => ?_) 7 0 (by omega) _ _ ls hP hD hS (lv_sub hl [0, 1, 2] rfl)
  refine W.widen (k := 0) (n := 0) (Nat.le_of_ble_eq_true rfl) (Nat.le_of_ble_eq_true rfl) ?_
  exact W.vret hx hb hr (fun t ht hW => ⟨⟨(), rfl, trivial, by rw [ht]; exact hP, va_K.moved hW.alike hK, hD⟩, hS.F ht⟩) hS.2.2 d_Mo_permutations_123
