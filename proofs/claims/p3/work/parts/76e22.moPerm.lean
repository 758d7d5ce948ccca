section
theorem wm_2428 : (Cond.code ({ cls := "DrawingHouseModel", name := "permutations", desc := "()V" } : MethodName) prog_15_method_130_code (5 : Nat) (Option.none : Option ClassFile.FieldType) : Cond) ∈ lw_g := lw_gi (lw_c11 (List.mem_of_getElem? (i := 28) rfl)) rfl
abbrev b_Mo_permutations : ByteArray := prog_15_method_130_code
def y_Mo_permutations : MethodName := ⟨"DrawingHouseModel", "permutations", "()V"⟩
abbrev z_Mo_permutations : List Cond := Cond.code y_Mo_permutations b_Mo_permutations 5 none :: lw_g
theorem d_Mo_permutations_0 : decode b_Mo_permutations 0 = .ok (.iconst 0, 1) := by decide +kernel
theorem d_Mo_permutations_1 : decode b_Mo_permutations 1 = .ok (.istore_n 1, 1) := by decide +kernel
theorem d_Mo_permutations_2 : decode b_Mo_permutations 2 = .ok (.iconst 0, 1) := by decide +kernel
theorem d_Mo_permutations_3 : decode b_Mo_permutations 3 = .ok (.istore_n 2, 1) := by decide +kernel
theorem d_Mo_permutations_4 : decode b_Mo_permutations 4 = .ok (.iload_n 2, 1) := by decide +kernel
theorem d_Mo_permutations_5 : decode b_Mo_permutations 5 = .ok (.bipush 6, 2) := by decide +kernel
theorem d_Mo_permutations_7 : decode b_Mo_permutations 7 = .ok (.if_icmp .gt 116, 3) := by decide +kernel
theorem d_Mo_permutations_10 : decode b_Mo_permutations 10 = .ok (.aload_n 0, 1) := by decide +kernel
theorem d_Mo_permutations_11 : decode b_Mo_permutations 11 = .ok (.getfield 243, 3) := by decide +kernel
theorem d_Mo_permutations_14 : decode b_Mo_permutations 14 = .ok (.iload_n 2, 1) := by decide +kernel
theorem d_Mo_permutations_15 : decode b_Mo_permutations 15 = .ok (.iload_n 1, 1) := by decide +kernel
theorem d_Mo_permutations_16 : decode b_Mo_permutations 16 = .ok (.iastore, 1) := by decide +kernel
theorem d_Mo_permutations_17 : decode b_Mo_permutations 17 = .ok (.aload_n 0, 1) := by decide +kernel
theorem d_Mo_permutations_18 : decode b_Mo_permutations 18 = .ok (.getfield 246, 3) := by decide +kernel
theorem d_Mo_permutations_21 : decode b_Mo_permutations 21 = .ok (.iload_n 2, 1) := by decide +kernel
theorem d_Mo_permutations_22 : decode b_Mo_permutations 22 = .ok (.iconst 0, 1) := by decide +kernel
theorem d_Mo_permutations_23 : decode b_Mo_permutations 23 = .ok (.iastore, 1) := by decide +kernel
theorem d_Mo_permutations_24 : decode b_Mo_permutations 24 = .ok (.iconst 0, 1) := by decide +kernel
theorem d_Mo_permutations_25 : decode b_Mo_permutations 25 = .ok (.istore_n 3, 1) := by decide +kernel
theorem d_Mo_permutations_26 : decode b_Mo_permutations 26 = .ok (.iload_n 3, 1) := by decide +kernel
theorem d_Mo_permutations_27 : decode b_Mo_permutations 27 = .ok (.iload_n 2, 1) := by decide +kernel
theorem d_Mo_permutations_28 : decode b_Mo_permutations 28 = .ok (.if_icmp .ge 16, 3) := by decide +kernel
theorem d_Mo_permutations_31 : decode b_Mo_permutations 31 = .ok (.aload_n 0, 1) := by decide +kernel
theorem d_Mo_permutations_32 : decode b_Mo_permutations 32 = .ok (.getfield 213, 3) := by decide +kernel
theorem d_Mo_permutations_35 : decode b_Mo_permutations 35 = .ok (.iload_n 3, 1) := by decide +kernel
theorem d_Mo_permutations_36 : decode b_Mo_permutations 36 = .ok (.iload_n 3, 1) := by decide +kernel
theorem d_Mo_permutations_37 : decode b_Mo_permutations 37 = .ok (.iastore, 1) := by decide +kernel
theorem d_Mo_permutations_38 : decode b_Mo_permutations 38 = .ok (.iinc 3 1, 3) := by decide +kernel
theorem d_Mo_permutations_41 : decode b_Mo_permutations 41 = .ok (.goto (-15), 3) := by decide +kernel
theorem d_Mo_permutations_44 : decode b_Mo_permutations 44 = .ok (.iconst 1, 1) := by decide +kernel
theorem d_Mo_permutations_45 : decode b_Mo_permutations 45 = .ok (.istore_n 3, 1) := by decide +kernel
theorem d_Mo_permutations_46 : decode b_Mo_permutations 46 = .ok (.iload_n 3, 1) := by decide +kernel
theorem d_Mo_permutations_47 : decode b_Mo_permutations 47 = .ok (.ifCond .eq 70, 3) := by decide +kernel
theorem d_Mo_permutations_50 : decode b_Mo_permutations 50 = .ok (.iconst 0, 1) := by decide +kernel
theorem d_Mo_permutations_51 : decode b_Mo_permutations 51 = .ok (.istore 4, 2) := by decide +kernel
theorem d_Mo_permutations_53 : decode b_Mo_permutations 53 = .ok (.iload 4, 2) := by decide +kernel
theorem d_Mo_permutations_55 : decode b_Mo_permutations 55 = .ok (.iload_n 2, 1) := by decide +kernel
theorem d_Mo_permutations_56 : decode b_Mo_permutations 56 = .ok (.if_icmp .ge 26, 3) := by decide +kernel
theorem d_Mo_permutations_59 : decode b_Mo_permutations 59 = .ok (.aload_n 0, 1) := by decide +kernel
theorem d_Mo_permutations_60 : decode b_Mo_permutations 60 = .ok (.getfield 249, 3) := by decide +kernel
theorem d_Mo_permutations_63 : decode b_Mo_permutations 63 = .ok (.iload_n 1, 1) := by decide +kernel
theorem d_Mo_permutations_64 : decode b_Mo_permutations 64 = .ok (.iload 4, 2) := by decide +kernel
theorem d_Mo_permutations_66 : decode b_Mo_permutations 66 = .ok (.iadd, 1) := by decide +kernel
theorem d_Mo_permutations_67 : decode b_Mo_permutations 67 = .ok (.aload_n 0, 1) := by decide +kernel
theorem d_Mo_permutations_68 : decode b_Mo_permutations 68 = .ok (.getfield 213, 3) := by decide +kernel
theorem d_Mo_permutations_71 : decode b_Mo_permutations 71 = .ok (.iload 4, 2) := by decide +kernel
theorem d_Mo_permutations_73 : decode b_Mo_permutations 73 = .ok (.iaload, 1) := by decide +kernel
theorem d_Mo_permutations_74 : decode b_Mo_permutations 74 = .ok (.i2b, 1) := by decide +kernel
theorem d_Mo_permutations_75 : decode b_Mo_permutations 75 = .ok (.bastore, 1) := by decide +kernel
theorem d_Mo_permutations_76 : decode b_Mo_permutations 76 = .ok (.iinc 4 1, 3) := by decide +kernel
theorem d_Mo_permutations_79 : decode b_Mo_permutations 79 = .ok (.goto (-26), 3) := by decide +kernel
theorem d_Mo_permutations_82 : decode b_Mo_permutations 82 = .ok (.iload_n 1, 1) := by decide +kernel
theorem d_Mo_permutations_83 : decode b_Mo_permutations 83 = .ok (.iload_n 2, 1) := by decide +kernel
theorem d_Mo_permutations_84 : decode b_Mo_permutations 84 = .ok (.iadd, 1) := by decide +kernel
theorem d_Mo_permutations_85 : decode b_Mo_permutations 85 = .ok (.istore_n 1, 1) := by decide +kernel
theorem d_Mo_permutations_86 : decode b_Mo_permutations 86 = .ok (.aload_n 0, 1) := by decide +kernel
theorem d_Mo_permutations_87 : decode b_Mo_permutations 87 = .ok (.getfield 246, 3) := by decide +kernel
theorem d_Mo_permutations_90 : decode b_Mo_permutations 90 = .ok (.iload_n 2, 1) := by decide +kernel
theorem d_Mo_permutations_91 : decode b_Mo_permutations 91 = .ok (.dup2, 1) := by decide +kernel
theorem d_Mo_permutations_92 : decode b_Mo_permutations 92 = .ok (.iaload, 1) := by decide +kernel
theorem d_Mo_permutations_93 : decode b_Mo_permutations 93 = .ok (.iconst 1, 1) := by decide +kernel
theorem d_Mo_permutations_94 : decode b_Mo_permutations 94 = .ok (.iadd, 1) := by decide +kernel
theorem d_Mo_permutations_95 : decode b_Mo_permutations 95 = .ok (.iastore, 1) := by decide +kernel
theorem d_Mo_permutations_96 : decode b_Mo_permutations 96 = .ok (.iload_n 2, 1) := by decide +kernel
theorem d_Mo_permutations_97 : decode b_Mo_permutations 97 = .ok (.ifCond .le 15, 3) := by decide +kernel
theorem d_Mo_permutations_100 : decode b_Mo_permutations 100 = .ok (.aload_n 0, 1) := by decide +kernel
theorem d_Mo_permutations_101 : decode b_Mo_permutations 101 = .ok (.iload_n 2, 1) := by decide +kernel
theorem d_Mo_permutations_102 : decode b_Mo_permutations 102 = .ok (.invokevirtual 810, 3) := by decide +kernel
theorem d_Mo_permutations_105 : decode b_Mo_permutations 105 = .ok (.ifCond .eq 7, 3) := by decide +kernel
theorem d_Mo_permutations_108 : decode b_Mo_permutations 108 = .ok (.iconst 1, 1) := by decide +kernel
theorem d_Mo_permutations_109 : decode b_Mo_permutations 109 = .ok (.goto 4, 3) := by decide +kernel
theorem d_Mo_permutations_112 : decode b_Mo_permutations 112 = .ok (.iconst 0, 1) := by decide +kernel
theorem d_Mo_permutations_113 : decode b_Mo_permutations 113 = .ok (.istore_n 3, 1) := by decide +kernel
theorem d_Mo_permutations_114 : decode b_Mo_permutations 114 = .ok (.goto (-68), 3) := by decide +kernel
theorem d_Mo_permutations_117 : decode b_Mo_permutations 117 = .ok (.iinc 2 1, 3) := by decide +kernel
theorem d_Mo_permutations_120 : decode b_Mo_permutations 120 = .ok (.goto (-116), 3) := by decide +kernel
theorem d_Mo_permutations_123 : decode b_Mo_permutations 123 = .ok (.return_, 1) := by decide +kernel
set_option maxRecDepth 100000 in
set_option maxHeartbeats 4000000 in
theorem lpA_Mo_permutations {p : Program} {l : Launch} {e : Env} {R : Room} {s : State} {m : MethodId} {args : Array Value} {below : List Frame} {meth : Method} {c : Code} {cells slots : Nat} {Q : State → Prop} {D : va_G} {kA : Nat → ClassId} {A : Nat → Prop} (X : cx p s m args meth c b_Mo_permutations 5 none "DrawingHouseModel" "permutations") (hK : va_K D classes (TY kA) s) (h : Nat) (q : Nat → Nat) (x : Nat → Int32) (y : Nat → Int64) (f pb my pm : Nat → Int32) (n b : Nat) (hn : n ≤ 6) (hb6 : b ≤ 6000)
    (hex : ∀ (H : Heap) (locs : List Loc) (ls : Array Slot), va_P D classes (cat [[(h, .inr (13, mF q x y))], [(q 96, .inl (kA 0, 26, .inl (idf f n)))], [(q 110, .inl (kA 0, 8, .inl pb))], [(q 111, .inl (kA 0, 8, .inl my))], [(q 112, .inl (kA 1, 6000, .inl pm))]]) H → va_D A (cat [[(h, .inr (13, mF q x y))], [(q 96, .inl (kA 0, 26, .inl (idf f n)))], [(q 110, .inl (kA 0, 8, .inl pb))], [(q 111, .inl (kA 0, 8, .inl my))], [(q 112, .inl (kA 1, 6000, .inl pm))]]) → va_S A s.heap H locs → lv_has ls 5 [(3, .int (nI n)), (2, .int (nI n)), (1, .int (nI b)), (0, .ref h)] → W p l e R s m args below meth c H locs cells slots Q (F0 m 44 ls [])) :
    ∀ (k i : Nat), i + k = n → ∀ (H : Heap) (locs : List Loc) (ls : Array Slot), va_P D classes (cat [[(h, .inr (13, mF q x y))], [(q 96, .inl (kA 0, 26, .inl (idf f i)))], [(q 110, .inl (kA 0, 8, .inl pb))], [(q 111, .inl (kA 0, 8, .inl my))], [(q 112, .inl (kA 1, 6000, .inl pm))]]) H → va_D A (cat [[(h, .inr (13, mF q x y))], [(q 96, .inl (kA 0, 26, .inl (idf f i)))], [(q 110, .inl (kA 0, 8, .inl pb))], [(q 111, .inl (kA 0, 8, .inl my))], [(q 112, .inl (kA 1, 6000, .inl pm))]]) → va_S A s.heap H locs → lv_has ls 5 [(3, .int (nI i)), (2, .int (nI n)), (1, .int (nI b)), (0, .ref h)] → W p l e R s m args below meth c H locs cells slots Q (F0 m 26 ls []) := by
  obtain ⟨hx, hb, hml, hown, hts, hr, hlk, hnm⟩ := id X
  intro k
  induction k with
  | zero =>
    intro i hi H locs ls hP hD hS hl
    have hi : i = n := hi
    subst hi
    refine lv_iload_n (pc := 26) hx hb d_Mo_permutations_26 rfl (lv_at hl 0 rfl) ?_
    refine lv_iload_n (pc := 27) hx hb d_Mo_permutations_27 rfl (lv_at hl 1 rfl) ?_
    refine k_cge (pc := 28) (x := i) (y := i) (tgt := 44) hx hb (by omega) (by omega) d_Mo_permutations_28 (by decide) (fun c1 => ?_) (fun c1 => absurd c1 (by omega))
    exact hex H locs ls hP hD hS hl
  | succ k ih =>
    intro i hi H locs ls hP hD hS hl
    refine lv_iload_n (pc := 26) hx hb d_Mo_permutations_26 rfl (lv_at hl 0 rfl) ?_
    refine lv_iload_n (pc := 27) hx hb d_Mo_permutations_27 rfl (lv_at hl 1 rfl) ?_
    refine k_cge (pc := 28) (x := i) (y := n) (tgt := 44) hx hb (by omega) (by omega) d_Mo_permutations_28 (by decide) (fun c1 => absurd c1 (by omega)) (fun c1 => ?_)
    refine lv_aload_n (pc := 31) hx hb d_Mo_permutations_31 rfl (lv_at hl 3 rfl) ?_
    refine k_get (pc := 32) X hK hP 0 rfl rfl i_Mo 96 (by decide) wm_2528 rfl rfl d_Mo_permutations_32 ?_
    refine lv_iload_n (pc := 35) hx hb d_Mo_permutations_35 rfl (lv_at hl 0 rfl) ?_
    refine lv_iload_n (pc := 36) hx hb d_Mo_permutations_36 rfl (lv_at hl 0 rfl) ?_
    refine k_ist (pc := 37) hx hb hK hP hD hS 1 0 rfl rfl (i) rfl (by omega) (by decide) d_Mo_permutations_37 (fun H locs hP hD hS => ?_)
    have hP : va_P D classes (cat [[(h, .inr (13, mF q x y))], [(q 96, .inl (kA 0, 26, .inl (upd (idf f i) i (nI i))))], [(q 110, .inl (kA 0, 8, .inl pb))], [(q 111, .inl (kA 0, 8, .inl my))], [(q 112, .inl (kA 1, 6000, .inl pm))]]) H := hP
    have hD : va_D A (cat [[(h, .inr (13, mF q x y))], [(q 96, .inl (kA 0, 26, .inl (upd (idf f i) i (nI i))))], [(q 110, .inl (kA 0, 8, .inl pb))], [(q 111, .inl (kA 0, 8, .inl my))], [(q 112, .inl (kA 1, 6000, .inl pm))]]) := hD
    rw [idf_s] at hP hD
    refine lv_iinc (pc := 38) (v := nI (i + 1)) (lv' := [(3, .int (nI (i + 1))), (2, .int (nI n)), (1, .int (nI b)), (0, .ref h)]) hx hb d_Mo_permutations_38 hl (k := 0) rfl (nI_add _ 1) (by decide) rfl (fun ls hl => ?_)
    refine lv_goto (pc := 41) (tgt := 26) hx hb d_Mo_permutations_41 (by decide) ?_
    exact ih (i + 1) (by omega) H locs ls hP hD hS hl
set_option maxRecDepth 100000 in
set_option maxHeartbeats 4000000 in
theorem lpB_Mo_permutations {p : Program} {l : Launch} {e : Env} {R : Room} {s : State} {m : MethodId} {args : Array Value} {below : List Frame} {meth : Method} {c : Code} {cells slots : Nat} {Q : State → Prop} {D : va_G} {kA : Nat → ClassId} {A : Nat → Prop} (X : cx p s m args meth c b_Mo_permutations 5 none "DrawingHouseModel" "permutations") (hK : va_K D classes (TY kA) s) (h : Nat) (q : Nat → Nat) (x : Nat → Int32) (y : Nat → Int64) (f pb my pm : Nat → Int32) (n b : Nat) (hn : n ≤ 6) (hb6 : b + n ≤ 6000)
    (hex : ∀ (H : Heap) (locs : List Loc) (ls : Array Slot), va_P D classes (cat [[(h, .inr (13, mF q x y))], [(q 96, .inl (kA 0, 26, .inl f))], [(q 110, .inl (kA 0, 8, .inl pb))], [(q 111, .inl (kA 0, 8, .inl my))], [(q 112, .inl (kA 1, 6000, .inl (cpB pm b f n)))]]) H → va_D A (cat [[(h, .inr (13, mF q x y))], [(q 96, .inl (kA 0, 26, .inl f))], [(q 110, .inl (kA 0, 8, .inl pb))], [(q 111, .inl (kA 0, 8, .inl my))], [(q 112, .inl (kA 1, 6000, .inl (cpB pm b f n)))]]) → va_S A s.heap H locs → lv_has ls 5 [(4, .int (nI n)), (3, .int 1), (2, .int (nI n)), (1, .int (nI b)), (0, .ref h)] → W p l e R s m args below meth c H locs cells slots Q (F0 m 82 ls [])) :
    ∀ (k i : Nat), i + k = n → ∀ (H : Heap) (locs : List Loc) (ls : Array Slot), va_P D classes (cat [[(h, .inr (13, mF q x y))], [(q 96, .inl (kA 0, 26, .inl f))], [(q 110, .inl (kA 0, 8, .inl pb))], [(q 111, .inl (kA 0, 8, .inl my))], [(q 112, .inl (kA 1, 6000, .inl (cpB pm b f i)))]]) H → va_D A (cat [[(h, .inr (13, mF q x y))], [(q 96, .inl (kA 0, 26, .inl f))], [(q 110, .inl (kA 0, 8, .inl pb))], [(q 111, .inl (kA 0, 8, .inl my))], [(q 112, .inl (kA 1, 6000, .inl (cpB pm b f i)))]]) → va_S A s.heap H locs → lv_has ls 5 [(4, .int (nI i)), (3, .int 1), (2, .int (nI n)), (1, .int (nI b)), (0, .ref h)] → W p l e R s m args below meth c H locs cells slots Q (F0 m 53 ls []) := by
  obtain ⟨hx, hb, hml, hown, hts, hr, hlk, hnm⟩ := id X
  intro k
  induction k with
  | zero =>
    intro i hi H locs ls hP hD hS hl
    have hi : i = n := hi
    subst hi
    refine lv_iload (pc := 53) hx hb d_Mo_permutations_53 (lv_at hl 0 rfl) ?_
    refine lv_iload_n (pc := 55) hx hb d_Mo_permutations_55 rfl (lv_at hl 2 rfl) ?_
    refine k_cge (pc := 56) (x := i) (y := i) (tgt := 82) hx hb (by omega) (by omega) d_Mo_permutations_56 (by decide) (fun c1 => ?_) (fun c1 => absurd c1 (by omega))
    exact hex H locs ls hP hD hS hl
  | succ k ih =>
    intro i hi H locs ls hP hD hS hl
    refine lv_iload (pc := 53) hx hb d_Mo_permutations_53 (lv_at hl 0 rfl) ?_
    refine lv_iload_n (pc := 55) hx hb d_Mo_permutations_55 rfl (lv_at hl 2 rfl) ?_
    refine k_cge (pc := 56) (x := i) (y := n) (tgt := 82) hx hb (by omega) (by omega) d_Mo_permutations_56 (by decide) (fun c1 => absurd c1 (by omega)) (fun c1 => ?_)
    refine lv_aload_n (pc := 59) hx hb d_Mo_permutations_59 rfl (lv_at hl 4 rfl) ?_
    refine k_get (pc := 60) X hK hP 0 rfl rfl i_Mo 112 (by decide) wm_2544 rfl rfl d_Mo_permutations_60 ?_
    refine lv_iload_n (pc := 63) hx hb d_Mo_permutations_63 rfl (lv_at hl 3 rfl) ?_
    refine lv_iload (pc := 64) hx hb d_Mo_permutations_64 (lv_at hl 0 rfl) ?_
    refine k_add (pc := 66) (x := b) (y := i) hx hb d_Mo_permutations_66 ?_
    refine lv_aload_n (pc := 67) hx hb d_Mo_permutations_67 rfl (lv_at hl 4 rfl) ?_
    refine k_get (pc := 68) X hK hP 0 rfl rfl i_Mo 96 (by decide) wm_2528 rfl rfl d_Mo_permutations_68 ?_
    refine lv_iload (pc := 71) hx hb d_Mo_permutations_71 (lv_at hl 0 rfl) ?_
    refine k_ild (pc := 73) hx hb hK hP 1 0 rfl rfl (i) rfl (by omega) (by decide) d_Mo_permutations_73 ?_
    refine lv_i2b (pc := 74) hx hb d_Mo_permutations_74 rfl ?_
    refine k_bst (pc := 75) hx hb hK hP hD hS 4 1 rfl rfl (b + i) rfl (by omega) (by decide) d_Mo_permutations_75 (fun H locs hP hD hS => ?_)
    have hP : va_P D classes (cat [[(h, .inr (13, mF q x y))], [(q 96, .inl (kA 0, 26, .inl f))], [(q 110, .inl (kA 0, 8, .inl pb))], [(q 111, .inl (kA 0, 8, .inl my))], [(q 112, .inl (kA 1, 6000, .inl (upd (cpB pm b f i) (b + i) (vp_nar .byte ((f i).toInt8.toInt32)))))]]) H := hP
    have hD : va_D A (cat [[(h, .inr (13, mF q x y))], [(q 96, .inl (kA 0, 26, .inl f))], [(q 110, .inl (kA 0, 8, .inl pb))], [(q 111, .inl (kA 0, 8, .inl my))], [(q 112, .inl (kA 1, 6000, .inl (upd (cpB pm b f i) (b + i) (vp_nar .byte ((f i).toInt8.toInt32)))))]]) := hD
    rw [cpB_s] at hP hD
    refine lv_iinc (pc := 76) (v := nI (i + 1)) (lv' := [(4, .int (nI (i + 1))), (3, .int 1), (2, .int (nI n)), (1, .int (nI b)), (0, .ref h)]) hx hb d_Mo_permutations_76 hl (k := 0) rfl (nI_add _ 1) (by decide) rfl (fun ls hl => ?_)
    refine lv_goto (pc := 79) (tgt := 53) hx hb d_Mo_permutations_79 (by decide) ?_
    exact ih (i + 1) (by omega) H locs ls hP hD hS hl
set_option maxRecDepth 100000 in
set_option maxHeartbeats 4000000 in
theorem lpC_Mo_permutations {p : Program} {l : Launch} {e : Env} {R : Room} {s : State} {m : MethodId} {args : Array Value} {below : List Frame} {meth : Method} {c : Code} {cells slots : Nat} {Q : State → Prop} {D : va_G} {kA : Nat → ClassId} {A : Nat → Prop} (hRf : 1 ≤ R.frames) (hRl : 26 ≤ R.locals) (hRc : cells ≤ R.cells) (hRs : slots ≤ R.slots) (hN : nst s) (hA : ∀ q : Nat, s.heap.size ≤ q → A q) (X : cx p s m args meth c b_Mo_permutations 5 none "DrawingHouseModel" "permutations") (hK : va_K D classes (TY kA) s) (h : Nat) (q : Nat → Nat) (x : Nat → Int32) (y : Nat → Int64) (pb : Nat → Int32) (n : Nat) (hn : n ≤ 6) (z : (Nat → Int32) × (Nat → Int32) × Nat × (Nat → Int32))
    (hex : ∀ (H : Heap) (locs : List Loc) (ls : Array Slot), va_P D classes (cat [[(h, .inr (13, mF q x y))], [(q 96, .inl (kA 0, 26, .inl (z.1)))], [(q 110, .inl (kA 0, 8, .inl pb))], [(q 111, .inl (kA 0, 8, .inl (z.2.2.2)))], [(q 112, .inl (kA 1, 6000, .inl (z.2.1)))]]) H → va_D A (cat [[(h, .inr (13, mF q x y))], [(q 96, .inl (kA 0, 26, .inl (z.1)))], [(q 110, .inl (kA 0, 8, .inl pb))], [(q 111, .inl (kA 0, 8, .inl (z.2.2.2)))], [(q 112, .inl (kA 1, 6000, .inl (z.2.1)))]]) → va_S A s.heap H locs → lv_has ls 5 [(2, .int (nI n)), (1, .int (nI z.2.2.1)), (0, .ref h)] → W p l e R s m args below meth c H locs cells slots Q (F0 m 117 ls [])) :
    ∀ (k : Nat) (f my pm : Nat → Int32) (b : Nat), finf k n f = true → b + n * k ≤ 6000 → whl k n f pm b my = z → ∀ (H : Heap) (locs : List Loc) (ls : Array Slot), va_P D classes (cat [[(h, .inr (13, mF q x y))], [(q 96, .inl (kA 0, 26, .inl f))], [(q 110, .inl (kA 0, 8, .inl pb))], [(q 111, .inl (kA 0, 8, .inl my))], [(q 112, .inl (kA 1, 6000, .inl pm))]]) H → va_D A (cat [[(h, .inr (13, mF q x y))], [(q 96, .inl (kA 0, 26, .inl f))], [(q 110, .inl (kA 0, 8, .inl pb))], [(q 111, .inl (kA 0, 8, .inl my))], [(q 112, .inl (kA 1, 6000, .inl pm))]]) → va_S A s.heap H locs → lv_has ls 5 [(3, .int 1), (2, .int (nI n)), (1, .int (nI b)), (0, .ref h)] → W p l e R s m args below meth c H locs cells slots Q (F0 m 46 ls []) := by
  obtain ⟨hx, hb, hml, hown, hts, hr, hlk, hnm⟩ := id X
  intro k
  induction k with
  | zero =>
    intro f my pm b hfin
    simp [finf] at hfin
  | succ k ih =>
    intro f my pm b hfin hb6 hz H locs ls hP hD hS hl
    have hmul : n * (k + 1) = n * k + n := Nat.mul_succ n k
    refine lv_iload_n (pc := 46) hx hb d_Mo_permutations_46 rfl (lv_at hl 0 rfl) ?_
    refine lv_if_eq (pc := 47) (tgt := 117) hx hb d_Mo_permutations_47 (by decide) (fun c1 => absurd c1 (by decide)) (fun c1 => ?_)
    refine lv_iconst (pc := 50) (v := 0) hx hb d_Mo_permutations_50 (by decide) ?_
    refine lv_istore (pc := 51) (lv' := [(4, .int 0), (3, .int 1), (2, .int (nI n)), (1, .int (nI b)), (0, .ref h)]) hx hb d_Mo_permutations_51 hl (by decide) rfl (fun ls hl => ?_)
    refine lpB_Mo_permutations X hK h q x y f pb my pm n b hn (by omega) (fun H locs ls hP hD hS hl => ?_) n 0 (by omega) _ _ ls (by rw [cpB_0]; exact hP) (by rw [cpB_0]; exact hD) hS hl
    refine lv_iload_n (pc := 82) hx hb d_Mo_permutations_82 rfl (lv_at hl 3 rfl) ?_
    refine lv_iload_n (pc := 83) hx hb d_Mo_permutations_83 rfl (lv_at hl 2 rfl) ?_
    refine k_add (pc := 84) (x := b) (y := n) hx hb d_Mo_permutations_84 ?_
    refine lv_istore_n (pc := 85) (lv' := [(1, .int (nI (b + n))), (4, .int (nI n)), (3, .int 1), (2, .int (nI n)), (0, .ref h)]) hx hb d_Mo_permutations_85 rfl hl (by decide) rfl (fun ls hl => ?_)
    refine lv_aload_n (pc := 86) hx hb d_Mo_permutations_86 rfl (lv_at hl 4 rfl) ?_
    refine k_get (pc := 87) X hK hP 0 rfl rfl i_Mo 111 (by decide) wm_2543 rfl rfl d_Mo_permutations_87 ?_
    refine lv_iload_n (pc := 90) hx hb d_Mo_permutations_90 rfl (lv_at hl 3 rfl) ?_
    refine lv_dup2_11 (pc := 91) hx hb d_Mo_permutations_91 rfl rfl ?_
    refine k_ild (pc := 92) hx hb hK hP 3 0 rfl rfl (n) rfl (by omega) (by decide) d_Mo_permutations_92 ?_
    refine lv_iconst (pc := 93) (v := 1) hx hb d_Mo_permutations_93 (by decide) ?_
    refine lv_iadd (pc := 94) hx hb d_Mo_permutations_94 ?_
    refine k_ist (pc := 95) hx hb hK hP hD hS 3 0 rfl rfl (n) rfl (by omega) (by decide) d_Mo_permutations_95 (fun H locs hP hD hS => ?_)
    have hP : va_P D classes (cat [[(h, .inr (13, mF q x y))], [(q 96, .inl (kA 0, 26, .inl f))], [(q 110, .inl (kA 0, 8, .inl pb))], [(q 111, .inl (kA 0, 8, .inl (upd my n ((my n) + 1))))], [(q 112, .inl (kA 1, 6000, .inl (cpB pm b f n)))]]) H := hP
    have hD : va_D A (cat [[(h, .inr (13, mF q x y))], [(q 96, .inl (kA 0, 26, .inl f))], [(q 110, .inl (kA 0, 8, .inl pb))], [(q 111, .inl (kA 0, 8, .inl (upd my n ((my n) + 1))))], [(q 112, .inl (kA 1, 6000, .inl (cpB pm b f n)))]]) := hD
    refine lv_iload_n (pc := 96) hx hb d_Mo_permutations_96 rfl (lv_at hl 3 rfl) ?_
    rcases Nat.eq_zero_or_pos n with hn0 | hn0
    · subst hn0
      have e : ds f (0 - 1) = 0 := rfl
      simp only [whl] at hz
      rw [if_pos e] at hz
      subst hz
      refine lv_if_le (pc := 97) (tgt := 112) hx hb d_Mo_permutations_97 (by decide) (fun c1 => ?_) (fun c1 => absurd (by decide) c1)
      refine lv_iconst (pc := 112) (v := 0) hx hb d_Mo_permutations_112 (by decide) ?_
      refine lv_istore_n (pc := 113) (lv' := [(3, .int 0), (1, .int (nI (b + 0))), (4, .int (nI 0)), (2, .int (nI 0)), (0, .ref h)]) hx hb d_Mo_permutations_113 rfl hl (by decide) rfl (fun ls hl => ?_)
      refine lv_goto (pc := 114) (tgt := 46) hx hb d_Mo_permutations_114 (by decide) ?_
      refine lv_iload_n (pc := 46) hx hb d_Mo_permutations_46 rfl (lv_at hl 0 rfl) ?_
      refine lv_if_eq (pc := 47) (tgt := 117) hx hb d_Mo_permutations_47 (by decide) (fun c1 => ?_) (fun c1 => absurd (by decide) c1)
      exact hex H locs ls hP hD hS (lv_sub hl [3, 1, 4] rfl)
    · refine lv_if_le (pc := 97) (tgt := 112) hx hb d_Mo_permutations_97 (by decide) (fun c1 => absurd c1 (nI_nle hn0 (by omega))) (fun c1 => ?_)
      refine lv_aload_n (pc := 100) hx hb d_Mo_permutations_100 rfl (lv_at hl 4 rfl) ?_
      refine lv_iload_n (pc := 101) hx hb d_Mo_permutations_101 rfl (lv_at hl 3 rfl) ?_
      refine k_goI (gr := [[(q 110, .inl (kA 0, 8, .inl pb))], [(q 111, .inl (kA 0, 8, .inl (upd my n ((my n) + 1))))], [(q 112, .inl (kA 1, 6000, .inl (cpB pm b f n)))]]) (k_rV (pc := 102) (As := [.int (nI n)]) (rest := []) X (c_Mo_nextOrder l D kA h q x y f n (by omega) (by omega) H.size) rfl wm_2432 wm_9 wm_2429 wm_2431 wv_12_10 1 (by decide +kernel) ⟨hRf, hRl⟩ rfl rfl (va_recv hK hP (ci := 13) (q0 := 0) rfl rfl) (k_pre hN hK hP hD [0, 1] [2, 3, 4] 5 rfl (by decide) rfl) rfl hl.1 rfl (Nat.le_of_ble_eq_true rfl) d_Mo_permutations_102 ⟨hRc, hRs⟩) hP hD hS hA [0, 1] [2, 3, 4] 5 rfl (by decide) rfl rfl (fun r1 u2 H locs hu2 hP hD hS => ?_)
      have hP : va_P D classes (cat [[(q 110, .inl (kA 0, 8, .inl pb))], [(q 111, .inl (kA 0, 8, .inl (upd my n ((my n) + 1))))], [(q 112, .inl (kA 1, 6000, .inl (cpB pm b f n)))], [(h, .inr (13, mF q x y))], [(q 96, .inl (kA 0, 26, .inl (nof f n)))]]) H := hP
      have hD : va_D A (cat [[(q 110, .inl (kA 0, 8, .inl pb))], [(q 111, .inl (kA 0, 8, .inl (upd my n ((my n) + 1))))], [(q 112, .inl (kA 1, 6000, .inl (cpB pm b f n)))], [(h, .inr (13, mF q x y))], [(q 96, .inl (kA 0, 26, .inl (nof f n)))]]) := hD
      obtain ⟨hP, hD⟩ := k_ord (gc := [[(h, .inr (13, mF q x y))], [(q 96, .inl (kA 0, 26, .inl (nof f n)))], [(q 110, .inl (kA 0, 8, .inl pb))], [(q 111, .inl (kA 0, 8, .inl (upd my n ((my n) + 1))))], [(q 112, .inl (kA 1, 6000, .inl (cpB pm b f n)))]]) hP hD [3, 4, 0, 1, 2] 5 rfl (by decide) rfl
      by_cases hd : ds f (n - 1) = 0
      · rw [if_pos hd] at hu2
        subst hu2
        have e2 : nof f n = f := by unfold nof; rw [if_pos hd]
        rw [e2] at hP hD
        simp only [whl] at hz
        rw [if_pos hd] at hz
        subst hz
        refine lv_if_eq (pc := 105) (tgt := 112) hx hb d_Mo_permutations_105 (by decide) (fun c1 => ?_) (fun c1 => absurd (by decide) c1)
        refine lv_iconst (pc := 112) (v := 0) hx hb d_Mo_permutations_112 (by decide) ?_
        refine lv_istore_n (pc := 113) (lv' := [(3, .int 0), (1, .int (nI (b + n))), (4, .int (nI n)), (2, .int (nI n)), (0, .ref h)]) hx hb d_Mo_permutations_113 rfl hl (by decide) rfl (fun ls hl => ?_)
        refine lv_goto (pc := 114) (tgt := 46) hx hb d_Mo_permutations_114 (by decide) ?_
        refine lv_iload_n (pc := 46) hx hb d_Mo_permutations_46 rfl (lv_at hl 0 rfl) ?_
        refine lv_if_eq (pc := 47) (tgt := 117) hx hb d_Mo_permutations_47 (by decide) (fun c1 => ?_) (fun c1 => absurd (by decide) c1)
        exact hex H locs ls hP hD hS (lv_sub hl [3, 1, 4] rfl)
      · rw [if_neg hd] at hu2
        subst hu2
        simp only [whl] at hz
        rw [if_neg hd] at hz
        simp only [finf] at hfin
        rw [if_neg hd] at hfin
        refine lv_if_eq (pc := 105) (tgt := 112) hx hb d_Mo_permutations_105 (by decide) (fun c1 => absurd c1 (by decide)) (fun c1 => ?_)
        refine lv_iconst (pc := 108) (v := 1) hx hb d_Mo_permutations_108 (by decide) ?_
        refine lv_goto (pc := 109) (tgt := 113) hx hb d_Mo_permutations_109 (by decide) ?_
        refine lv_istore_n (pc := 113) (lv' := [(3, .int 1), (1, .int (nI (b + n))), (4, .int (nI n)), (2, .int (nI n)), (0, .ref h)]) hx hb d_Mo_permutations_113 rfl hl (by decide) rfl (fun ls hl => ?_)
        refine lv_goto (pc := 114) (tgt := 46) hx hb d_Mo_permutations_114 (by decide) ?_
        exact ih (nof f n) _ _ (b + n) hfin (by omega) hz H locs ls hP hD hS (lv_sub hl [0, 3, 1, 4] rfl)
def prm (f my pm pb : Nat → Int32) : Nat → (Nat → Int32) × (Nat → Int32) × Nat × (Nat → Int32) × (Nat → Int32)
  | 0 => (f, pm, 0, my, pb)
  | n + 1 => ((whl (fct n) n (idf (prm f my pm pb n).1 n) (prm f my pm pb n).2.1 (prm f my pm pb n).2.2.1 (upd (prm f my pm pb n).2.2.2.1 n 0)).1, (whl (fct n) n (idf (prm f my pm pb n).1 n) (prm f my pm pb n).2.1 (prm f my pm pb n).2.2.1 (upd (prm f my pm pb n).2.2.2.1 n 0)).2.1, (whl (fct n) n (idf (prm f my pm pb n).1 n) (prm f my pm pb n).2.1 (prm f my pm pb n).2.2.1 (upd (prm f my pm pb n).2.2.2.1 n 0)).2.2.1, (whl (fct n) n (idf (prm f my pm pb n).1 n) (prm f my pm pb n).2.1 (prm f my pm pb n).2.2.1 (upd (prm f my pm pb n).2.2.2.1 n 0)).2.2.2, upd (prm f my pm pb n).2.2.2.2 n (nI (prm f my pm pb n).2.2.1))
def bnd : Nat → Nat
  | 0 => 0
  | n + 1 => bnd n + n * fct n
theorem prm_at (f my pm pb : Nat → Int32) : ∀ n, (prm f my pm pb n).2.2.1 ≤ bnd n
  | 0 => Nat.le_refl 0
  | n + 1 => by
    have h1 := whl_at (fct n) n (idf (prm f my pm pb n).1 n) (prm f my pm pb n).2.1 (prm f my pm pb n).2.2.1 (upd (prm f my pm pb n).2.2.2.1 n 0)
    have h2 := prm_at f my pm pb n
    show (whl (fct n) n (idf (prm f my pm pb n).1 n) (prm f my pm pb n).2.1 (prm f my pm pb n).2.2.1 (upd (prm f my pm pb n).2.2.2.1 n 0)).2.2.1 ≤ bnd n + n * fct n
    omega
theorem bnd_ok : ∀ n, n ≤ 6 → bnd n + n * fct n ≤ 6000 := by decide
set_option maxRecDepth 100000 in
set_option maxHeartbeats 4000000 in
theorem lpD_Mo_permutations {p : Program} {l : Launch} {e : Env} {R : Room} {s : State} {m : MethodId} {args : Array Value} {below : List Frame} {meth : Method} {c : Code} {cells slots : Nat} {Q : State → Prop} {D : va_G} {kA : Nat → ClassId} {A : Nat → Prop} (hRf : 1 ≤ R.frames) (hRl : 26 ≤ R.locals) (hRc : cells ≤ R.cells) (hRs : slots ≤ R.slots) (hN : nst s) (hA : ∀ q : Nat, s.heap.size ≤ q → A q) (X : cx p s m args meth c b_Mo_permutations 5 none "DrawingHouseModel" "permutations") (hK : va_K D classes (TY kA) s) (h : Nat) (q : Nat → Nat) (x : Nat → Int32) (y : Nat → Int64) (f my pm pb : Nat → Int32)
    (hex : ∀ (H : Heap) (locs : List Loc) (ls : Array Slot), va_P D classes (cat [[(h, .inr (13, mF q x y))], [(q 96, .inl (kA 0, 26, .inl ((prm f my pm pb 7).1)))], [(q 110, .inl (kA 0, 8, .inl ((prm f my pm pb 7).2.2.2.2)))], [(q 111, .inl (kA 0, 8, .inl ((prm f my pm pb 7).2.2.2.1)))], [(q 112, .inl (kA 1, 6000, .inl ((prm f my pm pb 7).2.1)))]]) H → va_D A (cat [[(h, .inr (13, mF q x y))], [(q 96, .inl (kA 0, 26, .inl ((prm f my pm pb 7).1)))], [(q 110, .inl (kA 0, 8, .inl ((prm f my pm pb 7).2.2.2.2)))], [(q 111, .inl (kA 0, 8, .inl ((prm f my pm pb 7).2.2.2.1)))], [(q 112, .inl (kA 1, 6000, .inl ((prm f my pm pb 7).2.1)))]]) → va_S A s.heap H locs → W p l e R s m args below meth c H locs cells slots Q (F0 m 123 ls [])) :
    ∀ (k n : Nat), n + k = 7 → ∀ (H : Heap) (locs : List Loc) (ls : Array Slot), va_P D classes (cat [[(h, .inr (13, mF q x y))], [(q 96, .inl (kA 0, 26, .inl ((prm f my pm pb n).1)))], [(q 110, .inl (kA 0, 8, .inl ((prm f my pm pb n).2.2.2.2)))], [(q 111, .inl (kA 0, 8, .inl ((prm f my pm pb n).2.2.2.1)))], [(q 112, .inl (kA 1, 6000, .inl ((prm f my pm pb n).2.1)))]]) H → va_D A (cat [[(h, .inr (13, mF q x y))], [(q 96, .inl (kA 0, 26, .inl ((prm f my pm pb n).1)))], [(q 110, .inl (kA 0, 8, .inl ((prm f my pm pb n).2.2.2.2)))], [(q 111, .inl (kA 0, 8, .inl ((prm f my pm pb n).2.2.2.1)))], [(q 112, .inl (kA 1, 6000, .inl ((prm f my pm pb n).2.1)))]]) → va_S A s.heap H locs → lv_has ls 5 [(2, .int (nI n)), (1, .int (nI (prm f my pm pb n).2.2.1)), (0, .ref h)] → W p l e R s m args below meth c H locs cells slots Q (F0 m 4 ls []) := by
  obtain ⟨hx, hb, hml, hown, hts, hr, hlk, hnm⟩ := id X
  intro k
  induction k with
  | zero =>
    intro n hi H locs ls hP hD hS hl
    have hi : n = 7 := hi
    subst hi
    refine lv_iload_n (pc := 4) hx hb d_Mo_permutations_4 rfl (lv_at hl 0 rfl) ?_
    refine lv_bipush (pc := 5) (v := 6) hx hb d_Mo_permutations_5 (by decide) ?_
    refine k_cgt (pc := 7) (x := 7) (y := 6) (tgt := 123) hx hb (by decide) (by decide) d_Mo_permutations_7 (by decide) (fun c1 => ?_) (fun c1 => absurd c1 (by omega))
    exact hex H locs ls hP hD hS
  | succ k ih =>
    intro n hi H locs ls hP hD hS hl
    have hn6 : n ≤ 6 := by omega
    have hbb := bnd_ok n hn6
    have hat := prm_at f my pm pb n
    obtain ⟨t, ht⟩ : ∃ t, t = prm f my pm pb n := ⟨_, rfl⟩
    rw [← ht] at hP hD hl hat
    obtain ⟨z, hz⟩ : ∃ z, whl (fct n) n (idf t.1 n) t.2.1 t.2.2.1 (upd t.2.2.2.1 n 0) = z := ⟨_, rfl⟩
    have e : prm f my pm pb (n + 1) = (z.1, z.2.1, z.2.2.1, z.2.2.2, upd t.2.2.2.2 n (nI t.2.2.1)) := by rw [← hz, ht]; rfl
    refine lv_iload_n (pc := 4) hx hb d_Mo_permutations_4 rfl (lv_at hl 0 rfl) ?_
    refine lv_bipush (pc := 5) (v := 6) hx hb d_Mo_permutations_5 (by decide) ?_
    refine k_cgt (pc := 7) (x := n) (y := 6) (tgt := 123) hx hb (by omega) (by decide) d_Mo_permutations_7 (by decide) (fun c1 => absurd c1 (by omega)) (fun c1 => ?_)
    refine lv_aload_n (pc := 10) hx hb d_Mo_permutations_10 rfl (lv_at hl 2 rfl) ?_
    refine k_get (pc := 11) X hK hP 0 rfl rfl i_Mo 110 (by decide) wm_2542 rfl rfl d_Mo_permutations_11 ?_
    refine lv_iload_n (pc := 14) hx hb d_Mo_permutations_14 rfl (lv_at hl 0 rfl) ?_
    refine lv_iload_n (pc := 15) hx hb d_Mo_permutations_15 rfl (lv_at hl 1 rfl) ?_
    refine k_ist (pc := 16) hx hb hK hP hD hS 2 0 rfl rfl (n) rfl (by omega) (by decide) d_Mo_permutations_16 (fun H locs hP hD hS => ?_)
    have hP : va_P D classes (cat [[(h, .inr (13, mF q x y))], [(q 96, .inl (kA 0, 26, .inl (t.1)))], [(q 110, .inl (kA 0, 8, .inl (upd (t.2.2.2.2) n (nI (t.2.2.1)))))], [(q 111, .inl (kA 0, 8, .inl (t.2.2.2.1)))], [(q 112, .inl (kA 1, 6000, .inl (t.2.1)))]]) H := hP
    have hD : va_D A (cat [[(h, .inr (13, mF q x y))], [(q 96, .inl (kA 0, 26, .inl (t.1)))], [(q 110, .inl (kA 0, 8, .inl (upd (t.2.2.2.2) n (nI (t.2.2.1)))))], [(q 111, .inl (kA 0, 8, .inl (t.2.2.2.1)))], [(q 112, .inl (kA 1, 6000, .inl (t.2.1)))]]) := hD
    refine lv_aload_n (pc := 17) hx hb d_Mo_permutations_17 rfl (lv_at hl 2 rfl) ?_
    refine k_get (pc := 18) X hK hP 0 rfl rfl i_Mo 111 (by decide) wm_2543 rfl rfl d_Mo_permutations_18 ?_
    refine lv_iload_n (pc := 21) hx hb d_Mo_permutations_21 rfl (lv_at hl 0 rfl) ?_
    refine lv_iconst (pc := 22) (v := 0) hx hb d_Mo_permutations_22 (by decide) ?_
    refine k_ist (pc := 23) hx hb hK hP hD hS 3 0 rfl rfl (n) rfl (by omega) (by decide) d_Mo_permutations_23 (fun H locs hP hD hS => ?_)
    have hP : va_P D classes (cat [[(h, .inr (13, mF q x y))], [(q 96, .inl (kA 0, 26, .inl (t.1)))], [(q 110, .inl (kA 0, 8, .inl (upd (t.2.2.2.2) n (nI (t.2.2.1)))))], [(q 111, .inl (kA 0, 8, .inl (upd (t.2.2.2.1) n 0)))], [(q 112, .inl (kA 1, 6000, .inl (t.2.1)))]]) H := hP
    have hD : va_D A (cat [[(h, .inr (13, mF q x y))], [(q 96, .inl (kA 0, 26, .inl (t.1)))], [(q 110, .inl (kA 0, 8, .inl (upd (t.2.2.2.2) n (nI (t.2.2.1)))))], [(q 111, .inl (kA 0, 8, .inl (upd (t.2.2.2.1) n 0)))], [(q 112, .inl (kA 1, 6000, .inl (t.2.1)))]]) := hD
    refine lv_iconst (pc := 24) (v := 0) hx hb d_Mo_permutations_24 (by decide) ?_
    refine lv_istore_n (pc := 25) (lv' := [(3, .int 0), (2, .int (nI n)), (1, .int (nI (t.2.2.1))), (0, .ref h)]) hx hb d_Mo_permutations_25 rfl hl (by decide) rfl (fun ls hl => ?_)
    refine lpA_Mo_permutations X hK h q x y t.1 (upd t.2.2.2.2 n (nI t.2.2.1)) (upd t.2.2.2.1 n 0) t.2.1 n t.2.2.1 hn6 (by omega) (fun H locs ls hP hD hS hl => ?_) n 0 (by omega) _ _ ls (by rw [idf_0]; exact hP) (by rw [idf_0]; exact hD) hS (lv_sub hl [0, 1, 2, 3] rfl)
    refine lv_iconst (pc := 44) (v := 1) hx hb d_Mo_permutations_44 (by decide) ?_
    refine lv_istore_n (pc := 45) (lv' := [(3, .int 1), (2, .int (nI n)), (1, .int (nI (t.2.2.1))), (0, .ref h)]) hx hb d_Mo_permutations_45 rfl hl (by decide) rfl (fun ls hl => ?_)
    refine lpC_Mo_permutations hRf hRl hRc hRs hN hA X hK h q x y (upd t.2.2.2.2 n (nI t.2.2.1)) n hn6 z (fun H locs ls hP hD hS hl => ?_) (fct n) (idf t.1 n) (upd t.2.2.2.1 n 0) t.2.1 t.2.2.1 (finf_id t.1 n hn6) (by omega) hz _ _ ls hP hD hS (lv_sub hl [0, 1, 2, 3] rfl)
    refine lv_iinc (pc := 117) (v := nI (n + 1)) (lv' := [(2, .int (nI (n + 1))), (1, .int (nI (z.2.2.1))), (0, .ref h)]) hx hb d_Mo_permutations_117 hl (k := 0) rfl (nI_add _ 1) (by decide) rfl (fun ls hl => ?_)
    refine lv_goto (pc := 120) (tgt := 4) hx hb d_Mo_permutations_120 (by decide) ?_
    exact ih (n + 1) (by omega) H locs ls (by rw [e]; exact hP) (by rw [e]; exact hD) hS (by rw [e]; exact lv_sub hl [0, 1, 2] rfl)
set_option maxRecDepth 100000 in
set_option maxHeartbeats 4000000 in
/-- permutations() -/
theorem c_Mo_permutations (l : Launch) (D : va_G) (kA : Nat → ClassId) (h : Nat) (q : Nat → Nat) (x : Nat → Int32) (y : Nat → Int64) (f my pm pb : Nat → Int32) : Cv l y_Mo_permutations z_Mo_permutations { frames := 1, cells := 0, slots := 0, locals := 26 } D classes (TY kA) [.ref h] [[(h, .inr (13, mF q x y))], [(q 96, .inl (kA 0, 26, .inl f))], [(q 110, .inl (kA 0, 8, .inl pb))], [(q 111, .inl (kA 0, 8, .inl my))], [(q 112, .inl (kA 1, 6000, .inl pm))]] (fun _ : Unit => True) (fun _ => [[(h, .inr (13, mF q x y))], [(q 96, .inl (kA 0, 26, .inl ((prm f my pm pb 7).1)))], [(q 110, .inl (kA 0, 8, .inl ((prm f my pm pb 7).2.2.2.2)))], [(q 111, .inl (kA 0, 8, .inl ((prm f my pm pb 7).2.2.2.1)))], [(q 112, .inl (kA 1, 6000, .inl ((prm f my pm pb 7).2.1)))]]) 0 0 := by
  intro sz
  refine k_met (cc := b_Mo_permutations) (maxL := 5) (ret := none) (by decide) rfl (Nat.le_of_ble_eq_true rfl) (fun p e s m below meth c ls X hl hB => ?_)
  obtain ⟨hsz, hP, hK, hD0, hN⟩ := hB
  subst hsz
  have hD := hD0.self (sz := s.heap.size)
  generalize hAe : va_A (cat [[(h, .inr (13, mF q x y))], [(q 96, .inl (kA 0, 26, .inl f))], [(q 110, .inl (kA 0, 8, .inl pb))], [(q 111, .inl (kA 0, 8, .inl my))], [(q 112, .inl (kA 1, 6000, .inl pm))]]) s.heap.size = A at hD ⊢
  have hA : ∀ q : Nat, s.heap.size ≤ q → A q := fun q h => by rw [← hAe]; exact Or.inr h
  have hS : va_S A s.heap s.heap [] := va_S.rf
  obtain ⟨hx, hb, hml, hown, hts, hr, hlk, hnm⟩ := id X
  have hl : lv_has ls 5 [(0, .ref h)] := hl
  have hP : va_P D classes (cat [[(h, .inr (13, mF q x y))], [(q 96, .inl (kA 0, 26, .inl f))], [(q 110, .inl (kA 0, 8, .inl pb))], [(q 111, .inl (kA 0, 8, .inl my))], [(q 112, .inl (kA 1, 6000, .inl pm))]]) s.heap := hP
  have hK : va_K D classes (TY kA) s := hK
  refine lv_iconst (pc := 0) (v := 0) hx hb d_Mo_permutations_0 (by decide) ?_
  refine lv_istore_n (pc := 1) (lv' := [(1, .int 0), (0, .ref h)]) hx hb d_Mo_permutations_1 rfl hl (by decide) rfl (fun ls hl => ?_)
  refine lv_iconst (pc := 2) (v := 0) hx hb d_Mo_permutations_2 (by decide) ?_
  refine lv_istore_n (pc := 3) (lv' := [(2, .int 0), (1, .int 0), (0, .ref h)]) hx hb d_Mo_permutations_3 rfl hl (by decide) rfl (fun ls hl => ?_)
  refine lpD_Mo_permutations (Nat.le_of_ble_eq_true rfl) (Nat.le_of_ble_eq_true rfl) (Nat.le_of_ble_eq_true rfl) (Nat.le_of_ble_eq_true rfl) hN hA X hK h q x y f my pm pb (fun H locs ls hP hD hS => ?_) 7 0 (by omega) _ _ ls hP hD hS (lv_sub hl [0, 1, 2] rfl)
  refine W.widen (k := 0) (n := 0) (Nat.le_of_ble_eq_true rfl) (Nat.le_of_ble_eq_true rfl) ?_
  exact W.vret hx hb hr (fun t ht hW => ⟨⟨(), rfl, trivial, by rw [ht]; exact hP, va_K.moved hW.alike hK, hD⟩, hS.F ht⟩) hS.2.2 d_Mo_permutations_123
end
section
theorem d_Mo_rowOf_0 : decode b_Mo_rowOf 0 = .ok (.sipush 539, 3) := by decide +kernel
theorem d_Mo_rowOf_3 : decode b_Mo_rowOf 3 = .ok (.bipush 31, 2) := by decide +kernel
theorem d_Mo_rowOf_5 : decode b_Mo_rowOf 5 = .ok (.iload_n 0, 1) := by decide +kernel
theorem d_Mo_rowOf_6 : decode b_Mo_rowOf 6 = .ok (.imul, 1) := by decide +kernel
theorem d_Mo_rowOf_7 : decode b_Mo_rowOf 7 = .ok (.iload_n 1, 1) := by decide +kernel
theorem d_Mo_rowOf_8 : decode b_Mo_rowOf 8 = .ok (.iadd, 1) := by decide +kernel
theorem d_Mo_rowOf_9 : decode b_Mo_rowOf 9 = .ok (.imul, 1) := by decide +kernel
theorem d_Mo_rowOf_10 : decode b_Mo_rowOf 10 = .ok (.ireturn, 1) := by decide +kernel
set_option maxRecDepth 100000 in
set_option maxHeartbeats 4000000 in
/-- rowOf(g, k) -/
theorem c_Mo_rowOf (l : Launch) (D : va_G) (kA : Nat → ClassId) (g k : Nat) : Ci l y_Mo_rowOf z_Mo_rowOf { frames := 0, cells := 0, slots := 0, locals := 0 } D classes (TY kA) [.int (nI g), .int (nI k)] [] (fun r (_ : Unit) => r = nI (539 * (31 * g + k))) (fun _ => []) 0 0 := by
  intro sz
  refine k_met (cc := b_Mo_rowOf) (maxL := 2) (ret := (some .int)) (by decide) rfl (Nat.le_of_ble_eq_true rfl) (fun p e s m below meth c ls X hl hB => ?_)
  obtain ⟨hsz, hP, hK, hD0, hN⟩ := hB
  subst hsz
  have hD := hD0.self (sz := s.heap.size)
  generalize hAe : va_A (cat []) s.heap.size = A at hD ⊢
  have hA : ∀ q : Nat, s.heap.size ≤ q → A q := fun q h => by rw [← hAe]; exact Or.inr h
  have hS : va_S A s.heap s.heap [] := va_S.rf
  obtain ⟨hx, hb, hml, hown, hts, hr, hlk, hnm⟩ := id X
  have hl : lv_has ls 2 [(0, .int (nI g)), (1, .int (nI k))] := hl
  have hP : va_P D classes (cat []) s.heap := hP
  have hK : va_K D classes (TY kA) s := hK
  refine lv_sipush (pc := 0) (v := 539) hx hb d_Mo_rowOf_0 (by decide) ?_
  refine lv_bipush (pc := 3) (v := 31) hx hb d_Mo_rowOf_3 (by decide) ?_
  refine lv_iload_n (pc := 5) hx hb d_Mo_rowOf_5 rfl (lv_at hl 0 rfl) ?_
  refine k_mul (pc := 6) (x := 31) (y := g) hx hb d_Mo_rowOf_6 ?_
  refine lv_iload_n (pc := 7) hx hb d_Mo_rowOf_7 rfl (lv_at hl 1 rfl) ?_
  refine k_add (pc := 8) (x := 31 * g) (y := k) hx hb d_Mo_rowOf_8 ?_
  refine k_mul (pc := 9) (x := 539) (y := (31 * g) + k) hx hb d_Mo_rowOf_9 ?_
  refine W.widen (k := 0) (n := 0) (Nat.le_of_ble_eq_true rfl) (Nat.le_of_ble_eq_true rfl) ?_
  exact W.iret (v := nI (539 * (31 * g + k))) hx hb hr (fun t ht hW => ⟨⟨nI (539 * (31 * g + k)), (), rfl, rfl, by rw [ht]; exact hP, va_K.moved hW.alike hK, hD⟩, hS.F ht⟩) hS.2.2 d_Mo_rowOf_10
end
section
/-- an object of many fields: its fields as a function -/
def mG (n : Nat) (r : Nat → Value) : List Value := (List.range n).map r
def rup (r : Nat → Value) (k : Nat) (v : Value) : Nat → Value := fun j => if j = k then v else r j
theorem mG_set (n : Nat) (r : Nat → Value) (k : Nat) (v : Value) : (mG n r).set k v = mG n (rup r k v) := by
  refine List.ext_getElem? (fun i => ?_)
  unfold mG
  rw [List.getElem?_set, List.getElem?_map, List.getElem?_map]
  by_cases h : k = i
  · subst h
    rw [if_pos rfl]
    by_cases hk : k < n
    · rw [if_pos (by rw [List.length_map, List.length_range]; exact hk), List.getElem?_range hk]
      show some v = some (rup r k v k)
      simp [rup]
    · rw [if_neg (by rw [List.length_map, List.length_range]; exact hk), List.getElem?_eq_none (by rw [List.length_range]; omega)]; rfl
  · rw [if_neg h]
    by_cases hi : i < n
    · rw [List.getElem?_range hi]
      show some (r i) = some (rup r k v i)
      have h2 : ¬ i = k := fun e => h e.symm
      simp [rup, h2]
    · rw [List.getElem?_eq_none (by rw [List.length_range]; omega)]; rfl
section K3L
variable {p : Program} {l : Launch} {e : Env} {R : Room} {s : State} {m : MethodId} {args : Array Value} {below : List Frame} {meth : Method} {c : Code} {H : Heap} {locs : List Loc} {cells slots : Nat} {Q : State → Prop}
  {D : va_G} {cl : List vw_C} {tys : List (ClassId × FieldType)} {w : va_W} {A : Nat → Prop} {cc : ByteArray} {nL : Nat} {ret : Option FieldType} {own nm : String} {pc : Nat} {ls : Array Slot} {rest : List Value} {a : Nat}
theorem k_putG (X : cx p s m args meth c cc nL ret own nm) {ci : Nat} {r : Nat → Value} {C : String} {T : u_T} {N : Nat} (hK : va_K D cl tys s) (hP : va_P D cl ((a, .inr (ci, mG N r)) :: w) H) (hD : va_D A ((a, .inr (ci, mG N r)) :: w)) (hS : va_S A s.heap H locs) (hc : cl[ci]? = some (C, T, N)) (hi : ∀ w ∈ u_ws C T N, w ∈ lw_g) (ty0 : Nat → FieldType) (hty : ∀ k, k < N → parseFieldDescriptor (T k).2.2.1 = some (ty0 k)) (hnm : ∀ a, a < N → ∀ b, b < N → a ≠ b → (T a).2.1 ≠ (T b).2.1) (k : Nat) (hk : k < N) {index : Nat}
    (hl : Cond.fieldLink own index C (T k).2.1 (T k).2.2.1 ∈ lw_g) (ho : (T k).1 = C) (hfin : (T k).2.2.2 = false ∨ (nm = "<init>" ∧ C = own)) {v : Value} (hn : narrow (ty0 k) v = v) (hfit : fits (ty0 k) v = true) (hdg : decode cc pc = .ok (.putfield index, 3))
    (kk : ∀ (H1 : Heap) (locs1 : List Loc), va_P D cl ((a, .inr (ci, mG N (rup r k v))) :: w) H1 → va_D A ((a, .inr (ci, mG N (rup r k v))) :: w) → va_S A s.heap H1 locs1 → W p l e R s m args below meth c H1 locs1 cells slots Q (F0 m (pc + 3) ls rest)) : W p l e R s m args below meth c H locs cells slots Q (F0 m pc ls (v :: .ref a :: rest)) :=
  k_put X hK hP hD hS 0 rfl hc hi ty0 hty hnm k hk hl ho hfin hn hfit (by unfold mG; rw [List.length_map, List.length_range]; exact hk) hdg (fun H1 locs1 h1 h2 h3 => kk H1 locs1 (by rw [← mG_set]; exact h1) (by rw [← mG_set]; exact h2) h3)
theorem k_newC (X : cx p s m args meth c cc nL ret own nm) {atype : ArrayType} {ty : FieldType} (hty : newarray.typeOf atype = ty) (hp : refKind ty = false) (hw : Cond.arrayClass (newarray.typeOf atype) ∈ lw_g) {o : Nat × va_E} (hK : va_K D cl tys s) (hP : va_P D cl (o :: w) H) (hD : va_D A (o :: w)) (hS : va_S A s.heap H locs) (hA : ∀ q, s.heap.size ≤ q → A q) (t0 : Nat) {cA : ClassId} (ht : tys[t0]? = some (cA, ty))
    {n : Int32} {N' : Nat} {a0 : vp_A} (ha : ∀ cA : ClassId, vp_cell cA a0 = arrV cA N' (fun _ => defaultValue ty)) (hn : ¬ n < 0) (hN : n.toNatClampNeg = N') (hbytes : N' * componentBytes ty ≤ 536870912) (hcells : cells + 1 ≤ R.cells) (hslots : slots + N' ≤ R.slots) (hdg : decode cc pc = .ok (.newarray atype, 2))
    (kk : ∀ (q : Nat) (H1 : Heap), va_P D cl (o :: (q, .inl (cA, a0)) :: w) H1 → va_D A (o :: (q, .inl (cA, a0)) :: w) → va_S A s.heap H1 locs → W p l e R s m args below meth c H1 locs (cells + 1) (slots + N') Q (F0 m (pc + 2) ls (.ref q :: rest))) : W p l e R s m args below meth c H locs cells slots Q (F0 m pc ls (.int n :: rest)) := by
  have e0 : cat [o :: w] = o :: w := List.append_nil _
  refine k_newa X hty hp hw (sg := [o :: w]) hK (by rw [e0]; exact hP) (by rw [e0]; exact hD) hS hA t0 ht ha hn hN hbytes hcells hslots hdg (fun q H1 h1 h2 h3 => ?_)
  have e1 : cat ([o :: w] ++ [[(q, .inl (cA, a0))]]) = o :: (w ++ [(q, .inl (cA, a0))]) := rfl
  rw [e1] at h1 h2
  have hpm : (o :: (w ++ [(q, .inl (cA, a0))])).Perm (o :: (q, .inl (cA, a0)) :: w) := List.Perm.cons o List.perm_append_comm
  exact kk q H1 (vP_perm hpm h1) (vD_perm hpm h2) h3
end K3L
end
section
theorem wm_2413 : (Cond.code ({ cls := "DrawingHouseModel", name := "<init>", desc := "()V" } : MethodName) prog_15_method_1_code (2 : Nat) (Option.none : Option ClassFile.FieldType) : Cond) ∈ lw_g := lw_gi (lw_c11 (List.mem_of_getElem? (i := 13) rfl)) rfl
theorem wm_2414 : (Cond.methodLink "DrawingHouseModel" (3 : Nat) ({ cls := "java/lang/Object", name := "<init>", desc := "()V" } : MethodName) : Cond) ∈ lw_g := lw_gi (lw_c11 (List.mem_of_getElem? (i := 14) rfl)) rfl
theorem wm_2415 : (Cond.constant "DrawingHouseModel" (15 : Nat) (66836 : Int32) : Cond) ∈ lw_g := lw_gi (lw_c11 (List.mem_of_getElem? (i := 15) rfl)) rfl
theorem wm_2416 : (Cond.constant "DrawingHouseModel" (252 : Nat) (54720 : Int32) : Cond) ∈ lw_g := lw_gi (lw_c11 (List.mem_of_getElem? (i := 16) rfl)) rfl
theorem wm_2417 : (Cond.constant "DrawingHouseModel" (320 : Nat) (96040 : Int32) : Cond) ∈ lw_g := lw_gi (lw_c11 (List.mem_of_getElem? (i := 17) rfl)) rfl
theorem wm_2425 : (Cond.methodLink "DrawingHouseModel" (380 : Nat) ({ cls := "DrawingHouseModel", name := "permutations", desc := "()V" } : MethodName) : Cond) ∈ lw_g := lw_gi (lw_c11 (List.mem_of_getElem? (i := 25) rfl)) rfl
theorem wm_2427 : (Cond.instanceMethod ({ cls := "DrawingHouseModel", name := "permutations", desc := "()V" } : MethodName) : Cond) ∈ lw_g := lw_gi (lw_c11 (List.mem_of_getElem? (i := 27) rfl)) rfl
theorem wv_12_9 : (Cond.selects "DrawingHouseModel" ⟨"DrawingHouseModel", "permutations", "()V"⟩ ⟨"DrawingHouseModel", "permutations", "()V"⟩ : Cond) ∈ lw_g := lw_gi (List.mem_append_left _ (List.mem_map.mpr ⟨_, lw_v12 (List.mem_of_getElem? (i := 9) rfl), rfl⟩)) rfl
abbrev b_Mo_init : ByteArray := prog_15_method_1_code
def y_Mo_init : MethodName := ⟨"DrawingHouseModel", "<init>", "()V"⟩
abbrev z_Mo_init : List Cond := Cond.code y_Mo_init b_Mo_init 2 none :: lw_g
theorem d_Mo_init_0 : decode b_Mo_init 0 = .ok (.aload_n 0, 1) := by decide +kernel
theorem d_Mo_init_1 : decode b_Mo_init 1 = .ok (.invokespecial 3, 3) := by decide +kernel
theorem d_Mo_init_4 : decode b_Mo_init 4 = .ok (.aload_n 0, 1) := by decide +kernel
theorem d_Mo_init_5 : decode b_Mo_init 5 = .ok (.sipush 2000, 3) := by decide +kernel
theorem d_Mo_init_8 : decode b_Mo_init 8 = .ok (.newarray .byte, 2) := by decide +kernel
theorem d_Mo_init_10 : decode b_Mo_init 10 = .ok (.putfield 9, 3) := by decide +kernel
theorem d_Mo_init_13 : decode b_Mo_init 13 = .ok (.aload_n 0, 1) := by decide +kernel
theorem d_Mo_init_14 : decode b_Mo_init 14 = .ok (.ldc 15, 2) := by decide +kernel
theorem d_Mo_init_16 : decode b_Mo_init 16 = .ok (.newarray .int, 2) := by decide +kernel
theorem d_Mo_init_18 : decode b_Mo_init 18 = .ok (.putfield 16, 3) := by decide +kernel
theorem d_Mo_init_21 : decode b_Mo_init 21 = .ok (.aload_n 0, 1) := by decide +kernel
theorem d_Mo_init_22 : decode b_Mo_init 22 = .ok (.iconst 4, 1) := by decide +kernel
theorem d_Mo_init_23 : decode b_Mo_init 23 = .ok (.newarray .int, 2) := by decide +kernel
theorem d_Mo_init_25 : decode b_Mo_init 25 = .ok (.putfield 20, 3) := by decide +kernel
theorem d_Mo_init_28 : decode b_Mo_init 28 = .ok (.aload_n 0, 1) := by decide +kernel
theorem d_Mo_init_29 : decode b_Mo_init 29 = .ok (.iconst 4, 1) := by decide +kernel
theorem d_Mo_init_30 : decode b_Mo_init 30 = .ok (.newarray .int, 2) := by decide +kernel
theorem d_Mo_init_32 : decode b_Mo_init 32 = .ok (.putfield 23, 3) := by decide +kernel
theorem d_Mo_init_35 : decode b_Mo_init 35 = .ok (.aload_n 0, 1) := by decide +kernel
theorem d_Mo_init_36 : decode b_Mo_init 36 = .ok (.sipush 539, 3) := by decide +kernel
theorem d_Mo_init_39 : decode b_Mo_init 39 = .ok (.newarray .int, 2) := by decide +kernel
theorem d_Mo_init_41 : decode b_Mo_init 41 = .ok (.putfield 26, 3) := by decide +kernel
theorem d_Mo_init_44 : decode b_Mo_init 44 = .ok (.aload_n 0, 1) := by decide +kernel
theorem d_Mo_init_45 : decode b_Mo_init 45 = .ok (.bipush 25, 2) := by decide +kernel
theorem d_Mo_init_47 : decode b_Mo_init 47 = .ok (.newarray .int, 2) := by decide +kernel
theorem d_Mo_init_49 : decode b_Mo_init 49 = .ok (.putfield 29, 3) := by decide +kernel
theorem d_Mo_init_52 : decode b_Mo_init 52 = .ok (.aload_n 0, 1) := by decide +kernel
theorem d_Mo_init_53 : decode b_Mo_init 53 = .ok (.bipush 80, 2) := by decide +kernel
theorem d_Mo_init_55 : decode b_Mo_init 55 = .ok (.newarray .int, 2) := by decide +kernel
theorem d_Mo_init_57 : decode b_Mo_init 57 = .ok (.putfield 32, 3) := by decide +kernel
theorem d_Mo_init_60 : decode b_Mo_init 60 = .ok (.aload_n 0, 1) := by decide +kernel
theorem d_Mo_init_61 : decode b_Mo_init 61 = .ok (.bipush 24, 2) := by decide +kernel
theorem d_Mo_init_63 : decode b_Mo_init 63 = .ok (.newarray .int, 2) := by decide +kernel
theorem d_Mo_init_65 : decode b_Mo_init 65 = .ok (.putfield 35, 3) := by decide +kernel
theorem d_Mo_init_68 : decode b_Mo_init 68 = .ok (.aload_n 0, 1) := by decide +kernel
theorem d_Mo_init_69 : decode b_Mo_init 69 = .ok (.bipush 25, 2) := by decide +kernel
theorem d_Mo_init_71 : decode b_Mo_init 71 = .ok (.newarray .int, 2) := by decide +kernel
theorem d_Mo_init_73 : decode b_Mo_init 73 = .ok (.putfield 38, 3) := by decide +kernel
theorem d_Mo_init_76 : decode b_Mo_init 76 = .ok (.aload_n 0, 1) := by decide +kernel
theorem d_Mo_init_77 : decode b_Mo_init 77 = .ok (.bipush 100, 2) := by decide +kernel
theorem d_Mo_init_79 : decode b_Mo_init 79 = .ok (.newarray .int, 2) := by decide +kernel
theorem d_Mo_init_81 : decode b_Mo_init 81 = .ok (.putfield 41, 3) := by decide +kernel
theorem d_Mo_init_84 : decode b_Mo_init 84 = .ok (.aload_n 0, 1) := by decide +kernel
theorem d_Mo_init_85 : decode b_Mo_init 85 = .ok (.sipush 576, 3) := by decide +kernel
theorem d_Mo_init_88 : decode b_Mo_init 88 = .ok (.newarray .boolean, 2) := by decide +kernel
theorem d_Mo_init_90 : decode b_Mo_init 90 = .ok (.putfield 44, 3) := by decide +kernel
theorem d_Mo_init_93 : decode b_Mo_init 93 = .ok (.aload_n 0, 1) := by decide +kernel
theorem d_Mo_init_94 : decode b_Mo_init 94 = .ok (.bipush 25, 2) := by decide +kernel
theorem d_Mo_init_96 : decode b_Mo_init 96 = .ok (.newarray .boolean, 2) := by decide +kernel
theorem d_Mo_init_98 : decode b_Mo_init 98 = .ok (.putfield 48, 3) := by decide +kernel
theorem d_Mo_init_101 : decode b_Mo_init 101 = .ok (.aload_n 0, 1) := by decide +kernel
theorem d_Mo_init_102 : decode b_Mo_init 102 = .ok (.bipush 24, 2) := by decide +kernel
theorem d_Mo_init_104 : decode b_Mo_init 104 = .ok (.newarray .int, 2) := by decide +kernel
theorem d_Mo_init_106 : decode b_Mo_init 106 = .ok (.putfield 51, 3) := by decide +kernel
theorem d_Mo_init_109 : decode b_Mo_init 109 = .ok (.aload_n 0, 1) := by decide +kernel
theorem d_Mo_init_110 : decode b_Mo_init 110 = .ok (.bipush 24, 2) := by decide +kernel
theorem d_Mo_init_112 : decode b_Mo_init 112 = .ok (.newarray .int, 2) := by decide +kernel
theorem d_Mo_init_114 : decode b_Mo_init 114 = .ok (.putfield 54, 3) := by decide +kernel
theorem d_Mo_init_117 : decode b_Mo_init 117 = .ok (.aload_n 0, 1) := by decide +kernel
theorem d_Mo_init_118 : decode b_Mo_init 118 = .ok (.bipush 80, 2) := by decide +kernel
theorem d_Mo_init_120 : decode b_Mo_init 120 = .ok (.newarray .int, 2) := by decide +kernel
theorem d_Mo_init_122 : decode b_Mo_init 122 = .ok (.putfield 57, 3) := by decide +kernel
theorem d_Mo_init_125 : decode b_Mo_init 125 = .ok (.aload_n 0, 1) := by decide +kernel
theorem d_Mo_init_126 : decode b_Mo_init 126 = .ok (.bipush 80, 2) := by decide +kernel
theorem d_Mo_init_128 : decode b_Mo_init 128 = .ok (.newarray .int, 2) := by decide +kernel
theorem d_Mo_init_130 : decode b_Mo_init 130 = .ok (.putfield 60, 3) := by decide +kernel
theorem d_Mo_init_133 : decode b_Mo_init 133 = .ok (.aload_n 0, 1) := by decide +kernel
theorem d_Mo_init_134 : decode b_Mo_init 134 = .ok (.bipush 80, 2) := by decide +kernel
theorem d_Mo_init_136 : decode b_Mo_init 136 = .ok (.newarray .boolean, 2) := by decide +kernel
theorem d_Mo_init_138 : decode b_Mo_init 138 = .ok (.putfield 63, 3) := by decide +kernel
theorem d_Mo_init_141 : decode b_Mo_init 141 = .ok (.aload_n 0, 1) := by decide +kernel
theorem d_Mo_init_142 : decode b_Mo_init 142 = .ok (.bipush 26, 2) := by decide +kernel
theorem d_Mo_init_144 : decode b_Mo_init 144 = .ok (.newarray .int, 2) := by decide +kernel
theorem d_Mo_init_146 : decode b_Mo_init 146 = .ok (.putfield 66, 3) := by decide +kernel
theorem d_Mo_init_149 : decode b_Mo_init 149 = .ok (.aload_n 0, 1) := by decide +kernel
theorem d_Mo_init_150 : decode b_Mo_init 150 = .ok (.sipush 2080, 3) := by decide +kernel
theorem d_Mo_init_153 : decode b_Mo_init 153 = .ok (.newarray .int, 2) := by decide +kernel
theorem d_Mo_init_155 : decode b_Mo_init 155 = .ok (.putfield 69, 3) := by decide +kernel
theorem d_Mo_init_158 : decode b_Mo_init 158 = .ok (.aload_n 0, 1) := by decide +kernel
theorem d_Mo_init_159 : decode b_Mo_init 159 = .ok (.bipush 26, 2) := by decide +kernel
theorem d_Mo_init_161 : decode b_Mo_init 161 = .ok (.newarray .boolean, 2) := by decide +kernel
theorem d_Mo_init_163 : decode b_Mo_init 163 = .ok (.putfield 72, 3) := by decide +kernel
theorem d_Mo_init_166 : decode b_Mo_init 166 = .ok (.aload_n 0, 1) := by decide +kernel
theorem d_Mo_init_167 : decode b_Mo_init 167 = .ok (.bipush 120, 2) := by decide +kernel
theorem d_Mo_init_169 : decode b_Mo_init 169 = .ok (.newarray .int, 2) := by decide +kernel
theorem d_Mo_init_171 : decode b_Mo_init 171 = .ok (.putfield 75, 3) := by decide +kernel
theorem d_Mo_init_174 : decode b_Mo_init 174 = .ok (.aload_n 0, 1) := by decide +kernel
theorem d_Mo_init_175 : decode b_Mo_init 175 = .ok (.sipush 7200, 3) := by decide +kernel
theorem d_Mo_init_178 : decode b_Mo_init 178 = .ok (.newarray .int, 2) := by decide +kernel
theorem d_Mo_init_180 : decode b_Mo_init 180 = .ok (.putfield 78, 3) := by decide +kernel
theorem d_Mo_init_183 : decode b_Mo_init 183 = .ok (.aload_n 0, 1) := by decide +kernel
theorem d_Mo_init_184 : decode b_Mo_init 184 = .ok (.bipush 26, 2) := by decide +kernel
theorem d_Mo_init_186 : decode b_Mo_init 186 = .ok (.newarray .boolean, 2) := by decide +kernel
theorem d_Mo_init_188 : decode b_Mo_init 188 = .ok (.putfield 81, 3) := by decide +kernel
theorem d_Mo_init_191 : decode b_Mo_init 191 = .ok (.aload_n 0, 1) := by decide +kernel
theorem d_Mo_init_192 : decode b_Mo_init 192 = .ok (.bipush 80, 2) := by decide +kernel
theorem d_Mo_init_194 : decode b_Mo_init 194 = .ok (.newarray .boolean, 2) := by decide +kernel
theorem d_Mo_init_196 : decode b_Mo_init 196 = .ok (.putfield 84, 3) := by decide +kernel
theorem d_Mo_init_199 : decode b_Mo_init 199 = .ok (.aload_n 0, 1) := by decide +kernel
theorem d_Mo_init_200 : decode b_Mo_init 200 = .ok (.bipush 80, 2) := by decide +kernel
theorem d_Mo_init_202 : decode b_Mo_init 202 = .ok (.newarray .int, 2) := by decide +kernel
theorem d_Mo_init_204 : decode b_Mo_init 204 = .ok (.putfield 87, 3) := by decide +kernel
theorem d_Mo_init_207 : decode b_Mo_init 207 = .ok (.aload_n 0, 1) := by decide +kernel
theorem d_Mo_init_208 : decode b_Mo_init 208 = .ok (.bipush 30, 2) := by decide +kernel
theorem d_Mo_init_210 : decode b_Mo_init 210 = .ok (.newarray .int, 2) := by decide +kernel
theorem d_Mo_init_212 : decode b_Mo_init 212 = .ok (.putfield 90, 3) := by decide +kernel
theorem d_Mo_init_215 : decode b_Mo_init 215 = .ok (.aload_n 0, 1) := by decide +kernel
theorem d_Mo_init_216 : decode b_Mo_init 216 = .ok (.bipush 26, 2) := by decide +kernel
theorem d_Mo_init_218 : decode b_Mo_init 218 = .ok (.newarray .int, 2) := by decide +kernel
theorem d_Mo_init_220 : decode b_Mo_init 220 = .ok (.putfield 93, 3) := by decide +kernel
theorem d_Mo_init_223 : decode b_Mo_init 223 = .ok (.aload_n 0, 1) := by decide +kernel
theorem d_Mo_init_224 : decode b_Mo_init 224 = .ok (.bipush 80, 2) := by decide +kernel
theorem d_Mo_init_226 : decode b_Mo_init 226 = .ok (.newarray .int, 2) := by decide +kernel
theorem d_Mo_init_228 : decode b_Mo_init 228 = .ok (.putfield 96, 3) := by decide +kernel
theorem d_Mo_init_231 : decode b_Mo_init 231 = .ok (.aload_n 0, 1) := by decide +kernel
theorem d_Mo_init_232 : decode b_Mo_init 232 = .ok (.bipush 120, 2) := by decide +kernel
theorem d_Mo_init_234 : decode b_Mo_init 234 = .ok (.newarray .int, 2) := by decide +kernel
theorem d_Mo_init_236 : decode b_Mo_init 236 = .ok (.putfield 99, 3) := by decide +kernel
theorem d_Mo_init_239 : decode b_Mo_init 239 = .ok (.aload_n 0, 1) := by decide +kernel
theorem d_Mo_init_240 : decode b_Mo_init 240 = .ok (.bipush 30, 2) := by decide +kernel
theorem d_Mo_init_242 : decode b_Mo_init 242 = .ok (.newarray .int, 2) := by decide +kernel
theorem d_Mo_init_244 : decode b_Mo_init 244 = .ok (.putfield 102, 3) := by decide +kernel
theorem d_Mo_init_247 : decode b_Mo_init 247 = .ok (.aload_n 0, 1) := by decide +kernel
theorem d_Mo_init_248 : decode b_Mo_init 248 = .ok (.sipush 160, 3) := by decide +kernel
theorem d_Mo_init_251 : decode b_Mo_init 251 = .ok (.newarray .int, 2) := by decide +kernel
theorem d_Mo_init_253 : decode b_Mo_init 253 = .ok (.putfield 105, 3) := by decide +kernel
theorem d_Mo_init_256 : decode b_Mo_init 256 = .ok (.aload_n 0, 1) := by decide +kernel
theorem d_Mo_init_257 : decode b_Mo_init 257 = .ok (.sipush 160, 3) := by decide +kernel
theorem d_Mo_init_260 : decode b_Mo_init 260 = .ok (.newarray .int, 2) := by decide +kernel
theorem d_Mo_init_262 : decode b_Mo_init 262 = .ok (.putfield 108, 3) := by decide +kernel
theorem d_Mo_init_265 : decode b_Mo_init 265 = .ok (.aload_n 0, 1) := by decide +kernel
theorem d_Mo_init_266 : decode b_Mo_init 266 = .ok (.sipush 161, 3) := by decide +kernel
theorem d_Mo_init_269 : decode b_Mo_init 269 = .ok (.newarray .int, 2) := by decide +kernel
theorem d_Mo_init_271 : decode b_Mo_init 271 = .ok (.putfield 111, 3) := by decide +kernel
theorem d_Mo_init_274 : decode b_Mo_init 274 = .ok (.aload_n 0, 1) := by decide +kernel
theorem d_Mo_init_275 : decode b_Mo_init 275 = .ok (.sipush 160, 3) := by decide +kernel
theorem d_Mo_init_278 : decode b_Mo_init 278 = .ok (.newarray .int, 2) := by decide +kernel
theorem d_Mo_init_280 : decode b_Mo_init 280 = .ok (.putfield 114, 3) := by decide +kernel
theorem d_Mo_init_283 : decode b_Mo_init 283 = .ok (.aload_n 0, 1) := by decide +kernel
theorem d_Mo_init_284 : decode b_Mo_init 284 = .ok (.bipush 80, 2) := by decide +kernel
theorem d_Mo_init_286 : decode b_Mo_init 286 = .ok (.newarray .int, 2) := by decide +kernel
theorem d_Mo_init_288 : decode b_Mo_init 288 = .ok (.putfield 117, 3) := by decide +kernel
theorem d_Mo_init_291 : decode b_Mo_init 291 = .ok (.aload_n 0, 1) := by decide +kernel
theorem d_Mo_init_292 : decode b_Mo_init 292 = .ok (.iconst 4, 1) := by decide +kernel
theorem d_Mo_init_293 : decode b_Mo_init 293 = .ok (.newarray .int, 2) := by decide +kernel
theorem d_Mo_init_295 : decode b_Mo_init 295 = .ok (.dup, 1) := by decide +kernel
theorem d_Mo_init_296 : decode b_Mo_init 296 = .ok (.iconst 0, 1) := by decide +kernel
theorem d_Mo_init_297 : decode b_Mo_init 297 = .ok (.iconst (-1), 1) := by decide +kernel
theorem d_Mo_init_298 : decode b_Mo_init 298 = .ok (.iastore, 1) := by decide +kernel
theorem d_Mo_init_299 : decode b_Mo_init 299 = .ok (.dup, 1) := by decide +kernel
theorem d_Mo_init_300 : decode b_Mo_init 300 = .ok (.iconst 1, 1) := by decide +kernel
theorem d_Mo_init_301 : decode b_Mo_init 301 = .ok (.iconst (-1), 1) := by decide +kernel
theorem d_Mo_init_302 : decode b_Mo_init 302 = .ok (.iastore, 1) := by decide +kernel
theorem d_Mo_init_303 : decode b_Mo_init 303 = .ok (.dup, 1) := by decide +kernel
theorem d_Mo_init_304 : decode b_Mo_init 304 = .ok (.iconst 2, 1) := by decide +kernel
theorem d_Mo_init_305 : decode b_Mo_init 305 = .ok (.iconst (-1), 1) := by decide +kernel
theorem d_Mo_init_306 : decode b_Mo_init 306 = .ok (.iastore, 1) := by decide +kernel
theorem d_Mo_init_307 : decode b_Mo_init 307 = .ok (.dup, 1) := by decide +kernel
theorem d_Mo_init_308 : decode b_Mo_init 308 = .ok (.iconst 3, 1) := by decide +kernel
theorem d_Mo_init_309 : decode b_Mo_init 309 = .ok (.iconst (-1), 1) := by decide +kernel
theorem d_Mo_init_310 : decode b_Mo_init 310 = .ok (.iastore, 1) := by decide +kernel
theorem d_Mo_init_311 : decode b_Mo_init 311 = .ok (.putfield 120, 3) := by decide +kernel
theorem d_Mo_init_314 : decode b_Mo_init 314 = .ok (.aload_n 0, 1) := by decide +kernel
theorem d_Mo_init_315 : decode b_Mo_init 315 = .ok (.bipush 96, 2) := by decide +kernel
theorem d_Mo_init_317 : decode b_Mo_init 317 = .ok (.newarray .int, 2) := by decide +kernel
theorem d_Mo_init_319 : decode b_Mo_init 319 = .ok (.putfield 123, 3) := by decide +kernel
theorem d_Mo_init_322 : decode b_Mo_init 322 = .ok (.aload_n 0, 1) := by decide +kernel
theorem d_Mo_init_323 : decode b_Mo_init 323 = .ok (.bipush 96, 2) := by decide +kernel
theorem d_Mo_init_325 : decode b_Mo_init 325 = .ok (.newarray .int, 2) := by decide +kernel
theorem d_Mo_init_327 : decode b_Mo_init 327 = .ok (.putfield 126, 3) := by decide +kernel
end
section
theorem d_Mo_init_330 : decode b_Mo_init 330 = .ok (.aload_n 0, 1) := by decide +kernel
theorem d_Mo_init_331 : decode b_Mo_init 331 = .ok (.sipush 192, 3) := by decide +kernel
theorem d_Mo_init_334 : decode b_Mo_init 334 = .ok (.newarray .int, 2) := by decide +kernel
theorem d_Mo_init_336 : decode b_Mo_init 336 = .ok (.putfield 129, 3) := by decide +kernel
theorem d_Mo_init_339 : decode b_Mo_init 339 = .ok (.aload_n 0, 1) := by decide +kernel
theorem d_Mo_init_340 : decode b_Mo_init 340 = .ok (.sipush 4608, 3) := by decide +kernel
theorem d_Mo_init_343 : decode b_Mo_init 343 = .ok (.newarray .int, 2) := by decide +kernel
theorem d_Mo_init_345 : decode b_Mo_init 345 = .ok (.putfield 132, 3) := by decide +kernel
theorem d_Mo_init_348 : decode b_Mo_init 348 = .ok (.aload_n 0, 1) := by decide +kernel
theorem d_Mo_init_349 : decode b_Mo_init 349 = .ok (.sipush 4608, 3) := by decide +kernel
theorem d_Mo_init_352 : decode b_Mo_init 352 = .ok (.newarray .int, 2) := by decide +kernel
theorem d_Mo_init_354 : decode b_Mo_init 354 = .ok (.putfield 135, 3) := by decide +kernel
theorem d_Mo_init_357 : decode b_Mo_init 357 = .ok (.aload_n 0, 1) := by decide +kernel
theorem d_Mo_init_358 : decode b_Mo_init 358 = .ok (.iconst 4, 1) := by decide +kernel
theorem d_Mo_init_359 : decode b_Mo_init 359 = .ok (.newarray .int, 2) := by decide +kernel
theorem d_Mo_init_361 : decode b_Mo_init 361 = .ok (.putfield 138, 3) := by decide +kernel
theorem d_Mo_init_364 : decode b_Mo_init 364 = .ok (.aload_n 0, 1) := by decide +kernel
theorem d_Mo_init_365 : decode b_Mo_init 365 = .ok (.iconst 4, 1) := by decide +kernel
theorem d_Mo_init_366 : decode b_Mo_init 366 = .ok (.newarray .int, 2) := by decide +kernel
theorem d_Mo_init_368 : decode b_Mo_init 368 = .ok (.putfield 141, 3) := by decide +kernel
theorem d_Mo_init_371 : decode b_Mo_init 371 = .ok (.aload_n 0, 1) := by decide +kernel
theorem d_Mo_init_372 : decode b_Mo_init 372 = .ok (.bipush 96, 2) := by decide +kernel
theorem d_Mo_init_374 : decode b_Mo_init 374 = .ok (.newarray .int, 2) := by decide +kernel
theorem d_Mo_init_376 : decode b_Mo_init 376 = .ok (.putfield 144, 3) := by decide +kernel
theorem d_Mo_init_379 : decode b_Mo_init 379 = .ok (.aload_n 0, 1) := by decide +kernel
theorem d_Mo_init_380 : decode b_Mo_init 380 = .ok (.sipush 192, 3) := by decide +kernel
theorem d_Mo_init_383 : decode b_Mo_init 383 = .ok (.newarray .int, 2) := by decide +kernel
theorem d_Mo_init_385 : decode b_Mo_init 385 = .ok (.putfield 147, 3) := by decide +kernel
theorem d_Mo_init_388 : decode b_Mo_init 388 = .ok (.aload_n 0, 1) := by decide +kernel
theorem d_Mo_init_389 : decode b_Mo_init 389 = .ok (.sipush 384, 3) := by decide +kernel
theorem d_Mo_init_392 : decode b_Mo_init 392 = .ok (.newarray .int, 2) := by decide +kernel
theorem d_Mo_init_394 : decode b_Mo_init 394 = .ok (.putfield 150, 3) := by decide +kernel
theorem d_Mo_init_397 : decode b_Mo_init 397 = .ok (.aload_n 0, 1) := by decide +kernel
theorem d_Mo_init_398 : decode b_Mo_init 398 = .ok (.sipush 128, 3) := by decide +kernel
theorem d_Mo_init_401 : decode b_Mo_init 401 = .ok (.newarray .int, 2) := by decide +kernel
theorem d_Mo_init_403 : decode b_Mo_init 403 = .ok (.putfield 153, 3) := by decide +kernel
theorem d_Mo_init_406 : decode b_Mo_init 406 = .ok (.aload_n 0, 1) := by decide +kernel
theorem d_Mo_init_407 : decode b_Mo_init 407 = .ok (.sipush 864, 3) := by decide +kernel
theorem d_Mo_init_410 : decode b_Mo_init 410 = .ok (.newarray .int, 2) := by decide +kernel
theorem d_Mo_init_412 : decode b_Mo_init 412 = .ok (.putfield 156, 3) := by decide +kernel
theorem d_Mo_init_415 : decode b_Mo_init 415 = .ok (.aload_n 0, 1) := by decide +kernel
theorem d_Mo_init_416 : decode b_Mo_init 416 = .ok (.bipush 100, 2) := by decide +kernel
theorem d_Mo_init_418 : decode b_Mo_init 418 = .ok (.newarray .int, 2) := by decide +kernel
theorem d_Mo_init_420 : decode b_Mo_init 420 = .ok (.putfield 159, 3) := by decide +kernel
theorem d_Mo_init_423 : decode b_Mo_init 423 = .ok (.aload_n 0, 1) := by decide +kernel
theorem d_Mo_init_424 : decode b_Mo_init 424 = .ok (.bipush 100, 2) := by decide +kernel
theorem d_Mo_init_426 : decode b_Mo_init 426 = .ok (.newarray .int, 2) := by decide +kernel
theorem d_Mo_init_428 : decode b_Mo_init 428 = .ok (.putfield 162, 3) := by decide +kernel
theorem d_Mo_init_431 : decode b_Mo_init 431 = .ok (.aload_n 0, 1) := by decide +kernel
theorem d_Mo_init_432 : decode b_Mo_init 432 = .ok (.bipush 48, 2) := by decide +kernel
theorem d_Mo_init_434 : decode b_Mo_init 434 = .ok (.newarray .int, 2) := by decide +kernel
theorem d_Mo_init_436 : decode b_Mo_init 436 = .ok (.putfield 165, 3) := by decide +kernel
theorem d_Mo_init_439 : decode b_Mo_init 439 = .ok (.aload_n 0, 1) := by decide +kernel
theorem d_Mo_init_440 : decode b_Mo_init 440 = .ok (.sipush 1152, 3) := by decide +kernel
theorem d_Mo_init_443 : decode b_Mo_init 443 = .ok (.newarray .int, 2) := by decide +kernel
theorem d_Mo_init_445 : decode b_Mo_init 445 = .ok (.putfield 168, 3) := by decide +kernel
theorem d_Mo_init_448 : decode b_Mo_init 448 = .ok (.aload_n 0, 1) := by decide +kernel
theorem d_Mo_init_449 : decode b_Mo_init 449 = .ok (.sipush 1152, 3) := by decide +kernel
theorem d_Mo_init_452 : decode b_Mo_init 452 = .ok (.newarray .int, 2) := by decide +kernel
theorem d_Mo_init_454 : decode b_Mo_init 454 = .ok (.putfield 171, 3) := by decide +kernel
theorem d_Mo_init_457 : decode b_Mo_init 457 = .ok (.aload_n 0, 1) := by decide +kernel
theorem d_Mo_init_458 : decode b_Mo_init 458 = .ok (.bipush 76, 2) := by decide +kernel
theorem d_Mo_init_460 : decode b_Mo_init 460 = .ok (.newarray .int, 2) := by decide +kernel
theorem d_Mo_init_462 : decode b_Mo_init 462 = .ok (.putfield 174, 3) := by decide +kernel
theorem d_Mo_init_465 : decode b_Mo_init 465 = .ok (.aload_n 0, 1) := by decide +kernel
theorem d_Mo_init_466 : decode b_Mo_init 466 = .ok (.sipush 200, 3) := by decide +kernel
theorem d_Mo_init_469 : decode b_Mo_init 469 = .ok (.newarray .int, 2) := by decide +kernel
theorem d_Mo_init_471 : decode b_Mo_init 471 = .ok (.putfield 177, 3) := by decide +kernel
theorem d_Mo_init_474 : decode b_Mo_init 474 = .ok (.aload_n 0, 1) := by decide +kernel
theorem d_Mo_init_475 : decode b_Mo_init 475 = .ok (.sipush 200, 3) := by decide +kernel
theorem d_Mo_init_478 : decode b_Mo_init 478 = .ok (.newarray .int, 2) := by decide +kernel
theorem d_Mo_init_480 : decode b_Mo_init 480 = .ok (.putfield 180, 3) := by decide +kernel
theorem d_Mo_init_483 : decode b_Mo_init 483 = .ok (.aload_n 0, 1) := by decide +kernel
theorem d_Mo_init_484 : decode b_Mo_init 484 = .ok (.sipush 200, 3) := by decide +kernel
theorem d_Mo_init_487 : decode b_Mo_init 487 = .ok (.newarray .int, 2) := by decide +kernel
theorem d_Mo_init_489 : decode b_Mo_init 489 = .ok (.putfield 183, 3) := by decide +kernel
theorem d_Mo_init_492 : decode b_Mo_init 492 = .ok (.aload_n 0, 1) := by decide +kernel
theorem d_Mo_init_493 : decode b_Mo_init 493 = .ok (.sipush 200, 3) := by decide +kernel
theorem d_Mo_init_496 : decode b_Mo_init 496 = .ok (.newarray .boolean, 2) := by decide +kernel
theorem d_Mo_init_498 : decode b_Mo_init 498 = .ok (.putfield 186, 3) := by decide +kernel
theorem d_Mo_init_501 : decode b_Mo_init 501 = .ok (.aload_n 0, 1) := by decide +kernel
theorem d_Mo_init_502 : decode b_Mo_init 502 = .ok (.sipush 200, 3) := by decide +kernel
theorem d_Mo_init_505 : decode b_Mo_init 505 = .ok (.newarray .int, 2) := by decide +kernel
theorem d_Mo_init_507 : decode b_Mo_init 507 = .ok (.putfield 189, 3) := by decide +kernel
theorem d_Mo_init_510 : decode b_Mo_init 510 = .ok (.aload_n 0, 1) := by decide +kernel
theorem d_Mo_init_511 : decode b_Mo_init 511 = .ok (.sipush 200, 3) := by decide +kernel
theorem d_Mo_init_514 : decode b_Mo_init 514 = .ok (.newarray .int, 2) := by decide +kernel
theorem d_Mo_init_516 : decode b_Mo_init 516 = .ok (.putfield 192, 3) := by decide +kernel
theorem d_Mo_init_519 : decode b_Mo_init 519 = .ok (.aload_n 0, 1) := by decide +kernel
theorem d_Mo_init_520 : decode b_Mo_init 520 = .ok (.sipush 200, 3) := by decide +kernel
theorem d_Mo_init_523 : decode b_Mo_init 523 = .ok (.newarray .int, 2) := by decide +kernel
theorem d_Mo_init_525 : decode b_Mo_init 525 = .ok (.putfield 195, 3) := by decide +kernel
theorem d_Mo_init_528 : decode b_Mo_init 528 = .ok (.aload_n 0, 1) := by decide +kernel
theorem d_Mo_init_529 : decode b_Mo_init 529 = .ok (.sipush 6084, 3) := by decide +kernel
theorem d_Mo_init_532 : decode b_Mo_init 532 = .ok (.newarray .int, 2) := by decide +kernel
theorem d_Mo_init_534 : decode b_Mo_init 534 = .ok (.putfield 198, 3) := by decide +kernel
theorem d_Mo_init_537 : decode b_Mo_init 537 = .ok (.aload_n 0, 1) := by decide +kernel
theorem d_Mo_init_538 : decode b_Mo_init 538 = .ok (.bipush 78, 2) := by decide +kernel
theorem d_Mo_init_540 : decode b_Mo_init 540 = .ok (.newarray .int, 2) := by decide +kernel
theorem d_Mo_init_542 : decode b_Mo_init 542 = .ok (.putfield 201, 3) := by decide +kernel
theorem d_Mo_init_545 : decode b_Mo_init 545 = .ok (.aload_n 0, 1) := by decide +kernel
theorem d_Mo_init_546 : decode b_Mo_init 546 = .ok (.bipush 100, 2) := by decide +kernel
theorem d_Mo_init_548 : decode b_Mo_init 548 = .ok (.newarray .int, 2) := by decide +kernel
theorem d_Mo_init_550 : decode b_Mo_init 550 = .ok (.putfield 204, 3) := by decide +kernel
theorem d_Mo_init_553 : decode b_Mo_init 553 = .ok (.aload_n 0, 1) := by decide +kernel
theorem d_Mo_init_554 : decode b_Mo_init 554 = .ok (.bipush 78, 2) := by decide +kernel
theorem d_Mo_init_556 : decode b_Mo_init 556 = .ok (.newarray .int, 2) := by decide +kernel
theorem d_Mo_init_558 : decode b_Mo_init 558 = .ok (.putfield 207, 3) := by decide +kernel
theorem d_Mo_init_561 : decode b_Mo_init 561 = .ok (.aload_n 0, 1) := by decide +kernel
theorem d_Mo_init_562 : decode b_Mo_init 562 = .ok (.bipush 48, 2) := by decide +kernel
theorem d_Mo_init_564 : decode b_Mo_init 564 = .ok (.newarray .boolean, 2) := by decide +kernel
theorem d_Mo_init_566 : decode b_Mo_init 566 = .ok (.putfield 210, 3) := by decide +kernel
theorem d_Mo_init_569 : decode b_Mo_init 569 = .ok (.aload_n 0, 1) := by decide +kernel
theorem d_Mo_init_570 : decode b_Mo_init 570 = .ok (.bipush 26, 2) := by decide +kernel
theorem d_Mo_init_572 : decode b_Mo_init 572 = .ok (.newarray .int, 2) := by decide +kernel
theorem d_Mo_init_574 : decode b_Mo_init 574 = .ok (.putfield 213, 3) := by decide +kernel
theorem d_Mo_init_577 : decode b_Mo_init 577 = .ok (.aload_n 0, 1) := by decide +kernel
theorem d_Mo_init_578 : decode b_Mo_init 578 = .ok (.bipush 26, 2) := by decide +kernel
theorem d_Mo_init_580 : decode b_Mo_init 580 = .ok (.newarray .int, 2) := by decide +kernel
theorem d_Mo_init_582 : decode b_Mo_init 582 = .ok (.putfield 216, 3) := by decide +kernel
theorem d_Mo_init_585 : decode b_Mo_init 585 = .ok (.aload_n 0, 1) := by decide +kernel
theorem d_Mo_init_586 : decode b_Mo_init 586 = .ok (.bipush 26, 2) := by decide +kernel
theorem d_Mo_init_588 : decode b_Mo_init 588 = .ok (.newarray .int, 2) := by decide +kernel
theorem d_Mo_init_590 : decode b_Mo_init 590 = .ok (.putfield 219, 3) := by decide +kernel
theorem d_Mo_init_593 : decode b_Mo_init 593 = .ok (.aload_n 0, 1) := by decide +kernel
theorem d_Mo_init_594 : decode b_Mo_init 594 = .ok (.bipush 76, 2) := by decide +kernel
theorem d_Mo_init_596 : decode b_Mo_init 596 = .ok (.newarray .int, 2) := by decide +kernel
theorem d_Mo_init_598 : decode b_Mo_init 598 = .ok (.putfield 222, 3) := by decide +kernel
theorem d_Mo_init_601 : decode b_Mo_init 601 = .ok (.aload_n 0, 1) := by decide +kernel
theorem d_Mo_init_602 : decode b_Mo_init 602 = .ok (.bipush 76, 2) := by decide +kernel
theorem d_Mo_init_604 : decode b_Mo_init 604 = .ok (.newarray .int, 2) := by decide +kernel
theorem d_Mo_init_606 : decode b_Mo_init 606 = .ok (.putfield 225, 3) := by decide +kernel
theorem d_Mo_init_609 : decode b_Mo_init 609 = .ok (.aload_n 0, 1) := by decide +kernel
theorem d_Mo_init_610 : decode b_Mo_init 610 = .ok (.bipush 48, 2) := by decide +kernel
theorem d_Mo_init_612 : decode b_Mo_init 612 = .ok (.newarray .int, 2) := by decide +kernel
theorem d_Mo_init_614 : decode b_Mo_init 614 = .ok (.putfield 228, 3) := by decide +kernel
theorem d_Mo_init_617 : decode b_Mo_init 617 = .ok (.aload_n 0, 1) := by decide +kernel
theorem d_Mo_init_618 : decode b_Mo_init 618 = .ok (.bipush 76, 2) := by decide +kernel
theorem d_Mo_init_620 : decode b_Mo_init 620 = .ok (.newarray .int, 2) := by decide +kernel
theorem d_Mo_init_622 : decode b_Mo_init 622 = .ok (.putfield 231, 3) := by decide +kernel
theorem d_Mo_init_625 : decode b_Mo_init 625 = .ok (.aload_n 0, 1) := by decide +kernel
theorem d_Mo_init_626 : decode b_Mo_init 626 = .ok (.sipush 5776, 3) := by decide +kernel
theorem d_Mo_init_629 : decode b_Mo_init 629 = .ok (.newarray .int, 2) := by decide +kernel
theorem d_Mo_init_631 : decode b_Mo_init 631 = .ok (.putfield 234, 3) := by decide +kernel
theorem d_Mo_init_634 : decode b_Mo_init 634 = .ok (.aload_n 0, 1) := by decide +kernel
theorem d_Mo_init_635 : decode b_Mo_init 635 = .ok (.sipush 130, 3) := by decide +kernel
theorem d_Mo_init_638 : decode b_Mo_init 638 = .ok (.newarray .int, 2) := by decide +kernel
theorem d_Mo_init_640 : decode b_Mo_init 640 = .ok (.putfield 237, 3) := by decide +kernel
theorem d_Mo_init_643 : decode b_Mo_init 643 = .ok (.aload_n 0, 1) := by decide +kernel
theorem d_Mo_init_644 : decode b_Mo_init 644 = .ok (.sipush 130, 3) := by decide +kernel
theorem d_Mo_init_647 : decode b_Mo_init 647 = .ok (.newarray .int, 2) := by decide +kernel
theorem d_Mo_init_649 : decode b_Mo_init 649 = .ok (.putfield 240, 3) := by decide +kernel
theorem d_Mo_init_652 : decode b_Mo_init 652 = .ok (.aload_n 0, 1) := by decide +kernel
theorem d_Mo_init_653 : decode b_Mo_init 653 = .ok (.bipush 8, 2) := by decide +kernel
theorem d_Mo_init_655 : decode b_Mo_init 655 = .ok (.newarray .int, 2) := by decide +kernel
theorem d_Mo_init_657 : decode b_Mo_init 657 = .ok (.putfield 243, 3) := by decide +kernel
theorem d_Mo_init_660 : decode b_Mo_init 660 = .ok (.aload_n 0, 1) := by decide +kernel
theorem d_Mo_init_661 : decode b_Mo_init 661 = .ok (.bipush 8, 2) := by decide +kernel
theorem d_Mo_init_663 : decode b_Mo_init 663 = .ok (.newarray .int, 2) := by decide +kernel
theorem d_Mo_init_665 : decode b_Mo_init 665 = .ok (.putfield 246, 3) := by decide +kernel
theorem d_Mo_init_668 : decode b_Mo_init 668 = .ok (.aload_n 0, 1) := by decide +kernel
theorem d_Mo_init_669 : decode b_Mo_init 669 = .ok (.sipush 6000, 3) := by decide +kernel
theorem d_Mo_init_672 : decode b_Mo_init 672 = .ok (.newarray .byte, 2) := by decide +kernel
theorem d_Mo_init_674 : decode b_Mo_init 674 = .ok (.putfield 249, 3) := by decide +kernel
theorem d_Mo_init_677 : decode b_Mo_init 677 = .ok (.aload_n 0, 1) := by decide +kernel
theorem d_Mo_init_678 : decode b_Mo_init 678 = .ok (.ldc 252, 2) := by decide +kernel
theorem d_Mo_init_680 : decode b_Mo_init 680 = .ok (.newarray .int, 2) := by decide +kernel
theorem d_Mo_init_682 : decode b_Mo_init 682 = .ok (.putfield 253, 3) := by decide +kernel
theorem d_Mo_init_685 : decode b_Mo_init 685 = .ok (.aload_n 0, 1) := by decide +kernel
theorem d_Mo_init_686 : decode b_Mo_init 686 = .ok (.bipush 36, 2) := by decide +kernel
end
section
theorem d_Mo_init_688 : decode b_Mo_init 688 = .ok (.newarray .int, 2) := by decide +kernel
theorem d_Mo_init_690 : decode b_Mo_init 690 = .ok (.putfield 256, 3) := by decide +kernel
theorem d_Mo_init_693 : decode b_Mo_init 693 = .ok (.aload_n 0, 1) := by decide +kernel
theorem d_Mo_init_694 : decode b_Mo_init 694 = .ok (.bipush 76, 2) := by decide +kernel
theorem d_Mo_init_696 : decode b_Mo_init 696 = .ok (.newarray .int, 2) := by decide +kernel
theorem d_Mo_init_698 : decode b_Mo_init 698 = .ok (.putfield 259, 3) := by decide +kernel
theorem d_Mo_init_701 : decode b_Mo_init 701 = .ok (.aload_n 0, 1) := by decide +kernel
theorem d_Mo_init_702 : decode b_Mo_init 702 = .ok (.bipush 6, 2) := by decide +kernel
theorem d_Mo_init_704 : decode b_Mo_init 704 = .ok (.newarray .int, 2) := by decide +kernel
theorem d_Mo_init_706 : decode b_Mo_init 706 = .ok (.putfield 262, 3) := by decide +kernel
theorem d_Mo_init_709 : decode b_Mo_init 709 = .ok (.aload_n 0, 1) := by decide +kernel
theorem d_Mo_init_710 : decode b_Mo_init 710 = .ok (.bipush 100, 2) := by decide +kernel
theorem d_Mo_init_712 : decode b_Mo_init 712 = .ok (.newarray .int, 2) := by decide +kernel
theorem d_Mo_init_714 : decode b_Mo_init 714 = .ok (.putfield 265, 3) := by decide +kernel
theorem d_Mo_init_717 : decode b_Mo_init 717 = .ok (.aload_n 0, 1) := by decide +kernel
theorem d_Mo_init_718 : decode b_Mo_init 718 = .ok (.sipush 5776, 3) := by decide +kernel
theorem d_Mo_init_721 : decode b_Mo_init 721 = .ok (.newarray .int, 2) := by decide +kernel
theorem d_Mo_init_723 : decode b_Mo_init 723 = .ok (.putfield 268, 3) := by decide +kernel
theorem d_Mo_init_726 : decode b_Mo_init 726 = .ok (.aload_n 0, 1) := by decide +kernel
theorem d_Mo_init_727 : decode b_Mo_init 727 = .ok (.bipush 76, 2) := by decide +kernel
theorem d_Mo_init_729 : decode b_Mo_init 729 = .ok (.newarray .long, 2) := by decide +kernel
theorem d_Mo_init_731 : decode b_Mo_init 731 = .ok (.putfield 271, 3) := by decide +kernel
theorem d_Mo_init_734 : decode b_Mo_init 734 = .ok (.aload_n 0, 1) := by decide +kernel
theorem d_Mo_init_735 : decode b_Mo_init 735 = .ok (.bipush 76, 2) := by decide +kernel
theorem d_Mo_init_737 : decode b_Mo_init 737 = .ok (.newarray .long, 2) := by decide +kernel
theorem d_Mo_init_739 : decode b_Mo_init 739 = .ok (.putfield 275, 3) := by decide +kernel
theorem d_Mo_init_742 : decode b_Mo_init 742 = .ok (.aload_n 0, 1) := by decide +kernel
theorem d_Mo_init_743 : decode b_Mo_init 743 = .ok (.bipush 30, 2) := by decide +kernel
theorem d_Mo_init_745 : decode b_Mo_init 745 = .ok (.newarray .int, 2) := by decide +kernel
theorem d_Mo_init_747 : decode b_Mo_init 747 = .ok (.putfield 278, 3) := by decide +kernel
theorem d_Mo_init_750 : decode b_Mo_init 750 = .ok (.aload_n 0, 1) := by decide +kernel
theorem d_Mo_init_751 : decode b_Mo_init 751 = .ok (.bipush 26, 2) := by decide +kernel
theorem d_Mo_init_753 : decode b_Mo_init 753 = .ok (.newarray .int, 2) := by decide +kernel
theorem d_Mo_init_755 : decode b_Mo_init 755 = .ok (.putfield 281, 3) := by decide +kernel
theorem d_Mo_init_758 : decode b_Mo_init 758 = .ok (.aload_n 0, 1) := by decide +kernel
theorem d_Mo_init_759 : decode b_Mo_init 759 = .ok (.bipush 26, 2) := by decide +kernel
theorem d_Mo_init_761 : decode b_Mo_init 761 = .ok (.newarray .int, 2) := by decide +kernel
theorem d_Mo_init_763 : decode b_Mo_init 763 = .ok (.putfield 284, 3) := by decide +kernel
theorem d_Mo_init_766 : decode b_Mo_init 766 = .ok (.aload_n 0, 1) := by decide +kernel
theorem d_Mo_init_767 : decode b_Mo_init 767 = .ok (.bipush 26, 2) := by decide +kernel
theorem d_Mo_init_769 : decode b_Mo_init 769 = .ok (.newarray .int, 2) := by decide +kernel
theorem d_Mo_init_771 : decode b_Mo_init 771 = .ok (.putfield 287, 3) := by decide +kernel
theorem d_Mo_init_774 : decode b_Mo_init 774 = .ok (.aload_n 0, 1) := by decide +kernel
theorem d_Mo_init_775 : decode b_Mo_init 775 = .ok (.bipush 26, 2) := by decide +kernel
theorem d_Mo_init_777 : decode b_Mo_init 777 = .ok (.newarray .int, 2) := by decide +kernel
theorem d_Mo_init_779 : decode b_Mo_init 779 = .ok (.putfield 290, 3) := by decide +kernel
theorem d_Mo_init_782 : decode b_Mo_init 782 = .ok (.aload_n 0, 1) := by decide +kernel
theorem d_Mo_init_783 : decode b_Mo_init 783 = .ok (.bipush 26, 2) := by decide +kernel
theorem d_Mo_init_785 : decode b_Mo_init 785 = .ok (.newarray .int, 2) := by decide +kernel
theorem d_Mo_init_787 : decode b_Mo_init 787 = .ok (.putfield 293, 3) := by decide +kernel
theorem d_Mo_init_790 : decode b_Mo_init 790 = .ok (.aload_n 0, 1) := by decide +kernel
theorem d_Mo_init_791 : decode b_Mo_init 791 = .ok (.bipush 26, 2) := by decide +kernel
theorem d_Mo_init_793 : decode b_Mo_init 793 = .ok (.newarray .int, 2) := by decide +kernel
theorem d_Mo_init_795 : decode b_Mo_init 795 = .ok (.putfield 296, 3) := by decide +kernel
theorem d_Mo_init_798 : decode b_Mo_init 798 = .ok (.aload_n 0, 1) := by decide +kernel
theorem d_Mo_init_799 : decode b_Mo_init 799 = .ok (.bipush 40, 2) := by decide +kernel
theorem d_Mo_init_801 : decode b_Mo_init 801 = .ok (.newarray .int, 2) := by decide +kernel
theorem d_Mo_init_803 : decode b_Mo_init 803 = .ok (.putfield 299, 3) := by decide +kernel
theorem d_Mo_init_806 : decode b_Mo_init 806 = .ok (.aload_n 0, 1) := by decide +kernel
theorem d_Mo_init_807 : decode b_Mo_init 807 = .ok (.bipush 40, 2) := by decide +kernel
theorem d_Mo_init_809 : decode b_Mo_init 809 = .ok (.newarray .int, 2) := by decide +kernel
theorem d_Mo_init_811 : decode b_Mo_init 811 = .ok (.putfield 302, 3) := by decide +kernel
theorem d_Mo_init_814 : decode b_Mo_init 814 = .ok (.aload_n 0, 1) := by decide +kernel
theorem d_Mo_init_815 : decode b_Mo_init 815 = .ok (.bipush 26, 2) := by decide +kernel
theorem d_Mo_init_817 : decode b_Mo_init 817 = .ok (.newarray .long, 2) := by decide +kernel
theorem d_Mo_init_819 : decode b_Mo_init 819 = .ok (.putfield 305, 3) := by decide +kernel
theorem d_Mo_init_822 : decode b_Mo_init 822 = .ok (.aload_n 0, 1) := by decide +kernel
theorem d_Mo_init_823 : decode b_Mo_init 823 = .ok (.bipush 26, 2) := by decide +kernel
theorem d_Mo_init_825 : decode b_Mo_init 825 = .ok (.newarray .long, 2) := by decide +kernel
theorem d_Mo_init_827 : decode b_Mo_init 827 = .ok (.putfield 308, 3) := by decide +kernel
theorem d_Mo_init_830 : decode b_Mo_init 830 = .ok (.aload_n 0, 1) := by decide +kernel
theorem d_Mo_init_831 : decode b_Mo_init 831 = .ok (.bipush 26, 2) := by decide +kernel
theorem d_Mo_init_833 : decode b_Mo_init 833 = .ok (.newarray .long, 2) := by decide +kernel
theorem d_Mo_init_835 : decode b_Mo_init 835 = .ok (.putfield 311, 3) := by decide +kernel
theorem d_Mo_init_838 : decode b_Mo_init 838 = .ok (.aload_n 0, 1) := by decide +kernel
theorem d_Mo_init_839 : decode b_Mo_init 839 = .ok (.bipush 26, 2) := by decide +kernel
theorem d_Mo_init_841 : decode b_Mo_init 841 = .ok (.newarray .long, 2) := by decide +kernel
theorem d_Mo_init_843 : decode b_Mo_init 843 = .ok (.putfield 314, 3) := by decide +kernel
theorem d_Mo_init_846 : decode b_Mo_init 846 = .ok (.aload_n 0, 1) := by decide +kernel
theorem d_Mo_init_847 : decode b_Mo_init 847 = .ok (.sipush 24000, 3) := by decide +kernel
theorem d_Mo_init_850 : decode b_Mo_init 850 = .ok (.newarray .int, 2) := by decide +kernel
theorem d_Mo_init_852 : decode b_Mo_init 852 = .ok (.putfield 317, 3) := by decide +kernel
theorem d_Mo_init_855 : decode b_Mo_init 855 = .ok (.aload_n 0, 1) := by decide +kernel
theorem d_Mo_init_856 : decode b_Mo_init 856 = .ok (.ldc_w 320, 3) := by decide +kernel
theorem d_Mo_init_859 : decode b_Mo_init 859 = .ok (.newarray .int, 2) := by decide +kernel
theorem d_Mo_init_861 : decode b_Mo_init 861 = .ok (.putfield 321, 3) := by decide +kernel
theorem d_Mo_init_864 : decode b_Mo_init 864 = .ok (.aload_n 0, 1) := by decide +kernel
theorem d_Mo_init_865 : decode b_Mo_init 865 = .ok (.iconst 4, 1) := by decide +kernel
theorem d_Mo_init_866 : decode b_Mo_init 866 = .ok (.newarray .int, 2) := by decide +kernel
theorem d_Mo_init_868 : decode b_Mo_init 868 = .ok (.putfield 324, 3) := by decide +kernel
theorem d_Mo_init_871 : decode b_Mo_init 871 = .ok (.aload_n 0, 1) := by decide +kernel
theorem d_Mo_init_872 : decode b_Mo_init 872 = .ok (.sipush 6000, 3) := by decide +kernel
theorem d_Mo_init_875 : decode b_Mo_init 875 = .ok (.newarray .boolean, 2) := by decide +kernel
theorem d_Mo_init_877 : decode b_Mo_init 877 = .ok (.putfield 327, 3) := by decide +kernel
theorem d_Mo_init_880 : decode b_Mo_init 880 = .ok (.aload_n 0, 1) := by decide +kernel
theorem d_Mo_init_881 : decode b_Mo_init 881 = .ok (.bipush 26, 2) := by decide +kernel
theorem d_Mo_init_883 : decode b_Mo_init 883 = .ok (.newarray .int, 2) := by decide +kernel
theorem d_Mo_init_885 : decode b_Mo_init 885 = .ok (.putfield 330, 3) := by decide +kernel
theorem d_Mo_init_888 : decode b_Mo_init 888 = .ok (.aload_n 0, 1) := by decide +kernel
theorem d_Mo_init_889 : decode b_Mo_init 889 = .ok (.bipush 26, 2) := by decide +kernel
theorem d_Mo_init_891 : decode b_Mo_init 891 = .ok (.newarray .int, 2) := by decide +kernel
theorem d_Mo_init_893 : decode b_Mo_init 893 = .ok (.putfield 333, 3) := by decide +kernel
theorem d_Mo_init_896 : decode b_Mo_init 896 = .ok (.aload_n 0, 1) := by decide +kernel
theorem d_Mo_init_897 : decode b_Mo_init 897 = .ok (.bipush 48, 2) := by decide +kernel
theorem d_Mo_init_899 : decode b_Mo_init 899 = .ok (.newarray .int, 2) := by decide +kernel
theorem d_Mo_init_901 : decode b_Mo_init 901 = .ok (.putfield 336, 3) := by decide +kernel
theorem d_Mo_init_904 : decode b_Mo_init 904 = .ok (.aload_n 0, 1) := by decide +kernel
theorem d_Mo_init_905 : decode b_Mo_init 905 = .ok (.bipush 48, 2) := by decide +kernel
theorem d_Mo_init_907 : decode b_Mo_init 907 = .ok (.newarray .int, 2) := by decide +kernel
theorem d_Mo_init_909 : decode b_Mo_init 909 = .ok (.putfield 339, 3) := by decide +kernel
theorem d_Mo_init_912 : decode b_Mo_init 912 = .ok (.aload_n 0, 1) := by decide +kernel
theorem d_Mo_init_913 : decode b_Mo_init 913 = .ok (.sipush 2010, 3) := by decide +kernel
theorem d_Mo_init_916 : decode b_Mo_init 916 = .ok (.newarray .int, 2) := by decide +kernel
theorem d_Mo_init_918 : decode b_Mo_init 918 = .ok (.putfield 342, 3) := by decide +kernel
theorem d_Mo_init_921 : decode b_Mo_init 921 = .ok (.aload_n 0, 1) := by decide +kernel
theorem d_Mo_init_922 : decode b_Mo_init 922 = .ok (.sipush 2010, 3) := by decide +kernel
theorem d_Mo_init_925 : decode b_Mo_init 925 = .ok (.newarray .long, 2) := by decide +kernel
theorem d_Mo_init_927 : decode b_Mo_init 927 = .ok (.putfield 345, 3) := by decide +kernel
theorem d_Mo_init_930 : decode b_Mo_init 930 = .ok (.aload_n 0, 1) := by decide +kernel
theorem d_Mo_init_931 : decode b_Mo_init 931 = .ok (.sipush 2010, 3) := by decide +kernel
theorem d_Mo_init_934 : decode b_Mo_init 934 = .ok (.newarray .int, 2) := by decide +kernel
theorem d_Mo_init_936 : decode b_Mo_init 936 = .ok (.putfield 348, 3) := by decide +kernel
theorem d_Mo_init_939 : decode b_Mo_init 939 = .ok (.aload_n 0, 1) := by decide +kernel
theorem d_Mo_init_940 : decode b_Mo_init 940 = .ok (.sipush 2010, 3) := by decide +kernel
theorem d_Mo_init_943 : decode b_Mo_init 943 = .ok (.newarray .int, 2) := by decide +kernel
theorem d_Mo_init_945 : decode b_Mo_init 945 = .ok (.putfield 351, 3) := by decide +kernel
theorem d_Mo_init_948 : decode b_Mo_init 948 = .ok (.aload_n 0, 1) := by decide +kernel
theorem d_Mo_init_949 : decode b_Mo_init 949 = .ok (.bipush 26, 2) := by decide +kernel
theorem d_Mo_init_951 : decode b_Mo_init 951 = .ok (.newarray .int, 2) := by decide +kernel
theorem d_Mo_init_953 : decode b_Mo_init 953 = .ok (.putfield 354, 3) := by decide +kernel
theorem d_Mo_init_956 : decode b_Mo_init 956 = .ok (.aload_n 0, 1) := by decide +kernel
theorem d_Mo_init_957 : decode b_Mo_init 957 = .ok (.bipush 26, 2) := by decide +kernel
theorem d_Mo_init_959 : decode b_Mo_init 959 = .ok (.newarray .int, 2) := by decide +kernel
theorem d_Mo_init_961 : decode b_Mo_init 961 = .ok (.putfield 357, 3) := by decide +kernel
theorem d_Mo_init_964 : decode b_Mo_init 964 = .ok (.aload_n 0, 1) := by decide +kernel
theorem d_Mo_init_965 : decode b_Mo_init 965 = .ok (.bipush 48, 2) := by decide +kernel
theorem d_Mo_init_967 : decode b_Mo_init 967 = .ok (.newarray .boolean, 2) := by decide +kernel
theorem d_Mo_init_969 : decode b_Mo_init 969 = .ok (.putfield 360, 3) := by decide +kernel
theorem d_Mo_init_972 : decode b_Mo_init 972 = .ok (.aload_n 0, 1) := by decide +kernel
theorem d_Mo_init_973 : decode b_Mo_init 973 = .ok (.sipush 4000, 3) := by decide +kernel
theorem d_Mo_init_976 : decode b_Mo_init 976 = .ok (.newarray .byte, 2) := by decide +kernel
theorem d_Mo_init_978 : decode b_Mo_init 978 = .ok (.putfield 363, 3) := by decide +kernel
theorem d_Mo_init_981 : decode b_Mo_init 981 = .ok (.aload_n 0, 1) := by decide +kernel
theorem d_Mo_init_982 : decode b_Mo_init 982 = .ok (.sipush 4000, 3) := by decide +kernel
theorem d_Mo_init_985 : decode b_Mo_init 985 = .ok (.newarray .byte, 2) := by decide +kernel
theorem d_Mo_init_987 : decode b_Mo_init 987 = .ok (.putfield 366, 3) := by decide +kernel
theorem d_Mo_init_990 : decode b_Mo_init 990 = .ok (.aload_n 0, 1) := by decide +kernel
theorem d_Mo_init_991 : decode b_Mo_init 991 = .ok (.sipush 4096, 3) := by decide +kernel
theorem d_Mo_init_994 : decode b_Mo_init 994 = .ok (.newarray .int, 2) := by decide +kernel
theorem d_Mo_init_996 : decode b_Mo_init 996 = .ok (.putfield 369, 3) := by decide +kernel
theorem d_Mo_init_999 : decode b_Mo_init 999 = .ok (.iconst 0, 1) := by decide +kernel
theorem d_Mo_init_1000 : decode b_Mo_init 1000 = .ok (.istore_n 1, 1) := by decide +kernel
theorem d_Mo_init_1001 : decode b_Mo_init 1001 = .ok (.iload_n 1, 1) := by decide +kernel
theorem d_Mo_init_1002 : decode b_Mo_init 1002 = .ok (.iconst 4, 1) := by decide +kernel
theorem d_Mo_init_1003 : decode b_Mo_init 1003 = .ok (.if_icmp .ge 18, 3) := by decide +kernel
theorem d_Mo_init_1006 : decode b_Mo_init 1006 = .ok (.aload_n 0, 1) := by decide +kernel
theorem d_Mo_init_1007 : decode b_Mo_init 1007 = .ok (.iload_n 1, 1) := by decide +kernel
theorem d_Mo_init_1008 : decode b_Mo_init 1008 = .ok (.iconst 0, 1) := by decide +kernel
theorem d_Mo_init_1009 : decode b_Mo_init 1009 = .ok (.invokestatic 372, 3) := by decide +kernel
theorem d_Mo_init_1012 : decode b_Mo_init 1012 = .ok (.invokevirtual 376, 3) := by decide +kernel
theorem d_Mo_init_1015 : decode b_Mo_init 1015 = .ok (.iinc 1 1, 3) := by decide +kernel
theorem d_Mo_init_1018 : decode b_Mo_init 1018 = .ok (.goto (-17), 3) := by decide +kernel
theorem d_Mo_init_1021 : decode b_Mo_init 1021 = .ok (.aload_n 0, 1) := by decide +kernel
theorem d_Mo_init_1022 : decode b_Mo_init 1022 = .ok (.invokevirtual 380, 3) := by decide +kernel
theorem d_Mo_init_1025 : decode b_Mo_init 1025 = .ok (.return_, 1) := by decide +kernel
end
section
abbrev f0Mo : List Value := [.int 0, .null, .null, .null, .null, .int 0, .null, .int 0, .int 0, .int 0, .int 0, .int 0, .int 0, .int 0, .int 0, .int 0, .null, .null, .null, .null, .null, .null, .null, .null, .null, .int 0, .int 0, .int 0, .int 0, .int 0, .int 0, .int 0, .int 0, .null, .null, .null, .null, .null, .null, .int 0, .null, .null, .null, .null, .null, .int 0, .null, .int 0, .null, .int 0, .null, .null, .null, .int 0, .null, .null, .null, .null, .int 0, .int 0, .null, .null, .null, .null, .null, .null, .null, .null, .null, .null, .null, .null, .null, .null, .null, .null, .null, .null, .null, .int 0, .int 0, .int 0, .null, .null, .null, .null, .null, .null, .null, .null, .null, .null, .null, .null, .int 0, .null, .null, .null, .null, .int 0, .int 0, .int 0, .null, .null, .null, .null, .null, .int 0, .null, .null, .null, .null, .null, .null, .null, .null, .null, .null, .null, .null, .null, .int 0, .null, .null, .null, .int 0, .null, .null, .null, .null, .null, .null, .int 0, .long 0, .long 0, .null, .null, .null, .null, .int 0, .null, .null, .null, .null, .int 0, .int 0, .int 0, .int 0, .null, .null, .int 0, .null, .null, .int 0, .int 0, .int 0, .int 0, .int 0, .int 0, .int 0, .null, .null, .null, .null, .int 0, .int 0, .null, .null, .null, .int 0, .int 0, .null, .null, .int 0, .int 0, .null]
set_option maxRecDepth 20000 in
theorem f0Mo_ok : ∀ j, j < 176 → defaultValue (t_Mo j) = vp_V f0Mo j := by decide +kernel
def x0Mo : Nat → Int32 := fun k => match k with | _ => 0
def y0Mo : Nat → Int64 := fun k => match k with | _ => 0
def a0Mo : Nat → Nat → Int32 := fun k => match k with | 61 => upd (upd (upd (upd (fun _ => 0) 0 (-1)) 1 (-1)) 2 (-1)) 3 (-1) | _ => fun _ => 0
def wMr (kA : Nat → ClassId) (q : Nat → Nat) (a : Nat → Nat → Int32) (b : Nat → Nat → Int64) : va_W := [(q 1, .inl (kA 1, 2000, .inl (a 1))), (q 3, .inl (kA 0, 4, .inl (a 3))), (q 4, .inl (kA 0, 4, .inl (a 4))), (q 6, .inl (kA 0, 539, .inl (a 6))), (q 16, .inl (kA 0, 25, .inl (a 16))), (q 17, .inl (kA 0, 80, .inl (a 17))), (q 18, .inl (kA 0, 24, .inl (a 18))), (q 19, .inl (kA 0, 25, .inl (a 19))), (q 20, .inl (kA 0, 100, .inl (a 20))), (q 21, .inl (kA 2, 576, .inl (a 21))), (q 22, .inl (kA 2, 25, .inl (a 22))), (q 23, .inl (kA 0, 24, .inl (a 23))), (q 24, .inl (kA 0, 24, .inl (a 24))), (q 33, .inl (kA 0, 80, .inl (a 33))), (q 34, .inl (kA 0, 80, .inl (a 34))), (q 35, .inl (kA 2, 80, .inl (a 35))), (q 36, .inl (kA 0, 26, .inl (a 36))), (q 37, .inl (kA 0, 2080, .inl (a 37))), (q 38, .inl (kA 2, 26, .inl (a 38))), (q 40, .inl (kA 0, 120, .inl (a 40))), (q 41, .inl (kA 0, 7200, .inl (a 41))), (q 42, .inl (kA 2, 26, .inl (a 42))), (q 43, .inl (kA 2, 80, .inl (a 43))), (q 44, .inl (kA 0, 80, .inl (a 44))), (q 46, .inl (kA 0, 30, .inl (a 46))), (q 48, .inl (kA 0, 26, .inl (a 48))), (q 50, .inl (kA 0, 80, .inl (a 50))), (q 51, .inl (kA 0, 120, .inl (a 51))), (q 52, .inl (kA 0, 30, .inl (a 52))), (q 54, .inl (kA 0, 160, .inl (a 54))), (q 55, .inl (kA 0, 160, .inl (a 55))), (q 56, .inl (kA 0, 161, .inl (a 56))), (q 57, .inl (kA 0, 160, .inl (a 57))), (q 60, .inl (kA 0, 80, .inl (a 60))), (q 61, .inl (kA 0, 4, .inl (a 61))), (q 62, .inl (kA 0, 96, .inl (a 62))), (q 63, .inl (kA 0, 96, .inl (a 63))), (q 64, .inl (kA 0, 192, .inl (a 64))), (q 65, .inl (kA 0, 4608, .inl (a 65))), (q 66, .inl (kA 0, 4608, .inl (a 66))), (q 67, .inl (kA 0, 4, .inl (a 67))), (q 68, .inl (kA 0, 4, .inl (a 68))), (q 69, .inl (kA 0, 96, .inl (a 69))), (q 70, .inl (kA 0, 192, .inl (a 70))), (q 71, .inl (kA 0, 384, .inl (a 71))), (q 72, .inl (kA 0, 128, .inl (a 72))), (q 73, .inl (kA 0, 864, .inl (a 73))), (q 74, .inl (kA 0, 100, .inl (a 74))), (q 75, .inl (kA 0, 100, .inl (a 75))), (q 76, .inl (kA 0, 48, .inl (a 76))), (q 77, .inl (kA 0, 1152, .inl (a 77))), (q 78, .inl (kA 0, 1152, .inl (a 78))), (q 82, .inl (kA 0, 76, .inl (a 82))), (q 83, .inl (kA 0, 200, .inl (a 83))), (q 84, .inl (kA 0, 200, .inl (a 84))), (q 85, .inl (kA 0, 200, .inl (a 85))), (q 86, .inl (kA 2, 200, .inl (a 86))), (q 87, .inl (kA 0, 200, .inl (a 87))), (q 88, .inl (kA 0, 200, .inl (a 88))), (q 89, .inl (kA 0, 200, .inl (a 89))), (q 90, .inl (kA 0, 6084, .inl (a 90))), (q 91, .inl (kA 0, 78, .inl (a 91))), (q 92, .inl (kA 0, 100, .inl (a 92))), (q 93, .inl (kA 0, 78, .inl (a 93))), (q 95, .inl (kA 2, 48, .inl (a 95))), (q 97, .inl (kA 0, 26, .inl (a 97))), (q 98, .inl (kA 0, 26, .inl (a 98))), (q 102, .inl (kA 0, 76, .inl (a 102))), (q 103, .inl (kA 0, 76, .inl (a 103))), (q 104, .inl (kA 0, 48, .inl (a 104))), (q 105, .inl (kA 0, 76, .inl (a 105))), (q 106, .inl (kA 0, 5776, .inl (a 106))), (q 108, .inl (kA 0, 130, .inl (a 108))), (q 109, .inl (kA 0, 130, .inl (a 109))), (q 113, .inl (kA 0, 54720, .inl (a 113))), (q 114, .inl (kA 0, 36, .inl (a 114))), (q 115, .inl (kA 0, 76, .inl (a 115))), (q 116, .inl (kA 0, 6, .inl (a 116))), (q 117, .inl (kA 0, 100, .inl (a 117))), (q 118, .inl (kA 0, 5776, .inl (a 118))), (q 119, .inl (kA 3, 76, .inr (.inl (b 119)))), (q 120, .inl (kA 3, 76, .inr (.inl (b 120)))), (q 122, .inl (kA 0, 30, .inl (a 122))), (q 123, .inl (kA 0, 26, .inl (a 123))), (q 124, .inl (kA 0, 26, .inl (a 124))), (q 126, .inl (kA 0, 26, .inl (a 126))), (q 127, .inl (kA 0, 26, .inl (a 127))), (q 128, .inl (kA 0, 26, .inl (a 128))), (q 129, .inl (kA 0, 26, .inl (a 129))), (q 130, .inl (kA 0, 40, .inl (a 130))), (q 131, .inl (kA 0, 40, .inl (a 131))), (q 135, .inl (kA 3, 26, .inr (.inl (b 135)))), (q 136, .inl (kA 3, 26, .inr (.inl (b 136)))), (q 137, .inl (kA 3, 26, .inr (.inl (b 137)))), (q 138, .inl (kA 3, 26, .inr (.inl (b 138)))), (q 140, .inl (kA 0, 24000, .inl (a 140))), (q 141, .inl (kA 0, 96040, .inl (a 141))), (q 142, .inl (kA 0, 4, .inl (a 142))), (q 143, .inl (kA 2, 6000, .inl (a 143))), (q 148, .inl (kA 0, 26, .inl (a 148))), (q 149, .inl (kA 0, 26, .inl (a 149))), (q 151, .inl (kA 0, 48, .inl (a 151))), (q 152, .inl (kA 0, 48, .inl (a 152))), (q 160, .inl (kA 0, 2010, .inl (a 160))), (q 161, .inl (kA 3, 2010, .inr (.inl (b 161)))), (q 162, .inl (kA 0, 2010, .inl (a 162))), (q 163, .inl (kA 0, 2010, .inl (a 163))), (q 166, .inl (kA 0, 26, .inl (a 166))), (q 167, .inl (kA 0, 26, .inl (a 167))), (q 168, .inl (kA 2, 48, .inl (a 168))), (q 171, .inl (kA 1, 4000, .inl (a 171))), (q 172, .inl (kA 1, 4000, .inl (a 172))), (q 175, .inl (kA 0, 4096, .inl (a 175)))]
def all0 : Nat → Int32 := upd (upd (clr (upd (upd (clr (upd (upd (clr (upd (upd (clr (fun _ => 0) 0 539) (0 + 2) 1) (0 + 531) (-1)) 16709 539) (16709 + 2) 1) (16709 + 531) (-1)) 33418 539) (33418 + 2) 1) (33418 + 531) (-1)) 50127 539) (50127 + 2) 1) (50127 + 531) (-1)
def sMo (kA : Nat → ClassId) (h : Nat) (u : Nat → Nat) : List va_W := [[(h, .inr (13, mF u x0Mo y0Mo))], [(u 2, .inl (kA 0, 66836, .inl all0))], [(u 96, .inl (kA 0, 26, .inl ((prm (fun _ => 0) (fun _ => 0) (fun _ => 0) (fun _ => 0) 7).1)))], [(u 110, .inl (kA 0, 8, .inl ((prm (fun _ => 0) (fun _ => 0) (fun _ => 0) (fun _ => 0) 7).2.2.2.2)))], [(u 111, .inl (kA 0, 8, .inl ((prm (fun _ => 0) (fun _ => 0) (fun _ => 0) (fun _ => 0) 7).2.2.2.1)))], [(u 112, .inl (kA 1, 6000, .inl ((prm (fun _ => 0) (fun _ => 0) (fun _ => 0) (fun _ => 0) 7).2.1)))], wMr kA u a0Mo (fun _ _ => 0)]
set_option maxRecDepth 100000 in
set_option maxHeartbeats 40000000 in
/-- the reference's constructor -/
theorem c_Mo_init (l : Launch) (D : va_G) (kA : Nat → ClassId) (h : Nat) : Cv l y_Mo_init z_Mo_init { frames := 3, cells := 118, slots := 322933, locals := 50 } D classes (TY kA) [.ref h] [[(h, .inr (13, f0Mo))]] (fun _ : Nat → Nat => True) (fun u => sMo kA h u) 118 322933 := by
  intro sz
  refine k_met (cc := b_Mo_init) (maxL := 2) (ret := none) (by decide) rfl (Nat.le_of_ble_eq_true rfl) (fun p e s m below meth c ls X hl hB => ?_)
  obtain ⟨hsz, hP, hK, hD0, hN⟩ := hB
  subst hsz
  have hD := hD0.self (sz := s.heap.size)
  generalize hAe : va_A (cat [[(h, .inr (13, [.int 0, .null, .null, .null, .null, .int 0, .null, .int 0, .int 0, .int 0, .int 0, .int 0, .int 0, .int 0, .int 0, .int 0, .null, .null, .null, .null, .null, .null, .null, .null, .null, .int 0, .int 0, .int 0, .int 0, .int 0, .int 0, .int 0, .int 0, .null, .null, .null, .null, .null, .null, .int 0, .null, .null, .null, .null, .null, .int 0, .null, .int 0, .null, .int 0, .null, .null, .null, .int 0, .null, .null, .null, .null, .int 0, .int 0, .null, .null, .null, .null, .null, .null, .null, .null, .null, .null, .null, .null, .null, .null, .null, .null, .null, .null, .null, .int 0, .int 0, .int 0, .null, .null, .null, .null, .null, .null, .null, .null, .null, .null, .null, .null, .int 0, .null, .null, .null, .null, .int 0, .int 0, .int 0, .null, .null, .null, .null, .null, .int 0, .null, .null, .null, .null, .null, .null, .null, .null, .null, .null, .null, .null, .null, .int 0, .null, .null, .null, .int 0, .null, .null, .null, .null, .null, .null, .int 0, .long 0, .long 0, .null, .null, .null, .null, .int 0, .null, .null, .null, .null, .int 0, .int 0, .int 0, .int 0, .null, .null, .int 0, .null, .null, .int 0, .int 0, .int 0, .int 0, .int 0, .int 0, .int 0, .null, .null, .null, .null, .int 0, .int 0, .null, .null, .null, .int 0, .int 0, .null, .null, .int 0, .int 0, .null]))]]) s.heap.size = A at hD ⊢
  have hA : ∀ q : Nat, s.heap.size ≤ q → A q := fun q h => by rw [← hAe]; exact Or.inr h
  have hS : va_S A s.heap s.heap [] := va_S.rf
  obtain ⟨hx, hb, hml, hown, hts, hr, hlk, hnm⟩ := id X
  have hl : lv_has ls 2 [(0, .ref h)] := hl
  have hP : va_P D classes (cat [[(h, .inr (13, [.int 0, .null, .null, .null, .null, .int 0, .null, .int 0, .int 0, .int 0, .int 0, .int 0, .int 0, .int 0, .int 0, .int 0, .null, .null, .null, .null, .null, .null, .null, .null, .null, .int 0, .int 0, .int 0, .int 0, .int 0, .int 0, .int 0, .int 0, .null, .null, .null, .null, .null, .null, .int 0, .null, .null, .null, .null, .null, .int 0, .null, .int 0, .null, .int 0, .null, .null, .null, .int 0, .null, .null, .null, .null, .int 0, .int 0, .null, .null, .null, .null, .null, .null, .null, .null, .null, .null, .null, .null, .null, .null, .null, .null, .null, .null, .null, .int 0, .int 0, .int 0, .null, .null, .null, .null, .null, .null, .null, .null, .null, .null, .null, .null, .int 0, .null, .null, .null, .null, .int 0, .int 0, .int 0, .null, .null, .null, .null, .null, .int 0, .null, .null, .null, .null, .null, .null, .null, .null, .null, .null, .null, .null, .null, .int 0, .null, .null, .null, .int 0, .null, .null, .null, .null, .null, .null, .int 0, .long 0, .long 0, .null, .null, .null, .null, .int 0, .null, .null, .null, .null, .int 0, .int 0, .int 0, .int 0, .null, .null, .int 0, .null, .null, .int 0, .int 0, .int 0, .int 0, .int 0, .int 0, .int 0, .null, .null, .null, .null, .int 0, .int 0, .null, .null, .null, .int 0, .int 0, .null, .null, .int 0, .int 0, .null]))]]) s.heap := hP
  have hK : va_K D classes (TY kA) s := hK
  obtain ⟨r0, er0⟩ : ∃ z : Nat → Value, z = fun j => vp_V f0Mo j := ⟨_, rfl⟩
  obtain ⟨w0, ew0⟩ : ∃ z : va_W, z = [] := ⟨_, rfl⟩
  have e0 : f0Mo = mG 176 r0 := by rw [er0]; decide +kernel
  have hP : va_P D classes ((h, .inr (13, mG 176 r0)) :: w0) s.heap := by rw [← e0, ew0]; exact hP
  have hD : va_D A ((h, .inr (13, mG 176 r0)) :: w0) := by rw [← e0, ew0]; exact hD
  refine lv_aload_n (pc := 0) hx hb d_Mo_init_0 rfl (lv_at hl 0 rfl) ?_
  refine W.objInit hx hb hown (hts _ wm_2414) (hts _ wm_31) (hts _ wm_32) rfl (by rw [hml]; exact hl.1) rfl d_Mo_init_1 (Nat.le_of_ble_eq_true rfl) (Nat.le_of_ble_eq_true rfl) ?_
  refine W.eq (g2 := F0 m 4 ls []) rfl ?_
  refine lv_aload_n (pc := 4) hx hb d_Mo_init_4 rfl (lv_at hl 0 rfl) ?_
  refine lv_sipush (pc := 5) (v := 2000) hx hb d_Mo_init_5 (by decide) ?_
  refine k_newC (pc := 8) (atype := .byte) X (ty := .byte) (a0 := (2000, .inl (fun _ => 0))) rfl rfl wm_192 hK hP hD hS hA 1 rfl (fun _ => rfl) (by decide) rfl (by decide) (Nat.le_of_ble_eq_true rfl) (Nat.le_of_ble_eq_true rfl) d_Mo_init_8 (fun q1 H hP hD hS => ?_)
  refine W.widen (k := 1) (n := 2000) (by omega) (by omega) ?_
  refine k_putG (pc := 10) X hK hP hD hS rfl i_Mo t_Mo t_Mo_ok n_Mo 1 (by decide) wm_2434 rfl (Or.inr ⟨rfl, rfl⟩) rfl rfl d_Mo_init_10 (fun H locs hP hD hS => ?_)
  obtain ⟨r1, er1⟩ : ∃ z, z = rup r0 1 (.ref q1) := ⟨_, rfl⟩
  obtain ⟨w1, ew1⟩ : ∃ z : va_W, z = (q1, .inl (kA 1, 2000, .inl (fun _ => 0))) :: w0 := ⟨_, rfl⟩
  rw [← er1, ← ew1] at hP hD
  refine lv_aload_n (pc := 13) hx hb d_Mo_init_13 rfl (lv_at hl 0 rfl) ?_
  refine lv_ldc (pc := 14) (v := 66836) hx hb hown (hts _ wm_2415) d_Mo_init_14 ?_
  refine k_newC (pc := 16) (atype := .int) X (ty := .int) (a0 := (66836, .inl (fun _ => 0))) rfl rfl wm_193 hK hP hD hS hA 0 rfl (fun _ => rfl) (by decide) rfl (by decide) (Nat.le_of_ble_eq_true rfl) (Nat.le_of_ble_eq_true rfl) d_Mo_init_16 (fun q2 H hP hD hS => ?_)
  refine W.widen (k := 2) (n := 68836) (by omega) (by omega) ?_
  refine k_putG (pc := 18) X hK hP hD hS rfl i_Mo t_Mo t_Mo_ok n_Mo 2 (by decide) wm_2435 rfl (Or.inr ⟨rfl, rfl⟩) rfl rfl d_Mo_init_18 (fun H locs hP hD hS => ?_)
  obtain ⟨r2, er2⟩ : ∃ z, z = rup r1 2 (.ref q2) := ⟨_, rfl⟩
  obtain ⟨w2, ew2⟩ : ∃ z : va_W, z = (q2, .inl (kA 0, 66836, .inl (fun _ => 0))) :: w1 := ⟨_, rfl⟩
  rw [← er2, ← ew2] at hP hD
  refine lv_aload_n (pc := 21) hx hb d_Mo_init_21 rfl (lv_at hl 0 rfl) ?_
  refine lv_iconst (pc := 22) (v := 4) hx hb d_Mo_init_22 (by decide) ?_
  refine k_newC (pc := 23) (atype := .int) X (ty := .int) (a0 := (4, .inl (fun _ => 0))) rfl rfl wm_193 hK hP hD hS hA 0 rfl (fun _ => rfl) (by decide) rfl (by decide) (Nat.le_of_ble_eq_true rfl) (Nat.le_of_ble_eq_true rfl) d_Mo_init_23 (fun q3 H hP hD hS => ?_)
  refine W.widen (k := 3) (n := 68840) (by omega) (by omega) ?_
  refine k_putG (pc := 25) X hK hP hD hS rfl i_Mo t_Mo t_Mo_ok n_Mo 3 (by decide) wm_2436 rfl (Or.inr ⟨rfl, rfl⟩) rfl rfl d_Mo_init_25 (fun H locs hP hD hS => ?_)
  obtain ⟨r3, er3⟩ : ∃ z, z = rup r2 3 (.ref q3) := ⟨_, rfl⟩
  obtain ⟨w3, ew3⟩ : ∃ z : va_W, z = (q3, .inl (kA 0, 4, .inl (fun _ => 0))) :: w2 := ⟨_, rfl⟩
  rw [← er3, ← ew3] at hP hD
  refine lv_aload_n (pc := 28) hx hb d_Mo_init_28 rfl (lv_at hl 0 rfl) ?_
  refine lv_iconst (pc := 29) (v := 4) hx hb d_Mo_init_29 (by decide) ?_
  refine k_newC (pc := 30) (atype := .int) X (ty := .int) (a0 := (4, .inl (fun _ => 0))) rfl rfl wm_193 hK hP hD hS hA 0 rfl (fun _ => rfl) (by decide) rfl (by decide) (Nat.le_of_ble_eq_true rfl) (Nat.le_of_ble_eq_true rfl) d_Mo_init_30 (fun q4 H hP hD hS => ?_)
  refine W.widen (k := 4) (n := 68844) (by omega) (by omega) ?_
  refine k_putG (pc := 32) X hK hP hD hS rfl i_Mo t_Mo t_Mo_ok n_Mo 4 (by decide) wm_2437 rfl (Or.inr ⟨rfl, rfl⟩) rfl rfl d_Mo_init_32 (fun H locs hP hD hS => ?_)
  obtain ⟨r4, er4⟩ : ∃ z, z = rup r3 4 (.ref q4) := ⟨_, rfl⟩
  obtain ⟨w4, ew4⟩ : ∃ z : va_W, z = (q4, .inl (kA 0, 4, .inl (fun _ => 0))) :: w3 := ⟨_, rfl⟩
  rw [← er4, ← ew4] at hP hD
  refine lv_aload_n (pc := 35) hx hb d_Mo_init_35 rfl (lv_at hl 0 rfl) ?_
  refine lv_sipush (pc := 36) (v := 539) hx hb d_Mo_init_36 (by decide) ?_
  refine k_newC (pc := 39) (atype := .int) X (ty := .int) (a0 := (539, .inl (fun _ => 0))) rfl rfl wm_193 hK hP hD hS hA 0 rfl (fun _ => rfl) (by decide) rfl (by decide) (Nat.le_of_ble_eq_true rfl) (Nat.le_of_ble_eq_true rfl) d_Mo_init_39 (fun q5 H hP hD hS => ?_)
  refine W.widen (k := 5) (n := 69383) (by omega) (by omega) ?_
  refine k_putG (pc := 41) X hK hP hD hS rfl i_Mo t_Mo t_Mo_ok n_Mo 6 (by decide) wm_2439 rfl (Or.inr ⟨rfl, rfl⟩) rfl rfl d_Mo_init_41 (fun H locs hP hD hS => ?_)
  obtain ⟨r5, er5⟩ : ∃ z, z = rup r4 6 (.ref q5) := ⟨_, rfl⟩
  obtain ⟨w5, ew5⟩ : ∃ z : va_W, z = (q5, .inl (kA 0, 539, .inl (fun _ => 0))) :: w4 := ⟨_, rfl⟩
  rw [← er5, ← ew5] at hP hD
  refine lv_aload_n (pc := 44) hx hb d_Mo_init_44 rfl (lv_at hl 0 rfl) ?_
  refine lv_bipush (pc := 45) (v := 25) hx hb d_Mo_init_45 (by decide) ?_
  refine k_newC (pc := 47) (atype := .int) X (ty := .int) (a0 := (25, .inl (fun _ => 0))) rfl rfl wm_193 hK hP hD hS hA 0 rfl (fun _ => rfl) (by decide) rfl (by decide) (Nat.le_of_ble_eq_true rfl) (Nat.le_of_ble_eq_true rfl) d_Mo_init_47 (fun q6 H hP hD hS => ?_)
  refine W.widen (k := 6) (n := 69408) (by omega) (by omega) ?_
  refine k_putG (pc := 49) X hK hP hD hS rfl i_Mo t_Mo t_Mo_ok n_Mo 16 (by decide) wm_2449 rfl (Or.inr ⟨rfl, rfl⟩) rfl rfl d_Mo_init_49 (fun H locs hP hD hS => ?_)
  obtain ⟨r6, er6⟩ : ∃ z, z = rup r5 16 (.ref q6) := ⟨_, rfl⟩
  obtain ⟨w6, ew6⟩ : ∃ z : va_W, z = (q6, .inl (kA 0, 25, .inl (fun _ => 0))) :: w5 := ⟨_, rfl⟩
  rw [← er6, ← ew6] at hP hD
  refine lv_aload_n (pc := 52) hx hb d_Mo_init_52 rfl (lv_at hl 0 rfl) ?_
  refine lv_bipush (pc := 53) (v := 80) hx hb d_Mo_init_53 (by decide) ?_
  refine k_newC (pc := 55) (atype := .int) X (ty := .int) (a0 := (80, .inl (fun _ => 0))) rfl rfl wm_193 hK hP hD hS hA 0 rfl (fun _ => rfl) (by decide) rfl (by decide) (Nat.le_of_ble_eq_true rfl) (Nat.le_of_ble_eq_true rfl) d_Mo_init_55 (fun q7 H hP hD hS => ?_)
  refine W.widen (k := 7) (n := 69488) (by omega) (by omega) ?_
  refine k_putG (pc := 57) X hK hP hD hS rfl i_Mo t_Mo t_Mo_ok n_Mo 17 (by decide) wm_2450 rfl (Or.inr ⟨rfl, rfl⟩) rfl rfl d_Mo_init_57 (fun H locs hP hD hS => ?_)
  obtain ⟨r7, er7⟩ : ∃ z, z = rup r6 17 (.ref q7) := ⟨_, rfl⟩
  obtain ⟨w7, ew7⟩ : ∃ z : va_W, z = (q7, .inl (kA 0, 80, .inl (fun _ => 0))) :: w6 := ⟨_, rfl⟩
  rw [← er7, ← ew7] at hP hD
  refine lv_aload_n (pc := 60) hx hb d_Mo_init_60 rfl (lv_at hl 0 rfl) ?_
  refine lv_bipush (pc := 61) (v := 24) hx hb d_Mo_init_61 (by decide) ?_
  refine k_newC (pc := 63) (atype := .int) X (ty := .int) (a0 := (24, .inl (fun _ => 0))) rfl rfl wm_193 hK hP hD hS hA 0 rfl (fun _ => rfl) (by decide) rfl (by decide) (Nat.le_of_ble_eq_true rfl) (Nat.le_of_ble_eq_true rfl) d_Mo_init_63 (fun q8 H hP hD hS => ?_)
  refine W.widen (k := 8) (n := 69512) (by omega) (by omega) ?_
  refine k_putG (pc := 65) X hK hP hD hS rfl i_Mo t_Mo t_Mo_ok n_Mo 18 (by decide) wm_2451 rfl (Or.inr ⟨rfl, rfl⟩) rfl rfl d_Mo_init_65 (fun H locs hP hD hS => ?_)
  obtain ⟨r8, er8⟩ : ∃ z, z = rup r7 18 (.ref q8) := ⟨_, rfl⟩
  obtain ⟨w8, ew8⟩ : ∃ z : va_W, z = (q8, .inl (kA 0, 24, .inl (fun _ => 0))) :: w7 := ⟨_, rfl⟩
  rw [← er8, ← ew8] at hP hD
  refine lv_aload_n (pc := 68) hx hb d_Mo_init_68 rfl (lv_at hl 0 rfl) ?_
  refine lv_bipush (pc := 69) (v := 25) hx hb d_Mo_init_69 (by decide) ?_
  refine k_newC (pc := 71) (atype := .int) X (ty := .int) (a0 := (25, .inl (fun _ => 0))) rfl rfl wm_193 hK hP hD hS hA 0 rfl (fun _ => rfl) (by decide) rfl (by decide) (Nat.le_of_ble_eq_true rfl) (Nat.le_of_ble_eq_true rfl) d_Mo_init_71 (fun q9 H hP hD hS => ?_)
  refine W.widen (k := 9) (n := 69537) (by omega) (by omega) ?_
  refine k_putG (pc := 73) X hK hP hD hS rfl i_Mo t_Mo t_Mo_ok n_Mo 19 (by decide) wm_2452 rfl (Or.inr ⟨rfl, rfl⟩) rfl rfl d_Mo_init_73 (fun H locs hP hD hS => ?_)
  obtain ⟨r9, er9⟩ : ∃ z, z = rup r8 19 (.ref q9) := ⟨_, rfl⟩
  obtain ⟨w9, ew9⟩ : ∃ z : va_W, z = (q9, .inl (kA 0, 25, .inl (fun _ => 0))) :: w8 := ⟨_, rfl⟩
  rw [← er9, ← ew9] at hP hD
  refine lv_aload_n (pc := 76) hx hb d_Mo_init_76 rfl (lv_at hl 0 rfl) ?_
  refine lv_bipush (pc := 77) (v := 100) hx hb d_Mo_init_77 (by decide) ?_
  refine k_newC (pc := 79) (atype := .int) X (ty := .int) (a0 := (100, .inl (fun _ => 0))) rfl rfl wm_193 hK hP hD hS hA 0 rfl (fun _ => rfl) (by decide) rfl (by decide) (Nat.le_of_ble_eq_true rfl) (Nat.le_of_ble_eq_true rfl) d_Mo_init_79 (fun q10 H hP hD hS => ?_)
  refine W.widen (k := 10) (n := 69637) (by omega) (by omega) ?_
  refine k_putG (pc := 81) X hK hP hD hS rfl i_Mo t_Mo t_Mo_ok n_Mo 20 (by decide) wm_2453 rfl (Or.inr ⟨rfl, rfl⟩) rfl rfl d_Mo_init_81 (fun H locs hP hD hS => ?_)
  obtain ⟨r10, er10⟩ : ∃ z, z = rup r9 20 (.ref q10) := ⟨_, rfl⟩
  obtain ⟨w10, ew10⟩ : ∃ z : va_W, z = (q10, .inl (kA 0, 100, .inl (fun _ => 0))) :: w9 := ⟨_, rfl⟩
  rw [← er10, ← ew10] at hP hD
  refine lv_aload_n (pc := 84) hx hb d_Mo_init_84 rfl (lv_at hl 0 rfl) ?_
  refine lv_sipush (pc := 85) (v := 576) hx hb d_Mo_init_85 (by decide) ?_
  refine k_newC (pc := 88) (atype := .boolean) X (ty := .boolean) (a0 := (576, .inl (fun _ => 0))) rfl rfl wm_387 hK hP hD hS hA 2 rfl (fun _ => rfl) (by decide) rfl (by decide) (Nat.le_of_ble_eq_true rfl) (Nat.le_of_ble_eq_true rfl) d_Mo_init_88 (fun q11 H hP hD hS => ?_)
  refine W.widen (k := 11) (n := 70213) (by omega) (by omega) ?_
  refine k_putG (pc := 90) X hK hP hD hS rfl i_Mo t_Mo t_Mo_ok n_Mo 21 (by decide) wm_2454 rfl (Or.inr ⟨rfl, rfl⟩) rfl rfl d_Mo_init_90 (fun H locs hP hD hS => ?_)
  obtain ⟨r11, er11⟩ : ∃ z, z = rup r10 21 (.ref q11) := ⟨_, rfl⟩
  obtain ⟨w11, ew11⟩ : ∃ z : va_W, z = (q11, .inl (kA 2, 576, .inl (fun _ => 0))) :: w10 := ⟨_, rfl⟩
  rw [← er11, ← ew11] at hP hD
  refine lv_aload_n (pc := 93) hx hb d_Mo_init_93 rfl (lv_at hl 0 rfl) ?_
  refine lv_bipush (pc := 94) (v := 25) hx hb d_Mo_init_94 (by decide) ?_
  refine k_newC (pc := 96) (atype := .boolean) X (ty := .boolean) (a0 := (25, .inl (fun _ => 0))) rfl rfl wm_387 hK hP hD hS hA 2 rfl (fun _ => rfl) (by decide) rfl (by decide) (Nat.le_of_ble_eq_true rfl) (Nat.le_of_ble_eq_true rfl) d_Mo_init_96 (fun q12 H hP hD hS => ?_)
  refine W.widen (k := 12) (n := 70238) (by omega) (by omega) ?_
  refine k_putG (pc := 98) X hK hP hD hS rfl i_Mo t_Mo t_Mo_ok n_Mo 22 (by decide) wm_2455 rfl (Or.inr ⟨rfl, rfl⟩) rfl rfl d_Mo_init_98 (fun H locs hP hD hS => ?_)
  obtain ⟨r12, er12⟩ : ∃ z, z = rup r11 22 (.ref q12) := ⟨_, rfl⟩
  obtain ⟨w12, ew12⟩ : ∃ z : va_W, z = (q12, .inl (kA 2, 25, .inl (fun _ => 0))) :: w11 := ⟨_, rfl⟩
  rw [← er12, ← ew12] at hP hD
  refine lv_aload_n (pc := 101) hx hb d_Mo_init_101 rfl (lv_at hl 0 rfl) ?_
  refine lv_bipush (pc := 102) (v := 24) hx hb d_Mo_init_102 (by decide) ?_
  refine k_newC (pc := 104) (atype := .int) X (ty := .int) (a0 := (24, .inl (fun _ => 0))) rfl rfl wm_193 hK hP hD hS hA 0 rfl (fun _ => rfl) (by decide) rfl (by decide) (Nat.le_of_ble_eq_true rfl) (Nat.le_of_ble_eq_true rfl) d_Mo_init_104 (fun q13 H hP hD hS => ?_)
  refine W.widen (k := 13) (n := 70262) (by omega) (by omega) ?_
  refine k_putG (pc := 106) X hK hP hD hS rfl i_Mo t_Mo t_Mo_ok n_Mo 23 (by decide) wm_2456 rfl (Or.inr ⟨rfl, rfl⟩) rfl rfl d_Mo_init_106 (fun H locs hP hD hS => ?_)
  obtain ⟨r13, er13⟩ : ∃ z, z = rup r12 23 (.ref q13) := ⟨_, rfl⟩
  obtain ⟨w13, ew13⟩ : ∃ z : va_W, z = (q13, .inl (kA 0, 24, .inl (fun _ => 0))) :: w12 := ⟨_, rfl⟩
  rw [← er13, ← ew13] at hP hD
  refine lv_aload_n (pc := 109) hx hb d_Mo_init_109 rfl (lv_at hl 0 rfl) ?_
  refine lv_bipush (pc := 110) (v := 24) hx hb d_Mo_init_110 (by decide) ?_
  refine k_newC (pc := 112) (atype := .int) X (ty := .int) (a0 := (24, .inl (fun _ => 0))) rfl rfl wm_193 hK hP hD hS hA 0 rfl (fun _ => rfl) (by decide) rfl (by decide) (Nat.le_of_ble_eq_true rfl) (Nat.le_of_ble_eq_true rfl) d_Mo_init_112 (fun q14 H hP hD hS => ?_)
  refine W.widen (k := 14) (n := 70286) (by omega) (by omega) ?_
  refine k_putG (pc := 114) X hK hP hD hS rfl i_Mo t_Mo t_Mo_ok n_Mo 24 (by decide) wm_2457 rfl (Or.inr ⟨rfl, rfl⟩) rfl rfl d_Mo_init_114 (fun H locs hP hD hS => ?_)
  obtain ⟨r14, er14⟩ : ∃ z, z = rup r13 24 (.ref q14) := ⟨_, rfl⟩
  obtain ⟨w14, ew14⟩ : ∃ z : va_W, z = (q14, .inl (kA 0, 24, .inl (fun _ => 0))) :: w13 := ⟨_, rfl⟩
  rw [← er14, ← ew14] at hP hD
  refine lv_aload_n (pc := 117) hx hb d_Mo_init_117 rfl (lv_at hl 0 rfl) ?_
  refine lv_bipush (pc := 118) (v := 80) hx hb d_Mo_init_118 (by decide) ?_
  refine k_newC (pc := 120) (atype := .int) X (ty := .int) (a0 := (80, .inl (fun _ => 0))) rfl rfl wm_193 hK hP hD hS hA 0 rfl (fun _ => rfl) (by decide) rfl (by decide) (Nat.le_of_ble_eq_true rfl) (Nat.le_of_ble_eq_true rfl) d_Mo_init_120 (fun q15 H hP hD hS => ?_)
  refine W.widen (k := 15) (n := 70366) (by omega) (by omega) ?_
  refine k_putG (pc := 122) X hK hP hD hS rfl i_Mo t_Mo t_Mo_ok n_Mo 33 (by decide) wm_2466 rfl (Or.inr ⟨rfl, rfl⟩) rfl rfl d_Mo_init_122 (fun H locs hP hD hS => ?_)
  obtain ⟨r15, er15⟩ : ∃ z, z = rup r14 33 (.ref q15) := ⟨_, rfl⟩
  obtain ⟨w15, ew15⟩ : ∃ z : va_W, z = (q15, .inl (kA 0, 80, .inl (fun _ => 0))) :: w14 := ⟨_, rfl⟩
  rw [← er15, ← ew15] at hP hD
  refine lv_aload_n (pc := 125) hx hb d_Mo_init_125 rfl (lv_at hl 0 rfl) ?_
  refine lv_bipush (pc := 126) (v := 80) hx hb d_Mo_init_126 (by decide) ?_
  refine k_newC (pc := 128) (atype := .int) X (ty := .int) (a0 := (80, .inl (fun _ => 0))) rfl rfl wm_193 hK hP hD hS hA 0 rfl (fun _ => rfl) (by decide) rfl (by decide) (Nat.le_of_ble_eq_true rfl) (Nat.le_of_ble_eq_true rfl) d_Mo_init_128 (fun q16 H hP hD hS => ?_)
  refine W.widen (k := 16) (n := 70446) (by omega) (by omega) ?_
  refine k_putG (pc := 130) X hK hP hD hS rfl i_Mo t_Mo t_Mo_ok n_Mo 34 (by decide) wm_2467 rfl (Or.inr ⟨rfl, rfl⟩) rfl rfl d_Mo_init_130 (fun H locs hP hD hS => ?_)
  obtain ⟨r16, er16⟩ : ∃ z, z = rup r15 34 (.ref q16) := ⟨_, rfl⟩
  obtain ⟨w16, ew16⟩ : ∃ z : va_W, z = (q16, .inl (kA 0, 80, .inl (fun _ => 0))) :: w15 := ⟨_, rfl⟩
  rw [← er16, ← ew16] at hP hD
  refine lv_aload_n (pc := 133) hx hb d_Mo_init_133 rfl (lv_at hl 0 rfl) ?_
  refine lv_bipush (pc := 134) (v := 80) hx hb d_Mo_init_134 (by decide) ?_
  refine k_newC (pc := 136) (atype := .boolean) X (ty := .boolean) (a0 := (80, .inl (fun _ => 0))) rfl rfl wm_387 hK hP hD hS hA 2 rfl (fun _ => rfl) (by decide) rfl (by decide) (Nat.le_of_ble_eq_true rfl) (Nat.le_of_ble_eq_true rfl) d_Mo_init_136 (fun q17 H hP hD hS => ?_)
  refine W.widen (k := 17) (n := 70526) (by omega) (by omega) ?_
  refine k_putG (pc := 138) X hK hP hD hS rfl i_Mo t_Mo t_Mo_ok n_Mo 35 (by decide) wm_2468 rfl (Or.inr ⟨rfl, rfl⟩) rfl rfl d_Mo_init_138 (fun H locs hP hD hS => ?_)
  obtain ⟨r17, er17⟩ : ∃ z, z = rup r16 35 (.ref q17) := ⟨_, rfl⟩
  obtain ⟨w17, ew17⟩ : ∃ z : va_W, z = (q17, .inl (kA 2, 80, .inl (fun _ => 0))) :: w16 := ⟨_, rfl⟩
  rw [← er17, ← ew17] at hP hD
  refine lv_aload_n (pc := 141) hx hb d_Mo_init_141 rfl (lv_at hl 0 rfl) ?_
  refine lv_bipush (pc := 142) (v := 26) hx hb d_Mo_init_142 (by decide) ?_
  refine k_newC (pc := 144) (atype := .int) X (ty := .int) (a0 := (26, .inl (fun _ => 0))) rfl rfl wm_193 hK hP hD hS hA 0 rfl (fun _ => rfl) (by decide) rfl (by decide) (Nat.le_of_ble_eq_true rfl) (Nat.le_of_ble_eq_true rfl) d_Mo_init_144 (fun q18 H hP hD hS => ?_)
  refine W.widen (k := 18) (n := 70552) (by omega) (by omega) ?_
  refine k_putG (pc := 146) X hK hP hD hS rfl i_Mo t_Mo t_Mo_ok n_Mo 36 (by decide) wm_2469 rfl (Or.inr ⟨rfl, rfl⟩) rfl rfl d_Mo_init_146 (fun H locs hP hD hS => ?_)
  obtain ⟨r18, er18⟩ : ∃ z, z = rup r17 36 (.ref q18) := ⟨_, rfl⟩
  obtain ⟨w18, ew18⟩ : ∃ z : va_W, z = (q18, .inl (kA 0, 26, .inl (fun _ => 0))) :: w17 := ⟨_, rfl⟩
  rw [← er18, ← ew18] at hP hD
  refine lv_aload_n (pc := 149) hx hb d_Mo_init_149 rfl (lv_at hl 0 rfl) ?_
  refine lv_sipush (pc := 150) (v := 2080) hx hb d_Mo_init_150 (by decide) ?_
  refine k_newC (pc := 153) (atype := .int) X (ty := .int) (a0 := (2080, .inl (fun _ => 0))) rfl rfl wm_193 hK hP hD hS hA 0 rfl (fun _ => rfl) (by decide) rfl (by decide) (Nat.le_of_ble_eq_true rfl) (Nat.le_of_ble_eq_true rfl) d_Mo_init_153 (fun q19 H hP hD hS => ?_)
  refine W.widen (k := 19) (n := 72632) (by omega) (by omega) ?_
  refine k_putG (pc := 155) X hK hP hD hS rfl i_Mo t_Mo t_Mo_ok n_Mo 37 (by decide) wm_2470 rfl (Or.inr ⟨rfl, rfl⟩) rfl rfl d_Mo_init_155 (fun H locs hP hD hS => ?_)
  obtain ⟨r19, er19⟩ : ∃ z, z = rup r18 37 (.ref q19) := ⟨_, rfl⟩
  obtain ⟨w19, ew19⟩ : ∃ z : va_W, z = (q19, .inl (kA 0, 2080, .inl (fun _ => 0))) :: w18 := ⟨_, rfl⟩
  rw [← er19, ← ew19] at hP hD
  refine lv_aload_n (pc := 158) hx hb d_Mo_init_158 rfl (lv_at hl 0 rfl) ?_
  refine lv_bipush (pc := 159) (v := 26) hx hb d_Mo_init_159 (by decide) ?_
  refine k_newC (pc := 161) (atype := .boolean) X (ty := .boolean) (a0 := (26, .inl (fun _ => 0))) rfl rfl wm_387 hK hP hD hS hA 2 rfl (fun _ => rfl) (by decide) rfl (by decide) (Nat.le_of_ble_eq_true rfl) (Nat.le_of_ble_eq_true rfl) d_Mo_init_161 (fun q20 H hP hD hS => ?_)
  refine W.widen (k := 20) (n := 72658) (by omega) (by omega) ?_
  refine k_putG (pc := 163) X hK hP hD hS rfl i_Mo t_Mo t_Mo_ok n_Mo 38 (by decide) wm_2471 rfl (Or.inr ⟨rfl, rfl⟩) rfl rfl d_Mo_init_163 (fun H locs hP hD hS => ?_)
  obtain ⟨r20, er20⟩ : ∃ z, z = rup r19 38 (.ref q20) := ⟨_, rfl⟩
  obtain ⟨w20, ew20⟩ : ∃ z : va_W, z = (q20, .inl (kA 2, 26, .inl (fun _ => 0))) :: w19 := ⟨_, rfl⟩
  rw [← er20, ← ew20] at hP hD
  refine lv_aload_n (pc := 166) hx hb d_Mo_init_166 rfl (lv_at hl 0 rfl) ?_
  refine lv_bipush (pc := 167) (v := 120) hx hb d_Mo_init_167 (by decide) ?_
  refine k_newC (pc := 169) (atype := .int) X (ty := .int) (a0 := (120, .inl (fun _ => 0))) rfl rfl wm_193 hK hP hD hS hA 0 rfl (fun _ => rfl) (by decide) rfl (by decide) (Nat.le_of_ble_eq_true rfl) (Nat.le_of_ble_eq_true rfl) d_Mo_init_169 (fun q21 H hP hD hS => ?_)
  refine W.widen (k := 21) (n := 72778) (by omega) (by omega) ?_
  refine k_putG (pc := 171) X hK hP hD hS rfl i_Mo t_Mo t_Mo_ok n_Mo 40 (by decide) wm_2473 rfl (Or.inr ⟨rfl, rfl⟩) rfl rfl d_Mo_init_171 (fun H locs hP hD hS => ?_)
  obtain ⟨r21, er21⟩ : ∃ z, z = rup r20 40 (.ref q21) := ⟨_, rfl⟩
  obtain ⟨w21, ew21⟩ : ∃ z : va_W, z = (q21, .inl (kA 0, 120, .inl (fun _ => 0))) :: w20 := ⟨_, rfl⟩
  rw [← er21, ← ew21] at hP hD
  refine lv_aload_n (pc := 174) hx hb d_Mo_init_174 rfl (lv_at hl 0 rfl) ?_
  refine lv_sipush (pc := 175) (v := 7200) hx hb d_Mo_init_175 (by decide) ?_
  refine k_newC (pc := 178) (atype := .int) X (ty := .int) (a0 := (7200, .inl (fun _ => 0))) rfl rfl wm_193 hK hP hD hS hA 0 rfl (fun _ => rfl) (by decide) rfl (by decide) (Nat.le_of_ble_eq_true rfl) (Nat.le_of_ble_eq_true rfl) d_Mo_init_178 (fun q22 H hP hD hS => ?_)
  refine W.widen (k := 22) (n := 79978) (by omega) (by omega) ?_
  refine k_putG (pc := 180) X hK hP hD hS rfl i_Mo t_Mo t_Mo_ok n_Mo 41 (by decide) wm_2474 rfl (Or.inr ⟨rfl, rfl⟩) rfl rfl d_Mo_init_180 (fun H locs hP hD hS => ?_)
  obtain ⟨r22, er22⟩ : ∃ z, z = rup r21 41 (.ref q22) := ⟨_, rfl⟩
  obtain ⟨w22, ew22⟩ : ∃ z : va_W, z = (q22, .inl (kA 0, 7200, .inl (fun _ => 0))) :: w21 := ⟨_, rfl⟩
  rw [← er22, ← ew22] at hP hD
  refine lv_aload_n (pc := 183) hx hb d_Mo_init_183 rfl (lv_at hl 0 rfl) ?_
  refine lv_bipush (pc := 184) (v := 26) hx hb d_Mo_init_184 (by decide) ?_
  refine k_newC (pc := 186) (atype := .boolean) X (ty := .boolean) (a0 := (26, .inl (fun _ => 0))) rfl rfl wm_387 hK hP hD hS hA 2 rfl (fun _ => rfl) (by decide) rfl (by decide) (Nat.le_of_ble_eq_true rfl) (Nat.le_of_ble_eq_true rfl) d_Mo_init_186 (fun q23 H hP hD hS => ?_)
  refine W.widen (k := 23) (n := 80004) (by omega) (by omega) ?_
  refine k_putG (pc := 188) X hK hP hD hS rfl i_Mo t_Mo t_Mo_ok n_Mo 42 (by decide) wm_2475 rfl (Or.inr ⟨rfl, rfl⟩) rfl rfl d_Mo_init_188 (fun H locs hP hD hS => ?_)
  obtain ⟨r23, er23⟩ : ∃ z, z = rup r22 42 (.ref q23) := ⟨_, rfl⟩
  obtain ⟨w23, ew23⟩ : ∃ z : va_W, z = (q23, .inl (kA 2, 26, .inl (fun _ => 0))) :: w22 := ⟨_, rfl⟩
  rw [← er23, ← ew23] at hP hD
  refine lv_aload_n (pc := 191) hx hb d_Mo_init_191 rfl (lv_at hl 0 rfl) ?_
  refine lv_bipush (pc := 192) (v := 80) hx hb d_Mo_init_192 (by decide) ?_
  refine k_newC (pc := 194) (atype := .boolean) X (ty := .boolean) (a0 := (80, .inl (fun _ => 0))) rfl rfl wm_387 hK hP hD hS hA 2 rfl (fun _ => rfl) (by decide) rfl (by decide) (Nat.le_of_ble_eq_true rfl) (Nat.le_of_ble_eq_true rfl) d_Mo_init_194 (fun q24 H hP hD hS => ?_)
  refine W.widen (k := 24) (n := 80084) (by omega) (by omega) ?_
  refine k_putG (pc := 196) X hK hP hD hS rfl i_Mo t_Mo t_Mo_ok n_Mo 43 (by decide) wm_2476 rfl (Or.inr ⟨rfl, rfl⟩) rfl rfl d_Mo_init_196 (fun H locs hP hD hS => ?_)
  obtain ⟨r24, er24⟩ : ∃ z, z = rup r23 43 (.ref q24) := ⟨_, rfl⟩
  obtain ⟨w24, ew24⟩ : ∃ z : va_W, z = (q24, .inl (kA 2, 80, .inl (fun _ => 0))) :: w23 := ⟨_, rfl⟩
  rw [← er24, ← ew24] at hP hD
  refine lv_aload_n (pc := 199) hx hb d_Mo_init_199 rfl (lv_at hl 0 rfl) ?_
  refine lv_bipush (pc := 200) (v := 80) hx hb d_Mo_init_200 (by decide) ?_
  refine k_newC (pc := 202) (atype := .int) X (ty := .int) (a0 := (80, .inl (fun _ => 0))) rfl rfl wm_193 hK hP hD hS hA 0 rfl (fun _ => rfl) (by decide) rfl (by decide) (Nat.le_of_ble_eq_true rfl) (Nat.le_of_ble_eq_true rfl) d_Mo_init_202 (fun q25 H hP hD hS => ?_)
  refine W.widen (k := 25) (n := 80164) (by omega) (by omega) ?_
  refine k_putG (pc := 204) X hK hP hD hS rfl i_Mo t_Mo t_Mo_ok n_Mo 44 (by decide) wm_2477 rfl (Or.inr ⟨rfl, rfl⟩) rfl rfl d_Mo_init_204 (fun H locs hP hD hS => ?_)
  obtain ⟨r25, er25⟩ : ∃ z, z = rup r24 44 (.ref q25) := ⟨_, rfl⟩
  obtain ⟨w25, ew25⟩ : ∃ z : va_W, z = (q25, .inl (kA 0, 80, .inl (fun _ => 0))) :: w24 := ⟨_, rfl⟩
  rw [← er25, ← ew25] at hP hD
  refine lv_aload_n (pc := 207) hx hb d_Mo_init_207 rfl (lv_at hl 0 rfl) ?_
  refine lv_bipush (pc := 208) (v := 30) hx hb d_Mo_init_208 (by decide) ?_
  refine k_newC (pc := 210) (atype := .int) X (ty := .int) (a0 := (30, .inl (fun _ => 0))) rfl rfl wm_193 hK hP hD hS hA 0 rfl (fun _ => rfl) (by decide) rfl (by decide) (Nat.le_of_ble_eq_true rfl) (Nat.le_of_ble_eq_true rfl) d_Mo_init_210 (fun q26 H hP hD hS => ?_)
  refine W.widen (k := 26) (n := 80194) (by omega) (by omega) ?_
  refine k_putG (pc := 212) X hK hP hD hS rfl i_Mo t_Mo t_Mo_ok n_Mo 46 (by decide) wm_2479 rfl (Or.inr ⟨rfl, rfl⟩) rfl rfl d_Mo_init_212 (fun H locs hP hD hS => ?_)
  obtain ⟨r26, er26⟩ : ∃ z, z = rup r25 46 (.ref q26) := ⟨_, rfl⟩
  obtain ⟨w26, ew26⟩ : ∃ z : va_W, z = (q26, .inl (kA 0, 30, .inl (fun _ => 0))) :: w25 := ⟨_, rfl⟩
  rw [← er26, ← ew26] at hP hD
  refine lv_aload_n (pc := 215) hx hb d_Mo_init_215 rfl (lv_at hl 0 rfl) ?_
  refine lv_bipush (pc := 216) (v := 26) hx hb d_Mo_init_216 (by decide) ?_
  refine k_newC (pc := 218) (atype := .int) X (ty := .int) (a0 := (26, .inl (fun _ => 0))) rfl rfl wm_193 hK hP hD hS hA 0 rfl (fun _ => rfl) (by decide) rfl (by decide) (Nat.le_of_ble_eq_true rfl) (Nat.le_of_ble_eq_true rfl) d_Mo_init_218 (fun q27 H hP hD hS => ?_)
  refine W.widen (k := 27) (n := 80220) (by omega) (by omega) ?_
  refine k_putG (pc := 220) X hK hP hD hS rfl i_Mo t_Mo t_Mo_ok n_Mo 48 (by decide) wm_2480 rfl (Or.inr ⟨rfl, rfl⟩) rfl rfl d_Mo_init_220 (fun H locs hP hD hS => ?_)
  obtain ⟨r27, er27⟩ : ∃ z, z = rup r26 48 (.ref q27) := ⟨_, rfl⟩
  obtain ⟨w27, ew27⟩ : ∃ z : va_W, z = (q27, .inl (kA 0, 26, .inl (fun _ => 0))) :: w26 := ⟨_, rfl⟩
  rw [← er27, ← ew27] at hP hD
  refine lv_aload_n (pc := 223) hx hb d_Mo_init_223 rfl (lv_at hl 0 rfl) ?_
  refine lv_bipush (pc := 224) (v := 80) hx hb d_Mo_init_224 (by decide) ?_
  refine k_newC (pc := 226) (atype := .int) X (ty := .int) (a0 := (80, .inl (fun _ => 0))) rfl rfl wm_193 hK hP hD hS hA 0 rfl (fun _ => rfl) (by decide) rfl (by decide) (Nat.le_of_ble_eq_true rfl) (Nat.le_of_ble_eq_true rfl) d_Mo_init_226 (fun q28 H hP hD hS => ?_)
  refine W.widen (k := 28) (n := 80300) (by omega) (by omega) ?_
  refine k_putG (pc := 228) X hK hP hD hS rfl i_Mo t_Mo t_Mo_ok n_Mo 50 (by decide) wm_2482 rfl (Or.inr ⟨rfl, rfl⟩) rfl rfl d_Mo_init_228 (fun H locs hP hD hS => ?_)
  obtain ⟨r28, er28⟩ : ∃ z, z = rup r27 50 (.ref q28) := ⟨_, rfl⟩
  obtain ⟨w28, ew28⟩ : ∃ z : va_W, z = (q28, .inl (kA 0, 80, .inl (fun _ => 0))) :: w27 := ⟨_, rfl⟩
  rw [← er28, ← ew28] at hP hD
  refine lv_aload_n (pc := 231) hx hb d_Mo_init_231 rfl (lv_at hl 0 rfl) ?_
  refine lv_bipush (pc := 232) (v := 120) hx hb d_Mo_init_232 (by decide) ?_
  refine k_newC (pc := 234) (atype := .int) X (ty := .int) (a0 := (120, .inl (fun _ => 0))) rfl rfl wm_193 hK hP hD hS hA 0 rfl (fun _ => rfl) (by decide) rfl (by decide) (Nat.le_of_ble_eq_true rfl) (Nat.le_of_ble_eq_true rfl) d_Mo_init_234 (fun q29 H hP hD hS => ?_)
  refine W.widen (k := 29) (n := 80420) (by omega) (by omega) ?_
  refine k_putG (pc := 236) X hK hP hD hS rfl i_Mo t_Mo t_Mo_ok n_Mo 51 (by decide) wm_2483 rfl (Or.inr ⟨rfl, rfl⟩) rfl rfl d_Mo_init_236 (fun H locs hP hD hS => ?_)
  obtain ⟨r29, er29⟩ : ∃ z, z = rup r28 51 (.ref q29) := ⟨_, rfl⟩
  obtain ⟨w29, ew29⟩ : ∃ z : va_W, z = (q29, .inl (kA 0, 120, .inl (fun _ => 0))) :: w28 := ⟨_, rfl⟩
  rw [← er29, ← ew29] at hP hD
  refine lv_aload_n (pc := 239) hx hb d_Mo_init_239 rfl (lv_at hl 0 rfl) ?_
  refine lv_bipush (pc := 240) (v := 30) hx hb d_Mo_init_240 (by decide) ?_
  refine k_newC (pc := 242) (atype := .int) X (ty := .int) (a0 := (30, .inl (fun _ => 0))) rfl rfl wm_193 hK hP hD hS hA 0 rfl (fun _ => rfl) (by decide) rfl (by decide) (Nat.le_of_ble_eq_true rfl) (Nat.le_of_ble_eq_true rfl) d_Mo_init_242 (fun q30 H hP hD hS => ?_)
  refine W.widen (k := 30) (n := 80450) (by omega) (by omega) ?_
  refine k_putG (pc := 244) X hK hP hD hS rfl i_Mo t_Mo t_Mo_ok n_Mo 52 (by decide) wm_2484 rfl (Or.inr ⟨rfl, rfl⟩) rfl rfl d_Mo_init_244 (fun H locs hP hD hS => ?_)
  obtain ⟨r30, er30⟩ : ∃ z, z = rup r29 52 (.ref q30) := ⟨_, rfl⟩
  obtain ⟨w30, ew30⟩ : ∃ z : va_W, z = (q30, .inl (kA 0, 30, .inl (fun _ => 0))) :: w29 := ⟨_, rfl⟩
  rw [← er30, ← ew30] at hP hD
  refine lv_aload_n (pc := 247) hx hb d_Mo_init_247 rfl (lv_at hl 0 rfl) ?_
  refine lv_sipush (pc := 248) (v := 160) hx hb d_Mo_init_248 (by decide) ?_
  refine k_newC (pc := 251) (atype := .int) X (ty := .int) (a0 := (160, .inl (fun _ => 0))) rfl rfl wm_193 hK hP hD hS hA 0 rfl (fun _ => rfl) (by decide) rfl (by decide) (Nat.le_of_ble_eq_true rfl) (Nat.le_of_ble_eq_true rfl) d_Mo_init_251 (fun q31 H hP hD hS => ?_)
  refine W.widen (k := 31) (n := 80610) (by omega) (by omega) ?_
  refine k_putG (pc := 253) X hK hP hD hS rfl i_Mo t_Mo t_Mo_ok n_Mo 54 (by decide) wm_2486 rfl (Or.inr ⟨rfl, rfl⟩) rfl rfl d_Mo_init_253 (fun H locs hP hD hS => ?_)
  obtain ⟨r31, er31⟩ : ∃ z, z = rup r30 54 (.ref q31) := ⟨_, rfl⟩
  obtain ⟨w31, ew31⟩ : ∃ z : va_W, z = (q31, .inl (kA 0, 160, .inl (fun _ => 0))) :: w30 := ⟨_, rfl⟩
  rw [← er31, ← ew31] at hP hD
  refine lv_aload_n (pc := 256) hx hb d_Mo_init_256 rfl (lv_at hl 0 rfl) ?_
  refine lv_sipush (pc := 257) (v := 160) hx hb d_Mo_init_257 (by decide) ?_
  refine k_newC (pc := 260) (atype := .int) X (ty := .int) (a0 := (160, .inl (fun _ => 0))) rfl rfl wm_193 hK hP hD hS hA 0 rfl (fun _ => rfl) (by decide) rfl (by decide) (Nat.le_of_ble_eq_true rfl) (Nat.le_of_ble_eq_true rfl) d_Mo_init_260 (fun q32 H hP hD hS => ?_)
  refine W.widen (k := 32) (n := 80770) (by omega) (by omega) ?_
  refine k_putG (pc := 262) X hK hP hD hS rfl i_Mo t_Mo t_Mo_ok n_Mo 55 (by decide) wm_2487 rfl (Or.inr ⟨rfl, rfl⟩) rfl rfl d_Mo_init_262 (fun H locs hP hD hS => ?_)
  obtain ⟨r32, er32⟩ : ∃ z, z = rup r31 55 (.ref q32) := ⟨_, rfl⟩
  obtain ⟨w32, ew32⟩ : ∃ z : va_W, z = (q32, .inl (kA 0, 160, .inl (fun _ => 0))) :: w31 := ⟨_, rfl⟩
  rw [← er32, ← ew32] at hP hD
  refine lv_aload_n (pc := 265) hx hb d_Mo_init_265 rfl (lv_at hl 0 rfl) ?_
  refine lv_sipush (pc := 266) (v := 161) hx hb d_Mo_init_266 (by decide) ?_
  refine k_newC (pc := 269) (atype := .int) X (ty := .int) (a0 := (161, .inl (fun _ => 0))) rfl rfl wm_193 hK hP hD hS hA 0 rfl (fun _ => rfl) (by decide) rfl (by decide) (Nat.le_of_ble_eq_true rfl) (Nat.le_of_ble_eq_true rfl) d_Mo_init_269 (fun q33 H hP hD hS => ?_)
  refine W.widen (k := 33) (n := 80931) (by omega) (by omega) ?_
  refine k_putG (pc := 271) X hK hP hD hS rfl i_Mo t_Mo t_Mo_ok n_Mo 56 (by decide) wm_2488 rfl (Or.inr ⟨rfl, rfl⟩) rfl rfl d_Mo_init_271 (fun H locs hP hD hS => ?_)
  obtain ⟨r33, er33⟩ : ∃ z, z = rup r32 56 (.ref q33) := ⟨_, rfl⟩
  obtain ⟨w33, ew33⟩ : ∃ z : va_W, z = (q33, .inl (kA 0, 161, .inl (fun _ => 0))) :: w32 := ⟨_, rfl⟩
  rw [← er33, ← ew33] at hP hD
  refine lv_aload_n (pc := 274) hx hb d_Mo_init_274 rfl (lv_at hl 0 rfl) ?_
  refine lv_sipush (pc := 275) (v := 160) hx hb d_Mo_init_275 (by decide) ?_
  refine k_newC (pc := 278) (atype := .int) X (ty := .int) (a0 := (160, .inl (fun _ => 0))) rfl rfl wm_193 hK hP hD hS hA 0 rfl (fun _ => rfl) (by decide) rfl (by decide) (Nat.le_of_ble_eq_true rfl) (Nat.le_of_ble_eq_true rfl) d_Mo_init_278 (fun q34 H hP hD hS => ?_)
  refine W.widen (k := 34) (n := 81091) (by omega) (by omega) ?_
  refine k_putG (pc := 280) X hK hP hD hS rfl i_Mo t_Mo t_Mo_ok n_Mo 57 (by decide) wm_2489 rfl (Or.inr ⟨rfl, rfl⟩) rfl rfl d_Mo_init_280 (fun H locs hP hD hS => ?_)
  obtain ⟨r34, er34⟩ : ∃ z, z = rup r33 57 (.ref q34) := ⟨_, rfl⟩
  obtain ⟨w34, ew34⟩ : ∃ z : va_W, z = (q34, .inl (kA 0, 160, .inl (fun _ => 0))) :: w33 := ⟨_, rfl⟩
  rw [← er34, ← ew34] at hP hD
  refine lv_aload_n (pc := 283) hx hb d_Mo_init_283 rfl (lv_at hl 0 rfl) ?_
  refine lv_bipush (pc := 284) (v := 80) hx hb d_Mo_init_284 (by decide) ?_
  refine k_newC (pc := 286) (atype := .int) X (ty := .int) (a0 := (80, .inl (fun _ => 0))) rfl rfl wm_193 hK hP hD hS hA 0 rfl (fun _ => rfl) (by decide) rfl (by decide) (Nat.le_of_ble_eq_true rfl) (Nat.le_of_ble_eq_true rfl) d_Mo_init_286 (fun q35 H hP hD hS => ?_)
  refine W.widen (k := 35) (n := 81171) (by omega) (by omega) ?_
  refine k_putG (pc := 288) X hK hP hD hS rfl i_Mo t_Mo t_Mo_ok n_Mo 60 (by decide) wm_2492 rfl (Or.inr ⟨rfl, rfl⟩) rfl rfl d_Mo_init_288 (fun H locs hP hD hS => ?_)
  obtain ⟨r35, er35⟩ : ∃ z, z = rup r34 60 (.ref q35) := ⟨_, rfl⟩
  obtain ⟨w35, ew35⟩ : ∃ z : va_W, z = (q35, .inl (kA 0, 80, .inl (fun _ => 0))) :: w34 := ⟨_, rfl⟩
  rw [← er35, ← ew35] at hP hD
  refine lv_aload_n (pc := 291) hx hb d_Mo_init_291 rfl (lv_at hl 0 rfl) ?_
  refine lv_iconst (pc := 292) (v := 4) hx hb d_Mo_init_292 (by decide) ?_
  refine k_newC (pc := 293) (atype := .int) X (ty := .int) (a0 := (4, .inl (fun _ => 0))) rfl rfl wm_193 hK hP hD hS hA 0 rfl (fun _ => rfl) (by decide) rfl (by decide) (Nat.le_of_ble_eq_true rfl) (Nat.le_of_ble_eq_true rfl) d_Mo_init_293 (fun q36 H hP hD hS => ?_)
  refine W.widen (k := 36) (n := 81175) (by omega) (by omega) ?_
  refine lv_dup (pc := 295) hx hb d_Mo_init_295 rfl ?_
  refine lv_iconst (pc := 296) (v := 0) hx hb d_Mo_init_296 (by decide) ?_
  refine lv_iconst (pc := 297) (v := -1) hx hb d_Mo_init_297 (by decide) ?_
  refine va_iast (pc := 298) hx hb hK hP hD hS 1 0 rfl rfl (by unfold vp_in; decide) d_Mo_init_298 (fun H locs hP hD hS => ?_)
  have hP : va_P D classes ((h, .inr (13, mG 176 r35)) :: (q36, .inl (kA 0, 4, .inl (upd (fun _ => 0) 0 (-1)))) :: w35) H := hP
  have hD : va_D A ((h, .inr (13, mG 176 r35)) :: (q36, .inl (kA 0, 4, .inl (upd (fun _ => 0) 0 (-1)))) :: w35) := hD
  refine lv_dup (pc := 299) hx hb d_Mo_init_299 rfl ?_
  refine lv_iconst (pc := 300) (v := 1) hx hb d_Mo_init_300 (by decide) ?_
  refine lv_iconst (pc := 301) (v := -1) hx hb d_Mo_init_301 (by decide) ?_
  refine va_iast (pc := 302) hx hb hK hP hD hS 1 0 rfl rfl (by unfold vp_in; decide) d_Mo_init_302 (fun H locs hP hD hS => ?_)
  have hP : va_P D classes ((h, .inr (13, mG 176 r35)) :: (q36, .inl (kA 0, 4, .inl (upd (upd (fun _ => 0) 0 (-1)) 1 (-1)))) :: w35) H := hP
  have hD : va_D A ((h, .inr (13, mG 176 r35)) :: (q36, .inl (kA 0, 4, .inl (upd (upd (fun _ => 0) 0 (-1)) 1 (-1)))) :: w35) := hD
  refine lv_dup (pc := 303) hx hb d_Mo_init_303 rfl ?_
  refine lv_iconst (pc := 304) (v := 2) hx hb d_Mo_init_304 (by decide) ?_
  refine lv_iconst (pc := 305) (v := -1) hx hb d_Mo_init_305 (by decide) ?_
  refine va_iast (pc := 306) hx hb hK hP hD hS 1 0 rfl rfl (by unfold vp_in; decide) d_Mo_init_306 (fun H locs hP hD hS => ?_)
  have hP : va_P D classes ((h, .inr (13, mG 176 r35)) :: (q36, .inl (kA 0, 4, .inl (upd (upd (upd (fun _ => 0) 0 (-1)) 1 (-1)) 2 (-1)))) :: w35) H := hP
  have hD : va_D A ((h, .inr (13, mG 176 r35)) :: (q36, .inl (kA 0, 4, .inl (upd (upd (upd (fun _ => 0) 0 (-1)) 1 (-1)) 2 (-1)))) :: w35) := hD
  refine lv_dup (pc := 307) hx hb d_Mo_init_307 rfl ?_
  refine lv_iconst (pc := 308) (v := 3) hx hb d_Mo_init_308 (by decide) ?_
  refine lv_iconst (pc := 309) (v := -1) hx hb d_Mo_init_309 (by decide) ?_
  refine va_iast (pc := 310) hx hb hK hP hD hS 1 0 rfl rfl (by unfold vp_in; decide) d_Mo_init_310 (fun H locs hP hD hS => ?_)
  have hP : va_P D classes ((h, .inr (13, mG 176 r35)) :: (q36, .inl (kA 0, 4, .inl (upd (upd (upd (upd (fun _ => 0) 0 (-1)) 1 (-1)) 2 (-1)) 3 (-1)))) :: w35) H := hP
  have hD : va_D A ((h, .inr (13, mG 176 r35)) :: (q36, .inl (kA 0, 4, .inl (upd (upd (upd (upd (fun _ => 0) 0 (-1)) 1 (-1)) 2 (-1)) 3 (-1)))) :: w35) := hD
  refine k_putG (pc := 311) X hK hP hD hS rfl i_Mo t_Mo t_Mo_ok n_Mo 61 (by decide) wm_2493 rfl (Or.inr ⟨rfl, rfl⟩) rfl rfl d_Mo_init_311 (fun H locs hP hD hS => ?_)
  obtain ⟨r36, er36⟩ : ∃ z, z = rup r35 61 (.ref q36) := ⟨_, rfl⟩
  obtain ⟨w36, ew36⟩ : ∃ z : va_W, z = (q36, .inl (kA 0, 4, .inl (upd (upd (upd (upd (fun _ => 0) 0 (-1)) 1 (-1)) 2 (-1)) 3 (-1)))) :: w35 := ⟨_, rfl⟩
  rw [← er36, ← ew36] at hP hD
  refine lv_aload_n (pc := 314) hx hb d_Mo_init_314 rfl (lv_at hl 0 rfl) ?_
  refine lv_bipush (pc := 315) (v := 96) hx hb d_Mo_init_315 (by decide) ?_
  refine k_newC (pc := 317) (atype := .int) X (ty := .int) (a0 := (96, .inl (fun _ => 0))) rfl rfl wm_193 hK hP hD hS hA 0 rfl (fun _ => rfl) (by decide) rfl (by decide) (Nat.le_of_ble_eq_true rfl) (Nat.le_of_ble_eq_true rfl) d_Mo_init_317 (fun q37 H hP hD hS => ?_)
  refine W.widen (k := 37) (n := 81271) (by omega) (by omega) ?_
  refine k_putG (pc := 319) X hK hP hD hS rfl i_Mo t_Mo t_Mo_ok n_Mo 62 (by decide) wm_2494 rfl (Or.inr ⟨rfl, rfl⟩) rfl rfl d_Mo_init_319 (fun H locs hP hD hS => ?_)
  obtain ⟨r37, er37⟩ : ∃ z, z = rup r36 62 (.ref q37) := ⟨_, rfl⟩
  obtain ⟨w37, ew37⟩ : ∃ z : va_W, z = (q37, .inl (kA 0, 96, .inl (fun _ => 0))) :: w36 := ⟨_, rfl⟩
  rw [← er37, ← ew37] at hP hD
  refine lv_aload_n (pc := 322) hx hb d_Mo_init_322 rfl (lv_at hl 0 rfl) ?_
  refine lv_bipush (pc := 323) (v := 96) hx hb d_Mo_init_323 (by decide) ?_
  refine k_newC (pc := 325) (atype := .int) X (ty := .int) (a0 := (96, .inl (fun _ => 0))) rfl rfl wm_193 hK hP hD hS hA 0 rfl (fun _ => rfl) (by decide) rfl (by decide) (Nat.le_of_ble_eq_true rfl) (Nat.le_of_ble_eq_true rfl) d_Mo_init_325 (fun q38 H hP hD hS => ?_)
  refine W.widen (k := 38) (n := 81367) (by omega) (by omega) ?_
  refine k_putG (pc := 327) X hK hP hD hS rfl i_Mo t_Mo t_Mo_ok n_Mo 63 (by decide) wm_2495 rfl (Or.inr ⟨rfl, rfl⟩) rfl rfl d_Mo_init_327 (fun H locs hP hD hS => ?_)
  obtain ⟨r38, er38⟩ : ∃ z, z = rup r37 63 (.ref q38) := ⟨_, rfl⟩
  obtain ⟨w38, ew38⟩ : ∃ z : va_W, z = (q38, .inl (kA 0, 96, .inl (fun _ => 0))) :: w37 := ⟨_, rfl⟩
  rw [← er38, ← ew38] at hP hD
  refine lv_aload_n (pc := 330) hx hb d_Mo_init_330 rfl (lv_at hl 0 rfl) ?_
  refine lv_sipush (pc := 331) (v := 192) hx hb d_Mo_init_331 (by decide) ?_
  refine k_newC (pc := 334) (atype := .int) X (ty := .int) (a0 := (192, .inl (fun _ => 0))) rfl rfl wm_193 hK hP hD hS hA 0 rfl (fun _ => rfl) (by decide) rfl (by decide) (Nat.le_of_ble_eq_true rfl) (Nat.le_of_ble_eq_true rfl) d_Mo_init_334 (fun q39 H hP hD hS => ?_)
  refine W.widen (k := 39) (n := 81559) (by omega) (by omega) ?_
  refine k_putG (pc := 336) X hK hP hD hS rfl i_Mo t_Mo t_Mo_ok n_Mo 64 (by decide) wm_2496 rfl (Or.inr ⟨rfl, rfl⟩) rfl rfl d_Mo_init_336 (fun H locs hP hD hS => ?_)
  obtain ⟨r39, er39⟩ : ∃ z, z = rup r38 64 (.ref q39) := ⟨_, rfl⟩
  obtain ⟨w39, ew39⟩ : ∃ z : va_W, z = (q39, .inl (kA 0, 192, .inl (fun _ => 0))) :: w38 := ⟨_, rfl⟩
  rw [← er39, ← ew39] at hP hD
  refine lv_aload_n (pc := 339) hx hb d_Mo_init_339 rfl (lv_at hl 0 rfl) ?_
  refine lv_sipush (pc := 340) (v := 4608) hx hb d_Mo_init_340 (by decide) ?_
  refine k_newC (pc := 343) (atype := .int) X (ty := .int) (a0 := (4608, .inl (fun _ => 0))) rfl rfl wm_193 hK hP hD hS hA 0 rfl (fun _ => rfl) (by decide) rfl (by decide) (Nat.le_of_ble_eq_true rfl) (Nat.le_of_ble_eq_true rfl) d_Mo_init_343 (fun q40 H hP hD hS => ?_)
  refine W.widen (k := 40) (n := 86167) (by omega) (by omega) ?_
  refine k_putG (pc := 345) X hK hP hD hS rfl i_Mo t_Mo t_Mo_ok n_Mo 65 (by decide) wm_2497 rfl (Or.inr ⟨rfl, rfl⟩) rfl rfl d_Mo_init_345 (fun H locs hP hD hS => ?_)
  obtain ⟨r40, er40⟩ : ∃ z, z = rup r39 65 (.ref q40) := ⟨_, rfl⟩
  obtain ⟨w40, ew40⟩ : ∃ z : va_W, z = (q40, .inl (kA 0, 4608, .inl (fun _ => 0))) :: w39 := ⟨_, rfl⟩
  rw [← er40, ← ew40] at hP hD
  refine lv_aload_n (pc := 348) hx hb d_Mo_init_348 rfl (lv_at hl 0 rfl) ?_
  refine lv_sipush (pc := 349) (v := 4608) hx hb d_Mo_init_349 (by decide) ?_
  refine k_newC (pc := 352) (atype := .int) X (ty := .int) (a0 := (4608, .inl (fun _ => 0))) rfl rfl wm_193 hK hP hD hS hA 0 rfl (fun _ => rfl) (by decide) rfl (by decide) (Nat.le_of_ble_eq_true rfl) (Nat.le_of_ble_eq_true rfl) d_Mo_init_352 (fun q41 H hP hD hS => ?_)
  refine W.widen (k := 41) (n := 90775) (by omega) (by omega) ?_
  refine k_putG (pc := 354) X hK hP hD hS rfl i_Mo t_Mo t_Mo_ok n_Mo 66 (by decide) wm_2498 rfl (Or.inr ⟨rfl, rfl⟩) rfl rfl d_Mo_init_354 (fun H locs hP hD hS => ?_)
  obtain ⟨r41, er41⟩ : ∃ z, z = rup r40 66 (.ref q41) := ⟨_, rfl⟩
  obtain ⟨w41, ew41⟩ : ∃ z : va_W, z = (q41, .inl (kA 0, 4608, .inl (fun _ => 0))) :: w40 := ⟨_, rfl⟩
  rw [← er41, ← ew41] at hP hD
  refine lv_aload_n (pc := 357) hx hb d_Mo_init_357 rfl (lv_at hl 0 rfl) ?_
  refine lv_iconst (pc := 358) (v := 4) hx hb d_Mo_init_358 (by decide) ?_
  refine k_newC (pc := 359) (atype := .int) X (ty := .int) (a0 := (4, .inl (fun _ => 0))) rfl rfl wm_193 hK hP hD hS hA 0 rfl (fun _ => rfl) (by decide) rfl (by decide) (Nat.le_of_ble_eq_true rfl) (Nat.le_of_ble_eq_true rfl) d_Mo_init_359 (fun q42 H hP hD hS => ?_)
  refine W.widen (k := 42) (n := 90779) (by omega) (by omega) ?_
  refine k_putG (pc := 361) X hK hP hD hS rfl i_Mo t_Mo t_Mo_ok n_Mo 67 (by decide) wm_2499 rfl (Or.inr ⟨rfl, rfl⟩) rfl rfl d_Mo_init_361 (fun H locs hP hD hS => ?_)
  obtain ⟨r42, er42⟩ : ∃ z, z = rup r41 67 (.ref q42) := ⟨_, rfl⟩
  obtain ⟨w42, ew42⟩ : ∃ z : va_W, z = (q42, .inl (kA 0, 4, .inl (fun _ => 0))) :: w41 := ⟨_, rfl⟩
  rw [← er42, ← ew42] at hP hD
  refine lv_aload_n (pc := 364) hx hb d_Mo_init_364 rfl (lv_at hl 0 rfl) ?_
  refine lv_iconst (pc := 365) (v := 4) hx hb d_Mo_init_365 (by decide) ?_
  refine k_newC (pc := 366) (atype := .int) X (ty := .int) (a0 := (4, .inl (fun _ => 0))) rfl rfl wm_193 hK hP hD hS hA 0 rfl (fun _ => rfl) (by decide) rfl (by decide) (Nat.le_of_ble_eq_true rfl) (Nat.le_of_ble_eq_true rfl) d_Mo_init_366 (fun q43 H hP hD hS => ?_)
  refine W.widen (k := 43) (n := 90783) (by omega) (by omega) ?_
  refine k_putG (pc := 368) X hK hP hD hS rfl i_Mo t_Mo t_Mo_ok n_Mo 68 (by decide) wm_2500 rfl (Or.inr ⟨rfl, rfl⟩) rfl rfl d_Mo_init_368 (fun H locs hP hD hS => ?_)
  obtain ⟨r43, er43⟩ : ∃ z, z = rup r42 68 (.ref q43) := ⟨_, rfl⟩
  obtain ⟨w43, ew43⟩ : ∃ z : va_W, z = (q43, .inl (kA 0, 4, .inl (fun _ => 0))) :: w42 := ⟨_, rfl⟩
  rw [← er43, ← ew43] at hP hD
  refine lv_aload_n (pc := 371) hx hb d_Mo_init_371 rfl (lv_at hl 0 rfl) ?_
  refine lv_bipush (pc := 372) (v := 96) hx hb d_Mo_init_372 (by decide) ?_
  refine k_newC (pc := 374) (atype := .int) X (ty := .int) (a0 := (96, .inl (fun _ => 0))) rfl rfl wm_193 hK hP hD hS hA 0 rfl (fun _ => rfl) (by decide) rfl (by decide) (Nat.le_of_ble_eq_true rfl) (Nat.le_of_ble_eq_true rfl) d_Mo_init_374 (fun q44 H hP hD hS => ?_)
  refine W.widen (k := 44) (n := 90879) (by omega) (by omega) ?_
  refine k_putG (pc := 376) X hK hP hD hS rfl i_Mo t_Mo t_Mo_ok n_Mo 69 (by decide) wm_2501 rfl (Or.inr ⟨rfl, rfl⟩) rfl rfl d_Mo_init_376 (fun H locs hP hD hS => ?_)
  obtain ⟨r44, er44⟩ : ∃ z, z = rup r43 69 (.ref q44) := ⟨_, rfl⟩
  obtain ⟨w44, ew44⟩ : ∃ z : va_W, z = (q44, .inl (kA 0, 96, .inl (fun _ => 0))) :: w43 := ⟨_, rfl⟩
  rw [← er44, ← ew44] at hP hD
  refine lv_aload_n (pc := 379) hx hb d_Mo_init_379 rfl (lv_at hl 0 rfl) ?_
  refine lv_sipush (pc := 380) (v := 192) hx hb d_Mo_init_380 (by decide) ?_
  refine k_newC (pc := 383) (atype := .int) X (ty := .int) (a0 := (192, .inl (fun _ => 0))) rfl rfl wm_193 hK hP hD hS hA 0 rfl (fun _ => rfl) (by decide) rfl (by decide) (Nat.le_of_ble_eq_true rfl) (Nat.le_of_ble_eq_true rfl) d_Mo_init_383 (fun q45 H hP hD hS => ?_)
  refine W.widen (k := 45) (n := 91071) (by omega) (by omega) ?_
  refine k_putG (pc := 385) X hK hP hD hS rfl i_Mo t_Mo t_Mo_ok n_Mo 70 (by decide) wm_2502 rfl (Or.inr ⟨rfl, rfl⟩) rfl rfl d_Mo_init_385 (fun H locs hP hD hS => ?_)
  obtain ⟨r45, er45⟩ : ∃ z, z = rup r44 70 (.ref q45) := ⟨_, rfl⟩
  obtain ⟨w45, ew45⟩ : ∃ z : va_W, z = (q45, .inl (kA 0, 192, .inl (fun _ => 0))) :: w44 := ⟨_, rfl⟩
  rw [← er45, ← ew45] at hP hD
  refine lv_aload_n (pc := 388) hx hb d_Mo_init_388 rfl (lv_at hl 0 rfl) ?_
  refine lv_sipush (pc := 389) (v := 384) hx hb d_Mo_init_389 (by decide) ?_
  refine k_newC (pc := 392) (atype := .int) X (ty := .int) (a0 := (384, .inl (fun _ => 0))) rfl rfl wm_193 hK hP hD hS hA 0 rfl (fun _ => rfl) (by decide) rfl (by decide) (Nat.le_of_ble_eq_true rfl) (Nat.le_of_ble_eq_true rfl) d_Mo_init_392 (fun q46 H hP hD hS => ?_)
  refine W.widen (k := 46) (n := 91455) (by omega) (by omega) ?_
  refine k_putG (pc := 394) X hK hP hD hS rfl i_Mo t_Mo t_Mo_ok n_Mo 71 (by decide) wm_2503 rfl (Or.inr ⟨rfl, rfl⟩) rfl rfl d_Mo_init_394 (fun H locs hP hD hS => ?_)
  obtain ⟨r46, er46⟩ : ∃ z, z = rup r45 71 (.ref q46) := ⟨_, rfl⟩
  obtain ⟨w46, ew46⟩ : ∃ z : va_W, z = (q46, .inl (kA 0, 384, .inl (fun _ => 0))) :: w45 := ⟨_, rfl⟩
  rw [← er46, ← ew46] at hP hD
  refine lv_aload_n (pc := 397) hx hb d_Mo_init_397 rfl (lv_at hl 0 rfl) ?_
  refine lv_sipush (pc := 398) (v := 128) hx hb d_Mo_init_398 (by decide) ?_
  refine k_newC (pc := 401) (atype := .int) X (ty := .int) (a0 := (128, .inl (fun _ => 0))) rfl rfl wm_193 hK hP hD hS hA 0 rfl (fun _ => rfl) (by decide) rfl (by decide) (Nat.le_of_ble_eq_true rfl) (Nat.le_of_ble_eq_true rfl) d_Mo_init_401 (fun q47 H hP hD hS => ?_)
  refine W.widen (k := 47) (n := 91583) (by omega) (by omega) ?_
  refine k_putG (pc := 403) X hK hP hD hS rfl i_Mo t_Mo t_Mo_ok n_Mo 72 (by decide) wm_2504 rfl (Or.inr ⟨rfl, rfl⟩) rfl rfl d_Mo_init_403 (fun H locs hP hD hS => ?_)
  obtain ⟨r47, er47⟩ : ∃ z, z = rup r46 72 (.ref q47) := ⟨_, rfl⟩
  obtain ⟨w47, ew47⟩ : ∃ z : va_W, z = (q47, .inl (kA 0, 128, .inl (fun _ => 0))) :: w46 := ⟨_, rfl⟩
  rw [← er47, ← ew47] at hP hD
  refine lv_aload_n (pc := 406) hx hb d_Mo_init_406 rfl (lv_at hl 0 rfl) ?_
  refine lv_sipush (pc := 407) (v := 864) hx hb d_Mo_init_407 (by decide) ?_
  refine k_newC (pc := 410) (atype := .int) X (ty := .int) (a0 := (864, .inl (fun _ => 0))) rfl rfl wm_193 hK hP hD hS hA 0 rfl (fun _ => rfl) (by decide) rfl (by decide) (Nat.le_of_ble_eq_true rfl) (Nat.le_of_ble_eq_true rfl) d_Mo_init_410 (fun q48 H hP hD hS => ?_)
  refine W.widen (k := 48) (n := 92447) (by omega) (by omega) ?_
  refine k_putG (pc := 412) X hK hP hD hS rfl i_Mo t_Mo t_Mo_ok n_Mo 73 (by decide) wm_2505 rfl (Or.inr ⟨rfl, rfl⟩) rfl rfl d_Mo_init_412 (fun H locs hP hD hS => ?_)
  obtain ⟨r48, er48⟩ : ∃ z, z = rup r47 73 (.ref q48) := ⟨_, rfl⟩
  obtain ⟨w48, ew48⟩ : ∃ z : va_W, z = (q48, .inl (kA 0, 864, .inl (fun _ => 0))) :: w47 := ⟨_, rfl⟩
  rw [← er48, ← ew48] at hP hD
  refine lv_aload_n (pc := 415) hx hb d_Mo_init_415 rfl (lv_at hl 0 rfl) ?_
  refine lv_bipush (pc := 416) (v := 100) hx hb d_Mo_init_416 (by decide) ?_
  refine k_newC (pc := 418) (atype := .int) X (ty := .int) (a0 := (100, .inl (fun _ => 0))) rfl rfl wm_193 hK hP hD hS hA 0 rfl (fun _ => rfl) (by decide) rfl (by decide) (Nat.le_of_ble_eq_true rfl) (Nat.le_of_ble_eq_true rfl) d_Mo_init_418 (fun q49 H hP hD hS => ?_)
  refine W.widen (k := 49) (n := 92547) (by omega) (by omega) ?_
  refine k_putG (pc := 420) X hK hP hD hS rfl i_Mo t_Mo t_Mo_ok n_Mo 74 (by decide) wm_2506 rfl (Or.inr ⟨rfl, rfl⟩) rfl rfl d_Mo_init_420 (fun H locs hP hD hS => ?_)
  obtain ⟨r49, er49⟩ : ∃ z, z = rup r48 74 (.ref q49) := ⟨_, rfl⟩
  obtain ⟨w49, ew49⟩ : ∃ z : va_W, z = (q49, .inl (kA 0, 100, .inl (fun _ => 0))) :: w48 := ⟨_, rfl⟩
  rw [← er49, ← ew49] at hP hD
  refine lv_aload_n (pc := 423) hx hb d_Mo_init_423 rfl (lv_at hl 0 rfl) ?_
  refine lv_bipush (pc := 424) (v := 100) hx hb d_Mo_init_424 (by decide) ?_
  refine k_newC (pc := 426) (atype := .int) X (ty := .int) (a0 := (100, .inl (fun _ => 0))) rfl rfl wm_193 hK hP hD hS hA 0 rfl (fun _ => rfl) (by decide) rfl (by decide) (Nat.le_of_ble_eq_true rfl) (Nat.le_of_ble_eq_true rfl) d_Mo_init_426 (fun q50 H hP hD hS => ?_)
  refine W.widen (k := 50) (n := 92647) (by omega) (by omega) ?_
  refine k_putG (pc := 428) X hK hP hD hS rfl i_Mo t_Mo t_Mo_ok n_Mo 75 (by decide) wm_2507 rfl (Or.inr ⟨rfl, rfl⟩) rfl rfl d_Mo_init_428 (fun H locs hP hD hS => ?_)
  obtain ⟨r50, er50⟩ : ∃ z, z = rup r49 75 (.ref q50) := ⟨_, rfl⟩
  obtain ⟨w50, ew50⟩ : ∃ z : va_W, z = (q50, .inl (kA 0, 100, .inl (fun _ => 0))) :: w49 := ⟨_, rfl⟩
  rw [← er50, ← ew50] at hP hD
  refine lv_aload_n (pc := 431) hx hb d_Mo_init_431 rfl (lv_at hl 0 rfl) ?_
  refine lv_bipush (pc := 432) (v := 48) hx hb d_Mo_init_432 (by decide) ?_
  refine k_newC (pc := 434) (atype := .int) X (ty := .int) (a0 := (48, .inl (fun _ => 0))) rfl rfl wm_193 hK hP hD hS hA 0 rfl (fun _ => rfl) (by decide) rfl (by decide) (Nat.le_of_ble_eq_true rfl) (Nat.le_of_ble_eq_true rfl) d_Mo_init_434 (fun q51 H hP hD hS => ?_)
  refine W.widen (k := 51) (n := 92695) (by omega) (by omega) ?_
  refine k_putG (pc := 436) X hK hP hD hS rfl i_Mo t_Mo t_Mo_ok n_Mo 76 (by decide) wm_2508 rfl (Or.inr ⟨rfl, rfl⟩) rfl rfl d_Mo_init_436 (fun H locs hP hD hS => ?_)
  obtain ⟨r51, er51⟩ : ∃ z, z = rup r50 76 (.ref q51) := ⟨_, rfl⟩
  obtain ⟨w51, ew51⟩ : ∃ z : va_W, z = (q51, .inl (kA 0, 48, .inl (fun _ => 0))) :: w50 := ⟨_, rfl⟩
  rw [← er51, ← ew51] at hP hD
  refine lv_aload_n (pc := 439) hx hb d_Mo_init_439 rfl (lv_at hl 0 rfl) ?_
  refine lv_sipush (pc := 440) (v := 1152) hx hb d_Mo_init_440 (by decide) ?_
  refine k_newC (pc := 443) (atype := .int) X (ty := .int) (a0 := (1152, .inl (fun _ => 0))) rfl rfl wm_193 hK hP hD hS hA 0 rfl (fun _ => rfl) (by decide) rfl (by decide) (Nat.le_of_ble_eq_true rfl) (Nat.le_of_ble_eq_true rfl) d_Mo_init_443 (fun q52 H hP hD hS => ?_)
  refine W.widen (k := 52) (n := 93847) (by omega) (by omega) ?_
  refine k_putG (pc := 445) X hK hP hD hS rfl i_Mo t_Mo t_Mo_ok n_Mo 77 (by decide) wm_2509 rfl (Or.inr ⟨rfl, rfl⟩) rfl rfl d_Mo_init_445 (fun H locs hP hD hS => ?_)
  obtain ⟨r52, er52⟩ : ∃ z, z = rup r51 77 (.ref q52) := ⟨_, rfl⟩
  obtain ⟨w52, ew52⟩ : ∃ z : va_W, z = (q52, .inl (kA 0, 1152, .inl (fun _ => 0))) :: w51 := ⟨_, rfl⟩
  rw [← er52, ← ew52] at hP hD
  refine lv_aload_n (pc := 448) hx hb d_Mo_init_448 rfl (lv_at hl 0 rfl) ?_
  refine lv_sipush (pc := 449) (v := 1152) hx hb d_Mo_init_449 (by decide) ?_
  refine k_newC (pc := 452) (atype := .int) X (ty := .int) (a0 := (1152, .inl (fun _ => 0))) rfl rfl wm_193 hK hP hD hS hA 0 rfl (fun _ => rfl) (by decide) rfl (by decide) (Nat.le_of_ble_eq_true rfl) (Nat.le_of_ble_eq_true rfl) d_Mo_init_452 (fun q53 H hP hD hS => ?_)
  refine W.widen (k := 53) (n := 94999) (by omega) (by omega) ?_
  refine k_putG (pc := 454) X hK hP hD hS rfl i_Mo t_Mo t_Mo_ok n_Mo 78 (by decide) wm_2510 rfl (Or.inr ⟨rfl, rfl⟩) rfl rfl d_Mo_init_454 (fun H locs hP hD hS => ?_)
  obtain ⟨r53, er53⟩ : ∃ z, z = rup r52 78 (.ref q53) := ⟨_, rfl⟩
  obtain ⟨w53, ew53⟩ : ∃ z : va_W, z = (q53, .inl (kA 0, 1152, .inl (fun _ => 0))) :: w52 := ⟨_, rfl⟩
  rw [← er53, ← ew53] at hP hD
  refine lv_aload_n (pc := 457) hx hb d_Mo_init_457 rfl (lv_at hl 0 rfl) ?_
  refine lv_bipush (pc := 458) (v := 76) hx hb d_Mo_init_458 (by decide) ?_
  refine k_newC (pc := 460) (atype := .int) X (ty := .int) (a0 := (76, .inl (fun _ => 0))) rfl rfl wm_193 hK hP hD hS hA 0 rfl (fun _ => rfl) (by decide) rfl (by decide) (Nat.le_of_ble_eq_true rfl) (Nat.le_of_ble_eq_true rfl) d_Mo_init_460 (fun q54 H hP hD hS => ?_)
  refine W.widen (k := 54) (n := 95075) (by omega) (by omega) ?_
  refine k_putG (pc := 462) X hK hP hD hS rfl i_Mo t_Mo t_Mo_ok n_Mo 82 (by decide) wm_2514 rfl (Or.inr ⟨rfl, rfl⟩) rfl rfl d_Mo_init_462 (fun H locs hP hD hS => ?_)
  obtain ⟨r54, er54⟩ : ∃ z, z = rup r53 82 (.ref q54) := ⟨_, rfl⟩
  obtain ⟨w54, ew54⟩ : ∃ z : va_W, z = (q54, .inl (kA 0, 76, .inl (fun _ => 0))) :: w53 := ⟨_, rfl⟩
  rw [← er54, ← ew54] at hP hD
  refine lv_aload_n (pc := 465) hx hb d_Mo_init_465 rfl (lv_at hl 0 rfl) ?_
  refine lv_sipush (pc := 466) (v := 200) hx hb d_Mo_init_466 (by decide) ?_
  refine k_newC (pc := 469) (atype := .int) X (ty := .int) (a0 := (200, .inl (fun _ => 0))) rfl rfl wm_193 hK hP hD hS hA 0 rfl (fun _ => rfl) (by decide) rfl (by decide) (Nat.le_of_ble_eq_true rfl) (Nat.le_of_ble_eq_true rfl) d_Mo_init_469 (fun q55 H hP hD hS => ?_)
  refine W.widen (k := 55) (n := 95275) (by omega) (by omega) ?_
  refine k_putG (pc := 471) X hK hP hD hS rfl i_Mo t_Mo t_Mo_ok n_Mo 83 (by decide) wm_2515 rfl (Or.inr ⟨rfl, rfl⟩) rfl rfl d_Mo_init_471 (fun H locs hP hD hS => ?_)
  obtain ⟨r55, er55⟩ : ∃ z, z = rup r54 83 (.ref q55) := ⟨_, rfl⟩
  obtain ⟨w55, ew55⟩ : ∃ z : va_W, z = (q55, .inl (kA 0, 200, .inl (fun _ => 0))) :: w54 := ⟨_, rfl⟩
  rw [← er55, ← ew55] at hP hD
  refine lv_aload_n (pc := 474) hx hb d_Mo_init_474 rfl (lv_at hl 0 rfl) ?_
  refine lv_sipush (pc := 475) (v := 200) hx hb d_Mo_init_475 (by decide) ?_
  refine k_newC (pc := 478) (atype := .int) X (ty := .int) (a0 := (200, .inl (fun _ => 0))) rfl rfl wm_193 hK hP hD hS hA 0 rfl (fun _ => rfl) (by decide) rfl (by decide) (Nat.le_of_ble_eq_true rfl) (Nat.le_of_ble_eq_true rfl) d_Mo_init_478 (fun q56 H hP hD hS => ?_)
  refine W.widen (k := 56) (n := 95475) (by omega) (by omega) ?_
  refine k_putG (pc := 480) X hK hP hD hS rfl i_Mo t_Mo t_Mo_ok n_Mo 84 (by decide) wm_2516 rfl (Or.inr ⟨rfl, rfl⟩) rfl rfl d_Mo_init_480 (fun H locs hP hD hS => ?_)
  obtain ⟨r56, er56⟩ : ∃ z, z = rup r55 84 (.ref q56) := ⟨_, rfl⟩
  obtain ⟨w56, ew56⟩ : ∃ z : va_W, z = (q56, .inl (kA 0, 200, .inl (fun _ => 0))) :: w55 := ⟨_, rfl⟩
  rw [← er56, ← ew56] at hP hD
  refine lv_aload_n (pc := 483) hx hb d_Mo_init_483 rfl (lv_at hl 0 rfl) ?_
  refine lv_sipush (pc := 484) (v := 200) hx hb d_Mo_init_484 (by decide) ?_
  refine k_newC (pc := 487) (atype := .int) X (ty := .int) (a0 := (200, .inl (fun _ => 0))) rfl rfl wm_193 hK hP hD hS hA 0 rfl (fun _ => rfl) (by decide) rfl (by decide) (Nat.le_of_ble_eq_true rfl) (Nat.le_of_ble_eq_true rfl) d_Mo_init_487 (fun q57 H hP hD hS => ?_)
  refine W.widen (k := 57) (n := 95675) (by omega) (by omega) ?_
  refine k_putG (pc := 489) X hK hP hD hS rfl i_Mo t_Mo t_Mo_ok n_Mo 85 (by decide) wm_2517 rfl (Or.inr ⟨rfl, rfl⟩) rfl rfl d_Mo_init_489 (fun H locs hP hD hS => ?_)
  obtain ⟨r57, er57⟩ : ∃ z, z = rup r56 85 (.ref q57) := ⟨_, rfl⟩
  obtain ⟨w57, ew57⟩ : ∃ z : va_W, z = (q57, .inl (kA 0, 200, .inl (fun _ => 0))) :: w56 := ⟨_, rfl⟩
  rw [← er57, ← ew57] at hP hD
  refine lv_aload_n (pc := 492) hx hb d_Mo_init_492 rfl (lv_at hl 0 rfl) ?_
  refine lv_sipush (pc := 493) (v := 200) hx hb d_Mo_init_493 (by decide) ?_
  refine k_newC (pc := 496) (atype := .boolean) X (ty := .boolean) (a0 := (200, .inl (fun _ => 0))) rfl rfl wm_387 hK hP hD hS hA 2 rfl (fun _ => rfl) (by decide) rfl (by decide) (Nat.le_of_ble_eq_true rfl) (Nat.le_of_ble_eq_true rfl) d_Mo_init_496 (fun q58 H hP hD hS => ?_)
  refine W.widen (k := 58) (n := 95875) (by omega) (by omega) ?_
  refine k_putG (pc := 498) X hK hP hD hS rfl i_Mo t_Mo t_Mo_ok n_Mo 86 (by decide) wm_2518 rfl (Or.inr ⟨rfl, rfl⟩) rfl rfl d_Mo_init_498 (fun H locs hP hD hS => ?_)
  obtain ⟨r58, er58⟩ : ∃ z, z = rup r57 86 (.ref q58) := ⟨_, rfl⟩
  obtain ⟨w58, ew58⟩ : ∃ z : va_W, z = (q58, .inl (kA 2, 200, .inl (fun _ => 0))) :: w57 := ⟨_, rfl⟩
  rw [← er58, ← ew58] at hP hD
  refine lv_aload_n (pc := 501) hx hb d_Mo_init_501 rfl (lv_at hl 0 rfl) ?_
  refine lv_sipush (pc := 502) (v := 200) hx hb d_Mo_init_502 (by decide) ?_
  refine k_newC (pc := 505) (atype := .int) X (ty := .int) (a0 := (200, .inl (fun _ => 0))) rfl rfl wm_193 hK hP hD hS hA 0 rfl (fun _ => rfl) (by decide) rfl (by decide) (Nat.le_of_ble_eq_true rfl) (Nat.le_of_ble_eq_true rfl) d_Mo_init_505 (fun q59 H hP hD hS => ?_)
  refine W.widen (k := 59) (n := 96075) (by omega) (by omega) ?_
  refine k_putG (pc := 507) X hK hP hD hS rfl i_Mo t_Mo t_Mo_ok n_Mo 87 (by decide) wm_2519 rfl (Or.inr ⟨rfl, rfl⟩) rfl rfl d_Mo_init_507 (fun H locs hP hD hS => ?_)
  obtain ⟨r59, er59⟩ : ∃ z, z = rup r58 87 (.ref q59) := ⟨_, rfl⟩
  obtain ⟨w59, ew59⟩ : ∃ z : va_W, z = (q59, .inl (kA 0, 200, .inl (fun _ => 0))) :: w58 := ⟨_, rfl⟩
  rw [← er59, ← ew59] at hP hD
  refine lv_aload_n (pc := 510) hx hb d_Mo_init_510 rfl (lv_at hl 0 rfl) ?_
  refine lv_sipush (pc := 511) (v := 200) hx hb d_Mo_init_511 (by decide) ?_
  refine k_newC (pc := 514) (atype := .int) X (ty := .int) (a0 := (200, .inl (fun _ => 0))) rfl rfl wm_193 hK hP hD hS hA 0 rfl (fun _ => rfl) (by decide) rfl (by decide) (Nat.le_of_ble_eq_true rfl) (Nat.le_of_ble_eq_true rfl) d_Mo_init_514 (fun q60 H hP hD hS => ?_)
  refine W.widen (k := 60) (n := 96275) (by omega) (by omega) ?_
  refine k_putG (pc := 516) X hK hP hD hS rfl i_Mo t_Mo t_Mo_ok n_Mo 88 (by decide) wm_2520 rfl (Or.inr ⟨rfl, rfl⟩) rfl rfl d_Mo_init_516 (fun H locs hP hD hS => ?_)
  obtain ⟨r60, er60⟩ : ∃ z, z = rup r59 88 (.ref q60) := ⟨_, rfl⟩
  obtain ⟨w60, ew60⟩ : ∃ z : va_W, z = (q60, .inl (kA 0, 200, .inl (fun _ => 0))) :: w59 := ⟨_, rfl⟩
  rw [← er60, ← ew60] at hP hD
  refine lv_aload_n (pc := 519) hx hb d_Mo_init_519 rfl (lv_at hl 0 rfl) ?_
  refine lv_sipush (pc := 520) (v := 200) hx hb d_Mo_init_520 (by decide) ?_
  refine k_newC (pc := 523) (atype := .int) X (ty := .int) (a0 := (200, .inl (fun _ => 0))) rfl rfl wm_193 hK hP hD hS hA 0 rfl (fun _ => rfl) (by decide) rfl (by decide) (Nat.le_of_ble_eq_true rfl) (Nat.le_of_ble_eq_true rfl) d_Mo_init_523 (fun q61 H hP hD hS => ?_)
  refine W.widen (k := 61) (n := 96475) (by omega) (by omega) ?_
  refine k_putG (pc := 525) X hK hP hD hS rfl i_Mo t_Mo t_Mo_ok n_Mo 89 (by decide) wm_2521 rfl (Or.inr ⟨rfl, rfl⟩) rfl rfl d_Mo_init_525 (fun H locs hP hD hS => ?_)
  obtain ⟨r61, er61⟩ : ∃ z, z = rup r60 89 (.ref q61) := ⟨_, rfl⟩
  obtain ⟨w61, ew61⟩ : ∃ z : va_W, z = (q61, .inl (kA 0, 200, .inl (fun _ => 0))) :: w60 := ⟨_, rfl⟩
  rw [← er61, ← ew61] at hP hD
  refine lv_aload_n (pc := 528) hx hb d_Mo_init_528 rfl (lv_at hl 0 rfl) ?_
  refine lv_sipush (pc := 529) (v := 6084) hx hb d_Mo_init_529 (by decide) ?_
  refine k_newC (pc := 532) (atype := .int) X (ty := .int) (a0 := (6084, .inl (fun _ => 0))) rfl rfl wm_193 hK hP hD hS hA 0 rfl (fun _ => rfl) (by decide) rfl (by decide) (Nat.le_of_ble_eq_true rfl) (Nat.le_of_ble_eq_true rfl) d_Mo_init_532 (fun q62 H hP hD hS => ?_)
  refine W.widen (k := 62) (n := 102559) (by omega) (by omega) ?_
  refine k_putG (pc := 534) X hK hP hD hS rfl i_Mo t_Mo t_Mo_ok n_Mo 90 (by decide) wm_2522 rfl (Or.inr ⟨rfl, rfl⟩) rfl rfl d_Mo_init_534 (fun H locs hP hD hS => ?_)
  obtain ⟨r62, er62⟩ : ∃ z, z = rup r61 90 (.ref q62) := ⟨_, rfl⟩
  obtain ⟨w62, ew62⟩ : ∃ z : va_W, z = (q62, .inl (kA 0, 6084, .inl (fun _ => 0))) :: w61 := ⟨_, rfl⟩
  rw [← er62, ← ew62] at hP hD
  refine lv_aload_n (pc := 537) hx hb d_Mo_init_537 rfl (lv_at hl 0 rfl) ?_
  refine lv_bipush (pc := 538) (v := 78) hx hb d_Mo_init_538 (by decide) ?_
  refine k_newC (pc := 540) (atype := .int) X (ty := .int) (a0 := (78, .inl (fun _ => 0))) rfl rfl wm_193 hK hP hD hS hA 0 rfl (fun _ => rfl) (by decide) rfl (by decide) (Nat.le_of_ble_eq_true rfl) (Nat.le_of_ble_eq_true rfl) d_Mo_init_540 (fun q63 H hP hD hS => ?_)
  refine W.widen (k := 63) (n := 102637) (by omega) (by omega) ?_
  refine k_putG (pc := 542) X hK hP hD hS rfl i_Mo t_Mo t_Mo_ok n_Mo 91 (by decide) wm_2523 rfl (Or.inr ⟨rfl, rfl⟩) rfl rfl d_Mo_init_542 (fun H locs hP hD hS => ?_)
  obtain ⟨r63, er63⟩ : ∃ z, z = rup r62 91 (.ref q63) := ⟨_, rfl⟩
  obtain ⟨w63, ew63⟩ : ∃ z : va_W, z = (q63, .inl (kA 0, 78, .inl (fun _ => 0))) :: w62 := ⟨_, rfl⟩
  rw [← er63, ← ew63] at hP hD
  refine lv_aload_n (pc := 545) hx hb d_Mo_init_545 rfl (lv_at hl 0 rfl) ?_
  refine lv_bipush (pc := 546) (v := 100) hx hb d_Mo_init_546 (by decide) ?_
  refine k_newC (pc := 548) (atype := .int) X (ty := .int) (a0 := (100, .inl (fun _ => 0))) rfl rfl wm_193 hK hP hD hS hA 0 rfl (fun _ => rfl) (by decide) rfl (by decide) (Nat.le_of_ble_eq_true rfl) (Nat.le_of_ble_eq_true rfl) d_Mo_init_548 (fun q64 H hP hD hS => ?_)
  refine W.widen (k := 64) (n := 102737) (by omega) (by omega) ?_
  refine k_putG (pc := 550) X hK hP hD hS rfl i_Mo t_Mo t_Mo_ok n_Mo 92 (by decide) wm_2524 rfl (Or.inr ⟨rfl, rfl⟩) rfl rfl d_Mo_init_550 (fun H locs hP hD hS => ?_)
  obtain ⟨r64, er64⟩ : ∃ z, z = rup r63 92 (.ref q64) := ⟨_, rfl⟩
  obtain ⟨w64, ew64⟩ : ∃ z : va_W, z = (q64, .inl (kA 0, 100, .inl (fun _ => 0))) :: w63 := ⟨_, rfl⟩
  rw [← er64, ← ew64] at hP hD
  refine lv_aload_n (pc := 553) hx hb d_Mo_init_553 rfl (lv_at hl 0 rfl) ?_
  refine lv_bipush (pc := 554) (v := 78) hx hb d_Mo_init_554 (by decide) ?_
  refine k_newC (pc := 556) (atype := .int) X (ty := .int) (a0 := (78, .inl (fun _ => 0))) rfl rfl wm_193 hK hP hD hS hA 0 rfl (fun _ => rfl) (by decide) rfl (by decide) (Nat.le_of_ble_eq_true rfl) (Nat.le_of_ble_eq_true rfl) d_Mo_init_556 (fun q65 H hP hD hS => ?_)
  refine W.widen (k := 65) (n := 102815) (by omega) (by omega) ?_
  refine k_putG (pc := 558) X hK hP hD hS rfl i_Mo t_Mo t_Mo_ok n_Mo 93 (by decide) wm_2525 rfl (Or.inr ⟨rfl, rfl⟩) rfl rfl d_Mo_init_558 (fun H locs hP hD hS => ?_)
  obtain ⟨r65, er65⟩ : ∃ z, z = rup r64 93 (.ref q65) := ⟨_, rfl⟩
  obtain ⟨w65, ew65⟩ : ∃ z : va_W, z = (q65, .inl (kA 0, 78, .inl (fun _ => 0))) :: w64 := ⟨_, rfl⟩
  rw [← er65, ← ew65] at hP hD
  refine lv_aload_n (pc := 561) hx hb d_Mo_init_561 rfl (lv_at hl 0 rfl) ?_
  refine lv_bipush (pc := 562) (v := 48) hx hb d_Mo_init_562 (by decide) ?_
  refine k_newC (pc := 564) (atype := .boolean) X (ty := .boolean) (a0 := (48, .inl (fun _ => 0))) rfl rfl wm_387 hK hP hD hS hA 2 rfl (fun _ => rfl) (by decide) rfl (by decide) (Nat.le_of_ble_eq_true rfl) (Nat.le_of_ble_eq_true rfl) d_Mo_init_564 (fun q66 H hP hD hS => ?_)
  refine W.widen (k := 66) (n := 102863) (by omega) (by omega) ?_
  refine k_putG (pc := 566) X hK hP hD hS rfl i_Mo t_Mo t_Mo_ok n_Mo 95 (by decide) wm_2527 rfl (Or.inr ⟨rfl, rfl⟩) rfl rfl d_Mo_init_566 (fun H locs hP hD hS => ?_)
  obtain ⟨r66, er66⟩ : ∃ z, z = rup r65 95 (.ref q66) := ⟨_, rfl⟩
  obtain ⟨w66, ew66⟩ : ∃ z : va_W, z = (q66, .inl (kA 2, 48, .inl (fun _ => 0))) :: w65 := ⟨_, rfl⟩
  rw [← er66, ← ew66] at hP hD
  refine lv_aload_n (pc := 569) hx hb d_Mo_init_569 rfl (lv_at hl 0 rfl) ?_
  refine lv_bipush (pc := 570) (v := 26) hx hb d_Mo_init_570 (by decide) ?_
  refine k_newC (pc := 572) (atype := .int) X (ty := .int) (a0 := (26, .inl (fun _ => 0))) rfl rfl wm_193 hK hP hD hS hA 0 rfl (fun _ => rfl) (by decide) rfl (by decide) (Nat.le_of_ble_eq_true rfl) (Nat.le_of_ble_eq_true rfl) d_Mo_init_572 (fun q67 H hP hD hS => ?_)
  refine W.widen (k := 67) (n := 102889) (by omega) (by omega) ?_
  refine k_putG (pc := 574) X hK hP hD hS rfl i_Mo t_Mo t_Mo_ok n_Mo 96 (by decide) wm_2528 rfl (Or.inr ⟨rfl, rfl⟩) rfl rfl d_Mo_init_574 (fun H locs hP hD hS => ?_)
  obtain ⟨r67, er67⟩ : ∃ z, z = rup r66 96 (.ref q67) := ⟨_, rfl⟩
  obtain ⟨w67, ew67⟩ : ∃ z : va_W, z = (q67, .inl (kA 0, 26, .inl (fun _ => 0))) :: w66 := ⟨_, rfl⟩
  rw [← er67, ← ew67] at hP hD
  refine lv_aload_n (pc := 577) hx hb d_Mo_init_577 rfl (lv_at hl 0 rfl) ?_
  refine lv_bipush (pc := 578) (v := 26) hx hb d_Mo_init_578 (by decide) ?_
  refine k_newC (pc := 580) (atype := .int) X (ty := .int) (a0 := (26, .inl (fun _ => 0))) rfl rfl wm_193 hK hP hD hS hA 0 rfl (fun _ => rfl) (by decide) rfl (by decide) (Nat.le_of_ble_eq_true rfl) (Nat.le_of_ble_eq_true rfl) d_Mo_init_580 (fun q68 H hP hD hS => ?_)
  refine W.widen (k := 68) (n := 102915) (by omega) (by omega) ?_
  refine k_putG (pc := 582) X hK hP hD hS rfl i_Mo t_Mo t_Mo_ok n_Mo 97 (by decide) wm_2529 rfl (Or.inr ⟨rfl, rfl⟩) rfl rfl d_Mo_init_582 (fun H locs hP hD hS => ?_)
  obtain ⟨r68, er68⟩ : ∃ z, z = rup r67 97 (.ref q68) := ⟨_, rfl⟩
  obtain ⟨w68, ew68⟩ : ∃ z : va_W, z = (q68, .inl (kA 0, 26, .inl (fun _ => 0))) :: w67 := ⟨_, rfl⟩
  rw [← er68, ← ew68] at hP hD
  refine lv_aload_n (pc := 585) hx hb d_Mo_init_585 rfl (lv_at hl 0 rfl) ?_
  refine lv_bipush (pc := 586) (v := 26) hx hb d_Mo_init_586 (by decide) ?_
  refine k_newC (pc := 588) (atype := .int) X (ty := .int) (a0 := (26, .inl (fun _ => 0))) rfl rfl wm_193 hK hP hD hS hA 0 rfl (fun _ => rfl) (by decide) rfl (by decide) (Nat.le_of_ble_eq_true rfl) (Nat.le_of_ble_eq_true rfl) d_Mo_init_588 (fun q69 H hP hD hS => ?_)
  refine W.widen (k := 69) (n := 102941) (by omega) (by omega) ?_
  refine k_putG (pc := 590) X hK hP hD hS rfl i_Mo t_Mo t_Mo_ok n_Mo 98 (by decide) wm_2530 rfl (Or.inr ⟨rfl, rfl⟩) rfl rfl d_Mo_init_590 (fun H locs hP hD hS => ?_)
  obtain ⟨r69, er69⟩ : ∃ z, z = rup r68 98 (.ref q69) := ⟨_, rfl⟩
  obtain ⟨w69, ew69⟩ : ∃ z : va_W, z = (q69, .inl (kA 0, 26, .inl (fun _ => 0))) :: w68 := ⟨_, rfl⟩
  rw [← er69, ← ew69] at hP hD
  refine lv_aload_n (pc := 593) hx hb d_Mo_init_593 rfl (lv_at hl 0 rfl) ?_
  refine lv_bipush (pc := 594) (v := 76) hx hb d_Mo_init_594 (by decide) ?_
  refine k_newC (pc := 596) (atype := .int) X (ty := .int) (a0 := (76, .inl (fun _ => 0))) rfl rfl wm_193 hK hP hD hS hA 0 rfl (fun _ => rfl) (by decide) rfl (by decide) (Nat.le_of_ble_eq_true rfl) (Nat.le_of_ble_eq_true rfl) d_Mo_init_596 (fun q70 H hP hD hS => ?_)
  refine W.widen (k := 70) (n := 103017) (by omega) (by omega) ?_
  refine k_putG (pc := 598) X hK hP hD hS rfl i_Mo t_Mo t_Mo_ok n_Mo 102 (by decide) wm_2534 rfl (Or.inr ⟨rfl, rfl⟩) rfl rfl d_Mo_init_598 (fun H locs hP hD hS => ?_)
  obtain ⟨r70, er70⟩ : ∃ z, z = rup r69 102 (.ref q70) := ⟨_, rfl⟩
  obtain ⟨w70, ew70⟩ : ∃ z : va_W, z = (q70, .inl (kA 0, 76, .inl (fun _ => 0))) :: w69 := ⟨_, rfl⟩
  rw [← er70, ← ew70] at hP hD
  refine lv_aload_n (pc := 601) hx hb d_Mo_init_601 rfl (lv_at hl 0 rfl) ?_
  refine lv_bipush (pc := 602) (v := 76) hx hb d_Mo_init_602 (by decide) ?_
  refine k_newC (pc := 604) (atype := .int) X (ty := .int) (a0 := (76, .inl (fun _ => 0))) rfl rfl wm_193 hK hP hD hS hA 0 rfl (fun _ => rfl) (by decide) rfl (by decide) (Nat.le_of_ble_eq_true rfl) (Nat.le_of_ble_eq_true rfl) d_Mo_init_604 (fun q71 H hP hD hS => ?_)
  refine W.widen (k := 71) (n := 103093) (by omega) (by omega) ?_
  refine k_putG (pc := 606) X hK hP hD hS rfl i_Mo t_Mo t_Mo_ok n_Mo 103 (by decide) wm_2535 rfl (Or.inr ⟨rfl, rfl⟩) rfl rfl d_Mo_init_606 (fun H locs hP hD hS => ?_)
  obtain ⟨r71, er71⟩ : ∃ z, z = rup r70 103 (.ref q71) := ⟨_, rfl⟩
  obtain ⟨w71, ew71⟩ : ∃ z : va_W, z = (q71, .inl (kA 0, 76, .inl (fun _ => 0))) :: w70 := ⟨_, rfl⟩
  rw [← er71, ← ew71] at hP hD
  refine lv_aload_n (pc := 609) hx hb d_Mo_init_609 rfl (lv_at hl 0 rfl) ?_
  refine lv_bipush (pc := 610) (v := 48) hx hb d_Mo_init_610 (by decide) ?_
  refine k_newC (pc := 612) (atype := .int) X (ty := .int) (a0 := (48, .inl (fun _ => 0))) rfl rfl wm_193 hK hP hD hS hA 0 rfl (fun _ => rfl) (by decide) rfl (by decide) (Nat.le_of_ble_eq_true rfl) (Nat.le_of_ble_eq_true rfl) d_Mo_init_612 (fun q72 H hP hD hS => ?_)
  refine W.widen (k := 72) (n := 103141) (by omega) (by omega) ?_
  refine k_putG (pc := 614) X hK hP hD hS rfl i_Mo t_Mo t_Mo_ok n_Mo 104 (by decide) wm_2536 rfl (Or.inr ⟨rfl, rfl⟩) rfl rfl d_Mo_init_614 (fun H locs hP hD hS => ?_)
  obtain ⟨r72, er72⟩ : ∃ z, z = rup r71 104 (.ref q72) := ⟨_, rfl⟩
  obtain ⟨w72, ew72⟩ : ∃ z : va_W, z = (q72, .inl (kA 0, 48, .inl (fun _ => 0))) :: w71 := ⟨_, rfl⟩
  rw [← er72, ← ew72] at hP hD
  refine lv_aload_n (pc := 617) hx hb d_Mo_init_617 rfl (lv_at hl 0 rfl) ?_
  refine lv_bipush (pc := 618) (v := 76) hx hb d_Mo_init_618 (by decide) ?_
  refine k_newC (pc := 620) (atype := .int) X (ty := .int) (a0 := (76, .inl (fun _ => 0))) rfl rfl wm_193 hK hP hD hS hA 0 rfl (fun _ => rfl) (by decide) rfl (by decide) (Nat.le_of_ble_eq_true rfl) (Nat.le_of_ble_eq_true rfl) d_Mo_init_620 (fun q73 H hP hD hS => ?_)
  refine W.widen (k := 73) (n := 103217) (by omega) (by omega) ?_
  refine k_putG (pc := 622) X hK hP hD hS rfl i_Mo t_Mo t_Mo_ok n_Mo 105 (by decide) wm_2537 rfl (Or.inr ⟨rfl, rfl⟩) rfl rfl d_Mo_init_622 (fun H locs hP hD hS => ?_)
  obtain ⟨r73, er73⟩ : ∃ z, z = rup r72 105 (.ref q73) := ⟨_, rfl⟩
  obtain ⟨w73, ew73⟩ : ∃ z : va_W, z = (q73, .inl (kA 0, 76, .inl (fun _ => 0))) :: w72 := ⟨_, rfl⟩
  rw [← er73, ← ew73] at hP hD
  refine lv_aload_n (pc := 625) hx hb d_Mo_init_625 rfl (lv_at hl 0 rfl) ?_
  refine lv_sipush (pc := 626) (v := 5776) hx hb d_Mo_init_626 (by decide) ?_
  refine k_newC (pc := 629) (atype := .int) X (ty := .int) (a0 := (5776, .inl (fun _ => 0))) rfl rfl wm_193 hK hP hD hS hA 0 rfl (fun _ => rfl) (by decide) rfl (by decide) (Nat.le_of_ble_eq_true rfl) (Nat.le_of_ble_eq_true rfl) d_Mo_init_629 (fun q74 H hP hD hS => ?_)
  refine W.widen (k := 74) (n := 108993) (by omega) (by omega) ?_
  refine k_putG (pc := 631) X hK hP hD hS rfl i_Mo t_Mo t_Mo_ok n_Mo 106 (by decide) wm_2538 rfl (Or.inr ⟨rfl, rfl⟩) rfl rfl d_Mo_init_631 (fun H locs hP hD hS => ?_)
  obtain ⟨r74, er74⟩ : ∃ z, z = rup r73 106 (.ref q74) := ⟨_, rfl⟩
  obtain ⟨w74, ew74⟩ : ∃ z : va_W, z = (q74, .inl (kA 0, 5776, .inl (fun _ => 0))) :: w73 := ⟨_, rfl⟩
  rw [← er74, ← ew74] at hP hD
  refine lv_aload_n (pc := 634) hx hb d_Mo_init_634 rfl (lv_at hl 0 rfl) ?_
  refine lv_sipush (pc := 635) (v := 130) hx hb d_Mo_init_635 (by decide) ?_
  refine k_newC (pc := 638) (atype := .int) X (ty := .int) (a0 := (130, .inl (fun _ => 0))) rfl rfl wm_193 hK hP hD hS hA 0 rfl (fun _ => rfl) (by decide) rfl (by decide) (Nat.le_of_ble_eq_true rfl) (Nat.le_of_ble_eq_true rfl) d_Mo_init_638 (fun q75 H hP hD hS => ?_)
  refine W.widen (k := 75) (n := 109123) (by omega) (by omega) ?_
  refine k_putG (pc := 640) X hK hP hD hS rfl i_Mo t_Mo t_Mo_ok n_Mo 108 (by decide) wm_2540 rfl (Or.inr ⟨rfl, rfl⟩) rfl rfl d_Mo_init_640 (fun H locs hP hD hS => ?_)
  obtain ⟨r75, er75⟩ : ∃ z, z = rup r74 108 (.ref q75) := ⟨_, rfl⟩
  obtain ⟨w75, ew75⟩ : ∃ z : va_W, z = (q75, .inl (kA 0, 130, .inl (fun _ => 0))) :: w74 := ⟨_, rfl⟩
  rw [← er75, ← ew75] at hP hD
  refine lv_aload_n (pc := 643) hx hb d_Mo_init_643 rfl (lv_at hl 0 rfl) ?_
  refine lv_sipush (pc := 644) (v := 130) hx hb d_Mo_init_644 (by decide) ?_
  refine k_newC (pc := 647) (atype := .int) X (ty := .int) (a0 := (130, .inl (fun _ => 0))) rfl rfl wm_193 hK hP hD hS hA 0 rfl (fun _ => rfl) (by decide) rfl (by decide) (Nat.le_of_ble_eq_true rfl) (Nat.le_of_ble_eq_true rfl) d_Mo_init_647 (fun q76 H hP hD hS => ?_)
  refine W.widen (k := 76) (n := 109253) (by omega) (by omega) ?_
  refine k_putG (pc := 649) X hK hP hD hS rfl i_Mo t_Mo t_Mo_ok n_Mo 109 (by decide) wm_2541 rfl (Or.inr ⟨rfl, rfl⟩) rfl rfl d_Mo_init_649 (fun H locs hP hD hS => ?_)
  obtain ⟨r76, er76⟩ : ∃ z, z = rup r75 109 (.ref q76) := ⟨_, rfl⟩
  obtain ⟨w76, ew76⟩ : ∃ z : va_W, z = (q76, .inl (kA 0, 130, .inl (fun _ => 0))) :: w75 := ⟨_, rfl⟩
  rw [← er76, ← ew76] at hP hD
  refine lv_aload_n (pc := 652) hx hb d_Mo_init_652 rfl (lv_at hl 0 rfl) ?_
  refine lv_bipush (pc := 653) (v := 8) hx hb d_Mo_init_653 (by decide) ?_
  refine k_newC (pc := 655) (atype := .int) X (ty := .int) (a0 := (8, .inl (fun _ => 0))) rfl rfl wm_193 hK hP hD hS hA 0 rfl (fun _ => rfl) (by decide) rfl (by decide) (Nat.le_of_ble_eq_true rfl) (Nat.le_of_ble_eq_true rfl) d_Mo_init_655 (fun q77 H hP hD hS => ?_)
  refine W.widen (k := 77) (n := 109261) (by omega) (by omega) ?_
  refine k_putG (pc := 657) X hK hP hD hS rfl i_Mo t_Mo t_Mo_ok n_Mo 110 (by decide) wm_2542 rfl (Or.inr ⟨rfl, rfl⟩) rfl rfl d_Mo_init_657 (fun H locs hP hD hS => ?_)
  obtain ⟨r77, er77⟩ : ∃ z, z = rup r76 110 (.ref q77) := ⟨_, rfl⟩
  obtain ⟨w77, ew77⟩ : ∃ z : va_W, z = (q77, .inl (kA 0, 8, .inl (fun _ => 0))) :: w76 := ⟨_, rfl⟩
  rw [← er77, ← ew77] at hP hD
  refine lv_aload_n (pc := 660) hx hb d_Mo_init_660 rfl (lv_at hl 0 rfl) ?_
  refine lv_bipush (pc := 661) (v := 8) hx hb d_Mo_init_661 (by decide) ?_
  refine k_newC (pc := 663) (atype := .int) X (ty := .int) (a0 := (8, .inl (fun _ => 0))) rfl rfl wm_193 hK hP hD hS hA 0 rfl (fun _ => rfl) (by decide) rfl (by decide) (Nat.le_of_ble_eq_true rfl) (Nat.le_of_ble_eq_true rfl) d_Mo_init_663 (fun q78 H hP hD hS => ?_)
  refine W.widen (k := 78) (n := 109269) (by omega) (by omega) ?_
  refine k_putG (pc := 665) X hK hP hD hS rfl i_Mo t_Mo t_Mo_ok n_Mo 111 (by decide) wm_2543 rfl (Or.inr ⟨rfl, rfl⟩) rfl rfl d_Mo_init_665 (fun H locs hP hD hS => ?_)
  obtain ⟨r78, er78⟩ : ∃ z, z = rup r77 111 (.ref q78) := ⟨_, rfl⟩
  obtain ⟨w78, ew78⟩ : ∃ z : va_W, z = (q78, .inl (kA 0, 8, .inl (fun _ => 0))) :: w77 := ⟨_, rfl⟩
  rw [← er78, ← ew78] at hP hD
  refine lv_aload_n (pc := 668) hx hb d_Mo_init_668 rfl (lv_at hl 0 rfl) ?_
  refine lv_sipush (pc := 669) (v := 6000) hx hb d_Mo_init_669 (by decide) ?_
  refine k_newC (pc := 672) (atype := .byte) X (ty := .byte) (a0 := (6000, .inl (fun _ => 0))) rfl rfl wm_192 hK hP hD hS hA 1 rfl (fun _ => rfl) (by decide) rfl (by decide) (Nat.le_of_ble_eq_true rfl) (Nat.le_of_ble_eq_true rfl) d_Mo_init_672 (fun q79 H hP hD hS => ?_)
  refine W.widen (k := 79) (n := 115269) (by omega) (by omega) ?_
  refine k_putG (pc := 674) X hK hP hD hS rfl i_Mo t_Mo t_Mo_ok n_Mo 112 (by decide) wm_2544 rfl (Or.inr ⟨rfl, rfl⟩) rfl rfl d_Mo_init_674 (fun H locs hP hD hS => ?_)
  obtain ⟨r79, er79⟩ : ∃ z, z = rup r78 112 (.ref q79) := ⟨_, rfl⟩
  obtain ⟨w79, ew79⟩ : ∃ z : va_W, z = (q79, .inl (kA 1, 6000, .inl (fun _ => 0))) :: w78 := ⟨_, rfl⟩
  rw [← er79, ← ew79] at hP hD
  refine lv_aload_n (pc := 677) hx hb d_Mo_init_677 rfl (lv_at hl 0 rfl) ?_
  refine lv_ldc (pc := 678) (v := 54720) hx hb hown (hts _ wm_2416) d_Mo_init_678 ?_
  refine k_newC (pc := 680) (atype := .int) X (ty := .int) (a0 := (54720, .inl (fun _ => 0))) rfl rfl wm_193 hK hP hD hS hA 0 rfl (fun _ => rfl) (by decide) rfl (by decide) (Nat.le_of_ble_eq_true rfl) (Nat.le_of_ble_eq_true rfl) d_Mo_init_680 (fun q80 H hP hD hS => ?_)
  refine W.widen (k := 80) (n := 169989) (by omega) (by omega) ?_
  refine k_putG (pc := 682) X hK hP hD hS rfl i_Mo t_Mo t_Mo_ok n_Mo 113 (by decide) wm_2545 rfl (Or.inr ⟨rfl, rfl⟩) rfl rfl d_Mo_init_682 (fun H locs hP hD hS => ?_)
  obtain ⟨r80, er80⟩ : ∃ z, z = rup r79 113 (.ref q80) := ⟨_, rfl⟩
  obtain ⟨w80, ew80⟩ : ∃ z : va_W, z = (q80, .inl (kA 0, 54720, .inl (fun _ => 0))) :: w79 := ⟨_, rfl⟩
  rw [← er80, ← ew80] at hP hD
  refine lv_aload_n (pc := 685) hx hb d_Mo_init_685 rfl (lv_at hl 0 rfl) ?_
  refine lv_bipush (pc := 686) (v := 36) hx hb d_Mo_init_686 (by decide) ?_
  refine k_newC (pc := 688) (atype := .int) X (ty := .int) (a0 := (36, .inl (fun _ => 0))) rfl rfl wm_193 hK hP hD hS hA 0 rfl (fun _ => rfl) (by decide) rfl (by decide) (Nat.le_of_ble_eq_true rfl) (Nat.le_of_ble_eq_true rfl) d_Mo_init_688 (fun q81 H hP hD hS => ?_)
  refine W.widen (k := 81) (n := 170025) (by omega) (by omega) ?_
  refine k_putG (pc := 690) X hK hP hD hS rfl i_Mo t_Mo t_Mo_ok n_Mo 114 (by decide) wm_2546 rfl (Or.inr ⟨rfl, rfl⟩) rfl rfl d_Mo_init_690 (fun H locs hP hD hS => ?_)
  obtain ⟨r81, er81⟩ : ∃ z, z = rup r80 114 (.ref q81) := ⟨_, rfl⟩
  obtain ⟨w81, ew81⟩ : ∃ z : va_W, z = (q81, .inl (kA 0, 36, .inl (fun _ => 0))) :: w80 := ⟨_, rfl⟩
  rw [← er81, ← ew81] at hP hD
  refine lv_aload_n (pc := 693) hx hb d_Mo_init_693 rfl (lv_at hl 0 rfl) ?_
  refine lv_bipush (pc := 694) (v := 76) hx hb d_Mo_init_694 (by decide) ?_
  refine k_newC (pc := 696) (atype := .int) X (ty := .int) (a0 := (76, .inl (fun _ => 0))) rfl rfl wm_193 hK hP hD hS hA 0 rfl (fun _ => rfl) (by decide) rfl (by decide) (Nat.le_of_ble_eq_true rfl) (Nat.le_of_ble_eq_true rfl) d_Mo_init_696 (fun q82 H hP hD hS => ?_)
  refine W.widen (k := 82) (n := 170101) (by omega) (by omega) ?_
  refine k_putG (pc := 698) X hK hP hD hS rfl i_Mo t_Mo t_Mo_ok n_Mo 115 (by decide) wm_2547 rfl (Or.inr ⟨rfl, rfl⟩) rfl rfl d_Mo_init_698 (fun H locs hP hD hS => ?_)
  obtain ⟨r82, er82⟩ : ∃ z, z = rup r81 115 (.ref q82) := ⟨_, rfl⟩
  obtain ⟨w82, ew82⟩ : ∃ z : va_W, z = (q82, .inl (kA 0, 76, .inl (fun _ => 0))) :: w81 := ⟨_, rfl⟩
  rw [← er82, ← ew82] at hP hD
  refine lv_aload_n (pc := 701) hx hb d_Mo_init_701 rfl (lv_at hl 0 rfl) ?_
  refine lv_bipush (pc := 702) (v := 6) hx hb d_Mo_init_702 (by decide) ?_
  refine k_newC (pc := 704) (atype := .int) X (ty := .int) (a0 := (6, .inl (fun _ => 0))) rfl rfl wm_193 hK hP hD hS hA 0 rfl (fun _ => rfl) (by decide) rfl (by decide) (Nat.le_of_ble_eq_true rfl) (Nat.le_of_ble_eq_true rfl) d_Mo_init_704 (fun q83 H hP hD hS => ?_)
  refine W.widen (k := 83) (n := 170107) (by omega) (by omega) ?_
  refine k_putG (pc := 706) X hK hP hD hS rfl i_Mo t_Mo t_Mo_ok n_Mo 116 (by decide) wm_2548 rfl (Or.inr ⟨rfl, rfl⟩) rfl rfl d_Mo_init_706 (fun H locs hP hD hS => ?_)
  obtain ⟨r83, er83⟩ : ∃ z, z = rup r82 116 (.ref q83) := ⟨_, rfl⟩
  obtain ⟨w83, ew83⟩ : ∃ z : va_W, z = (q83, .inl (kA 0, 6, .inl (fun _ => 0))) :: w82 := ⟨_, rfl⟩
  rw [← er83, ← ew83] at hP hD
  refine lv_aload_n (pc := 709) hx hb d_Mo_init_709 rfl (lv_at hl 0 rfl) ?_
  refine lv_bipush (pc := 710) (v := 100) hx hb d_Mo_init_710 (by decide) ?_
  refine k_newC (pc := 712) (atype := .int) X (ty := .int) (a0 := (100, .inl (fun _ => 0))) rfl rfl wm_193 hK hP hD hS hA 0 rfl (fun _ => rfl) (by decide) rfl (by decide) (Nat.le_of_ble_eq_true rfl) (Nat.le_of_ble_eq_true rfl) d_Mo_init_712 (fun q84 H hP hD hS => ?_)
  refine W.widen (k := 84) (n := 170207) (by omega) (by omega) ?_
  refine k_putG (pc := 714) X hK hP hD hS rfl i_Mo t_Mo t_Mo_ok n_Mo 117 (by decide) wm_2549 rfl (Or.inr ⟨rfl, rfl⟩) rfl rfl d_Mo_init_714 (fun H locs hP hD hS => ?_)
  obtain ⟨r84, er84⟩ : ∃ z, z = rup r83 117 (.ref q84) := ⟨_, rfl⟩
  obtain ⟨w84, ew84⟩ : ∃ z : va_W, z = (q84, .inl (kA 0, 100, .inl (fun _ => 0))) :: w83 := ⟨_, rfl⟩
  rw [← er84, ← ew84] at hP hD
  refine lv_aload_n (pc := 717) hx hb d_Mo_init_717 rfl (lv_at hl 0 rfl) ?_
  refine lv_sipush (pc := 718) (v := 5776) hx hb d_Mo_init_718 (by decide) ?_
  refine k_newC (pc := 721) (atype := .int) X (ty := .int) (a0 := (5776, .inl (fun _ => 0))) rfl rfl wm_193 hK hP hD hS hA 0 rfl (fun _ => rfl) (by decide) rfl (by decide) (Nat.le_of_ble_eq_true rfl) (Nat.le_of_ble_eq_true rfl) d_Mo_init_721 (fun q85 H hP hD hS => ?_)
  refine W.widen (k := 85) (n := 175983) (by omega) (by omega) ?_
  refine k_putG (pc := 723) X hK hP hD hS rfl i_Mo t_Mo t_Mo_ok n_Mo 118 (by decide) wm_2550 rfl (Or.inr ⟨rfl, rfl⟩) rfl rfl d_Mo_init_723 (fun H locs hP hD hS => ?_)
  obtain ⟨r85, er85⟩ : ∃ z, z = rup r84 118 (.ref q85) := ⟨_, rfl⟩
  obtain ⟨w85, ew85⟩ : ∃ z : va_W, z = (q85, .inl (kA 0, 5776, .inl (fun _ => 0))) :: w84 := ⟨_, rfl⟩
  rw [← er85, ← ew85] at hP hD
  refine lv_aload_n (pc := 726) hx hb d_Mo_init_726 rfl (lv_at hl 0 rfl) ?_
  refine lv_bipush (pc := 727) (v := 76) hx hb d_Mo_init_727 (by decide) ?_
  refine k_newC (pc := 729) (atype := .long) X (ty := .long) (a0 := (76, .inr (.inl (fun _ => 0)))) rfl rfl wm_1683 hK hP hD hS hA 3 rfl (fun _ => rfl) (by decide) rfl (by decide) (Nat.le_of_ble_eq_true rfl) (Nat.le_of_ble_eq_true rfl) d_Mo_init_729 (fun q86 H hP hD hS => ?_)
  refine W.widen (k := 86) (n := 176059) (by omega) (by omega) ?_
  refine k_putG (pc := 731) X hK hP hD hS rfl i_Mo t_Mo t_Mo_ok n_Mo 119 (by decide) wm_2551 rfl (Or.inr ⟨rfl, rfl⟩) rfl rfl d_Mo_init_731 (fun H locs hP hD hS => ?_)
  obtain ⟨r86, er86⟩ : ∃ z, z = rup r85 119 (.ref q86) := ⟨_, rfl⟩
  obtain ⟨w86, ew86⟩ : ∃ z : va_W, z = (q86, .inl (kA 3, 76, .inr (.inl (fun _ => 0)))) :: w85 := ⟨_, rfl⟩
  rw [← er86, ← ew86] at hP hD
  refine lv_aload_n (pc := 734) hx hb d_Mo_init_734 rfl (lv_at hl 0 rfl) ?_
  refine lv_bipush (pc := 735) (v := 76) hx hb d_Mo_init_735 (by decide) ?_
  refine k_newC (pc := 737) (atype := .long) X (ty := .long) (a0 := (76, .inr (.inl (fun _ => 0)))) rfl rfl wm_1683 hK hP hD hS hA 3 rfl (fun _ => rfl) (by decide) rfl (by decide) (Nat.le_of_ble_eq_true rfl) (Nat.le_of_ble_eq_true rfl) d_Mo_init_737 (fun q87 H hP hD hS => ?_)
  refine W.widen (k := 87) (n := 176135) (by omega) (by omega) ?_
  refine k_putG (pc := 739) X hK hP hD hS rfl i_Mo t_Mo t_Mo_ok n_Mo 120 (by decide) wm_2552 rfl (Or.inr ⟨rfl, rfl⟩) rfl rfl d_Mo_init_739 (fun H locs hP hD hS => ?_)
  obtain ⟨r87, er87⟩ : ∃ z, z = rup r86 120 (.ref q87) := ⟨_, rfl⟩
  obtain ⟨w87, ew87⟩ : ∃ z : va_W, z = (q87, .inl (kA 3, 76, .inr (.inl (fun _ => 0)))) :: w86 := ⟨_, rfl⟩
  rw [← er87, ← ew87] at hP hD
  refine lv_aload_n (pc := 742) hx hb d_Mo_init_742 rfl (lv_at hl 0 rfl) ?_
  refine lv_bipush (pc := 743) (v := 30) hx hb d_Mo_init_743 (by decide) ?_
  refine k_newC (pc := 745) (atype := .int) X (ty := .int) (a0 := (30, .inl (fun _ => 0))) rfl rfl wm_193 hK hP hD hS hA 0 rfl (fun _ => rfl) (by decide) rfl (by decide) (Nat.le_of_ble_eq_true rfl) (Nat.le_of_ble_eq_true rfl) d_Mo_init_745 (fun q88 H hP hD hS => ?_)
  refine W.widen (k := 88) (n := 176165) (by omega) (by omega) ?_
  refine k_putG (pc := 747) X hK hP hD hS rfl i_Mo t_Mo t_Mo_ok n_Mo 122 (by decide) wm_2554 rfl (Or.inr ⟨rfl, rfl⟩) rfl rfl d_Mo_init_747 (fun H locs hP hD hS => ?_)
  obtain ⟨r88, er88⟩ : ∃ z, z = rup r87 122 (.ref q88) := ⟨_, rfl⟩
  obtain ⟨w88, ew88⟩ : ∃ z : va_W, z = (q88, .inl (kA 0, 30, .inl (fun _ => 0))) :: w87 := ⟨_, rfl⟩
  rw [← er88, ← ew88] at hP hD
  refine lv_aload_n (pc := 750) hx hb d_Mo_init_750 rfl (lv_at hl 0 rfl) ?_
  refine lv_bipush (pc := 751) (v := 26) hx hb d_Mo_init_751 (by decide) ?_
  refine k_newC (pc := 753) (atype := .int) X (ty := .int) (a0 := (26, .inl (fun _ => 0))) rfl rfl wm_193 hK hP hD hS hA 0 rfl (fun _ => rfl) (by decide) rfl (by decide) (Nat.le_of_ble_eq_true rfl) (Nat.le_of_ble_eq_true rfl) d_Mo_init_753 (fun q89 H hP hD hS => ?_)
  refine W.widen (k := 89) (n := 176191) (by omega) (by omega) ?_
  refine k_putG (pc := 755) X hK hP hD hS rfl i_Mo t_Mo t_Mo_ok n_Mo 123 (by decide) wm_2555 rfl (Or.inr ⟨rfl, rfl⟩) rfl rfl d_Mo_init_755 (fun H locs hP hD hS => ?_)
  obtain ⟨r89, er89⟩ : ∃ z, z = rup r88 123 (.ref q89) := ⟨_, rfl⟩
  obtain ⟨w89, ew89⟩ : ∃ z : va_W, z = (q89, .inl (kA 0, 26, .inl (fun _ => 0))) :: w88 := ⟨_, rfl⟩
  rw [← er89, ← ew89] at hP hD
  refine lv_aload_n (pc := 758) hx hb d_Mo_init_758 rfl (lv_at hl 0 rfl) ?_
  refine lv_bipush (pc := 759) (v := 26) hx hb d_Mo_init_759 (by decide) ?_
  refine k_newC (pc := 761) (atype := .int) X (ty := .int) (a0 := (26, .inl (fun _ => 0))) rfl rfl wm_193 hK hP hD hS hA 0 rfl (fun _ => rfl) (by decide) rfl (by decide) (Nat.le_of_ble_eq_true rfl) (Nat.le_of_ble_eq_true rfl) d_Mo_init_761 (fun q90 H hP hD hS => ?_)
  refine W.widen (k := 90) (n := 176217) (by omega) (by omega) ?_
  refine k_putG (pc := 763) X hK hP hD hS rfl i_Mo t_Mo t_Mo_ok n_Mo 124 (by decide) wm_2556 rfl (Or.inr ⟨rfl, rfl⟩) rfl rfl d_Mo_init_763 (fun H locs hP hD hS => ?_)
  obtain ⟨r90, er90⟩ : ∃ z, z = rup r89 124 (.ref q90) := ⟨_, rfl⟩
  obtain ⟨w90, ew90⟩ : ∃ z : va_W, z = (q90, .inl (kA 0, 26, .inl (fun _ => 0))) :: w89 := ⟨_, rfl⟩
  rw [← er90, ← ew90] at hP hD
  refine lv_aload_n (pc := 766) hx hb d_Mo_init_766 rfl (lv_at hl 0 rfl) ?_
  refine lv_bipush (pc := 767) (v := 26) hx hb d_Mo_init_767 (by decide) ?_
  refine k_newC (pc := 769) (atype := .int) X (ty := .int) (a0 := (26, .inl (fun _ => 0))) rfl rfl wm_193 hK hP hD hS hA 0 rfl (fun _ => rfl) (by decide) rfl (by decide) (Nat.le_of_ble_eq_true rfl) (Nat.le_of_ble_eq_true rfl) d_Mo_init_769 (fun q91 H hP hD hS => ?_)
  refine W.widen (k := 91) (n := 176243) (by omega) (by omega) ?_
  refine k_putG (pc := 771) X hK hP hD hS rfl i_Mo t_Mo t_Mo_ok n_Mo 126 (by decide) wm_2558 rfl (Or.inr ⟨rfl, rfl⟩) rfl rfl d_Mo_init_771 (fun H locs hP hD hS => ?_)
  obtain ⟨r91, er91⟩ : ∃ z, z = rup r90 126 (.ref q91) := ⟨_, rfl⟩
  obtain ⟨w91, ew91⟩ : ∃ z : va_W, z = (q91, .inl (kA 0, 26, .inl (fun _ => 0))) :: w90 := ⟨_, rfl⟩
  rw [← er91, ← ew91] at hP hD
  refine lv_aload_n (pc := 774) hx hb d_Mo_init_774 rfl (lv_at hl 0 rfl) ?_
  refine lv_bipush (pc := 775) (v := 26) hx hb d_Mo_init_775 (by decide) ?_
  refine k_newC (pc := 777) (atype := .int) X (ty := .int) (a0 := (26, .inl (fun _ => 0))) rfl rfl wm_193 hK hP hD hS hA 0 rfl (fun _ => rfl) (by decide) rfl (by decide) (Nat.le_of_ble_eq_true rfl) (Nat.le_of_ble_eq_true rfl) d_Mo_init_777 (fun q92 H hP hD hS => ?_)
  refine W.widen (k := 92) (n := 176269) (by omega) (by omega) ?_
  refine k_putG (pc := 779) X hK hP hD hS rfl i_Mo t_Mo t_Mo_ok n_Mo 127 (by decide) wm_2559 rfl (Or.inr ⟨rfl, rfl⟩) rfl rfl d_Mo_init_779 (fun H locs hP hD hS => ?_)
  obtain ⟨r92, er92⟩ : ∃ z, z = rup r91 127 (.ref q92) := ⟨_, rfl⟩
  obtain ⟨w92, ew92⟩ : ∃ z : va_W, z = (q92, .inl (kA 0, 26, .inl (fun _ => 0))) :: w91 := ⟨_, rfl⟩
  rw [← er92, ← ew92] at hP hD
  refine lv_aload_n (pc := 782) hx hb d_Mo_init_782 rfl (lv_at hl 0 rfl) ?_
  refine lv_bipush (pc := 783) (v := 26) hx hb d_Mo_init_783 (by decide) ?_
  refine k_newC (pc := 785) (atype := .int) X (ty := .int) (a0 := (26, .inl (fun _ => 0))) rfl rfl wm_193 hK hP hD hS hA 0 rfl (fun _ => rfl) (by decide) rfl (by decide) (Nat.le_of_ble_eq_true rfl) (Nat.le_of_ble_eq_true rfl) d_Mo_init_785 (fun q93 H hP hD hS => ?_)
  refine W.widen (k := 93) (n := 176295) (by omega) (by omega) ?_
  refine k_putG (pc := 787) X hK hP hD hS rfl i_Mo t_Mo t_Mo_ok n_Mo 128 (by decide) wm_2560 rfl (Or.inr ⟨rfl, rfl⟩) rfl rfl d_Mo_init_787 (fun H locs hP hD hS => ?_)
  obtain ⟨r93, er93⟩ : ∃ z, z = rup r92 128 (.ref q93) := ⟨_, rfl⟩
  obtain ⟨w93, ew93⟩ : ∃ z : va_W, z = (q93, .inl (kA 0, 26, .inl (fun _ => 0))) :: w92 := ⟨_, rfl⟩
  rw [← er93, ← ew93] at hP hD
  refine lv_aload_n (pc := 790) hx hb d_Mo_init_790 rfl (lv_at hl 0 rfl) ?_
  refine lv_bipush (pc := 791) (v := 26) hx hb d_Mo_init_791 (by decide) ?_
  refine k_newC (pc := 793) (atype := .int) X (ty := .int) (a0 := (26, .inl (fun _ => 0))) rfl rfl wm_193 hK hP hD hS hA 0 rfl (fun _ => rfl) (by decide) rfl (by decide) (Nat.le_of_ble_eq_true rfl) (Nat.le_of_ble_eq_true rfl) d_Mo_init_793 (fun q94 H hP hD hS => ?_)
  refine W.widen (k := 94) (n := 176321) (by omega) (by omega) ?_
  refine k_putG (pc := 795) X hK hP hD hS rfl i_Mo t_Mo t_Mo_ok n_Mo 129 (by decide) wm_2561 rfl (Or.inr ⟨rfl, rfl⟩) rfl rfl d_Mo_init_795 (fun H locs hP hD hS => ?_)
  obtain ⟨r94, er94⟩ : ∃ z, z = rup r93 129 (.ref q94) := ⟨_, rfl⟩
  obtain ⟨w94, ew94⟩ : ∃ z : va_W, z = (q94, .inl (kA 0, 26, .inl (fun _ => 0))) :: w93 := ⟨_, rfl⟩
  rw [← er94, ← ew94] at hP hD
  refine lv_aload_n (pc := 798) hx hb d_Mo_init_798 rfl (lv_at hl 0 rfl) ?_
  refine lv_bipush (pc := 799) (v := 40) hx hb d_Mo_init_799 (by decide) ?_
  refine k_newC (pc := 801) (atype := .int) X (ty := .int) (a0 := (40, .inl (fun _ => 0))) rfl rfl wm_193 hK hP hD hS hA 0 rfl (fun _ => rfl) (by decide) rfl (by decide) (Nat.le_of_ble_eq_true rfl) (Nat.le_of_ble_eq_true rfl) d_Mo_init_801 (fun q95 H hP hD hS => ?_)
  refine W.widen (k := 95) (n := 176361) (by omega) (by omega) ?_
  refine k_putG (pc := 803) X hK hP hD hS rfl i_Mo t_Mo t_Mo_ok n_Mo 130 (by decide) wm_2562 rfl (Or.inr ⟨rfl, rfl⟩) rfl rfl d_Mo_init_803 (fun H locs hP hD hS => ?_)
  obtain ⟨r95, er95⟩ : ∃ z, z = rup r94 130 (.ref q95) := ⟨_, rfl⟩
  obtain ⟨w95, ew95⟩ : ∃ z : va_W, z = (q95, .inl (kA 0, 40, .inl (fun _ => 0))) :: w94 := ⟨_, rfl⟩
  rw [← er95, ← ew95] at hP hD
  refine lv_aload_n (pc := 806) hx hb d_Mo_init_806 rfl (lv_at hl 0 rfl) ?_
  refine lv_bipush (pc := 807) (v := 40) hx hb d_Mo_init_807 (by decide) ?_
  refine k_newC (pc := 809) (atype := .int) X (ty := .int) (a0 := (40, .inl (fun _ => 0))) rfl rfl wm_193 hK hP hD hS hA 0 rfl (fun _ => rfl) (by decide) rfl (by decide) (Nat.le_of_ble_eq_true rfl) (Nat.le_of_ble_eq_true rfl) d_Mo_init_809 (fun q96 H hP hD hS => ?_)
  refine W.widen (k := 96) (n := 176401) (by omega) (by omega) ?_
  refine k_putG (pc := 811) X hK hP hD hS rfl i_Mo t_Mo t_Mo_ok n_Mo 131 (by decide) wm_2563 rfl (Or.inr ⟨rfl, rfl⟩) rfl rfl d_Mo_init_811 (fun H locs hP hD hS => ?_)
  obtain ⟨r96, er96⟩ : ∃ z, z = rup r95 131 (.ref q96) := ⟨_, rfl⟩
  obtain ⟨w96, ew96⟩ : ∃ z : va_W, z = (q96, .inl (kA 0, 40, .inl (fun _ => 0))) :: w95 := ⟨_, rfl⟩
  rw [← er96, ← ew96] at hP hD
  refine lv_aload_n (pc := 814) hx hb d_Mo_init_814 rfl (lv_at hl 0 rfl) ?_
  refine lv_bipush (pc := 815) (v := 26) hx hb d_Mo_init_815 (by decide) ?_
  refine k_newC (pc := 817) (atype := .long) X (ty := .long) (a0 := (26, .inr (.inl (fun _ => 0)))) rfl rfl wm_1683 hK hP hD hS hA 3 rfl (fun _ => rfl) (by decide) rfl (by decide) (Nat.le_of_ble_eq_true rfl) (Nat.le_of_ble_eq_true rfl) d_Mo_init_817 (fun q97 H hP hD hS => ?_)
  refine W.widen (k := 97) (n := 176427) (by omega) (by omega) ?_
  refine k_putG (pc := 819) X hK hP hD hS rfl i_Mo t_Mo t_Mo_ok n_Mo 135 (by decide) wm_2567 rfl (Or.inr ⟨rfl, rfl⟩) rfl rfl d_Mo_init_819 (fun H locs hP hD hS => ?_)
  obtain ⟨r97, er97⟩ : ∃ z, z = rup r96 135 (.ref q97) := ⟨_, rfl⟩
  obtain ⟨w97, ew97⟩ : ∃ z : va_W, z = (q97, .inl (kA 3, 26, .inr (.inl (fun _ => 0)))) :: w96 := ⟨_, rfl⟩
  rw [← er97, ← ew97] at hP hD
  refine lv_aload_n (pc := 822) hx hb d_Mo_init_822 rfl (lv_at hl 0 rfl) ?_
  refine lv_bipush (pc := 823) (v := 26) hx hb d_Mo_init_823 (by decide) ?_
  refine k_newC (pc := 825) (atype := .long) X (ty := .long) (a0 := (26, .inr (.inl (fun _ => 0)))) rfl rfl wm_1683 hK hP hD hS hA 3 rfl (fun _ => rfl) (by decide) rfl (by decide) (Nat.le_of_ble_eq_true rfl) (Nat.le_of_ble_eq_true rfl) d_Mo_init_825 (fun q98 H hP hD hS => ?_)
  refine W.widen (k := 98) (n := 176453) (by omega) (by omega) ?_
  refine k_putG (pc := 827) X hK hP hD hS rfl i_Mo t_Mo t_Mo_ok n_Mo 136 (by decide) wm_2568 rfl (Or.inr ⟨rfl, rfl⟩) rfl rfl d_Mo_init_827 (fun H locs hP hD hS => ?_)
  obtain ⟨r98, er98⟩ : ∃ z, z = rup r97 136 (.ref q98) := ⟨_, rfl⟩
  obtain ⟨w98, ew98⟩ : ∃ z : va_W, z = (q98, .inl (kA 3, 26, .inr (.inl (fun _ => 0)))) :: w97 := ⟨_, rfl⟩
  rw [← er98, ← ew98] at hP hD
  refine lv_aload_n (pc := 830) hx hb d_Mo_init_830 rfl (lv_at hl 0 rfl) ?_
  refine lv_bipush (pc := 831) (v := 26) hx hb d_Mo_init_831 (by decide) ?_
  refine k_newC (pc := 833) (atype := .long) X (ty := .long) (a0 := (26, .inr (.inl (fun _ => 0)))) rfl rfl wm_1683 hK hP hD hS hA 3 rfl (fun _ => rfl) (by decide) rfl (by decide) (Nat.le_of_ble_eq_true rfl) (Nat.le_of_ble_eq_true rfl) d_Mo_init_833 (fun q99 H hP hD hS => ?_)
  refine W.widen (k := 99) (n := 176479) (by omega) (by omega) ?_
  refine k_putG (pc := 835) X hK hP hD hS rfl i_Mo t_Mo t_Mo_ok n_Mo 137 (by decide) wm_2569 rfl (Or.inr ⟨rfl, rfl⟩) rfl rfl d_Mo_init_835 (fun H locs hP hD hS => ?_)
  obtain ⟨r99, er99⟩ : ∃ z, z = rup r98 137 (.ref q99) := ⟨_, rfl⟩
  obtain ⟨w99, ew99⟩ : ∃ z : va_W, z = (q99, .inl (kA 3, 26, .inr (.inl (fun _ => 0)))) :: w98 := ⟨_, rfl⟩
  rw [← er99, ← ew99] at hP hD
  refine lv_aload_n (pc := 838) hx hb d_Mo_init_838 rfl (lv_at hl 0 rfl) ?_
  refine lv_bipush (pc := 839) (v := 26) hx hb d_Mo_init_839 (by decide) ?_
  refine k_newC (pc := 841) (atype := .long) X (ty := .long) (a0 := (26, .inr (.inl (fun _ => 0)))) rfl rfl wm_1683 hK hP hD hS hA 3 rfl (fun _ => rfl) (by decide) rfl (by decide) (Nat.le_of_ble_eq_true rfl) (Nat.le_of_ble_eq_true rfl) d_Mo_init_841 (fun q100 H hP hD hS => ?_)
  refine W.widen (k := 100) (n := 176505) (by omega) (by omega) ?_
  refine k_putG (pc := 843) X hK hP hD hS rfl i_Mo t_Mo t_Mo_ok n_Mo 138 (by decide) wm_2570 rfl (Or.inr ⟨rfl, rfl⟩) rfl rfl d_Mo_init_843 (fun H locs hP hD hS => ?_)
  obtain ⟨r100, er100⟩ : ∃ z, z = rup r99 138 (.ref q100) := ⟨_, rfl⟩
  obtain ⟨w100, ew100⟩ : ∃ z : va_W, z = (q100, .inl (kA 3, 26, .inr (.inl (fun _ => 0)))) :: w99 := ⟨_, rfl⟩
  rw [← er100, ← ew100] at hP hD
  refine lv_aload_n (pc := 846) hx hb d_Mo_init_846 rfl (lv_at hl 0 rfl) ?_
  refine lv_sipush (pc := 847) (v := 24000) hx hb d_Mo_init_847 (by decide) ?_
  refine k_newC (pc := 850) (atype := .int) X (ty := .int) (a0 := (24000, .inl (fun _ => 0))) rfl rfl wm_193 hK hP hD hS hA 0 rfl (fun _ => rfl) (by decide) rfl (by decide) (Nat.le_of_ble_eq_true rfl) (Nat.le_of_ble_eq_true rfl) d_Mo_init_850 (fun q101 H hP hD hS => ?_)
  refine W.widen (k := 101) (n := 200505) (by omega) (by omega) ?_
  refine k_putG (pc := 852) X hK hP hD hS rfl i_Mo t_Mo t_Mo_ok n_Mo 140 (by decide) wm_2572 rfl (Or.inr ⟨rfl, rfl⟩) rfl rfl d_Mo_init_852 (fun H locs hP hD hS => ?_)
  obtain ⟨r101, er101⟩ : ∃ z, z = rup r100 140 (.ref q101) := ⟨_, rfl⟩
  obtain ⟨w101, ew101⟩ : ∃ z : va_W, z = (q101, .inl (kA 0, 24000, .inl (fun _ => 0))) :: w100 := ⟨_, rfl⟩
  rw [← er101, ← ew101] at hP hD
  refine lv_aload_n (pc := 855) hx hb d_Mo_init_855 rfl (lv_at hl 0 rfl) ?_
  refine lv_ldcw (pc := 856) (v := 96040) hx hb hown (hts _ wm_2417) d_Mo_init_856 ?_
  refine k_newC (pc := 859) (atype := .int) X (ty := .int) (a0 := (96040, .inl (fun _ => 0))) rfl rfl wm_193 hK hP hD hS hA 0 rfl (fun _ => rfl) (by decide) rfl (by decide) (Nat.le_of_ble_eq_true rfl) (Nat.le_of_ble_eq_true rfl) d_Mo_init_859 (fun q102 H hP hD hS => ?_)
  refine W.widen (k := 102) (n := 296545) (by omega) (by omega) ?_
  refine k_putG (pc := 861) X hK hP hD hS rfl i_Mo t_Mo t_Mo_ok n_Mo 141 (by decide) wm_2573 rfl (Or.inr ⟨rfl, rfl⟩) rfl rfl d_Mo_init_861 (fun H locs hP hD hS => ?_)
  obtain ⟨r102, er102⟩ : ∃ z, z = rup r101 141 (.ref q102) := ⟨_, rfl⟩
  obtain ⟨w102, ew102⟩ : ∃ z : va_W, z = (q102, .inl (kA 0, 96040, .inl (fun _ => 0))) :: w101 := ⟨_, rfl⟩
  rw [← er102, ← ew102] at hP hD
  refine lv_aload_n (pc := 864) hx hb d_Mo_init_864 rfl (lv_at hl 0 rfl) ?_
  refine lv_iconst (pc := 865) (v := 4) hx hb d_Mo_init_865 (by decide) ?_
  refine k_newC (pc := 866) (atype := .int) X (ty := .int) (a0 := (4, .inl (fun _ => 0))) rfl rfl wm_193 hK hP hD hS hA 0 rfl (fun _ => rfl) (by decide) rfl (by decide) (Nat.le_of_ble_eq_true rfl) (Nat.le_of_ble_eq_true rfl) d_Mo_init_866 (fun q103 H hP hD hS => ?_)
  refine W.widen (k := 103) (n := 296549) (by omega) (by omega) ?_
  refine k_putG (pc := 868) X hK hP hD hS rfl i_Mo t_Mo t_Mo_ok n_Mo 142 (by decide) wm_2574 rfl (Or.inr ⟨rfl, rfl⟩) rfl rfl d_Mo_init_868 (fun H locs hP hD hS => ?_)
  obtain ⟨r103, er103⟩ : ∃ z, z = rup r102 142 (.ref q103) := ⟨_, rfl⟩
  obtain ⟨w103, ew103⟩ : ∃ z : va_W, z = (q103, .inl (kA 0, 4, .inl (fun _ => 0))) :: w102 := ⟨_, rfl⟩
  rw [← er103, ← ew103] at hP hD
  refine lv_aload_n (pc := 871) hx hb d_Mo_init_871 rfl (lv_at hl 0 rfl) ?_
  refine lv_sipush (pc := 872) (v := 6000) hx hb d_Mo_init_872 (by decide) ?_
  refine k_newC (pc := 875) (atype := .boolean) X (ty := .boolean) (a0 := (6000, .inl (fun _ => 0))) rfl rfl wm_387 hK hP hD hS hA 2 rfl (fun _ => rfl) (by decide) rfl (by decide) (Nat.le_of_ble_eq_true rfl) (Nat.le_of_ble_eq_true rfl) d_Mo_init_875 (fun q104 H hP hD hS => ?_)
  refine W.widen (k := 104) (n := 302549) (by omega) (by omega) ?_
  refine k_putG (pc := 877) X hK hP hD hS rfl i_Mo t_Mo t_Mo_ok n_Mo 143 (by decide) wm_2575 rfl (Or.inr ⟨rfl, rfl⟩) rfl rfl d_Mo_init_877 (fun H locs hP hD hS => ?_)
  obtain ⟨r104, er104⟩ : ∃ z, z = rup r103 143 (.ref q104) := ⟨_, rfl⟩
  obtain ⟨w104, ew104⟩ : ∃ z : va_W, z = (q104, .inl (kA 2, 6000, .inl (fun _ => 0))) :: w103 := ⟨_, rfl⟩
  rw [← er104, ← ew104] at hP hD
  refine lv_aload_n (pc := 880) hx hb d_Mo_init_880 rfl (lv_at hl 0 rfl) ?_
  refine lv_bipush (pc := 881) (v := 26) hx hb d_Mo_init_881 (by decide) ?_
  refine k_newC (pc := 883) (atype := .int) X (ty := .int) (a0 := (26, .inl (fun _ => 0))) rfl rfl wm_193 hK hP hD hS hA 0 rfl (fun _ => rfl) (by decide) rfl (by decide) (Nat.le_of_ble_eq_true rfl) (Nat.le_of_ble_eq_true rfl) d_Mo_init_883 (fun q105 H hP hD hS => ?_)
  refine W.widen (k := 105) (n := 302575) (by omega) (by omega) ?_
  refine k_putG (pc := 885) X hK hP hD hS rfl i_Mo t_Mo t_Mo_ok n_Mo 148 (by decide) wm_2580 rfl (Or.inr ⟨rfl, rfl⟩) rfl rfl d_Mo_init_885 (fun H locs hP hD hS => ?_)
  obtain ⟨r105, er105⟩ : ∃ z, z = rup r104 148 (.ref q105) := ⟨_, rfl⟩
  obtain ⟨w105, ew105⟩ : ∃ z : va_W, z = (q105, .inl (kA 0, 26, .inl (fun _ => 0))) :: w104 := ⟨_, rfl⟩
  rw [← er105, ← ew105] at hP hD
  refine lv_aload_n (pc := 888) hx hb d_Mo_init_888 rfl (lv_at hl 0 rfl) ?_
  refine lv_bipush (pc := 889) (v := 26) hx hb d_Mo_init_889 (by decide) ?_
  refine k_newC (pc := 891) (atype := .int) X (ty := .int) (a0 := (26, .inl (fun _ => 0))) rfl rfl wm_193 hK hP hD hS hA 0 rfl (fun _ => rfl) (by decide) rfl (by decide) (Nat.le_of_ble_eq_true rfl) (Nat.le_of_ble_eq_true rfl) d_Mo_init_891 (fun q106 H hP hD hS => ?_)
  refine W.widen (k := 106) (n := 302601) (by omega) (by omega) ?_
  refine k_putG (pc := 893) X hK hP hD hS rfl i_Mo t_Mo t_Mo_ok n_Mo 149 (by decide) wm_2581 rfl (Or.inr ⟨rfl, rfl⟩) rfl rfl d_Mo_init_893 (fun H locs hP hD hS => ?_)
  obtain ⟨r106, er106⟩ : ∃ z, z = rup r105 149 (.ref q106) := ⟨_, rfl⟩
  obtain ⟨w106, ew106⟩ : ∃ z : va_W, z = (q106, .inl (kA 0, 26, .inl (fun _ => 0))) :: w105 := ⟨_, rfl⟩
  rw [← er106, ← ew106] at hP hD
  refine lv_aload_n (pc := 896) hx hb d_Mo_init_896 rfl (lv_at hl 0 rfl) ?_
  refine lv_bipush (pc := 897) (v := 48) hx hb d_Mo_init_897 (by decide) ?_
  refine k_newC (pc := 899) (atype := .int) X (ty := .int) (a0 := (48, .inl (fun _ => 0))) rfl rfl wm_193 hK hP hD hS hA 0 rfl (fun _ => rfl) (by decide) rfl (by decide) (Nat.le_of_ble_eq_true rfl) (Nat.le_of_ble_eq_true rfl) d_Mo_init_899 (fun q107 H hP hD hS => ?_)
  refine W.widen (k := 107) (n := 302649) (by omega) (by omega) ?_
  refine k_putG (pc := 901) X hK hP hD hS rfl i_Mo t_Mo t_Mo_ok n_Mo 151 (by decide) wm_2583 rfl (Or.inr ⟨rfl, rfl⟩) rfl rfl d_Mo_init_901 (fun H locs hP hD hS => ?_)
  obtain ⟨r107, er107⟩ : ∃ z, z = rup r106 151 (.ref q107) := ⟨_, rfl⟩
  obtain ⟨w107, ew107⟩ : ∃ z : va_W, z = (q107, .inl (kA 0, 48, .inl (fun _ => 0))) :: w106 := ⟨_, rfl⟩
  rw [← er107, ← ew107] at hP hD
  refine lv_aload_n (pc := 904) hx hb d_Mo_init_904 rfl (lv_at hl 0 rfl) ?_
  refine lv_bipush (pc := 905) (v := 48) hx hb d_Mo_init_905 (by decide) ?_
  refine k_newC (pc := 907) (atype := .int) X (ty := .int) (a0 := (48, .inl (fun _ => 0))) rfl rfl wm_193 hK hP hD hS hA 0 rfl (fun _ => rfl) (by decide) rfl (by decide) (Nat.le_of_ble_eq_true rfl) (Nat.le_of_ble_eq_true rfl) d_Mo_init_907 (fun q108 H hP hD hS => ?_)
  refine W.widen (k := 108) (n := 302697) (by omega) (by omega) ?_
  refine k_putG (pc := 909) X hK hP hD hS rfl i_Mo t_Mo t_Mo_ok n_Mo 152 (by decide) wm_2584 rfl (Or.inr ⟨rfl, rfl⟩) rfl rfl d_Mo_init_909 (fun H locs hP hD hS => ?_)
  obtain ⟨r108, er108⟩ : ∃ z, z = rup r107 152 (.ref q108) := ⟨_, rfl⟩
  obtain ⟨w108, ew108⟩ : ∃ z : va_W, z = (q108, .inl (kA 0, 48, .inl (fun _ => 0))) :: w107 := ⟨_, rfl⟩
  rw [← er108, ← ew108] at hP hD
  refine lv_aload_n (pc := 912) hx hb d_Mo_init_912 rfl (lv_at hl 0 rfl) ?_
  refine lv_sipush (pc := 913) (v := 2010) hx hb d_Mo_init_913 (by decide) ?_
  refine k_newC (pc := 916) (atype := .int) X (ty := .int) (a0 := (2010, .inl (fun _ => 0))) rfl rfl wm_193 hK hP hD hS hA 0 rfl (fun _ => rfl) (by decide) rfl (by decide) (Nat.le_of_ble_eq_true rfl) (Nat.le_of_ble_eq_true rfl) d_Mo_init_916 (fun q109 H hP hD hS => ?_)
  refine W.widen (k := 109) (n := 304707) (by omega) (by omega) ?_
  refine k_putG (pc := 918) X hK hP hD hS rfl i_Mo t_Mo t_Mo_ok n_Mo 160 (by decide) wm_2592 rfl (Or.inr ⟨rfl, rfl⟩) rfl rfl d_Mo_init_918 (fun H locs hP hD hS => ?_)
  obtain ⟨r109, er109⟩ : ∃ z, z = rup r108 160 (.ref q109) := ⟨_, rfl⟩
  obtain ⟨w109, ew109⟩ : ∃ z : va_W, z = (q109, .inl (kA 0, 2010, .inl (fun _ => 0))) :: w108 := ⟨_, rfl⟩
  rw [← er109, ← ew109] at hP hD
  refine lv_aload_n (pc := 921) hx hb d_Mo_init_921 rfl (lv_at hl 0 rfl) ?_
  refine lv_sipush (pc := 922) (v := 2010) hx hb d_Mo_init_922 (by decide) ?_
  refine k_newC (pc := 925) (atype := .long) X (ty := .long) (a0 := (2010, .inr (.inl (fun _ => 0)))) rfl rfl wm_1683 hK hP hD hS hA 3 rfl (fun _ => rfl) (by decide) rfl (by decide) (Nat.le_of_ble_eq_true rfl) (Nat.le_of_ble_eq_true rfl) d_Mo_init_925 (fun q110 H hP hD hS => ?_)
  refine W.widen (k := 110) (n := 306717) (by omega) (by omega) ?_
  refine k_putG (pc := 927) X hK hP hD hS rfl i_Mo t_Mo t_Mo_ok n_Mo 161 (by decide) wm_2593 rfl (Or.inr ⟨rfl, rfl⟩) rfl rfl d_Mo_init_927 (fun H locs hP hD hS => ?_)
  obtain ⟨r110, er110⟩ : ∃ z, z = rup r109 161 (.ref q110) := ⟨_, rfl⟩
  obtain ⟨w110, ew110⟩ : ∃ z : va_W, z = (q110, .inl (kA 3, 2010, .inr (.inl (fun _ => 0)))) :: w109 := ⟨_, rfl⟩
  rw [← er110, ← ew110] at hP hD
  refine lv_aload_n (pc := 930) hx hb d_Mo_init_930 rfl (lv_at hl 0 rfl) ?_
  refine lv_sipush (pc := 931) (v := 2010) hx hb d_Mo_init_931 (by decide) ?_
  refine k_newC (pc := 934) (atype := .int) X (ty := .int) (a0 := (2010, .inl (fun _ => 0))) rfl rfl wm_193 hK hP hD hS hA 0 rfl (fun _ => rfl) (by decide) rfl (by decide) (Nat.le_of_ble_eq_true rfl) (Nat.le_of_ble_eq_true rfl) d_Mo_init_934 (fun q111 H hP hD hS => ?_)
  refine W.widen (k := 111) (n := 308727) (by omega) (by omega) ?_
  refine k_putG (pc := 936) X hK hP hD hS rfl i_Mo t_Mo t_Mo_ok n_Mo 162 (by decide) wm_2594 rfl (Or.inr ⟨rfl, rfl⟩) rfl rfl d_Mo_init_936 (fun H locs hP hD hS => ?_)
  obtain ⟨r111, er111⟩ : ∃ z, z = rup r110 162 (.ref q111) := ⟨_, rfl⟩
  obtain ⟨w111, ew111⟩ : ∃ z : va_W, z = (q111, .inl (kA 0, 2010, .inl (fun _ => 0))) :: w110 := ⟨_, rfl⟩
  rw [← er111, ← ew111] at hP hD
  refine lv_aload_n (pc := 939) hx hb d_Mo_init_939 rfl (lv_at hl 0 rfl) ?_
  refine lv_sipush (pc := 940) (v := 2010) hx hb d_Mo_init_940 (by decide) ?_
  refine k_newC (pc := 943) (atype := .int) X (ty := .int) (a0 := (2010, .inl (fun _ => 0))) rfl rfl wm_193 hK hP hD hS hA 0 rfl (fun _ => rfl) (by decide) rfl (by decide) (Nat.le_of_ble_eq_true rfl) (Nat.le_of_ble_eq_true rfl) d_Mo_init_943 (fun q112 H hP hD hS => ?_)
  refine W.widen (k := 112) (n := 310737) (by omega) (by omega) ?_
  refine k_putG (pc := 945) X hK hP hD hS rfl i_Mo t_Mo t_Mo_ok n_Mo 163 (by decide) wm_2595 rfl (Or.inr ⟨rfl, rfl⟩) rfl rfl d_Mo_init_945 (fun H locs hP hD hS => ?_)
  obtain ⟨r112, er112⟩ : ∃ z, z = rup r111 163 (.ref q112) := ⟨_, rfl⟩
  obtain ⟨w112, ew112⟩ : ∃ z : va_W, z = (q112, .inl (kA 0, 2010, .inl (fun _ => 0))) :: w111 := ⟨_, rfl⟩
  rw [← er112, ← ew112] at hP hD
  refine lv_aload_n (pc := 948) hx hb d_Mo_init_948 rfl (lv_at hl 0 rfl) ?_
  refine lv_bipush (pc := 949) (v := 26) hx hb d_Mo_init_949 (by decide) ?_
  refine k_newC (pc := 951) (atype := .int) X (ty := .int) (a0 := (26, .inl (fun _ => 0))) rfl rfl wm_193 hK hP hD hS hA 0 rfl (fun _ => rfl) (by decide) rfl (by decide) (Nat.le_of_ble_eq_true rfl) (Nat.le_of_ble_eq_true rfl) d_Mo_init_951 (fun q113 H hP hD hS => ?_)
  refine W.widen (k := 113) (n := 310763) (by omega) (by omega) ?_
  refine k_putG (pc := 953) X hK hP hD hS rfl i_Mo t_Mo t_Mo_ok n_Mo 166 (by decide) wm_2598 rfl (Or.inr ⟨rfl, rfl⟩) rfl rfl d_Mo_init_953 (fun H locs hP hD hS => ?_)
  obtain ⟨r113, er113⟩ : ∃ z, z = rup r112 166 (.ref q113) := ⟨_, rfl⟩
  obtain ⟨w113, ew113⟩ : ∃ z : va_W, z = (q113, .inl (kA 0, 26, .inl (fun _ => 0))) :: w112 := ⟨_, rfl⟩
  rw [← er113, ← ew113] at hP hD
  refine lv_aload_n (pc := 956) hx hb d_Mo_init_956 rfl (lv_at hl 0 rfl) ?_
  refine lv_bipush (pc := 957) (v := 26) hx hb d_Mo_init_957 (by decide) ?_
  refine k_newC (pc := 959) (atype := .int) X (ty := .int) (a0 := (26, .inl (fun _ => 0))) rfl rfl wm_193 hK hP hD hS hA 0 rfl (fun _ => rfl) (by decide) rfl (by decide) (Nat.le_of_ble_eq_true rfl) (Nat.le_of_ble_eq_true rfl) d_Mo_init_959 (fun q114 H hP hD hS => ?_)
  refine W.widen (k := 114) (n := 310789) (by omega) (by omega) ?_
  refine k_putG (pc := 961) X hK hP hD hS rfl i_Mo t_Mo t_Mo_ok n_Mo 167 (by decide) wm_2599 rfl (Or.inr ⟨rfl, rfl⟩) rfl rfl d_Mo_init_961 (fun H locs hP hD hS => ?_)
  obtain ⟨r114, er114⟩ : ∃ z, z = rup r113 167 (.ref q114) := ⟨_, rfl⟩
  obtain ⟨w114, ew114⟩ : ∃ z : va_W, z = (q114, .inl (kA 0, 26, .inl (fun _ => 0))) :: w113 := ⟨_, rfl⟩
  rw [← er114, ← ew114] at hP hD
  refine lv_aload_n (pc := 964) hx hb d_Mo_init_964 rfl (lv_at hl 0 rfl) ?_
  refine lv_bipush (pc := 965) (v := 48) hx hb d_Mo_init_965 (by decide) ?_
  refine k_newC (pc := 967) (atype := .boolean) X (ty := .boolean) (a0 := (48, .inl (fun _ => 0))) rfl rfl wm_387 hK hP hD hS hA 2 rfl (fun _ => rfl) (by decide) rfl (by decide) (Nat.le_of_ble_eq_true rfl) (Nat.le_of_ble_eq_true rfl) d_Mo_init_967 (fun q115 H hP hD hS => ?_)
  refine W.widen (k := 115) (n := 310837) (by omega) (by omega) ?_
  refine k_putG (pc := 969) X hK hP hD hS rfl i_Mo t_Mo t_Mo_ok n_Mo 168 (by decide) wm_2600 rfl (Or.inr ⟨rfl, rfl⟩) rfl rfl d_Mo_init_969 (fun H locs hP hD hS => ?_)
  obtain ⟨r115, er115⟩ : ∃ z, z = rup r114 168 (.ref q115) := ⟨_, rfl⟩
  obtain ⟨w115, ew115⟩ : ∃ z : va_W, z = (q115, .inl (kA 2, 48, .inl (fun _ => 0))) :: w114 := ⟨_, rfl⟩
  rw [← er115, ← ew115] at hP hD
  refine lv_aload_n (pc := 972) hx hb d_Mo_init_972 rfl (lv_at hl 0 rfl) ?_
  refine lv_sipush (pc := 973) (v := 4000) hx hb d_Mo_init_973 (by decide) ?_
  refine k_newC (pc := 976) (atype := .byte) X (ty := .byte) (a0 := (4000, .inl (fun _ => 0))) rfl rfl wm_192 hK hP hD hS hA 1 rfl (fun _ => rfl) (by decide) rfl (by decide) (Nat.le_of_ble_eq_true rfl) (Nat.le_of_ble_eq_true rfl) d_Mo_init_976 (fun q116 H hP hD hS => ?_)
  refine W.widen (k := 116) (n := 314837) (by omega) (by omega) ?_
  refine k_putG (pc := 978) X hK hP hD hS rfl i_Mo t_Mo t_Mo_ok n_Mo 171 (by decide) wm_2603 rfl (Or.inr ⟨rfl, rfl⟩) rfl rfl d_Mo_init_978 (fun H locs hP hD hS => ?_)
  obtain ⟨r116, er116⟩ : ∃ z, z = rup r115 171 (.ref q116) := ⟨_, rfl⟩
  obtain ⟨w116, ew116⟩ : ∃ z : va_W, z = (q116, .inl (kA 1, 4000, .inl (fun _ => 0))) :: w115 := ⟨_, rfl⟩
  rw [← er116, ← ew116] at hP hD
  refine lv_aload_n (pc := 981) hx hb d_Mo_init_981 rfl (lv_at hl 0 rfl) ?_
  refine lv_sipush (pc := 982) (v := 4000) hx hb d_Mo_init_982 (by decide) ?_
  refine k_newC (pc := 985) (atype := .byte) X (ty := .byte) (a0 := (4000, .inl (fun _ => 0))) rfl rfl wm_192 hK hP hD hS hA 1 rfl (fun _ => rfl) (by decide) rfl (by decide) (Nat.le_of_ble_eq_true rfl) (Nat.le_of_ble_eq_true rfl) d_Mo_init_985 (fun q117 H hP hD hS => ?_)
  refine W.widen (k := 117) (n := 318837) (by omega) (by omega) ?_
  refine k_putG (pc := 987) X hK hP hD hS rfl i_Mo t_Mo t_Mo_ok n_Mo 172 (by decide) wm_2604 rfl (Or.inr ⟨rfl, rfl⟩) rfl rfl d_Mo_init_987 (fun H locs hP hD hS => ?_)
  obtain ⟨r117, er117⟩ : ∃ z, z = rup r116 172 (.ref q117) := ⟨_, rfl⟩
  obtain ⟨w117, ew117⟩ : ∃ z : va_W, z = (q117, .inl (kA 1, 4000, .inl (fun _ => 0))) :: w116 := ⟨_, rfl⟩
  rw [← er117, ← ew117] at hP hD
  refine lv_aload_n (pc := 990) hx hb d_Mo_init_990 rfl (lv_at hl 0 rfl) ?_
  refine lv_sipush (pc := 991) (v := 4096) hx hb d_Mo_init_991 (by decide) ?_
  refine k_newC (pc := 994) (atype := .int) X (ty := .int) (a0 := (4096, .inl (fun _ => 0))) rfl rfl wm_193 hK hP hD hS hA 0 rfl (fun _ => rfl) (by decide) rfl (by decide) (Nat.le_of_ble_eq_true rfl) (Nat.le_of_ble_eq_true rfl) d_Mo_init_994 (fun q118 H hP hD hS => ?_)
  refine W.widen (k := 118) (n := 322933) (by omega) (by omega) ?_
  refine k_putG (pc := 996) X hK hP hD hS rfl i_Mo t_Mo t_Mo_ok n_Mo 175 (by decide) wm_2607 rfl (Or.inr ⟨rfl, rfl⟩) rfl rfl d_Mo_init_996 (fun H locs hP hD hS => ?_)
  obtain ⟨r118, er118⟩ : ∃ z, z = rup r117 175 (.ref q118) := ⟨_, rfl⟩
  obtain ⟨w118, ew118⟩ : ∃ z : va_W, z = (q118, .inl (kA 0, 4096, .inl (fun _ => 0))) :: w117 := ⟨_, rfl⟩
  rw [← er118, ← ew118] at hP hD
  obtain ⟨q, hq⟩ : ∃ q : Nat → Nat, q = fun k => match k with | 1 => q1 | 2 => q2 | 3 => q3 | 4 => q4 | 6 => q5 | 16 => q6 | 17 => q7 | 18 => q8 | 19 => q9 | 20 => q10 | 21 => q11 | 22 => q12 | 23 => q13 | 24 => q14 | 33 => q15 | 34 => q16 | 35 => q17 | 36 => q18 | 37 => q19 | 38 => q20 | 40 => q21 | 41 => q22 | 42 => q23 | 43 => q24 | 44 => q25 | 46 => q26 | 48 => q27 | 50 => q28 | 51 => q29 | 52 => q30 | 54 => q31 | 55 => q32 | 56 => q33 | 57 => q34 | 60 => q35 | 61 => q36 | 62 => q37 | 63 => q38 | 64 => q39 | 65 => q40 | 66 => q41 | 67 => q42 | 68 => q43 | 69 => q44 | 70 => q45 | 71 => q46 | 72 => q47 | 73 => q48 | 74 => q49 | 75 => q50 | 76 => q51 | 77 => q52 | 78 => q53 | 82 => q54 | 83 => q55 | 84 => q56 | 85 => q57 | 86 => q58 | 87 => q59 | 88 => q60 | 89 => q61 | 90 => q62 | 91 => q63 | 92 => q64 | 93 => q65 | 95 => q66 | 96 => q67 | 97 => q68 | 98 => q69 | 102 => q70 | 103 => q71 | 104 => q72 | 105 => q73 | 106 => q74 | 108 => q75 | 109 => q76 | 110 => q77 | 111 => q78 | 112 => q79 | 113 => q80 | 114 => q81 | 115 => q82 | 116 => q83 | 117 => q84 | 118 => q85 | 119 => q86 | 120 => q87 | 122 => q88 | 123 => q89 | 124 => q90 | 126 => q91 | 127 => q92 | 128 => q93 | 129 => q94 | 130 => q95 | 131 => q96 | 135 => q97 | 136 => q98 | 137 => q99 | 138 => q100 | 140 => q101 | 141 => q102 | 142 => q103 | 143 => q104 | 148 => q105 | 149 => q106 | 151 => q107 | 152 => q108 | 160 => q109 | 161 => q110 | 162 => q111 | 163 => q112 | 166 => q113 | 167 => q114 | 168 => q115 | 171 => q116 | 172 => q117 | 175 => q118 | _ => 0 := ⟨_, rfl⟩
  have eo : mG 176 r118 = mF q x0Mo y0Mo := by
    rw [er118, er117, er116, er115, er114, er113, er112, er111, er110, er109, er108, er107, er106, er105, er104, er103, er102, er101, er100, er99, er98, er97, er96, er95, er94, er93, er92, er91, er90, er89, er88, er87, er86, er85, er84, er83, er82, er81, er80, er79, er78, er77, er76, er75, er74, er73, er72, er71, er70, er69, er68, er67, er66, er65, er64, er63, er62, er61, er60, er59, er58, er57, er56, er55, er54, er53, er52, er51, er50, er49, er48, er47, er46, er45, er44, er43, er42, er41, er40, er39, er38, er37, er36, er35, er34, er33, er32, er31, er30, er29, er28, er27, er26, er25, er24, er23, er22, er21, er20, er19, er18, er17, er16, er15, er14, er13, er12, er11, er10, er9, er8, er7, er6, er5, er4, er3, er2, er1, er0, hq]
    rfl
  have ea : (h, .inr (13, mG 176 r118)) :: w118 = cat ([(h, .inr (13, mF q x0Mo y0Mo))] :: [[(q 175, .inl (kA 0, 4096, .inl (fun _ => 0)))], [(q 172, .inl (kA 1, 4000, .inl (fun _ => 0)))], [(q 171, .inl (kA 1, 4000, .inl (fun _ => 0)))], [(q 168, .inl (kA 2, 48, .inl (fun _ => 0)))], [(q 167, .inl (kA 0, 26, .inl (fun _ => 0)))], [(q 166, .inl (kA 0, 26, .inl (fun _ => 0)))], [(q 163, .inl (kA 0, 2010, .inl (fun _ => 0)))], [(q 162, .inl (kA 0, 2010, .inl (fun _ => 0)))], [(q 161, .inl (kA 3, 2010, .inr (.inl (fun _ => 0))))], [(q 160, .inl (kA 0, 2010, .inl (fun _ => 0)))], [(q 152, .inl (kA 0, 48, .inl (fun _ => 0)))], [(q 151, .inl (kA 0, 48, .inl (fun _ => 0)))], [(q 149, .inl (kA 0, 26, .inl (fun _ => 0)))], [(q 148, .inl (kA 0, 26, .inl (fun _ => 0)))], [(q 143, .inl (kA 2, 6000, .inl (fun _ => 0)))], [(q 142, .inl (kA 0, 4, .inl (fun _ => 0)))], [(q 141, .inl (kA 0, 96040, .inl (fun _ => 0)))], [(q 140, .inl (kA 0, 24000, .inl (fun _ => 0)))], [(q 138, .inl (kA 3, 26, .inr (.inl (fun _ => 0))))], [(q 137, .inl (kA 3, 26, .inr (.inl (fun _ => 0))))], [(q 136, .inl (kA 3, 26, .inr (.inl (fun _ => 0))))], [(q 135, .inl (kA 3, 26, .inr (.inl (fun _ => 0))))], [(q 131, .inl (kA 0, 40, .inl (fun _ => 0)))], [(q 130, .inl (kA 0, 40, .inl (fun _ => 0)))], [(q 129, .inl (kA 0, 26, .inl (fun _ => 0)))], [(q 128, .inl (kA 0, 26, .inl (fun _ => 0)))], [(q 127, .inl (kA 0, 26, .inl (fun _ => 0)))], [(q 126, .inl (kA 0, 26, .inl (fun _ => 0)))], [(q 124, .inl (kA 0, 26, .inl (fun _ => 0)))], [(q 123, .inl (kA 0, 26, .inl (fun _ => 0)))], [(q 122, .inl (kA 0, 30, .inl (fun _ => 0)))], [(q 120, .inl (kA 3, 76, .inr (.inl (fun _ => 0))))], [(q 119, .inl (kA 3, 76, .inr (.inl (fun _ => 0))))], [(q 118, .inl (kA 0, 5776, .inl (fun _ => 0)))], [(q 117, .inl (kA 0, 100, .inl (fun _ => 0)))], [(q 116, .inl (kA 0, 6, .inl (fun _ => 0)))], [(q 115, .inl (kA 0, 76, .inl (fun _ => 0)))], [(q 114, .inl (kA 0, 36, .inl (fun _ => 0)))], [(q 113, .inl (kA 0, 54720, .inl (fun _ => 0)))], [(q 112, .inl (kA 1, 6000, .inl (fun _ => 0)))], [(q 111, .inl (kA 0, 8, .inl (fun _ => 0)))], [(q 110, .inl (kA 0, 8, .inl (fun _ => 0)))], [(q 109, .inl (kA 0, 130, .inl (fun _ => 0)))], [(q 108, .inl (kA 0, 130, .inl (fun _ => 0)))], [(q 106, .inl (kA 0, 5776, .inl (fun _ => 0)))], [(q 105, .inl (kA 0, 76, .inl (fun _ => 0)))], [(q 104, .inl (kA 0, 48, .inl (fun _ => 0)))], [(q 103, .inl (kA 0, 76, .inl (fun _ => 0)))], [(q 102, .inl (kA 0, 76, .inl (fun _ => 0)))], [(q 98, .inl (kA 0, 26, .inl (fun _ => 0)))], [(q 97, .inl (kA 0, 26, .inl (fun _ => 0)))], [(q 96, .inl (kA 0, 26, .inl (fun _ => 0)))], [(q 95, .inl (kA 2, 48, .inl (fun _ => 0)))], [(q 93, .inl (kA 0, 78, .inl (fun _ => 0)))], [(q 92, .inl (kA 0, 100, .inl (fun _ => 0)))], [(q 91, .inl (kA 0, 78, .inl (fun _ => 0)))], [(q 90, .inl (kA 0, 6084, .inl (fun _ => 0)))], [(q 89, .inl (kA 0, 200, .inl (fun _ => 0)))], [(q 88, .inl (kA 0, 200, .inl (fun _ => 0)))], [(q 87, .inl (kA 0, 200, .inl (fun _ => 0)))], [(q 86, .inl (kA 2, 200, .inl (fun _ => 0)))], [(q 85, .inl (kA 0, 200, .inl (fun _ => 0)))], [(q 84, .inl (kA 0, 200, .inl (fun _ => 0)))], [(q 83, .inl (kA 0, 200, .inl (fun _ => 0)))], [(q 82, .inl (kA 0, 76, .inl (fun _ => 0)))], [(q 78, .inl (kA 0, 1152, .inl (fun _ => 0)))], [(q 77, .inl (kA 0, 1152, .inl (fun _ => 0)))], [(q 76, .inl (kA 0, 48, .inl (fun _ => 0)))], [(q 75, .inl (kA 0, 100, .inl (fun _ => 0)))], [(q 74, .inl (kA 0, 100, .inl (fun _ => 0)))], [(q 73, .inl (kA 0, 864, .inl (fun _ => 0)))], [(q 72, .inl (kA 0, 128, .inl (fun _ => 0)))], [(q 71, .inl (kA 0, 384, .inl (fun _ => 0)))], [(q 70, .inl (kA 0, 192, .inl (fun _ => 0)))], [(q 69, .inl (kA 0, 96, .inl (fun _ => 0)))], [(q 68, .inl (kA 0, 4, .inl (fun _ => 0)))], [(q 67, .inl (kA 0, 4, .inl (fun _ => 0)))], [(q 66, .inl (kA 0, 4608, .inl (fun _ => 0)))], [(q 65, .inl (kA 0, 4608, .inl (fun _ => 0)))], [(q 64, .inl (kA 0, 192, .inl (fun _ => 0)))], [(q 63, .inl (kA 0, 96, .inl (fun _ => 0)))], [(q 62, .inl (kA 0, 96, .inl (fun _ => 0)))], [(q 61, .inl (kA 0, 4, .inl (upd (upd (upd (upd (fun _ => 0) 0 (-1)) 1 (-1)) 2 (-1)) 3 (-1))))], [(q 60, .inl (kA 0, 80, .inl (fun _ => 0)))], [(q 57, .inl (kA 0, 160, .inl (fun _ => 0)))], [(q 56, .inl (kA 0, 161, .inl (fun _ => 0)))], [(q 55, .inl (kA 0, 160, .inl (fun _ => 0)))], [(q 54, .inl (kA 0, 160, .inl (fun _ => 0)))], [(q 52, .inl (kA 0, 30, .inl (fun _ => 0)))], [(q 51, .inl (kA 0, 120, .inl (fun _ => 0)))], [(q 50, .inl (kA 0, 80, .inl (fun _ => 0)))], [(q 48, .inl (kA 0, 26, .inl (fun _ => 0)))], [(q 46, .inl (kA 0, 30, .inl (fun _ => 0)))], [(q 44, .inl (kA 0, 80, .inl (fun _ => 0)))], [(q 43, .inl (kA 2, 80, .inl (fun _ => 0)))], [(q 42, .inl (kA 2, 26, .inl (fun _ => 0)))], [(q 41, .inl (kA 0, 7200, .inl (fun _ => 0)))], [(q 40, .inl (kA 0, 120, .inl (fun _ => 0)))], [(q 38, .inl (kA 2, 26, .inl (fun _ => 0)))], [(q 37, .inl (kA 0, 2080, .inl (fun _ => 0)))], [(q 36, .inl (kA 0, 26, .inl (fun _ => 0)))], [(q 35, .inl (kA 2, 80, .inl (fun _ => 0)))], [(q 34, .inl (kA 0, 80, .inl (fun _ => 0)))], [(q 33, .inl (kA 0, 80, .inl (fun _ => 0)))], [(q 24, .inl (kA 0, 24, .inl (fun _ => 0)))], [(q 23, .inl (kA 0, 24, .inl (fun _ => 0)))], [(q 22, .inl (kA 2, 25, .inl (fun _ => 0)))], [(q 21, .inl (kA 2, 576, .inl (fun _ => 0)))], [(q 20, .inl (kA 0, 100, .inl (fun _ => 0)))], [(q 19, .inl (kA 0, 25, .inl (fun _ => 0)))], [(q 18, .inl (kA 0, 24, .inl (fun _ => 0)))], [(q 17, .inl (kA 0, 80, .inl (fun _ => 0)))], [(q 16, .inl (kA 0, 25, .inl (fun _ => 0)))], [(q 6, .inl (kA 0, 539, .inl (fun _ => 0)))], [(q 4, .inl (kA 0, 4, .inl (fun _ => 0)))], [(q 3, .inl (kA 0, 4, .inl (fun _ => 0)))], [(q 2, .inl (kA 0, 66836, .inl (fun _ => 0)))], [(q 1, .inl (kA 1, 2000, .inl (fun _ => 0)))]]) := by
    rw [eo, ew118, ew117, ew116, ew115, ew114, ew113, ew112, ew111, ew110, ew109, ew108, ew107, ew106, ew105, ew104, ew103, ew102, ew101, ew100, ew99, ew98, ew97, ew96, ew95, ew94, ew93, ew92, ew91, ew90, ew89, ew88, ew87, ew86, ew85, ew84, ew83, ew82, ew81, ew80, ew79, ew78, ew77, ew76, ew75, ew74, ew73, ew72, ew71, ew70, ew69, ew68, ew67, ew66, ew65, ew64, ew63, ew62, ew61, ew60, ew59, ew58, ew57, ew56, ew55, ew54, ew53, ew52, ew51, ew50, ew49, ew48, ew47, ew46, ew45, ew44, ew43, ew42, ew41, ew40, ew39, ew38, ew37, ew36, ew35, ew34, ew33, ew32, ew31, ew30, ew29, ew28, ew27, ew26, ew25, ew24, ew23, ew22, ew21, ew20, ew19, ew18, ew17, ew16, ew15, ew14, ew13, ew12, ew11, ew10, ew9, ew8, ew7, ew6, ew5, ew4, ew3, ew2, ew1, ew0, hq]
    rfl
  rw [ea] at hP hD
  clear ea eo hq
  obtain ⟨hP, hD⟩ := k_ord (gc := [[(h, .inr (13, mF q x0Mo y0Mo))], [(q 2, .inl (kA 0, 66836, .inl (fun _ => 0)))], [(q 96, .inl (kA 0, 26, .inl (fun _ => 0)))], [(q 110, .inl (kA 0, 8, .inl (fun _ => 0)))], [(q 111, .inl (kA 0, 8, .inl (fun _ => 0)))], [(q 112, .inl (kA 1, 6000, .inl (fun _ => 0)))], [(q 1, .inl (kA 1, 2000, .inl (fun _ => 0)))], [(q 3, .inl (kA 0, 4, .inl (fun _ => 0)))], [(q 4, .inl (kA 0, 4, .inl (fun _ => 0)))], [(q 6, .inl (kA 0, 539, .inl (fun _ => 0)))], [(q 16, .inl (kA 0, 25, .inl (fun _ => 0)))], [(q 17, .inl (kA 0, 80, .inl (fun _ => 0)))], [(q 18, .inl (kA 0, 24, .inl (fun _ => 0)))], [(q 19, .inl (kA 0, 25, .inl (fun _ => 0)))], [(q 20, .inl (kA 0, 100, .inl (fun _ => 0)))], [(q 21, .inl (kA 2, 576, .inl (fun _ => 0)))], [(q 22, .inl (kA 2, 25, .inl (fun _ => 0)))], [(q 23, .inl (kA 0, 24, .inl (fun _ => 0)))], [(q 24, .inl (kA 0, 24, .inl (fun _ => 0)))], [(q 33, .inl (kA 0, 80, .inl (fun _ => 0)))], [(q 34, .inl (kA 0, 80, .inl (fun _ => 0)))], [(q 35, .inl (kA 2, 80, .inl (fun _ => 0)))], [(q 36, .inl (kA 0, 26, .inl (fun _ => 0)))], [(q 37, .inl (kA 0, 2080, .inl (fun _ => 0)))], [(q 38, .inl (kA 2, 26, .inl (fun _ => 0)))], [(q 40, .inl (kA 0, 120, .inl (fun _ => 0)))], [(q 41, .inl (kA 0, 7200, .inl (fun _ => 0)))], [(q 42, .inl (kA 2, 26, .inl (fun _ => 0)))], [(q 43, .inl (kA 2, 80, .inl (fun _ => 0)))], [(q 44, .inl (kA 0, 80, .inl (fun _ => 0)))], [(q 46, .inl (kA 0, 30, .inl (fun _ => 0)))], [(q 48, .inl (kA 0, 26, .inl (fun _ => 0)))], [(q 50, .inl (kA 0, 80, .inl (fun _ => 0)))], [(q 51, .inl (kA 0, 120, .inl (fun _ => 0)))], [(q 52, .inl (kA 0, 30, .inl (fun _ => 0)))], [(q 54, .inl (kA 0, 160, .inl (fun _ => 0)))], [(q 55, .inl (kA 0, 160, .inl (fun _ => 0)))], [(q 56, .inl (kA 0, 161, .inl (fun _ => 0)))], [(q 57, .inl (kA 0, 160, .inl (fun _ => 0)))], [(q 60, .inl (kA 0, 80, .inl (fun _ => 0)))], [(q 61, .inl (kA 0, 4, .inl (upd (upd (upd (upd (fun _ => 0) 0 (-1)) 1 (-1)) 2 (-1)) 3 (-1))))], [(q 62, .inl (kA 0, 96, .inl (fun _ => 0)))], [(q 63, .inl (kA 0, 96, .inl (fun _ => 0)))], [(q 64, .inl (kA 0, 192, .inl (fun _ => 0)))], [(q 65, .inl (kA 0, 4608, .inl (fun _ => 0)))], [(q 66, .inl (kA 0, 4608, .inl (fun _ => 0)))], [(q 67, .inl (kA 0, 4, .inl (fun _ => 0)))], [(q 68, .inl (kA 0, 4, .inl (fun _ => 0)))], [(q 69, .inl (kA 0, 96, .inl (fun _ => 0)))], [(q 70, .inl (kA 0, 192, .inl (fun _ => 0)))], [(q 71, .inl (kA 0, 384, .inl (fun _ => 0)))], [(q 72, .inl (kA 0, 128, .inl (fun _ => 0)))], [(q 73, .inl (kA 0, 864, .inl (fun _ => 0)))], [(q 74, .inl (kA 0, 100, .inl (fun _ => 0)))], [(q 75, .inl (kA 0, 100, .inl (fun _ => 0)))], [(q 76, .inl (kA 0, 48, .inl (fun _ => 0)))], [(q 77, .inl (kA 0, 1152, .inl (fun _ => 0)))], [(q 78, .inl (kA 0, 1152, .inl (fun _ => 0)))], [(q 82, .inl (kA 0, 76, .inl (fun _ => 0)))], [(q 83, .inl (kA 0, 200, .inl (fun _ => 0)))], [(q 84, .inl (kA 0, 200, .inl (fun _ => 0)))], [(q 85, .inl (kA 0, 200, .inl (fun _ => 0)))], [(q 86, .inl (kA 2, 200, .inl (fun _ => 0)))], [(q 87, .inl (kA 0, 200, .inl (fun _ => 0)))], [(q 88, .inl (kA 0, 200, .inl (fun _ => 0)))], [(q 89, .inl (kA 0, 200, .inl (fun _ => 0)))], [(q 90, .inl (kA 0, 6084, .inl (fun _ => 0)))], [(q 91, .inl (kA 0, 78, .inl (fun _ => 0)))], [(q 92, .inl (kA 0, 100, .inl (fun _ => 0)))], [(q 93, .inl (kA 0, 78, .inl (fun _ => 0)))], [(q 95, .inl (kA 2, 48, .inl (fun _ => 0)))], [(q 97, .inl (kA 0, 26, .inl (fun _ => 0)))], [(q 98, .inl (kA 0, 26, .inl (fun _ => 0)))], [(q 102, .inl (kA 0, 76, .inl (fun _ => 0)))], [(q 103, .inl (kA 0, 76, .inl (fun _ => 0)))], [(q 104, .inl (kA 0, 48, .inl (fun _ => 0)))], [(q 105, .inl (kA 0, 76, .inl (fun _ => 0)))], [(q 106, .inl (kA 0, 5776, .inl (fun _ => 0)))], [(q 108, .inl (kA 0, 130, .inl (fun _ => 0)))], [(q 109, .inl (kA 0, 130, .inl (fun _ => 0)))], [(q 113, .inl (kA 0, 54720, .inl (fun _ => 0)))], [(q 114, .inl (kA 0, 36, .inl (fun _ => 0)))], [(q 115, .inl (kA 0, 76, .inl (fun _ => 0)))], [(q 116, .inl (kA 0, 6, .inl (fun _ => 0)))], [(q 117, .inl (kA 0, 100, .inl (fun _ => 0)))], [(q 118, .inl (kA 0, 5776, .inl (fun _ => 0)))], [(q 119, .inl (kA 3, 76, .inr (.inl (fun _ => 0))))], [(q 120, .inl (kA 3, 76, .inr (.inl (fun _ => 0))))], [(q 122, .inl (kA 0, 30, .inl (fun _ => 0)))], [(q 123, .inl (kA 0, 26, .inl (fun _ => 0)))], [(q 124, .inl (kA 0, 26, .inl (fun _ => 0)))], [(q 126, .inl (kA 0, 26, .inl (fun _ => 0)))], [(q 127, .inl (kA 0, 26, .inl (fun _ => 0)))], [(q 128, .inl (kA 0, 26, .inl (fun _ => 0)))], [(q 129, .inl (kA 0, 26, .inl (fun _ => 0)))], [(q 130, .inl (kA 0, 40, .inl (fun _ => 0)))], [(q 131, .inl (kA 0, 40, .inl (fun _ => 0)))], [(q 135, .inl (kA 3, 26, .inr (.inl (fun _ => 0))))], [(q 136, .inl (kA 3, 26, .inr (.inl (fun _ => 0))))], [(q 137, .inl (kA 3, 26, .inr (.inl (fun _ => 0))))], [(q 138, .inl (kA 3, 26, .inr (.inl (fun _ => 0))))], [(q 140, .inl (kA 0, 24000, .inl (fun _ => 0)))], [(q 141, .inl (kA 0, 96040, .inl (fun _ => 0)))], [(q 142, .inl (kA 0, 4, .inl (fun _ => 0)))], [(q 143, .inl (kA 2, 6000, .inl (fun _ => 0)))], [(q 148, .inl (kA 0, 26, .inl (fun _ => 0)))], [(q 149, .inl (kA 0, 26, .inl (fun _ => 0)))], [(q 151, .inl (kA 0, 48, .inl (fun _ => 0)))], [(q 152, .inl (kA 0, 48, .inl (fun _ => 0)))], [(q 160, .inl (kA 0, 2010, .inl (fun _ => 0)))], [(q 161, .inl (kA 3, 2010, .inr (.inl (fun _ => 0))))], [(q 162, .inl (kA 0, 2010, .inl (fun _ => 0)))], [(q 163, .inl (kA 0, 2010, .inl (fun _ => 0)))], [(q 166, .inl (kA 0, 26, .inl (fun _ => 0)))], [(q 167, .inl (kA 0, 26, .inl (fun _ => 0)))], [(q 168, .inl (kA 2, 48, .inl (fun _ => 0)))], [(q 171, .inl (kA 1, 4000, .inl (fun _ => 0)))], [(q 172, .inl (kA 1, 4000, .inl (fun _ => 0)))], [(q 175, .inl (kA 0, 4096, .inl (fun _ => 0)))]]) hP hD [0, 117, 52, 42, 41, 40, 118, 116, 115, 114, 113, 112, 111, 110, 109, 108, 107, 106, 105, 104, 103, 102, 101, 100, 99, 98, 97, 96, 95, 94, 93, 92, 91, 90, 89, 88, 87, 86, 85, 84, 83, 82, 81, 80, 79, 78, 77, 76, 75, 74, 73, 72, 71, 70, 69, 68, 67, 66, 65, 64, 63, 62, 61, 60, 59, 58, 57, 56, 55, 54, 53, 51, 50, 49, 48, 47, 46, 45, 44, 43, 39, 38, 37, 36, 35, 34, 33, 32, 31, 30, 29, 28, 27, 26, 25, 24, 23, 22, 21, 20, 19, 18, 17, 16, 15, 14, 13, 12, 11, 10, 9, 8, 7, 6, 5, 4, 3, 2, 1] 119 rfl (by decide +kernel) rfl
  have hP : va_P D classes (cat [[(h, .inr (13, mF q x0Mo y0Mo))], [(q 2, .inl (kA 0, 66836, .inl (fun _ => 0)))], [(q 96, .inl (kA 0, 26, .inl (fun _ => 0)))], [(q 110, .inl (kA 0, 8, .inl (fun _ => 0)))], [(q 111, .inl (kA 0, 8, .inl (fun _ => 0)))], [(q 112, .inl (kA 1, 6000, .inl (fun _ => 0)))], wMr kA q a0Mo (fun _ _ => 0)]) H := hP
  have hD : va_D A (cat [[(h, .inr (13, mF q x0Mo y0Mo))], [(q 2, .inl (kA 0, 66836, .inl (fun _ => 0)))], [(q 96, .inl (kA 0, 26, .inl (fun _ => 0)))], [(q 110, .inl (kA 0, 8, .inl (fun _ => 0)))], [(q 111, .inl (kA 0, 8, .inl (fun _ => 0)))], [(q 112, .inl (kA 1, 6000, .inl (fun _ => 0)))], wMr kA q a0Mo (fun _ _ => 0)]) := hD
  refine lv_iconst (pc := 999) (v := 0) hx hb d_Mo_init_999 (by decide) ?_
  refine lv_istore_n (pc := 1000) (lv' := [(1, .int 0), (0, .ref h)]) hx hb d_Mo_init_1000 rfl hl (by decide) rfl (fun ls hl => ?_)
  refine lv_iload_n (pc := 1001) hx hb d_Mo_init_1001 rfl (lv_at hl 0 rfl) ?_
  refine lv_iconst (pc := 1002) (v := 4) hx hb d_Mo_init_1002 (by decide) ?_
  refine lv_icmp_ge (pc := 1003) (tgt := 1021) hx hb d_Mo_init_1003 (by decide) (fun c1 => absurd c1 (by decide)) (fun _ => ?_)
  refine lv_aload_n (pc := 1006) hx hb d_Mo_init_1006 rfl (lv_at hl 1 rfl) ?_
  refine lv_iload_n (pc := 1007) hx hb d_Mo_init_1007 rfl (lv_at hl 0 rfl) ?_
  refine lv_iconst (pc := 1008) (v := 0) hx hb d_Mo_init_1008 (by decide) ?_
  refine k_goI (gr := [[(h, .inr (13, mF q x0Mo y0Mo))], [(q 2, .inl (kA 0, 66836, .inl (fun _ => 0)))], [(q 96, .inl (kA 0, 26, .inl (fun _ => 0)))], [(q 110, .inl (kA 0, 8, .inl (fun _ => 0)))], [(q 111, .inl (kA 0, 8, .inl (fun _ => 0)))], [(q 112, .inl (kA 1, 6000, .inl (fun _ => 0)))], wMr kA q a0Mo (fun _ _ => 0)]) (k_rS (pc := 1009) (As := [.int 0, .int 0]) (rest := [.ref h]) X (c_Mo_rowOf l D kA 0 0 H.size) rfl wm_2420 wm_9 wm_2418 wm_2419 2 (by decide +kernel) ⟨Nat.le_of_ble_eq_true rfl, Nat.le_of_ble_eq_true rfl⟩ rfl rfl (k_pre hN hK hP hD [] [0, 1, 2, 3, 4, 5, 6] 7 rfl (by decide) rfl) rfl hl.1 rfl (Nat.le_of_ble_eq_true rfl) d_Mo_init_1009 ⟨Nat.le_of_ble_eq_true rfl, Nat.le_of_ble_eq_true rfl⟩) hP hD hS hA [] [0, 1, 2, 3, 4, 5, 6] 7 rfl (by decide) rfl rfl (fun r119 u120 H locs hu120 hP hD hS => ?_)
  subst hu120
  have hP : va_P D classes (cat [[(h, .inr (13, mF q x0Mo y0Mo))], [(q 2, .inl (kA 0, 66836, .inl (fun _ => 0)))], [(q 96, .inl (kA 0, 26, .inl (fun _ => 0)))], [(q 110, .inl (kA 0, 8, .inl (fun _ => 0)))], [(q 111, .inl (kA 0, 8, .inl (fun _ => 0)))], [(q 112, .inl (kA 1, 6000, .inl (fun _ => 0)))], wMr kA q a0Mo (fun _ _ => 0)]) H := hP
  have hD : va_D A (cat [[(h, .inr (13, mF q x0Mo y0Mo))], [(q 2, .inl (kA 0, 66836, .inl (fun _ => 0)))], [(q 96, .inl (kA 0, 26, .inl (fun _ => 0)))], [(q 110, .inl (kA 0, 8, .inl (fun _ => 0)))], [(q 111, .inl (kA 0, 8, .inl (fun _ => 0)))], [(q 112, .inl (kA 1, 6000, .inl (fun _ => 0)))], wMr kA q a0Mo (fun _ _ => 0)]) := hD
  refine k_goV (gr := [[(q 96, .inl (kA 0, 26, .inl (fun _ => 0)))], [(q 110, .inl (kA 0, 8, .inl (fun _ => 0)))], [(q 111, .inl (kA 0, 8, .inl (fun _ => 0)))], [(q 112, .inl (kA 1, 6000, .inl (fun _ => 0)))], wMr kA q a0Mo (fun _ _ => 0)]) (k_rV (pc := 1012) (As := [.int (nI (539 * (31 * 0 + 0)))]) (rest := []) X (c_Mo_clear l D kA h q x0Mo y0Mo (fun _ => 0) 0 (by decide) H.size) rfl wm_2424 wm_9 wm_2421 wm_2423 wv_12_8 1 (by decide +kernel) ⟨Nat.le_of_ble_eq_true rfl, Nat.le_of_ble_eq_true rfl⟩ rfl rfl (va_recv hK hP (ci := 13) (q0 := 0) rfl rfl) (k_pre hN hK hP hD [0, 1] [2, 3, 4, 5, 6] 7 rfl (by decide) rfl) rfl hl.1 rfl (Nat.le_of_ble_eq_true rfl) d_Mo_init_1012 ⟨Nat.le_of_ble_eq_true rfl, Nat.le_of_ble_eq_true rfl⟩) hP hD hS hA [0, 1] [2, 3, 4, 5, 6] 7 rfl (by decide) rfl rfl (fun u121 H locs hu121 hP hD hS => ?_)
  have hP : va_P D classes (cat [[(q 96, .inl (kA 0, 26, .inl (fun _ => 0)))], [(q 110, .inl (kA 0, 8, .inl (fun _ => 0)))], [(q 111, .inl (kA 0, 8, .inl (fun _ => 0)))], [(q 112, .inl (kA 1, 6000, .inl (fun _ => 0)))], wMr kA q a0Mo (fun _ _ => 0), [(h, .inr (13, mF q x0Mo y0Mo))], [(q 2, .inl (kA 0, 66836, .inl (upd (upd (clr (fun _ => 0) 0 539) (0 + 2) 1) (0 + 531) (-1))))]]) H := hP
  have hD : va_D A (cat [[(q 96, .inl (kA 0, 26, .inl (fun _ => 0)))], [(q 110, .inl (kA 0, 8, .inl (fun _ => 0)))], [(q 111, .inl (kA 0, 8, .inl (fun _ => 0)))], [(q 112, .inl (kA 1, 6000, .inl (fun _ => 0)))], wMr kA q a0Mo (fun _ _ => 0), [(h, .inr (13, mF q x0Mo y0Mo))], [(q 2, .inl (kA 0, 66836, .inl (upd (upd (clr (fun _ => 0) 0 539) (0 + 2) 1) (0 + 531) (-1))))]]) := hD
  refine lv_iinc (pc := 1015) (v := 1) (lv' := [(1, .int 1), (0, .ref h)]) hx hb d_Mo_init_1015 hl (k := 0) rfl (by decide) (by decide) rfl (fun ls hl => ?_)
  refine lv_goto (pc := 1018) (tgt := 1001) hx hb d_Mo_init_1018 (by decide) ?_
  refine lv_iload_n (pc := 1001) hx hb d_Mo_init_1001 rfl (lv_at hl 0 rfl) ?_
  refine lv_iconst (pc := 1002) (v := 4) hx hb d_Mo_init_1002 (by decide) ?_
  refine lv_icmp_ge (pc := 1003) (tgt := 1021) hx hb d_Mo_init_1003 (by decide) (fun c1 => absurd c1 (by decide)) (fun _ => ?_)
  refine lv_aload_n (pc := 1006) hx hb d_Mo_init_1006 rfl (lv_at hl 1 rfl) ?_
  refine lv_iload_n (pc := 1007) hx hb d_Mo_init_1007 rfl (lv_at hl 0 rfl) ?_
  refine lv_iconst (pc := 1008) (v := 0) hx hb d_Mo_init_1008 (by decide) ?_
  refine k_goI (gr := [[(q 96, .inl (kA 0, 26, .inl (fun _ => 0)))], [(q 110, .inl (kA 0, 8, .inl (fun _ => 0)))], [(q 111, .inl (kA 0, 8, .inl (fun _ => 0)))], [(q 112, .inl (kA 1, 6000, .inl (fun _ => 0)))], wMr kA q a0Mo (fun _ _ => 0), [(h, .inr (13, mF q x0Mo y0Mo))], [(q 2, .inl (kA 0, 66836, .inl (upd (upd (clr (fun _ => 0) 0 539) (0 + 2) 1) (0 + 531) (-1))))]]) (k_rS (pc := 1009) (As := [.int 1, .int 0]) (rest := [.ref h]) X (c_Mo_rowOf l D kA 1 0 H.size) rfl wm_2420 wm_9 wm_2418 wm_2419 2 (by decide +kernel) ⟨Nat.le_of_ble_eq_true rfl, Nat.le_of_ble_eq_true rfl⟩ rfl rfl (k_pre hN hK hP hD [] [0, 1, 2, 3, 4, 5, 6] 7 rfl (by decide) rfl) rfl hl.1 rfl (Nat.le_of_ble_eq_true rfl) d_Mo_init_1009 ⟨Nat.le_of_ble_eq_true rfl, Nat.le_of_ble_eq_true rfl⟩) hP hD hS hA [] [0, 1, 2, 3, 4, 5, 6] 7 rfl (by decide) rfl rfl (fun r122 u123 H locs hu123 hP hD hS => ?_)
  subst hu123
  have hP : va_P D classes (cat [[(q 96, .inl (kA 0, 26, .inl (fun _ => 0)))], [(q 110, .inl (kA 0, 8, .inl (fun _ => 0)))], [(q 111, .inl (kA 0, 8, .inl (fun _ => 0)))], [(q 112, .inl (kA 1, 6000, .inl (fun _ => 0)))], wMr kA q a0Mo (fun _ _ => 0), [(h, .inr (13, mF q x0Mo y0Mo))], [(q 2, .inl (kA 0, 66836, .inl (upd (upd (clr (fun _ => 0) 0 539) (0 + 2) 1) (0 + 531) (-1))))]]) H := hP
  have hD : va_D A (cat [[(q 96, .inl (kA 0, 26, .inl (fun _ => 0)))], [(q 110, .inl (kA 0, 8, .inl (fun _ => 0)))], [(q 111, .inl (kA 0, 8, .inl (fun _ => 0)))], [(q 112, .inl (kA 1, 6000, .inl (fun _ => 0)))], wMr kA q a0Mo (fun _ _ => 0), [(h, .inr (13, mF q x0Mo y0Mo))], [(q 2, .inl (kA 0, 66836, .inl (upd (upd (clr (fun _ => 0) 0 539) (0 + 2) 1) (0 + 531) (-1))))]]) := hD
  refine k_goV (gr := [[(q 96, .inl (kA 0, 26, .inl (fun _ => 0)))], [(q 110, .inl (kA 0, 8, .inl (fun _ => 0)))], [(q 111, .inl (kA 0, 8, .inl (fun _ => 0)))], [(q 112, .inl (kA 1, 6000, .inl (fun _ => 0)))], wMr kA q a0Mo (fun _ _ => 0)]) (k_rV (pc := 1012) (As := [.int (nI (539 * (31 * 1 + 0)))]) (rest := []) X (c_Mo_clear l D kA h q x0Mo y0Mo (upd (upd (clr (fun _ => 0) 0 539) (0 + 2) 1) (0 + 531) (-1)) 16709 (by decide) H.size) rfl wm_2424 wm_9 wm_2421 wm_2423 wv_12_8 1 (by decide +kernel) ⟨Nat.le_of_ble_eq_true rfl, Nat.le_of_ble_eq_true rfl⟩ rfl rfl (va_recv hK hP (ci := 13) (q0 := 117) rfl rfl) (k_pre hN hK hP hD [5, 6] [0, 1, 2, 3, 4] 7 rfl (by decide) rfl) rfl hl.1 rfl (Nat.le_of_ble_eq_true rfl) d_Mo_init_1012 ⟨Nat.le_of_ble_eq_true rfl, Nat.le_of_ble_eq_true rfl⟩) hP hD hS hA [5, 6] [0, 1, 2, 3, 4] 7 rfl (by decide) rfl rfl (fun u124 H locs hu124 hP hD hS => ?_)
  have hP : va_P D classes (cat [[(q 96, .inl (kA 0, 26, .inl (fun _ => 0)))], [(q 110, .inl (kA 0, 8, .inl (fun _ => 0)))], [(q 111, .inl (kA 0, 8, .inl (fun _ => 0)))], [(q 112, .inl (kA 1, 6000, .inl (fun _ => 0)))], wMr kA q a0Mo (fun _ _ => 0), [(h, .inr (13, mF q x0Mo y0Mo))], [(q 2, .inl (kA 0, 66836, .inl (upd (upd (clr (upd (upd (clr (fun _ => 0) 0 539) (0 + 2) 1) (0 + 531) (-1)) 16709 539) (16709 + 2) 1) (16709 + 531) (-1))))]]) H := hP
  have hD : va_D A (cat [[(q 96, .inl (kA 0, 26, .inl (fun _ => 0)))], [(q 110, .inl (kA 0, 8, .inl (fun _ => 0)))], [(q 111, .inl (kA 0, 8, .inl (fun _ => 0)))], [(q 112, .inl (kA 1, 6000, .inl (fun _ => 0)))], wMr kA q a0Mo (fun _ _ => 0), [(h, .inr (13, mF q x0Mo y0Mo))], [(q 2, .inl (kA 0, 66836, .inl (upd (upd (clr (upd (upd (clr (fun _ => 0) 0 539) (0 + 2) 1) (0 + 531) (-1)) 16709 539) (16709 + 2) 1) (16709 + 531) (-1))))]]) := hD
  refine lv_iinc (pc := 1015) (v := 2) (lv' := [(1, .int 2), (0, .ref h)]) hx hb d_Mo_init_1015 hl (k := 0) rfl (by decide) (by decide) rfl (fun ls hl => ?_)
  refine lv_goto (pc := 1018) (tgt := 1001) hx hb d_Mo_init_1018 (by decide) ?_
  refine lv_iload_n (pc := 1001) hx hb d_Mo_init_1001 rfl (lv_at hl 0 rfl) ?_
  refine lv_iconst (pc := 1002) (v := 4) hx hb d_Mo_init_1002 (by decide) ?_
  refine lv_icmp_ge (pc := 1003) (tgt := 1021) hx hb d_Mo_init_1003 (by decide) (fun c1 => absurd c1 (by decide)) (fun _ => ?_)
  refine lv_aload_n (pc := 1006) hx hb d_Mo_init_1006 rfl (lv_at hl 1 rfl) ?_
  refine lv_iload_n (pc := 1007) hx hb d_Mo_init_1007 rfl (lv_at hl 0 rfl) ?_
  refine lv_iconst (pc := 1008) (v := 0) hx hb d_Mo_init_1008 (by decide) ?_
  refine k_goI (gr := [[(q 96, .inl (kA 0, 26, .inl (fun _ => 0)))], [(q 110, .inl (kA 0, 8, .inl (fun _ => 0)))], [(q 111, .inl (kA 0, 8, .inl (fun _ => 0)))], [(q 112, .inl (kA 1, 6000, .inl (fun _ => 0)))], wMr kA q a0Mo (fun _ _ => 0), [(h, .inr (13, mF q x0Mo y0Mo))], [(q 2, .inl (kA 0, 66836, .inl (upd (upd (clr (upd (upd (clr (fun _ => 0) 0 539) (0 + 2) 1) (0 + 531) (-1)) 16709 539) (16709 + 2) 1) (16709 + 531) (-1))))]]) (k_rS (pc := 1009) (As := [.int 2, .int 0]) (rest := [.ref h]) X (c_Mo_rowOf l D kA 2 0 H.size) rfl wm_2420 wm_9 wm_2418 wm_2419 2 (by decide +kernel) ⟨Nat.le_of_ble_eq_true rfl, Nat.le_of_ble_eq_true rfl⟩ rfl rfl (k_pre hN hK hP hD [] [0, 1, 2, 3, 4, 5, 6] 7 rfl (by decide) rfl) rfl hl.1 rfl (Nat.le_of_ble_eq_true rfl) d_Mo_init_1009 ⟨Nat.le_of_ble_eq_true rfl, Nat.le_of_ble_eq_true rfl⟩) hP hD hS hA [] [0, 1, 2, 3, 4, 5, 6] 7 rfl (by decide) rfl rfl (fun r125 u126 H locs hu126 hP hD hS => ?_)
  subst hu126
  have hP : va_P D classes (cat [[(q 96, .inl (kA 0, 26, .inl (fun _ => 0)))], [(q 110, .inl (kA 0, 8, .inl (fun _ => 0)))], [(q 111, .inl (kA 0, 8, .inl (fun _ => 0)))], [(q 112, .inl (kA 1, 6000, .inl (fun _ => 0)))], wMr kA q a0Mo (fun _ _ => 0), [(h, .inr (13, mF q x0Mo y0Mo))], [(q 2, .inl (kA 0, 66836, .inl (upd (upd (clr (upd (upd (clr (fun _ => 0) 0 539) (0 + 2) 1) (0 + 531) (-1)) 16709 539) (16709 + 2) 1) (16709 + 531) (-1))))]]) H := hP
  have hD : va_D A (cat [[(q 96, .inl (kA 0, 26, .inl (fun _ => 0)))], [(q 110, .inl (kA 0, 8, .inl (fun _ => 0)))], [(q 111, .inl (kA 0, 8, .inl (fun _ => 0)))], [(q 112, .inl (kA 1, 6000, .inl (fun _ => 0)))], wMr kA q a0Mo (fun _ _ => 0), [(h, .inr (13, mF q x0Mo y0Mo))], [(q 2, .inl (kA 0, 66836, .inl (upd (upd (clr (upd (upd (clr (fun _ => 0) 0 539) (0 + 2) 1) (0 + 531) (-1)) 16709 539) (16709 + 2) 1) (16709 + 531) (-1))))]]) := hD
  refine k_goV (gr := [[(q 96, .inl (kA 0, 26, .inl (fun _ => 0)))], [(q 110, .inl (kA 0, 8, .inl (fun _ => 0)))], [(q 111, .inl (kA 0, 8, .inl (fun _ => 0)))], [(q 112, .inl (kA 1, 6000, .inl (fun _ => 0)))], wMr kA q a0Mo (fun _ _ => 0)]) (k_rV (pc := 1012) (As := [.int (nI (539 * (31 * 2 + 0)))]) (rest := []) X (c_Mo_clear l D kA h q x0Mo y0Mo (upd (upd (clr (upd (upd (clr (fun _ => 0) 0 539) (0 + 2) 1) (0 + 531) (-1)) 16709 539) (16709 + 2) 1) (16709 + 531) (-1)) 33418 (by decide) H.size) rfl wm_2424 wm_9 wm_2421 wm_2423 wv_12_8 1 (by decide +kernel) ⟨Nat.le_of_ble_eq_true rfl, Nat.le_of_ble_eq_true rfl⟩ rfl rfl (va_recv hK hP (ci := 13) (q0 := 117) rfl rfl) (k_pre hN hK hP hD [5, 6] [0, 1, 2, 3, 4] 7 rfl (by decide) rfl) rfl hl.1 rfl (Nat.le_of_ble_eq_true rfl) d_Mo_init_1012 ⟨Nat.le_of_ble_eq_true rfl, Nat.le_of_ble_eq_true rfl⟩) hP hD hS hA [5, 6] [0, 1, 2, 3, 4] 7 rfl (by decide) rfl rfl (fun u127 H locs hu127 hP hD hS => ?_)
  have hP : va_P D classes (cat [[(q 96, .inl (kA 0, 26, .inl (fun _ => 0)))], [(q 110, .inl (kA 0, 8, .inl (fun _ => 0)))], [(q 111, .inl (kA 0, 8, .inl (fun _ => 0)))], [(q 112, .inl (kA 1, 6000, .inl (fun _ => 0)))], wMr kA q a0Mo (fun _ _ => 0), [(h, .inr (13, mF q x0Mo y0Mo))], [(q 2, .inl (kA 0, 66836, .inl (upd (upd (clr (upd (upd (clr (upd (upd (clr (fun _ => 0) 0 539) (0 + 2) 1) (0 + 531) (-1)) 16709 539) (16709 + 2) 1) (16709 + 531) (-1)) 33418 539) (33418 + 2) 1) (33418 + 531) (-1))))]]) H := hP
  have hD : va_D A (cat [[(q 96, .inl (kA 0, 26, .inl (fun _ => 0)))], [(q 110, .inl (kA 0, 8, .inl (fun _ => 0)))], [(q 111, .inl (kA 0, 8, .inl (fun _ => 0)))], [(q 112, .inl (kA 1, 6000, .inl (fun _ => 0)))], wMr kA q a0Mo (fun _ _ => 0), [(h, .inr (13, mF q x0Mo y0Mo))], [(q 2, .inl (kA 0, 66836, .inl (upd (upd (clr (upd (upd (clr (upd (upd (clr (fun _ => 0) 0 539) (0 + 2) 1) (0 + 531) (-1)) 16709 539) (16709 + 2) 1) (16709 + 531) (-1)) 33418 539) (33418 + 2) 1) (33418 + 531) (-1))))]]) := hD
  refine lv_iinc (pc := 1015) (v := 3) (lv' := [(1, .int 3), (0, .ref h)]) hx hb d_Mo_init_1015 hl (k := 0) rfl (by decide) (by decide) rfl (fun ls hl => ?_)
  refine lv_goto (pc := 1018) (tgt := 1001) hx hb d_Mo_init_1018 (by decide) ?_
  refine lv_iload_n (pc := 1001) hx hb d_Mo_init_1001 rfl (lv_at hl 0 rfl) ?_
  refine lv_iconst (pc := 1002) (v := 4) hx hb d_Mo_init_1002 (by decide) ?_
  refine lv_icmp_ge (pc := 1003) (tgt := 1021) hx hb d_Mo_init_1003 (by decide) (fun c1 => absurd c1 (by decide)) (fun _ => ?_)
  refine lv_aload_n (pc := 1006) hx hb d_Mo_init_1006 rfl (lv_at hl 1 rfl) ?_
  refine lv_iload_n (pc := 1007) hx hb d_Mo_init_1007 rfl (lv_at hl 0 rfl) ?_
  refine lv_iconst (pc := 1008) (v := 0) hx hb d_Mo_init_1008 (by decide) ?_
  refine k_goI (gr := [[(q 96, .inl (kA 0, 26, .inl (fun _ => 0)))], [(q 110, .inl (kA 0, 8, .inl (fun _ => 0)))], [(q 111, .inl (kA 0, 8, .inl (fun _ => 0)))], [(q 112, .inl (kA 1, 6000, .inl (fun _ => 0)))], wMr kA q a0Mo (fun _ _ => 0), [(h, .inr (13, mF q x0Mo y0Mo))], [(q 2, .inl (kA 0, 66836, .inl (upd (upd (clr (upd (upd (clr (upd (upd (clr (fun _ => 0) 0 539) (0 + 2) 1) (0 + 531) (-1)) 16709 539) (16709 + 2) 1) (16709 + 531) (-1)) 33418 539) (33418 + 2) 1) (33418 + 531) (-1))))]]) (k_rS (pc := 1009) (As := [.int 3, .int 0]) (rest := [.ref h]) X (c_Mo_rowOf l D kA 3 0 H.size) rfl wm_2420 wm_9 wm_2418 wm_2419 2 (by decide +kernel) ⟨Nat.le_of_ble_eq_true rfl, Nat.le_of_ble_eq_true rfl⟩ rfl rfl (k_pre hN hK hP hD [] [0, 1, 2, 3, 4, 5, 6] 7 rfl (by decide) rfl) rfl hl.1 rfl (Nat.le_of_ble_eq_true rfl) d_Mo_init_1009 ⟨Nat.le_of_ble_eq_true rfl, Nat.le_of_ble_eq_true rfl⟩) hP hD hS hA [] [0, 1, 2, 3, 4, 5, 6] 7 rfl (by decide) rfl rfl (fun r128 u129 H locs hu129 hP hD hS => ?_)
  subst hu129
  have hP : va_P D classes (cat [[(q 96, .inl (kA 0, 26, .inl (fun _ => 0)))], [(q 110, .inl (kA 0, 8, .inl (fun _ => 0)))], [(q 111, .inl (kA 0, 8, .inl (fun _ => 0)))], [(q 112, .inl (kA 1, 6000, .inl (fun _ => 0)))], wMr kA q a0Mo (fun _ _ => 0), [(h, .inr (13, mF q x0Mo y0Mo))], [(q 2, .inl (kA 0, 66836, .inl (upd (upd (clr (upd (upd (clr (upd (upd (clr (fun _ => 0) 0 539) (0 + 2) 1) (0 + 531) (-1)) 16709 539) (16709 + 2) 1) (16709 + 531) (-1)) 33418 539) (33418 + 2) 1) (33418 + 531) (-1))))]]) H := hP
  have hD : va_D A (cat [[(q 96, .inl (kA 0, 26, .inl (fun _ => 0)))], [(q 110, .inl (kA 0, 8, .inl (fun _ => 0)))], [(q 111, .inl (kA 0, 8, .inl (fun _ => 0)))], [(q 112, .inl (kA 1, 6000, .inl (fun _ => 0)))], wMr kA q a0Mo (fun _ _ => 0), [(h, .inr (13, mF q x0Mo y0Mo))], [(q 2, .inl (kA 0, 66836, .inl (upd (upd (clr (upd (upd (clr (upd (upd (clr (fun _ => 0) 0 539) (0 + 2) 1) (0 + 531) (-1)) 16709 539) (16709 + 2) 1) (16709 + 531) (-1)) 33418 539) (33418 + 2) 1) (33418 + 531) (-1))))]]) := hD
  refine k_goV (gr := [[(q 96, .inl (kA 0, 26, .inl (fun _ => 0)))], [(q 110, .inl (kA 0, 8, .inl (fun _ => 0)))], [(q 111, .inl (kA 0, 8, .inl (fun _ => 0)))], [(q 112, .inl (kA 1, 6000, .inl (fun _ => 0)))], wMr kA q a0Mo (fun _ _ => 0)]) (k_rV (pc := 1012) (As := [.int (nI (539 * (31 * 3 + 0)))]) (rest := []) X (c_Mo_clear l D kA h q x0Mo y0Mo (upd (upd (clr (upd (upd (clr (upd (upd (clr (fun _ => 0) 0 539) (0 + 2) 1) (0 + 531) (-1)) 16709 539) (16709 + 2) 1) (16709 + 531) (-1)) 33418 539) (33418 + 2) 1) (33418 + 531) (-1)) 50127 (by decide) H.size) rfl wm_2424 wm_9 wm_2421 wm_2423 wv_12_8 1 (by decide +kernel) ⟨Nat.le_of_ble_eq_true rfl, Nat.le_of_ble_eq_true rfl⟩ rfl rfl (va_recv hK hP (ci := 13) (q0 := 117) rfl rfl) (k_pre hN hK hP hD [5, 6] [0, 1, 2, 3, 4] 7 rfl (by decide) rfl) rfl hl.1 rfl (Nat.le_of_ble_eq_true rfl) d_Mo_init_1012 ⟨Nat.le_of_ble_eq_true rfl, Nat.le_of_ble_eq_true rfl⟩) hP hD hS hA [5, 6] [0, 1, 2, 3, 4] 7 rfl (by decide) rfl rfl (fun u130 H locs hu130 hP hD hS => ?_)
  have hP : va_P D classes (cat [[(q 96, .inl (kA 0, 26, .inl (fun _ => 0)))], [(q 110, .inl (kA 0, 8, .inl (fun _ => 0)))], [(q 111, .inl (kA 0, 8, .inl (fun _ => 0)))], [(q 112, .inl (kA 1, 6000, .inl (fun _ => 0)))], wMr kA q a0Mo (fun _ _ => 0), [(h, .inr (13, mF q x0Mo y0Mo))], [(q 2, .inl (kA 0, 66836, .inl (upd (upd (clr (upd (upd (clr (upd (upd (clr (upd (upd (clr (fun _ => 0) 0 539) (0 + 2) 1) (0 + 531) (-1)) 16709 539) (16709 + 2) 1) (16709 + 531) (-1)) 33418 539) (33418 + 2) 1) (33418 + 531) (-1)) 50127 539) (50127 + 2) 1) (50127 + 531) (-1))))]]) H := hP
  have hD : va_D A (cat [[(q 96, .inl (kA 0, 26, .inl (fun _ => 0)))], [(q 110, .inl (kA 0, 8, .inl (fun _ => 0)))], [(q 111, .inl (kA 0, 8, .inl (fun _ => 0)))], [(q 112, .inl (kA 1, 6000, .inl (fun _ => 0)))], wMr kA q a0Mo (fun _ _ => 0), [(h, .inr (13, mF q x0Mo y0Mo))], [(q 2, .inl (kA 0, 66836, .inl (upd (upd (clr (upd (upd (clr (upd (upd (clr (upd (upd (clr (fun _ => 0) 0 539) (0 + 2) 1) (0 + 531) (-1)) 16709 539) (16709 + 2) 1) (16709 + 531) (-1)) 33418 539) (33418 + 2) 1) (33418 + 531) (-1)) 50127 539) (50127 + 2) 1) (50127 + 531) (-1))))]]) := hD
  refine lv_iinc (pc := 1015) (v := 4) (lv' := [(1, .int 4), (0, .ref h)]) hx hb d_Mo_init_1015 hl (k := 0) rfl (by decide) (by decide) rfl (fun ls hl => ?_)
  refine lv_goto (pc := 1018) (tgt := 1001) hx hb d_Mo_init_1018 (by decide) ?_
  refine lv_iload_n (pc := 1001) hx hb d_Mo_init_1001 rfl (lv_at hl 0 rfl) ?_
  refine lv_iconst (pc := 1002) (v := 4) hx hb d_Mo_init_1002 (by decide) ?_
  refine lv_icmp_ge (pc := 1003) (tgt := 1021) hx hb d_Mo_init_1003 (by decide) (fun _ => ?_) (fun c1 => absurd (by decide) c1)
  refine lv_aload_n (pc := 1021) hx hb d_Mo_init_1021 rfl (lv_at hl 1 rfl) ?_
  refine k_goV (gr := [wMr kA q a0Mo (fun _ _ => 0), [(q 2, .inl (kA 0, 66836, .inl (upd (upd (clr (upd (upd (clr (upd (upd (clr (upd (upd (clr (fun _ => 0) 0 539) (0 + 2) 1) (0 + 531) (-1)) 16709 539) (16709 + 2) 1) (16709 + 531) (-1)) 33418 539) (33418 + 2) 1) (33418 + 531) (-1)) 50127 539) (50127 + 2) 1) (50127 + 531) (-1))))]]) (k_rV (pc := 1022) (As := []) (rest := []) X (c_Mo_permutations l D kA h q x0Mo y0Mo (fun _ => 0) (fun _ => 0) (fun _ => 0) (fun _ => 0) H.size) rfl wm_2428 wm_9 wm_2425 wm_2427 wv_12_9 0 (by decide +kernel) ⟨Nat.le_of_ble_eq_true rfl, Nat.le_of_ble_eq_true rfl⟩ rfl rfl (va_recv hK hP (ci := 13) (q0 := 117) rfl rfl) (k_pre hN hK hP hD [5, 0, 1, 2, 3] [4, 6] 7 rfl (by decide) rfl) rfl hl.1 rfl (Nat.le_of_ble_eq_true rfl) d_Mo_init_1022 ⟨Nat.le_of_ble_eq_true rfl, Nat.le_of_ble_eq_true rfl⟩) hP hD hS hA [5, 0, 1, 2, 3] [4, 6] 7 rfl (by decide) rfl rfl (fun u131 H locs hu131 hP hD hS => ?_)
  have hP : va_P D classes (cat [wMr kA q a0Mo (fun _ _ => 0), [(q 2, .inl (kA 0, 66836, .inl (upd (upd (clr (upd (upd (clr (upd (upd (clr (upd (upd (clr (fun _ => 0) 0 539) (0 + 2) 1) (0 + 531) (-1)) 16709 539) (16709 + 2) 1) (16709 + 531) (-1)) 33418 539) (33418 + 2) 1) (33418 + 531) (-1)) 50127 539) (50127 + 2) 1) (50127 + 531) (-1))))], [(h, .inr (13, mF q x0Mo y0Mo))], [(q 96, .inl (kA 0, 26, .inl ((prm (fun _ => 0) (fun _ => 0) (fun _ => 0) (fun _ => 0) 7).1)))], [(q 110, .inl (kA 0, 8, .inl ((prm (fun _ => 0) (fun _ => 0) (fun _ => 0) (fun _ => 0) 7).2.2.2.2)))], [(q 111, .inl (kA 0, 8, .inl ((prm (fun _ => 0) (fun _ => 0) (fun _ => 0) (fun _ => 0) 7).2.2.2.1)))], [(q 112, .inl (kA 1, 6000, .inl ((prm (fun _ => 0) (fun _ => 0) (fun _ => 0) (fun _ => 0) 7).2.1)))]]) H := hP
  have hD : va_D A (cat [wMr kA q a0Mo (fun _ _ => 0), [(q 2, .inl (kA 0, 66836, .inl (upd (upd (clr (upd (upd (clr (upd (upd (clr (upd (upd (clr (fun _ => 0) 0 539) (0 + 2) 1) (0 + 531) (-1)) 16709 539) (16709 + 2) 1) (16709 + 531) (-1)) 33418 539) (33418 + 2) 1) (33418 + 531) (-1)) 50127 539) (50127 + 2) 1) (50127 + 531) (-1))))], [(h, .inr (13, mF q x0Mo y0Mo))], [(q 96, .inl (kA 0, 26, .inl ((prm (fun _ => 0) (fun _ => 0) (fun _ => 0) (fun _ => 0) 7).1)))], [(q 110, .inl (kA 0, 8, .inl ((prm (fun _ => 0) (fun _ => 0) (fun _ => 0) (fun _ => 0) 7).2.2.2.2)))], [(q 111, .inl (kA 0, 8, .inl ((prm (fun _ => 0) (fun _ => 0) (fun _ => 0) (fun _ => 0) 7).2.2.2.1)))], [(q 112, .inl (kA 1, 6000, .inl ((prm (fun _ => 0) (fun _ => 0) (fun _ => 0) (fun _ => 0) 7).2.1)))]]) := hD
  obtain ⟨hP, hD⟩ := k_ord (gc := [[(h, .inr (13, mF q x0Mo y0Mo))], [(q 2, .inl (kA 0, 66836, .inl (upd (upd (clr (upd (upd (clr (upd (upd (clr (upd (upd (clr (fun _ => 0) 0 539) (0 + 2) 1) (0 + 531) (-1)) 16709 539) (16709 + 2) 1) (16709 + 531) (-1)) 33418 539) (33418 + 2) 1) (33418 + 531) (-1)) 50127 539) (50127 + 2) 1) (50127 + 531) (-1))))], [(q 96, .inl (kA 0, 26, .inl ((prm (fun _ => 0) (fun _ => 0) (fun _ => 0) (fun _ => 0) 7).1)))], [(q 110, .inl (kA 0, 8, .inl ((prm (fun _ => 0) (fun _ => 0) (fun _ => 0) (fun _ => 0) 7).2.2.2.2)))], [(q 111, .inl (kA 0, 8, .inl ((prm (fun _ => 0) (fun _ => 0) (fun _ => 0) (fun _ => 0) 7).2.2.2.1)))], [(q 112, .inl (kA 1, 6000, .inl ((prm (fun _ => 0) (fun _ => 0) (fun _ => 0) (fun _ => 0) 7).2.1)))], wMr kA q a0Mo (fun _ _ => 0)]) hP hD [2, 1, 3, 4, 5, 6, 0] 7 rfl (by decide) rfl
  refine W.widen (k := 118) (n := 322933) (Nat.le_of_ble_eq_true rfl) (Nat.le_of_ble_eq_true rfl) ?_
  exact W.vret hx hb hr (fun t ht hW => ⟨⟨q, rfl, trivial, by rw [ht]; exact hP, va_K.moved hW.alike hK, hD⟩, hS.F ht⟩) hS.2.2 d_Mo_init_1025
end
section
theorem wm_25 : (Cond.classLink "DrawingHouseLaw" (7 : Nat) "DrawingHouse" : Cond) ∈ lw_g := lw_gi (lw_c1 (List.mem_of_getElem? (i := 25) rfl)) rfl
theorem wm_26 : (Cond.instantiable "DrawingHouse" (21 : Nat) : Cond) ∈ lw_g := lw_gi (lw_c1 (List.mem_of_getElem? (i := 26) rfl)) rfl
theorem wm_27 : (Cond.methodLink "DrawingHouseLaw" (9 : Nat) ({ cls := "DrawingHouse", name := "<init>", desc := "()V" } : MethodName) : Cond) ∈ lw_g := lw_gi (lw_c1 (List.mem_of_getElem? (i := 27) rfl)) rfl
theorem wm_28 : (Cond.instanceMethod ({ cls := "DrawingHouse", name := "<init>", desc := "()V" } : MethodName) : Cond) ∈ lw_g := lw_gi (lw_c1 (List.mem_of_getElem? (i := 28) rfl)) rfl
theorem wm_2409 : (Cond.classLink "DrawingHouseLaw" (10 : Nat) "DrawingHouseModel" : Cond) ∈ lw_g := lw_gi (lw_c11 (List.mem_of_getElem? (i := 9) rfl)) rfl
theorem wm_2410 : (Cond.instantiable "DrawingHouseModel" (176 : Nat) : Cond) ∈ lw_g := lw_gi (lw_c11 (List.mem_of_getElem? (i := 10) rfl)) rfl
theorem wm_2411 : (Cond.methodLink "DrawingHouseLaw" (12 : Nat) ({ cls := "DrawingHouseModel", name := "<init>", desc := "()V" } : MethodName) : Cond) ∈ lw_g := lw_gi (lw_c11 (List.mem_of_getElem? (i := 11) rfl)) rfl
theorem wm_2412 : (Cond.instanceMethod ({ cls := "DrawingHouseModel", name := "<init>", desc := "()V" } : MethodName) : Cond) ∈ lw_g := lw_gi (lw_c11 (List.mem_of_getElem? (i := 12) rfl)) rfl
theorem d_law_law_0 : decode b_law_law 0 = .ok (.new 7, 3) := by decide +kernel
theorem d_law_law_3 : decode b_law_law 3 = .ok (.dup, 1) := by decide +kernel
theorem d_law_law_4 : decode b_law_law 4 = .ok (.invokespecial 9, 3) := by decide +kernel
theorem d_law_law_7 : decode b_law_law 7 = .ok (.astore_n 1, 1) := by decide +kernel
theorem d_law_law_8 : decode b_law_law 8 = .ok (.new 10, 3) := by decide +kernel
theorem d_law_law_11 : decode b_law_law 11 = .ok (.dup, 1) := by decide +kernel
theorem d_law_law_12 : decode b_law_law 12 = .ok (.invokespecial 12, 3) := by decide +kernel
theorem d_law_law_15 : decode b_law_law 15 = .ok (.astore_n 2, 1) := by decide +kernel
theorem d_law_law_16 : decode b_law_law 16 = .ok (.iconst 0, 1) := by decide +kernel
theorem d_law_law_17 : decode b_law_law 17 = .ok (.istore_n 3, 1) := by decide +kernel
theorem cat1 (x : va_W) : cat [x] = x := List.append_nil x
theorem nst_of {s : State} {args : Array Value} (hts : ∀ w ∈ lw_tbl, w.before args s = true) : nst s := fun w hw => by
  have h1 := List.mem_filter.mp hw
  have h2 := hts w h1.1
  have h3 := h1.2
  cases w with
  | methodLinkNest a i x n => exact va_Nw.of rfl h2
  | fieldLinkNest a i b n d x => exact va_Nw.of rfl h2
  | arrayOver t =>
    cases t with
    | object C => exact va_AO.of h2
    | _ => simp [isNest] at h3
  | stringRef a i x => exact h2
  | _ => simp [isNest] at h3
theorem ka_prim {s : State} {args : Array Value} {ty : FieldType} (h : (Cond.arrayClass ty).before args s = true) (hp : ∀ C, ty ≠ .object C) : ∃ cA, ArrOfT s cA ty ∧ va_RA s cA ty := by
  obtain ⟨cA, kA, comp, h1, h2, h3⟩ := Cond.arrayClass_spec h
  refine ⟨cA, fun n z => ⟨fun k h => (by cases h), kA, h2, comp, h3⟩, ?_⟩
  cases ty <;> first | exact h1 | exact absurd rfl (hp _)
theorem ka_obj {s : State} {args : Array Value} {C : String} (h : (Cond.arrayOver (.object C)).before args s = true) : ∃ cA, ArrOfT s cA (.object C) ∧ va_RA s cA (.object C) := by
  obtain ⟨comp, cA, kA, hcomp, hidx, hkA, hkindA, hnameA⟩ := Cond.arrayOver_spec h
  exact ⟨cA, fun n z => ⟨fun k h => (by cases h), kA, hkA, comp, hkindA⟩, kA, comp, hkA, hkindA, hcomp, hnameA⟩
set_option maxRecDepth 100000 in
set_option maxHeartbeats 4000000 in
theorem law_K {s : State} {args : Array Value} (hts : ∀ w ∈ lw_tbl, w.before args s = true) : ∃ (D : va_G) (kA : Nat → ClassId), va_K D classes (TY kA) s := by
  have htg : ∀ w ∈ lw_g, w.before args s = true := fun w h => hts w (lw_gt h)
  obtain ⟨c0, iS0, hKn0⟩ := u_known (C := R_Dr) (T := F_Dr) (N := 21) (n := 21) htg i_Dr (htg _ wm_460)
  obtain ⟨c1, iS1, hKn1⟩ := u_known (C := R_Em) (T := F_Em) (N := 20) (n := 20) htg i_Em (htg _ wm_237)
  obtain ⟨c2, iS2, hKn2⟩ := u_known (C := R_Fa) (T := F_Fa) (N := 15) (n := 15) htg i_Fa (htg _ wm_389)
  obtain ⟨c3, iS3, hKn3⟩ := u_known (C := R_Gr) (T := F_Gr) (N := 19) (n := 19) htg i_Gr (htg _ wm_48)
  obtain ⟨c4, iS4, hKn4⟩ := u_known (C := R_La) (T := F_La) (N := 21) (n := 21) htg i_La (htg _ wm_1187)
  obtain ⟨c5, iS5, hKn5⟩ := u_known (C := R_Ne) (T := F_Ne) (N := 17) (n := 17) htg i_Ne (htg _ wm_243)
  obtain ⟨c6, iS6, hKn6⟩ := u_known (C := R_Pl) (T := F_Pl) (N := 19) (n := 19) htg i_Pl (htg _ wm_1620)
  obtain ⟨c7, iS7, hKn7⟩ := u_known (C := R_Pn) (T := F_Pn) (N := 9) (n := 9) htg i_Pn (htg _ wm_1466)
  obtain ⟨c8, iS8, hKn8⟩ := u_known (C := R_Re) (T := F_Re) (N := 12) (n := 12) htg i_Re (htg _ wm_42)
  obtain ⟨c9, iS9, hKn9⟩ := u_known (C := R_Ro) (T := F_Ro) (N := 18) (n := 18) htg i_Ro (htg _ wm_1861)
  obtain ⟨c10, iS10, hKn10⟩ := u_known (C := R_St) (T := F_St) (N := 9) (n := 9) htg i_St (htg _ wm_1193)
  obtain ⟨c11, iS11, hKn11⟩ := u_known (C := R_Sy) (T := F_Sy) (N := 17) (n := 17) htg i_Sy (htg _ wm_2090)
  obtain ⟨c12, iS12, hKn12⟩ := u_known (C := R_Ho) (T := F_Ho) (N := 21) (n := 21) htg i_Ho (htg _ wm_26)
  obtain ⟨c13, iS13, hKn13⟩ := u_known (C := R_Mo) (T := F_Mo) (N := 176) (n := 176) htg i_Mo (htg _ wm_2410)
  obtain ⟨k0, hk0⟩ := ka_prim (htg _ wm_193) (fun C h => by cases h)
  obtain ⟨k1, hk1⟩ := ka_prim (htg _ wm_192) (fun C h => by cases h)
  obtain ⟨k2, hk2⟩ := ka_prim (htg _ wm_387) (fun C h => by cases h)
  obtain ⟨k3, hk3⟩ := ka_prim (htg _ wm_1683) (fun C h => by cases h)
  obtain ⟨k4, hk4⟩ := ka_obj (hts _ (List.mem_filter.mp wn_34).1)
  obtain ⟨k5, hk5⟩ := ka_obj (hts _ (List.mem_filter.mp wn_36).1)
  obtain ⟨k6, hk6⟩ := ka_obj (hts _ (List.mem_filter.mp wn_38).1)
  obtain ⟨k7, hk7⟩ := ka_obj (hts _ (List.mem_filter.mp wn_40).1)
  refine ⟨(fun k => match k with | 0 => c0 | 1 => c1 | 2 => c2 | 3 => c3 | 4 => c4 | 5 => c5 | 6 => c6 | 7 => c7 | 8 => c8 | 9 => c9 | 10 => c10 | 11 => c11 | 12 => c12 | _ => c13, fun k => match k with | 0 => iS0 | 1 => iS1 | 2 => iS2 | 3 => iS3 | 4 => iS4 | 5 => iS5 | 6 => iS6 | 7 => iS7 | 8 => iS8 | 9 => iS9 | 10 => iS10 | 11 => iS11 | 12 => iS12 | _ => iS13), fun k => match k with | 0 => k0 | 1 => k1 | 2 => k2 | 3 => k3 | 4 => k4 | 5 => k5 | 6 => k6 | _ => k7, fun k q hq => ?_, fun k q hq => ?_⟩
  · match k, hq with
    | 0, hq => cases hq; exact hKn0
    | 1, hq => cases hq; exact hKn1
    | 2, hq => cases hq; exact hKn2
    | 3, hq => cases hq; exact hKn3
    | 4, hq => cases hq; exact hKn4
    | 5, hq => cases hq; exact hKn5
    | 6, hq => cases hq; exact hKn6
    | 7, hq => cases hq; exact hKn7
    | 8, hq => cases hq; exact hKn8
    | 9, hq => cases hq; exact hKn9
    | 10, hq => cases hq; exact hKn10
    | 11, hq => cases hq; exact hKn11
    | 12, hq => cases hq; exact hKn12
    | 13, hq => cases hq; exact hKn13
    | k + 14, hq => simp [classes] at hq
  · match k, hq with
    | 0, hq => cases hq; exact hk0
    | 1, hq => cases hq; exact hk1
    | 2, hq => cases hq; exact hk2
    | 3, hq => cases hq; exact hk3
    | 4, hq => cases hq; exact hk4
    | 5, hq => cases hq; exact hk5
    | 6, hq => cases hq; exact hk6
    | 7, hq => cases hq; exact hk7
    | k + 8, hq => simp [TY] at hq
set_option maxRecDepth 100000 in
set_option maxHeartbeats 8000000 in
/-- the law from its entry to its loop, with both worlds as they are made -/
theorem law_start {p : Program} {e : Env} {s : State} {m : MethodId} {below : List Frame} {meth : Method} {c : Code} (l : Launch) {b L : Nat} {xs : Nat → Int32} (C0 : lw_At p s m meth c b L xs)
    (hloop : ∀ (D : va_G) (kA : Nat → ClassId) (h1 h2 : Nat) (u1 : Nat → Nat → Nat) (u2 : Nat → Nat) (H : Heap) (locs : List Loc) (ls : Array Slot), va_K D classes (TY kA) s → nst s → (u1 50 1 = u1 0 4 ∧ u1 50 3 = u1 0 5 ∧ u1 50 2 = u1 1 4 ∧ u1 50 4 = u1 3 1 ∧ u1 8 0 = u1 50 5 ∧ u1 12 0 = u1 50 9 ∧ u1 16 0 = u1 50 13 ∧ u1 20 0 = u1 50 17) → va_P D classes (cat [cat (sHo kA h1 u1), cat (sMo kA h2 u2)]) H → va_D (fun q : Nat => s.heap.size ≤ q) (cat [cat (sHo kA h1 u1), cat (sMo kA h2 u2)]) → va_S (fun q : Nat => s.heap.size ≤ q) s.heap H locs → lv_has ls 4 [(3, .int 0), (2, .ref h2), (1, .ref h1), (0, .ref b)] → W p l e room_1 s m #[Value.ref b] below meth c H locs 368 365796 (lw_Z below #[Value.ref b] s) (F0 m 18 ls [])) :
    W p l e room_1 s m #[Value.ref b] below meth c s.heap [] 0 0 (lw_Z below #[Value.ref b] s) (entryFrame m ([Value.ref b] : List Value).toArray 4) := by
  obtain ⟨hx, hb, hr, hml, hown, hts0, hX, hbl, hlocks, hgv⟩ := id C0
  have hN := nst_of hts0
  obtain ⟨D, kA, hK⟩ := law_K hts0
  have hts : ∀ w ∈ lw_g, w.before #[Value.ref b] s = true := fun w h => hts0 w (lw_gt h)
  have X : cx p s m #[Value.ref b] meth c b_law_law 4 ret "DrawingHouseLaw" meth.name := ⟨hx, hb, hml, hown, hts, hr, hlocks, rfl⟩
  obtain ⟨A, hAe⟩ : ∃ A : Nat → Prop, A = fun q : Nat => s.heap.size ≤ q := ⟨_, rfl⟩
  have hA : ∀ q : Nat, s.heap.size ≤ q → A q := fun q h => by rw [hAe]; exact h
  have hS : va_S A s.heap s.heap [] := va_S.rf
  have hP : va_P D classes (cat []) s.heap := fun k q h => by simp [cat] at h
  have hD : va_D A (cat []) := ⟨fun i j p q h => by simp [cat] at h, fun k q h => by simp [cat] at h⟩
  have hl := lv_entry ([.ref b]) (n := 4) (Nat.le_of_ble_eq_true rfl)
  rw [lg_entry_eq]
  generalize (lg_sl ([.ref b]) ++ List.replicate (4 - (lg_sl ([.ref b])).length) Slot.unset).toArray = ls at hl ⊢
  have hl : lv_has ls 4 [(0, .ref b)] := hl
  refine k_new (pc := 0) (fs := f0Ho) X i_Ho t_Ho t_Ho_ok wm_25 wm_26 wm_1 hK hP hD hS hA (ci := 12) rfl f0Ho_ok (Nat.le_of_ble_eq_true rfl) (Nat.le_of_ble_eq_true rfl) d_law_law_0 (fun q1 H hP hD hS => ?_)
  have hP : va_P D classes (cat [[(q1, .inr (12, [.null, .null, .null, .null, .null, .null, .null, .int 0, .int 0, .null, .null, .int 0, .int 0, .null, .int 0, .int 0, .null, .null, .null, .null, .null]))]]) H := hP
  have hD : va_D A (cat [[(q1, .inr (12, [.null, .null, .null, .null, .null, .null, .null, .int 0, .int 0, .null, .null, .int 0, .int 0, .null, .int 0, .int 0, .null, .null, .null, .null, .null]))]]) := hD
  refine W.widen (k := 1) (n := 21) (by omega) (by omega) ?_
  refine lv_dup (pc := 3) hx hb d_law_law_3 rfl ?_
  refine k_goV (gr := []) (k_rI (pc := 4) (As := []) (rest := [.ref q1]) X (c_Ho_init l D kA q1 H.size) rfl wm_29 wm_1 wm_27 wm_28 rfl 0 (by decide +kernel) ⟨Nat.le_of_ble_eq_true rfl, Nat.le_of_ble_eq_true rfl⟩ rfl rfl (k_pre hN hK hP hD [0] [] 1 rfl (by decide) rfl) rfl hl.1 rfl (Nat.le_of_ble_eq_true rfl) d_law_law_4 ⟨Nat.le_of_ble_eq_true rfl, Nat.le_of_ble_eq_true rfl⟩) hP hD hS hA [0] [] 1 rfl (by decide) rfl rfl (fun u2 H locs hu2 hP hD hS => ?_)
  have hP : va_P D classes (cat [cat (sHo kA q1 u2)]) H := by rw [cat1]; exact hP
  have hD : va_D A (cat [cat (sHo kA q1 u2)]) := by rw [cat1]; exact hD
  refine W.widen (k := 249) (n := 42687) (by omega) (by omega) ?_
  refine lv_astore_n (pc := 7) (lv' := [(1, .ref q1), (0, .ref b)]) hx hb d_law_law_7 rfl hl (by decide) rfl (fun ls hl => ?_)
  refine k_new (pc := 8) (fs := f0Mo) X i_Mo t_Mo t_Mo_ok wm_2409 wm_2410 wm_9 hK hP hD hS hA (ci := 13) rfl f0Mo_ok (Nat.le_of_ble_eq_true rfl) (Nat.le_of_ble_eq_true rfl) d_law_law_8 (fun q3 H hP hD hS => ?_)
  have hP : va_P D classes (cat [cat (sHo kA q1 u2), [(q3, .inr (13, [.int 0, .null, .null, .null, .null, .int 0, .null, .int 0, .int 0, .int 0, .int 0, .int 0, .int 0, .int 0, .int 0, .int 0, .null, .null, .null, .null, .null, .null, .null, .null, .null, .int 0, .int 0, .int 0, .int 0, .int 0, .int 0, .int 0, .int 0, .null, .null, .null, .null, .null, .null, .int 0, .null, .null, .null, .null, .null, .int 0, .null, .int 0, .null, .int 0, .null, .null, .null, .int 0, .null, .null, .null, .null, .int 0, .int 0, .null, .null, .null, .null, .null, .null, .null, .null, .null, .null, .null, .null, .null, .null, .null, .null, .null, .null, .null, .int 0, .int 0, .int 0, .null, .null, .null, .null, .null, .null, .null, .null, .null, .null, .null, .null, .int 0, .null, .null, .null, .null, .int 0, .int 0, .int 0, .null, .null, .null, .null, .null, .int 0, .null, .null, .null, .null, .null, .null, .null, .null, .null, .null, .null, .null, .null, .int 0, .null, .null, .null, .int 0, .null, .null, .null, .null, .null, .null, .int 0, .long 0, .long 0, .null, .null, .null, .null, .int 0, .null, .null, .null, .null, .int 0, .int 0, .int 0, .int 0, .null, .null, .int 0, .null, .null, .int 0, .int 0, .int 0, .int 0, .int 0, .int 0, .int 0, .null, .null, .null, .null, .int 0, .int 0, .null, .null, .null, .int 0, .int 0, .null, .null, .int 0, .int 0, .null]))]]) H := hP
  have hD : va_D A (cat [cat (sHo kA q1 u2), [(q3, .inr (13, [.int 0, .null, .null, .null, .null, .int 0, .null, .int 0, .int 0, .int 0, .int 0, .int 0, .int 0, .int 0, .int 0, .int 0, .null, .null, .null, .null, .null, .null, .null, .null, .null, .int 0, .int 0, .int 0, .int 0, .int 0, .int 0, .int 0, .int 0, .null, .null, .null, .null, .null, .null, .int 0, .null, .null, .null, .null, .null, .int 0, .null, .int 0, .null, .int 0, .null, .null, .null, .int 0, .null, .null, .null, .null, .int 0, .int 0, .null, .null, .null, .null, .null, .null, .null, .null, .null, .null, .null, .null, .null, .null, .null, .null, .null, .null, .null, .int 0, .int 0, .int 0, .null, .null, .null, .null, .null, .null, .null, .null, .null, .null, .null, .null, .int 0, .null, .null, .null, .null, .int 0, .int 0, .int 0, .null, .null, .null, .null, .null, .int 0, .null, .null, .null, .null, .null, .null, .null, .null, .null, .null, .null, .null, .null, .int 0, .null, .null, .null, .int 0, .null, .null, .null, .null, .null, .null, .int 0, .long 0, .long 0, .null, .null, .null, .null, .int 0, .null, .null, .null, .null, .int 0, .int 0, .int 0, .int 0, .null, .null, .int 0, .null, .null, .int 0, .int 0, .int 0, .int 0, .int 0, .int 0, .int 0, .null, .null, .null, .null, .int 0, .int 0, .null, .null, .null, .int 0, .int 0, .null, .null, .int 0, .int 0, .null]))]]) := hD
  refine W.widen (k := 250) (n := 42863) (by omega) (by omega) ?_
  refine lv_dup (pc := 11) hx hb d_law_law_11 rfl ?_
  refine k_goV (gr := [cat (sHo kA q1 u2)]) (k_rI (pc := 12) (As := []) (rest := [.ref q3]) X (c_Mo_init l D kA q3 H.size) rfl wm_2413 wm_9 wm_2411 wm_2412 rfl 0 (by decide +kernel) ⟨Nat.le_of_ble_eq_true rfl, Nat.le_of_ble_eq_true rfl⟩ rfl rfl (k_pre hN hK hP hD [1] [0] 2 rfl (by decide) rfl) rfl hl.1 rfl (Nat.le_of_ble_eq_true rfl) d_law_law_12 ⟨Nat.le_of_ble_eq_true rfl, Nat.le_of_ble_eq_true rfl⟩) hP hD hS hA [1] [0] 2 rfl (by decide) rfl rfl (fun u4 H locs hu4 hP hD hS => ?_)
  have hP : va_P D classes (cat [cat (sHo kA q1 u2), cat (sMo kA q3 u4)]) H := by show va_P D classes (cat (sHo kA q1 u2) ++ (cat (sMo kA q3 u4) ++ [])) H; rw [List.append_nil]; exact hP
  have hD : va_D A (cat [cat (sHo kA q1 u2), cat (sMo kA q3 u4)]) := by show va_D A (cat (sHo kA q1 u2) ++ (cat (sMo kA q3 u4) ++ [])); rw [List.append_nil]; exact hD
  refine W.widen (k := 368) (n := 365796) (by omega) (by omega) ?_
  refine lv_astore_n (pc := 15) (lv' := [(2, .ref q3), (1, .ref q1), (0, .ref b)]) hx hb d_law_law_15 rfl hl (by decide) rfl (fun ls hl => ?_)
  refine lv_iconst (pc := 16) (v := 0) hx hb d_law_law_16 (by decide) ?_
  refine lv_istore_n (pc := 17) (lv' := [(3, .int 0), (2, .ref q3), (1, .ref q1), (0, .ref b)]) hx hb d_law_law_17 rfl hl (by decide) rfl (fun ls hl => ?_)
  rw [hAe] at hD hS
  exact hloop D kA q1 q3 u2 u4 H locs ls hK hN hu2 hP hD hS hl
end
