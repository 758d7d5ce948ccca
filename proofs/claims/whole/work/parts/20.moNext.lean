theorem wm_2432 : (Cond.code ({ cls := "DrawingHouseModel", name := "nextOrder", desc := "(I)Z" } : MethodName) prog_15_method_120_code (7 : Nat) (Option.some ClassFile.FieldType.boolean) : Cond) ∈ lw_g := lw_gi (lw_c11 (List.mem_of_getElem? (i := 32) rfl)) rfl
theorem wm_2528 : (Cond.fieldLink "DrawingHouseModel" (213 : Nat) "DrawingHouseModel" "order" "[I" : Cond) ∈ lw_g := lw_gi (lw_c11 (List.mem_of_getElem? (i := 128) rfl)) rfl
abbrev b_Mo_nextOrder : ByteArray := prog_15_method_120_code
def y_Mo_nextOrder : MethodName := ⟨"DrawingHouseModel", "nextOrder", "(I)Z"⟩
abbrev z_Mo_nextOrder : List Cond := Cond.code y_Mo_nextOrder b_Mo_nextOrder 7 (some .boolean) :: lw_g
theorem d_Mo_nextOrder_0 : decode b_Mo_nextOrder 0 = .ok (.iload_n 1, 1) := by decide +kernel
theorem d_Mo_nextOrder_1 : decode b_Mo_nextOrder 1 = .ok (.iconst 2, 1) := by decide +kernel
theorem d_Mo_nextOrder_2 : decode b_Mo_nextOrder 2 = .ok (.isub, 1) := by decide +kernel
theorem d_Mo_nextOrder_3 : decode b_Mo_nextOrder 3 = .ok (.istore_n 2, 1) := by decide +kernel
theorem d_Mo_nextOrder_4 : decode b_Mo_nextOrder 4 = .ok (.iload_n 2, 1) := by decide +kernel
theorem d_Mo_nextOrder_5 : decode b_Mo_nextOrder 5 = .ok (.ifCond .lt 26, 3) := by decide +kernel
theorem d_Mo_nextOrder_8 : decode b_Mo_nextOrder 8 = .ok (.aload_n 0, 1) := by decide +kernel
theorem d_Mo_nextOrder_9 : decode b_Mo_nextOrder 9 = .ok (.getfield 213, 3) := by decide +kernel
theorem d_Mo_nextOrder_12 : decode b_Mo_nextOrder 12 = .ok (.iload_n 2, 1) := by decide +kernel
theorem d_Mo_nextOrder_13 : decode b_Mo_nextOrder 13 = .ok (.iaload, 1) := by decide +kernel
theorem d_Mo_nextOrder_14 : decode b_Mo_nextOrder 14 = .ok (.aload_n 0, 1) := by decide +kernel
theorem d_Mo_nextOrder_15 : decode b_Mo_nextOrder 15 = .ok (.getfield 213, 3) := by decide +kernel
theorem d_Mo_nextOrder_18 : decode b_Mo_nextOrder 18 = .ok (.iload_n 2, 1) := by decide +kernel
theorem d_Mo_nextOrder_19 : decode b_Mo_nextOrder 19 = .ok (.iconst 1, 1) := by decide +kernel
theorem d_Mo_nextOrder_20 : decode b_Mo_nextOrder 20 = .ok (.iadd, 1) := by decide +kernel
theorem d_Mo_nextOrder_21 : decode b_Mo_nextOrder 21 = .ok (.iaload, 1) := by decide +kernel
theorem d_Mo_nextOrder_22 : decode b_Mo_nextOrder 22 = .ok (.if_icmp .le 9, 3) := by decide +kernel
theorem d_Mo_nextOrder_25 : decode b_Mo_nextOrder 25 = .ok (.iinc 2 (-1), 3) := by decide +kernel
theorem d_Mo_nextOrder_28 : decode b_Mo_nextOrder 28 = .ok (.goto (-24), 3) := by decide +kernel
theorem d_Mo_nextOrder_31 : decode b_Mo_nextOrder 31 = .ok (.iload_n 2, 1) := by decide +kernel
theorem d_Mo_nextOrder_32 : decode b_Mo_nextOrder 32 = .ok (.ifCond .ge 5, 3) := by decide +kernel
theorem d_Mo_nextOrder_35 : decode b_Mo_nextOrder 35 = .ok (.iconst 0, 1) := by decide +kernel
theorem d_Mo_nextOrder_36 : decode b_Mo_nextOrder 36 = .ok (.ireturn, 1) := by decide +kernel
theorem d_Mo_nextOrder_37 : decode b_Mo_nextOrder 37 = .ok (.iload_n 1, 1) := by decide +kernel
theorem d_Mo_nextOrder_38 : decode b_Mo_nextOrder 38 = .ok (.iconst 1, 1) := by decide +kernel
theorem d_Mo_nextOrder_39 : decode b_Mo_nextOrder 39 = .ok (.isub, 1) := by decide +kernel
theorem d_Mo_nextOrder_40 : decode b_Mo_nextOrder 40 = .ok (.istore_n 3, 1) := by decide +kernel
theorem d_Mo_nextOrder_41 : decode b_Mo_nextOrder 41 = .ok (.aload_n 0, 1) := by decide +kernel
theorem d_Mo_nextOrder_42 : decode b_Mo_nextOrder 42 = .ok (.getfield 213, 3) := by decide +kernel
theorem d_Mo_nextOrder_45 : decode b_Mo_nextOrder 45 = .ok (.iload_n 3, 1) := by decide +kernel
theorem d_Mo_nextOrder_46 : decode b_Mo_nextOrder 46 = .ok (.iaload, 1) := by decide +kernel
theorem d_Mo_nextOrder_47 : decode b_Mo_nextOrder 47 = .ok (.aload_n 0, 1) := by decide +kernel
theorem d_Mo_nextOrder_48 : decode b_Mo_nextOrder 48 = .ok (.getfield 213, 3) := by decide +kernel
theorem d_Mo_nextOrder_51 : decode b_Mo_nextOrder 51 = .ok (.iload_n 2, 1) := by decide +kernel
theorem d_Mo_nextOrder_52 : decode b_Mo_nextOrder 52 = .ok (.iaload, 1) := by decide +kernel
theorem d_Mo_nextOrder_53 : decode b_Mo_nextOrder 53 = .ok (.if_icmp .ge 9, 3) := by decide +kernel
theorem d_Mo_nextOrder_56 : decode b_Mo_nextOrder 56 = .ok (.iinc 3 (-1), 3) := by decide +kernel
theorem d_Mo_nextOrder_59 : decode b_Mo_nextOrder 59 = .ok (.goto (-18), 3) := by decide +kernel
theorem d_Mo_nextOrder_62 : decode b_Mo_nextOrder 62 = .ok (.aload_n 0, 1) := by decide +kernel
theorem d_Mo_nextOrder_63 : decode b_Mo_nextOrder 63 = .ok (.getfield 213, 3) := by decide +kernel
theorem d_Mo_nextOrder_66 : decode b_Mo_nextOrder 66 = .ok (.iload_n 2, 1) := by decide +kernel
theorem d_Mo_nextOrder_67 : decode b_Mo_nextOrder 67 = .ok (.iaload, 1) := by decide +kernel
theorem d_Mo_nextOrder_68 : decode b_Mo_nextOrder 68 = .ok (.istore 4, 2) := by decide +kernel
theorem d_Mo_nextOrder_70 : decode b_Mo_nextOrder 70 = .ok (.aload_n 0, 1) := by decide +kernel
theorem d_Mo_nextOrder_71 : decode b_Mo_nextOrder 71 = .ok (.getfield 213, 3) := by decide +kernel
theorem d_Mo_nextOrder_74 : decode b_Mo_nextOrder 74 = .ok (.iload_n 2, 1) := by decide +kernel
theorem d_Mo_nextOrder_75 : decode b_Mo_nextOrder 75 = .ok (.aload_n 0, 1) := by decide +kernel
theorem d_Mo_nextOrder_76 : decode b_Mo_nextOrder 76 = .ok (.getfield 213, 3) := by decide +kernel
theorem d_Mo_nextOrder_79 : decode b_Mo_nextOrder 79 = .ok (.iload_n 3, 1) := by decide +kernel
theorem d_Mo_nextOrder_80 : decode b_Mo_nextOrder 80 = .ok (.iaload, 1) := by decide +kernel
theorem d_Mo_nextOrder_81 : decode b_Mo_nextOrder 81 = .ok (.iastore, 1) := by decide +kernel
theorem d_Mo_nextOrder_82 : decode b_Mo_nextOrder 82 = .ok (.aload_n 0, 1) := by decide +kernel
theorem d_Mo_nextOrder_83 : decode b_Mo_nextOrder 83 = .ok (.getfield 213, 3) := by decide +kernel
theorem d_Mo_nextOrder_86 : decode b_Mo_nextOrder 86 = .ok (.iload_n 3, 1) := by decide +kernel
theorem d_Mo_nextOrder_87 : decode b_Mo_nextOrder 87 = .ok (.iload 4, 2) := by decide +kernel
theorem d_Mo_nextOrder_89 : decode b_Mo_nextOrder 89 = .ok (.iastore, 1) := by decide +kernel
theorem d_Mo_nextOrder_90 : decode b_Mo_nextOrder 90 = .ok (.iload_n 2, 1) := by decide +kernel
theorem d_Mo_nextOrder_91 : decode b_Mo_nextOrder 91 = .ok (.iconst 1, 1) := by decide +kernel
theorem d_Mo_nextOrder_92 : decode b_Mo_nextOrder 92 = .ok (.iadd, 1) := by decide +kernel
theorem d_Mo_nextOrder_93 : decode b_Mo_nextOrder 93 = .ok (.istore 5, 2) := by decide +kernel
theorem d_Mo_nextOrder_95 : decode b_Mo_nextOrder 95 = .ok (.iload_n 1, 1) := by decide +kernel
theorem d_Mo_nextOrder_96 : decode b_Mo_nextOrder 96 = .ok (.iconst 1, 1) := by decide +kernel
theorem d_Mo_nextOrder_97 : decode b_Mo_nextOrder 97 = .ok (.isub, 1) := by decide +kernel
theorem d_Mo_nextOrder_98 : decode b_Mo_nextOrder 98 = .ok (.istore 6, 2) := by decide +kernel
theorem d_Mo_nextOrder_100 : decode b_Mo_nextOrder 100 = .ok (.iload 5, 2) := by decide +kernel
theorem d_Mo_nextOrder_102 : decode b_Mo_nextOrder 102 = .ok (.iload 6, 2) := by decide +kernel
theorem d_Mo_nextOrder_104 : decode b_Mo_nextOrder 104 = .ok (.if_icmp .ge 44, 3) := by decide +kernel
theorem d_Mo_nextOrder_107 : decode b_Mo_nextOrder 107 = .ok (.aload_n 0, 1) := by decide +kernel
theorem d_Mo_nextOrder_108 : decode b_Mo_nextOrder 108 = .ok (.getfield 213, 3) := by decide +kernel
theorem d_Mo_nextOrder_111 : decode b_Mo_nextOrder 111 = .ok (.iload 5, 2) := by decide +kernel
theorem d_Mo_nextOrder_113 : decode b_Mo_nextOrder 113 = .ok (.iaload, 1) := by decide +kernel
theorem d_Mo_nextOrder_114 : decode b_Mo_nextOrder 114 = .ok (.istore 4, 2) := by decide +kernel
theorem d_Mo_nextOrder_116 : decode b_Mo_nextOrder 116 = .ok (.aload_n 0, 1) := by decide +kernel
theorem d_Mo_nextOrder_117 : decode b_Mo_nextOrder 117 = .ok (.getfield 213, 3) := by decide +kernel
theorem d_Mo_nextOrder_120 : decode b_Mo_nextOrder 120 = .ok (.iload 5, 2) := by decide +kernel
theorem d_Mo_nextOrder_122 : decode b_Mo_nextOrder 122 = .ok (.aload_n 0, 1) := by decide +kernel
theorem d_Mo_nextOrder_123 : decode b_Mo_nextOrder 123 = .ok (.getfield 213, 3) := by decide +kernel
theorem d_Mo_nextOrder_126 : decode b_Mo_nextOrder 126 = .ok (.iload 6, 2) := by decide +kernel
theorem d_Mo_nextOrder_128 : decode b_Mo_nextOrder 128 = .ok (.iaload, 1) := by decide +kernel
theorem d_Mo_nextOrder_129 : decode b_Mo_nextOrder 129 = .ok (.iastore, 1) := by decide +kernel
theorem d_Mo_nextOrder_130 : decode b_Mo_nextOrder 130 = .ok (.aload_n 0, 1) := by decide +kernel
theorem d_Mo_nextOrder_131 : decode b_Mo_nextOrder 131 = .ok (.getfield 213, 3) := by decide +kernel
theorem d_Mo_nextOrder_134 : decode b_Mo_nextOrder 134 = .ok (.iload 6, 2) := by decide +kernel
theorem d_Mo_nextOrder_136 : decode b_Mo_nextOrder 136 = .ok (.iload 4, 2) := by decide +kernel
theorem d_Mo_nextOrder_138 : decode b_Mo_nextOrder 138 = .ok (.iastore, 1) := by decide +kernel
theorem d_Mo_nextOrder_139 : decode b_Mo_nextOrder 139 = .ok (.iinc 5 1, 3) := by decide +kernel
theorem d_Mo_nextOrder_142 : decode b_Mo_nextOrder 142 = .ok (.iinc 6 (-1), 3) := by decide +kernel
theorem d_Mo_nextOrder_145 : decode b_Mo_nextOrder 145 = .ok (.goto (-45), 3) := by decide +kernel
theorem d_Mo_nextOrder_148 : decode b_Mo_nextOrder 148 = .ok (.iconst 1, 1) := by decide +kernel
theorem d_Mo_nextOrder_149 : decode b_Mo_nextOrder 149 = .ok (.ireturn, 1) := by decide +kernel
/-- nextOrder: the place ahead of the falling end (one more than it, 0: none), the one to change with, the end turned -/
def ds (f : Nat → Int32) : Nat → Nat
  | 0 => 0
  | k + 1 => if f k ≤ f (k + 1) then k + 1 else ds f k
def dj (f : Nat → Int32) (v : Int32) : Nat → Nat
  | 0 => 0
  | k + 1 => if v ≤ f (k + 1) then k + 1 else dj f v k
def rvf : Nat → (Nat → Int32) → Nat → Nat → (Nat → Int32)
  | 0, f, _, _ => f
  | k + 1, f, a, b => if a < b then rvf k (upd (upd f a (f b)) b (f a)) (a + 1) (b - 1) else f
def nof (f : Nat → Int32) (n : Nat) : Nat → Int32 :=
  if ds f (n - 1) = 0 then f else rvf n (upd (upd f (ds f (n - 1) - 1) (f (dj f (f (ds f (n - 1) - 1)) (n - 1)))) (dj f (f (ds f (n - 1) - 1)) (n - 1)) (f (ds f (n - 1) - 1))) (ds f (n - 1)) (n - 1)
theorem ds_le (f : Nat → Int32) : ∀ k, ds f k ≤ k
  | 0 => Nat.le_refl 0
  | k + 1 => by
    simp only [ds]
    by_cases h : f k ≤ f (k + 1)
    · rw [if_pos h]; exact Nat.le_refl _
    · rw [if_neg h]; exact Nat.le_succ_of_le (ds_le f k)
theorem ds_up (f : Nat → Int32) : ∀ k i, ds f k = i + 1 → ¬ f (i + 1) < f i
  | 0, i, h => by simp [ds] at h
  | k + 1, i, h => by
    simp only [ds] at h
    by_cases c : f k ≤ f (k + 1)
    · rw [if_pos c] at h
      have : k = i := by omega
      subst this
      exact Int32.not_lt.mpr c
    · rw [if_neg c] at h; exact ds_up f k i h
theorem dj_in (f : Nat → Int32) (v : Int32) (i : Nat) (hv : v ≤ f (i + 1)) : ∀ k, i + 1 ≤ dj f v (i + 1 + k) ∧ dj f v (i + 1 + k) ≤ i + 1 + k
  | 0 => by
    have e : dj f v (i + 1 + 0) = i + 1 := by show dj f v (i + 1) = _; simp only [dj]; rw [if_pos hv]
    rw [e]; exact ⟨Nat.le_refl _, Nat.le_refl _⟩
  | k + 1 => by
    have ih := dj_in f v i hv k
    have e : dj f v (i + 1 + (k + 1)) = if v ≤ f (i + 1 + k + 1) then i + 1 + k + 1 else dj f v (i + 1 + k) := rfl
    rw [e]
    by_cases c : v ≤ f (i + 1 + k + 1)
    · rw [if_pos c]; omega
    · rw [if_neg c]; omega
set_option maxRecDepth 100000 in
set_option maxHeartbeats 4000000 in
theorem lp1_Mo_nextOrder {p : Program} {l : Launch} {e : Env} {R : Room} {s : State} {m : MethodId} {args : Array Value} {below : List Frame} {meth : Method} {c : Code} {cells slots : Nat} {Q : State → Prop} {D : va_G} {kA : Nat → ClassId} {A : Nat → Prop} (X : cx p s m args meth c b_Mo_nextOrder 7 (some .boolean) "DrawingHouseModel" "nextOrder") (hK : va_K D classes (TY kA) s) (h : Nat) (q : Nat → Nat) (x : Nat → Int32) (y : Nat → Int64) (f : Nat → Int32) (n : Nat)
    (hn : n ≤ 26) (v : Nat) (hex : ∀ (H : Heap) (locs : List Loc) (ls : Array Slot), va_P D classes (cat [[(h, .inr (13, mF q x y))], [(q 96, .inl (kA 0, 26, .inl f))]]) H → va_D A (cat [[(h, .inr (13, mF q x y))], [(q 96, .inl (kA 0, 26, .inl f))]]) → va_S A s.heap H locs → lv_has ls 7 [(2, .int (nI v - 1)), (0, .ref h), (1, .int (nI n))] → W p l e R s m args below meth c H locs cells slots Q (F0 m 31 ls [])) :
    ∀ (c0 : Nat), c0 + 1 ≤ n → ds f c0 = v → ∀ (H : Heap) (locs : List Loc) (ls : Array Slot), va_P D classes (cat [[(h, .inr (13, mF q x y))], [(q 96, .inl (kA 0, 26, .inl f))]]) H → va_D A (cat [[(h, .inr (13, mF q x y))], [(q 96, .inl (kA 0, 26, .inl f))]]) → va_S A s.heap H locs → lv_has ls 7 [(2, .int (nI c0 - 1)), (0, .ref h), (1, .int (nI n))] → W p l e R s m args below meth c H locs cells slots Q (F0 m 4 ls []) := by
  obtain ⟨hx, hb, hml, hown, hts, hr, hlk, hnm⟩ := id X
  intro c0
  induction c0 with
  | zero =>
    intro hc hv H locs ls hP hD hS hl
    have hv : v = 0 := hv.symm
    subst hv
    refine lv_iload_n (pc := 4) hx hb d_Mo_nextOrder_4 rfl (lv_at hl 0 rfl) ?_
    refine lv_if_lt (pc := 5) (tgt := 31) hx hb d_Mo_nextOrder_5 (by decide) (fun c1 => ?_) (fun c1 => absurd (by decide) c1)
    exact hex H locs ls hP hD hS hl
  | succ c0 ih =>
    intro hc hv H locs ls hP hD hS hl
    rw [nI_pred] at hl
    refine lv_iload_n (pc := 4) hx hb d_Mo_nextOrder_4 rfl (lv_at hl 0 rfl) ?_
    refine lv_if_lt (pc := 5) (tgt := 31) hx hb d_Mo_nextOrder_5 (by decide) (fun c1 => absurd c1 (nI_pos (by omega))) (fun c1 => ?_)
    refine lv_aload_n (pc := 8) hx hb d_Mo_nextOrder_8 rfl (lv_at hl 1 rfl) ?_
    refine k_get (pc := 9) X hK hP 0 rfl rfl i_Mo 96 (by decide) wm_2528 rfl rfl d_Mo_nextOrder_9 ?_
    refine lv_iload_n (pc := 12) hx hb d_Mo_nextOrder_12 rfl (lv_at hl 0 rfl) ?_
    refine k_ild (pc := 13) hx hb hK hP 1 0 rfl rfl (c0) rfl (by omega) (by decide) d_Mo_nextOrder_13 ?_
    refine lv_aload_n (pc := 14) hx hb d_Mo_nextOrder_14 rfl (lv_at hl 1 rfl) ?_
    refine k_get (pc := 15) X hK hP 0 rfl rfl i_Mo 96 (by decide) wm_2528 rfl rfl d_Mo_nextOrder_15 ?_
    refine lv_iload_n (pc := 18) hx hb d_Mo_nextOrder_18 rfl (lv_at hl 0 rfl) ?_
    refine lv_iconst (pc := 19) (v := 1) hx hb d_Mo_nextOrder_19 (by decide) ?_
    refine k_add (pc := 20) (x := c0) (y := 1) hx hb d_Mo_nextOrder_20 ?_
    refine k_ild (pc := 21) hx hb hK hP 1 0 rfl rfl (c0 + 1) rfl (by omega) (by decide) d_Mo_nextOrder_21 ?_
    refine lv_icmp_le (pc := 22) (tgt := 31) hx hb d_Mo_nextOrder_22 (by decide) (fun c1 => ?_) (fun c1 => ?_)
    · have e : ds f (c0 + 1) = c0 + 1 := by simp only [ds]; rw [if_pos c1]
      rw [e] at hv
      subst hv
      exact hex H locs ls hP hD hS (by rw [nI_pred]; exact hl)
    · have e : ds f (c0 + 1) = ds f c0 := by simp only [ds]; rw [if_neg c1]
      rw [e] at hv
      refine lv_iinc (pc := 25) (v := nI c0 - 1) (lv' := [(2, .int (nI c0 - 1)), (0, .ref h), (1, .int (nI n))]) hx hb d_Mo_nextOrder_25 hl (k := 0) rfl (by rw [Int32.sub_eq_add_neg]; rfl) (by decide) rfl (fun ls hl => ?_)
      refine lv_goto (pc := 28) (tgt := 4) hx hb d_Mo_nextOrder_28 (by decide) ?_
      exact ih (by omega) hv H locs ls hP hD hS hl
set_option maxRecDepth 100000 in
set_option maxHeartbeats 4000000 in
theorem lp2_Mo_nextOrder {p : Program} {l : Launch} {e : Env} {R : Room} {s : State} {m : MethodId} {args : Array Value} {below : List Frame} {meth : Method} {c : Code} {cells slots : Nat} {Q : State → Prop} {D : va_G} {kA : Nat → ClassId} {A : Nat → Prop} (X : cx p s m args meth c b_Mo_nextOrder 7 (some .boolean) "DrawingHouseModel" "nextOrder") (hK : va_K D classes (TY kA) s) (h : Nat) (q : Nat → Nat) (x : Nat → Int32) (y : Nat → Int64) (f : Nat → Int32) (n i0 : Nat)
    (hn : n ≤ 26) (hi : ¬ f (i0 + 1) < f i0) (v : Nat) (hex : ∀ (H : Heap) (locs : List Loc) (ls : Array Slot), va_P D classes (cat [[(h, .inr (13, mF q x y))], [(q 96, .inl (kA 0, 26, .inl f))]]) H → va_D A (cat [[(h, .inr (13, mF q x y))], [(q 96, .inl (kA 0, 26, .inl f))]]) → va_S A s.heap H locs → lv_has ls 7 [(3, .int (nI v)), (2, .int (nI i0)), (0, .ref h), (1, .int (nI n))] → W p l e R s m args below meth c H locs cells slots Q (F0 m 62 ls [])) :
    ∀ (k j : Nat), i0 + 1 + k = j → j + 1 ≤ n → dj f (f i0) j = v → ∀ (H : Heap) (locs : List Loc) (ls : Array Slot), va_P D classes (cat [[(h, .inr (13, mF q x y))], [(q 96, .inl (kA 0, 26, .inl f))]]) H → va_D A (cat [[(h, .inr (13, mF q x y))], [(q 96, .inl (kA 0, 26, .inl f))]]) → va_S A s.heap H locs → lv_has ls 7 [(3, .int (nI j)), (2, .int (nI i0)), (0, .ref h), (1, .int (nI n))] → W p l e R s m args below meth c H locs cells slots Q (F0 m 41 ls []) := by
  obtain ⟨hx, hb, hml, hown, hts, hr, hlk, hnm⟩ := id X
  intro k
  induction k with
  | zero =>
    intro j hj hjn hv H locs ls hP hD hS hl
    have hj : j = i0 + 1 := hj.symm
    subst hj
    refine lv_aload_n (pc := 41) hx hb d_Mo_nextOrder_41 rfl (lv_at hl 2 rfl) ?_
    refine k_get (pc := 42) X hK hP 0 rfl rfl i_Mo 96 (by decide) wm_2528 rfl rfl d_Mo_nextOrder_42 ?_
    refine lv_iload_n (pc := 45) hx hb d_Mo_nextOrder_45 rfl (lv_at hl 0 rfl) ?_
    refine k_ild (pc := 46) hx hb hK hP 1 0 rfl rfl (i0 + 1) rfl (by omega) (by decide) d_Mo_nextOrder_46 ?_
    refine lv_aload_n (pc := 47) hx hb d_Mo_nextOrder_47 rfl (lv_at hl 2 rfl) ?_
    refine k_get (pc := 48) X hK hP 0 rfl rfl i_Mo 96 (by decide) wm_2528 rfl rfl d_Mo_nextOrder_48 ?_
    refine lv_iload_n (pc := 51) hx hb d_Mo_nextOrder_51 rfl (lv_at hl 1 rfl) ?_
    refine k_ild (pc := 52) hx hb hK hP 1 0 rfl rfl (i0) rfl (by omega) (by decide) d_Mo_nextOrder_52 ?_
    have hc : f i0 ≤ f (i0 + 1) := Int32.not_lt.mp hi
    have e : dj f (f i0) (i0 + 1) = i0 + 1 := by simp only [dj]; rw [if_pos hc]
    rw [e] at hv
    subst hv
    refine lv_icmp_ge (pc := 53) (tgt := 62) hx hb d_Mo_nextOrder_53 (by decide) (fun c1 => ?_) (fun c1 => absurd hc c1)
    exact hex H locs ls hP hD hS hl
  | succ k ih =>
    intro j hj hjn hv H locs ls hP hD hS hl
    obtain ⟨j0, rfl⟩ : ∃ z, j = z + 1 := ⟨i0 + 1 + k, by omega⟩
    refine lv_aload_n (pc := 41) hx hb d_Mo_nextOrder_41 rfl (lv_at hl 2 rfl) ?_
    refine k_get (pc := 42) X hK hP 0 rfl rfl i_Mo 96 (by decide) wm_2528 rfl rfl d_Mo_nextOrder_42 ?_
    refine lv_iload_n (pc := 45) hx hb d_Mo_nextOrder_45 rfl (lv_at hl 0 rfl) ?_
    refine k_ild (pc := 46) hx hb hK hP 1 0 rfl rfl (j0 + 1) rfl (by omega) (by decide) d_Mo_nextOrder_46 ?_
    refine lv_aload_n (pc := 47) hx hb d_Mo_nextOrder_47 rfl (lv_at hl 2 rfl) ?_
    refine k_get (pc := 48) X hK hP 0 rfl rfl i_Mo 96 (by decide) wm_2528 rfl rfl d_Mo_nextOrder_48 ?_
    refine lv_iload_n (pc := 51) hx hb d_Mo_nextOrder_51 rfl (lv_at hl 1 rfl) ?_
    refine k_ild (pc := 52) hx hb hK hP 1 0 rfl rfl (i0) rfl (by omega) (by decide) d_Mo_nextOrder_52 ?_
    refine lv_icmp_ge (pc := 53) (tgt := 62) hx hb d_Mo_nextOrder_53 (by decide) (fun c1 => ?_) (fun c1 => ?_)
    · have e : dj f (f i0) (j0 + 1) = j0 + 1 := by simp only [dj]; rw [if_pos c1]
      rw [e] at hv
      subst hv
      exact hex H locs ls hP hD hS hl
    · have e : dj f (f i0) (j0 + 1) = dj f (f i0) j0 := by simp only [dj]; rw [if_neg c1]
      rw [e] at hv
      refine lv_iinc (pc := 56) (v := nI j0) (lv' := [(3, .int (nI j0)), (2, .int (nI i0)), (0, .ref h), (1, .int (nI n))]) hx hb d_Mo_nextOrder_56 hl (k := 0) rfl (pk_m1 j0) (by decide) rfl (fun ls hl => ?_)
      refine lv_goto (pc := 59) (tgt := 41) hx hb d_Mo_nextOrder_59 (by decide) ?_
      exact ih j0 (by omega) (by omega) hv H locs ls hP hD hS hl
set_option maxRecDepth 100000 in
set_option maxHeartbeats 4000000 in
theorem lp3_Mo_nextOrder {p : Program} {l : Launch} {e : Env} {R : Room} {s : State} {m : MethodId} {args : Array Value} {below : List Frame} {meth : Method} {c : Code} {cells slots : Nat} {Q : State → Prop} {D : va_G} {kA : Nat → ClassId} {A : Nat → Prop} (X : cx p s m args meth c b_Mo_nextOrder 7 (some .boolean) "DrawingHouseModel" "nextOrder") (hK : va_K D classes (TY kA) s) (h : Nat) (q : Nat → Nat) (x : Nat → Int32) (y : Nat → Int64) (n i0 j0 : Nat) (hn : n ≤ 26) (g0 : Nat → Int32)
    (hex : ∀ (H : Heap) (locs : List Loc) (ls : Array Slot), va_P D classes (cat [[(h, .inr (13, mF q x y))], [(q 96, .inl (kA 0, 26, .inl g0))]]) H → va_D A (cat [[(h, .inr (13, mF q x y))], [(q 96, .inl (kA 0, 26, .inl g0))]]) → va_S A s.heap H locs → ls.size = 7 → W p l e R s m args below meth c H locs cells slots Q (F0 m 148 ls [])) :
    ∀ (k : Nat) (f : Nat → Int32) (a b : Nat) (tv : Int32), b + 1 ≤ n → a ≤ n → b < a + k → rvf k f a b = g0 → ∀ (H : Heap) (locs : List Loc) (ls : Array Slot), va_P D classes (cat [[(h, .inr (13, mF q x y))], [(q 96, .inl (kA 0, 26, .inl f))]]) H → va_D A (cat [[(h, .inr (13, mF q x y))], [(q 96, .inl (kA 0, 26, .inl f))]]) → va_S A s.heap H locs → lv_has ls 7 [(6, .int (nI (b))), (5, .int (nI (a))), (4, .int tv), (3, .int (nI j0)), (2, .int (nI i0)), (0, .ref h), (1, .int (nI n))] → W p l e R s m args below meth c H locs cells slots Q (F0 m 100 ls []) := by
  obtain ⟨hx, hb, hml, hown, hts, hr, hlk, hnm⟩ := id X
  intro k
  induction k with
  | zero =>
    intro f a b tv hb1 ha1 hk hg H locs ls hP hD hS hl
    have hg : f = g0 := hg
    subst hg
    have ha : b < a := by omega
    refine lv_iload (pc := 100) hx hb d_Mo_nextOrder_100 (lv_at hl 1 rfl) ?_
    refine lv_iload (pc := 102) hx hb d_Mo_nextOrder_102 (lv_at hl 0 rfl) ?_
    refine k_cge (pc := 104) (x := a) (y := b) (tgt := 148) hx hb (by omega) (by omega) d_Mo_nextOrder_104 (by decide) (fun c1 => ?_) (fun c1 => absurd c1 (by omega))
    exact hex H locs ls hP hD hS hl.1
  | succ k ih =>
    intro f a b tv hb1 ha1 hk hg H locs ls hP hD hS hl
    by_cases hab : a < b
    · refine lv_iload (pc := 100) hx hb d_Mo_nextOrder_100 (lv_at hl 1 rfl) ?_
      refine lv_iload (pc := 102) hx hb d_Mo_nextOrder_102 (lv_at hl 0 rfl) ?_
      refine k_cge (pc := 104) (x := a) (y := b) (tgt := 148) hx hb (by omega) (by omega) d_Mo_nextOrder_104 (by decide) (fun c1 => absurd c1 (by omega)) (fun c1 => ?_)
      refine lv_aload_n (pc := 107) hx hb d_Mo_nextOrder_107 rfl (lv_at hl 5 rfl) ?_
      refine k_get (pc := 108) X hK hP 0 rfl rfl i_Mo 96 (by decide) wm_2528 rfl rfl d_Mo_nextOrder_108 ?_
      refine lv_iload (pc := 111) hx hb d_Mo_nextOrder_111 (lv_at hl 1 rfl) ?_
      refine k_ild (pc := 113) hx hb hK hP 1 0 rfl rfl (a) rfl (by omega) (by decide) d_Mo_nextOrder_113 ?_
      refine lv_istore (pc := 114) (lv' := [(4, .int (f a)), (6, .int (nI b)), (5, .int (nI a)), (3, .int (nI j0)), (2, .int (nI i0)), (0, .ref h), (1, .int (nI n))]) hx hb d_Mo_nextOrder_114 hl (by decide) rfl (fun ls hl => ?_)
      refine lv_aload_n (pc := 116) hx hb d_Mo_nextOrder_116 rfl (lv_at hl 5 rfl) ?_
      refine k_get (pc := 117) X hK hP 0 rfl rfl i_Mo 96 (by decide) wm_2528 rfl rfl d_Mo_nextOrder_117 ?_
      refine lv_iload (pc := 120) hx hb d_Mo_nextOrder_120 (lv_at hl 2 rfl) ?_
      refine lv_aload_n (pc := 122) hx hb d_Mo_nextOrder_122 rfl (lv_at hl 5 rfl) ?_
      refine k_get (pc := 123) X hK hP 0 rfl rfl i_Mo 96 (by decide) wm_2528 rfl rfl d_Mo_nextOrder_123 ?_
      refine lv_iload (pc := 126) hx hb d_Mo_nextOrder_126 (lv_at hl 1 rfl) ?_
      refine k_ild (pc := 128) hx hb hK hP 1 0 rfl rfl (b) rfl (by omega) (by decide) d_Mo_nextOrder_128 ?_
      refine k_ist (pc := 129) hx hb hK hP hD hS 1 0 rfl rfl (a) rfl (by omega) (by decide) d_Mo_nextOrder_129 (fun H locs hP hD hS => ?_)
      have hP : va_P D classes (cat [[(h, .inr (13, mF q x y))], [(q 96, .inl (kA 0, 26, .inl (upd f a (f b))))]]) H := hP
      have hD : va_D A (cat [[(h, .inr (13, mF q x y))], [(q 96, .inl (kA 0, 26, .inl (upd f a (f b))))]]) := hD
      refine lv_aload_n (pc := 130) hx hb d_Mo_nextOrder_130 rfl (lv_at hl 5 rfl) ?_
      refine k_get (pc := 131) X hK hP 0 rfl rfl i_Mo 96 (by decide) wm_2528 rfl rfl d_Mo_nextOrder_131 ?_
      refine lv_iload (pc := 134) hx hb d_Mo_nextOrder_134 (lv_at hl 1 rfl) ?_
      refine lv_iload (pc := 136) hx hb d_Mo_nextOrder_136 (lv_at hl 0 rfl) ?_
      refine k_ist (pc := 138) hx hb hK hP hD hS 1 0 rfl rfl (b) rfl (by omega) (by decide) d_Mo_nextOrder_138 (fun H locs hP hD hS => ?_)
      have hP : va_P D classes (cat [[(h, .inr (13, mF q x y))], [(q 96, .inl (kA 0, 26, .inl (upd (upd f a (f b)) b (f a))))]]) H := hP
      have hD : va_D A (cat [[(h, .inr (13, mF q x y))], [(q 96, .inl (kA 0, 26, .inl (upd (upd f a (f b)) b (f a))))]]) := hD
      refine lv_iinc (pc := 139) (v := nI (a + 1)) (lv' := [(5, .int (nI (a + 1))), (4, .int (f a)), (6, .int (nI b)), (3, .int (nI j0)), (2, .int (nI i0)), (0, .ref h), (1, .int (nI n))]) hx hb d_Mo_nextOrder_139 hl (k := 2) rfl (nI_add _ 1) (by decide) rfl (fun ls hl => ?_)
      obtain ⟨b0, rfl⟩ : ∃ z, b = z + 1 := ⟨b - 1, by omega⟩
      refine lv_iinc (pc := 142) (v := nI b0) (lv' := [(6, .int (nI b0)), (5, .int (nI (a + 1))), (4, .int (f a)), (3, .int (nI j0)), (2, .int (nI i0)), (0, .ref h), (1, .int (nI n))]) hx hb d_Mo_nextOrder_142 hl (k := 2) rfl (pk_m1 b0) (by decide) rfl (fun ls hl => ?_)
      refine lv_goto (pc := 145) (tgt := 100) hx hb d_Mo_nextOrder_145 (by decide) ?_
      have e : rvf (k + 1) f a (b0 + 1) = rvf k (upd (upd f a (f (b0 + 1))) (b0 + 1) (f a)) (a + 1) b0 := by simp only [rvf]; rw [if_pos hab]; rfl
      rw [e] at hg
      exact ih _ (a + 1) b0 (f a) (by omega) (by omega) (by omega) hg H locs ls hP hD hS hl
    · refine lv_iload (pc := 100) hx hb d_Mo_nextOrder_100 (lv_at hl 1 rfl) ?_
      refine lv_iload (pc := 102) hx hb d_Mo_nextOrder_102 (lv_at hl 0 rfl) ?_
      refine k_cge (pc := 104) (x := a) (y := b) (tgt := 148) hx hb (by omega) (by omega) d_Mo_nextOrder_104 (by decide) (fun c1 => ?_) (fun c1 => absurd c1 (by omega))
      have e : rvf (k + 1) f a b = f := by simp only [rvf]; rw [if_neg hab]
      rw [e] at hg
      subst hg
      exact hex H locs ls hP hD hS hl.1
set_option maxRecDepth 100000 in
set_option maxHeartbeats 4000000 in
/-- nextOrder(n) -/
theorem c_Mo_nextOrder (l : Launch) (D : va_G) (kA : Nat → ClassId) (h : Nat) (q : Nat → Nat) (x : Nat → Int32) (y : Nat → Int64) (f : Nat → Int32) (n : Nat) (hn1 : 1 ≤ n) (hn : n ≤ 26) : Ci l y_Mo_nextOrder z_Mo_nextOrder { frames := 0, cells := 0, slots := 0, locals := 0 } D classes (TY kA) [.ref h, .int (nI n)] [[(h, .inr (13, mF q x y))], [(q 96, .inl (kA 0, 26, .inl f))]] (fun r (_ : Unit) => r = if ds f (n - 1) = 0 then 0 else 1) (fun _ => [[(h, .inr (13, mF q x y))], [(q 96, .inl (kA 0, 26, .inl (nof f n)))]]) 0 0 := by
  intro sz
  refine k_met (cc := b_Mo_nextOrder) (maxL := 7) (ret := (some .boolean)) (by decide) rfl (Nat.le_of_ble_eq_true rfl) (fun p e s m below meth c ls X hl hB => ?_)
  obtain ⟨hsz, hP, hK, hD0, hN⟩ := hB
  subst hsz
  have hD := hD0.self (sz := s.heap.size)
  generalize hAe : va_A (cat [[(h, .inr (13, mF q x y))], [(q 96, .inl (kA 0, 26, .inl f))]]) s.heap.size = A at hD ⊢
  have hA : ∀ q : Nat, s.heap.size ≤ q → A q := fun q h => by rw [← hAe]; exact Or.inr h
  have hS : va_S A s.heap s.heap [] := va_S.rf
  obtain ⟨hx, hb, hml, hown, hts, hr, hlk, hnm⟩ := id X
  have hl : lv_has ls 7 [(0, .ref h), (1, .int (nI n))] := hl
  have hP : va_P D classes (cat [[(h, .inr (13, mF q x y))], [(q 96, .inl (kA 0, 26, .inl f))]]) s.heap := hP
  have hK : va_K D classes (TY kA) s := hK
  have e2 : nI n - 2 = nI (n - 1) - 1 := by
    rcases Nat.lt_or_ge n 2 with h2 | h2
    · have : n = 1 := by omega
      subst this; decide
    · obtain ⟨k, rfl⟩ : ∃ k, n = k + 2 := ⟨n - 2, by omega⟩
      show nI (k + 2) - nI 2 = nI (k + 1) - 1
      rw [pk_sub (by omega), nI_pred]; rfl
  refine lv_iload_n (pc := 0) hx hb d_Mo_nextOrder_0 rfl (lv_at hl 1 rfl) ?_
  refine lv_iconst (pc := 1) (v := 2) hx hb d_Mo_nextOrder_1 (by decide) ?_
  refine lv_isub (pc := 2) hx hb d_Mo_nextOrder_2 ?_
  refine W.eq (g2 := F0 m 3 ls [.int (nI (n - 1) - 1)]) (by rw [← e2]) ?_
  refine lv_istore_n (pc := 3) (lv' := [(2, .int (nI (n - 1) - 1)), (0, .ref h), (1, .int (nI n))]) hx hb d_Mo_nextOrder_3 rfl hl (by decide) rfl (fun ls hl => ?_)
  refine lp1_Mo_nextOrder X hK h q x y f n hn (ds f (n - 1)) (fun H locs ls hP hD hS hl => ?_) (n - 1) (by omega) rfl _ _ ls hP hD hS hl
  rcases hd : ds f (n - 1) with _ | i0
  · rw [hd] at hl
    refine lv_iload_n (pc := 31) hx hb d_Mo_nextOrder_31 rfl (lv_at hl 0 rfl) ?_
    refine lv_if_ge (pc := 32) (tgt := 37) hx hb d_Mo_nextOrder_32 (by decide) (fun c1 => absurd c1 (by decide)) (fun c1 => ?_)
    refine lv_iconst (pc := 35) (v := 0) hx hb d_Mo_nextOrder_35 (by decide) ?_
    have e : nof f n = f := by unfold nof; rw [if_pos hd]
    rw [e]
    refine W.widen (k := 0) (n := 0) (Nat.le_of_ble_eq_true rfl) (Nat.le_of_ble_eq_true rfl) ?_
    exact W.zret (v := 0) hx hb hr rfl (fun t ht hW => ⟨⟨0, (), rfl, rfl, by rw [ht]; exact hP, va_K.moved hW.alike hK, hD⟩, hS.F ht⟩) hS.2.2 d_Mo_nextOrder_36
  · rw [hd, nI_pred] at hl
    have hle : i0 + 1 ≤ n - 1 := by have := ds_le f (n - 1); omega
    have hup := ds_up f (n - 1) i0 hd
    refine lv_iload_n (pc := 31) hx hb d_Mo_nextOrder_31 rfl (lv_at hl 0 rfl) ?_
    refine lv_if_ge (pc := 32) (tgt := 37) hx hb d_Mo_nextOrder_32 (by decide) (fun c1 => ?_) (fun c1 => absurd (nI_pos' (by omega)) c1)
    refine lv_iload_n (pc := 37) hx hb d_Mo_nextOrder_37 rfl (lv_at hl 2 rfl) ?_
    refine lv_iconst (pc := 38) (v := 1) hx hb d_Mo_nextOrder_38 (by decide) ?_
    refine k_sub (pc := 39) (x := n) (y := 1) hx hb (by omega) d_Mo_nextOrder_39 ?_
    refine lv_istore_n (pc := 40) (lv' := [(3, .int (nI (n - 1))), (2, .int (nI i0)), (0, .ref h), (1, .int (nI n))]) hx hb d_Mo_nextOrder_40 rfl hl (by decide) rfl (fun ls hl => ?_)
    obtain ⟨k0, hk0⟩ : ∃ k, n - 1 = i0 + 1 + k := ⟨n - 1 - (i0 + 1), by omega⟩
    have hdj := dj_in f (f i0) i0 (Int32.not_lt.mp hup) k0
    rw [← hk0] at hdj
    obtain ⟨j0, hj0⟩ : ∃ j, j = dj f (f i0) (n - 1) := ⟨_, rfl⟩
    rw [← hj0] at hdj
    refine lp2_Mo_nextOrder X hK h q x y f n i0 hn hup j0 (fun H locs ls hP hD hS hl => ?_) k0 (n - 1) hk0.symm (by omega) hj0.symm _ _ ls hP hD hS hl
    refine lv_aload_n (pc := 62) hx hb d_Mo_nextOrder_62 rfl (lv_at hl 2 rfl) ?_
    refine k_get (pc := 63) X hK hP 0 rfl rfl i_Mo 96 (by decide) wm_2528 rfl rfl d_Mo_nextOrder_63 ?_
    refine lv_iload_n (pc := 66) hx hb d_Mo_nextOrder_66 rfl (lv_at hl 1 rfl) ?_
    refine k_ild (pc := 67) hx hb hK hP 1 0 rfl rfl (i0) rfl (by omega) (by decide) d_Mo_nextOrder_67 ?_
    refine lv_istore (pc := 68) (lv' := [(4, .int (f i0)), (3, .int (nI j0)), (2, .int (nI i0)), (0, .ref h), (1, .int (nI n))]) hx hb d_Mo_nextOrder_68 hl (by decide) rfl (fun ls hl => ?_)
    refine lv_aload_n (pc := 70) hx hb d_Mo_nextOrder_70 rfl (lv_at hl 3 rfl) ?_
    refine k_get (pc := 71) X hK hP 0 rfl rfl i_Mo 96 (by decide) wm_2528 rfl rfl d_Mo_nextOrder_71 ?_
    refine lv_iload_n (pc := 74) hx hb d_Mo_nextOrder_74 rfl (lv_at hl 2 rfl) ?_
    refine lv_aload_n (pc := 75) hx hb d_Mo_nextOrder_75 rfl (lv_at hl 3 rfl) ?_
    refine k_get (pc := 76) X hK hP 0 rfl rfl i_Mo 96 (by decide) wm_2528 rfl rfl d_Mo_nextOrder_76 ?_
    refine lv_iload_n (pc := 79) hx hb d_Mo_nextOrder_79 rfl (lv_at hl 1 rfl) ?_
    refine k_ild (pc := 80) hx hb hK hP 1 0 rfl rfl (j0) rfl (by omega) (by decide) d_Mo_nextOrder_80 ?_
    refine k_ist (pc := 81) hx hb hK hP hD hS 1 0 rfl rfl (i0) rfl (by omega) (by decide) d_Mo_nextOrder_81 (fun H locs hP hD hS => ?_)
    have hP : va_P D classes (cat [[(h, .inr (13, mF q x y))], [(q 96, .inl (kA 0, 26, .inl (upd f i0 (f j0))))]]) H := hP
    have hD : va_D A (cat [[(h, .inr (13, mF q x y))], [(q 96, .inl (kA 0, 26, .inl (upd f i0 (f j0))))]]) := hD
    refine lv_aload_n (pc := 82) hx hb d_Mo_nextOrder_82 rfl (lv_at hl 3 rfl) ?_
    refine k_get (pc := 83) X hK hP 0 rfl rfl i_Mo 96 (by decide) wm_2528 rfl rfl d_Mo_nextOrder_83 ?_
    refine lv_iload_n (pc := 86) hx hb d_Mo_nextOrder_86 rfl (lv_at hl 1 rfl) ?_
    refine lv_iload (pc := 87) hx hb d_Mo_nextOrder_87 (lv_at hl 0 rfl) ?_
    refine k_ist (pc := 89) hx hb hK hP hD hS 1 0 rfl rfl (j0) rfl (by omega) (by decide) d_Mo_nextOrder_89 (fun H locs hP hD hS => ?_)
    have hP : va_P D classes (cat [[(h, .inr (13, mF q x y))], [(q 96, .inl (kA 0, 26, .inl (upd (upd f i0 (f j0)) j0 (f i0))))]]) H := hP
    have hD : va_D A (cat [[(h, .inr (13, mF q x y))], [(q 96, .inl (kA 0, 26, .inl (upd (upd f i0 (f j0)) j0 (f i0))))]]) := hD
    refine lv_iload_n (pc := 90) hx hb d_Mo_nextOrder_90 rfl (lv_at hl 2 rfl) ?_
    refine lv_iconst (pc := 91) (v := 1) hx hb d_Mo_nextOrder_91 (by decide) ?_
    refine k_add (pc := 92) (x := i0) (y := 1) hx hb d_Mo_nextOrder_92 ?_
    refine lv_istore (pc := 93) (lv' := [(5, .int (nI (i0 + 1))), (4, .int (f i0)), (3, .int (nI j0)), (2, .int (nI i0)), (0, .ref h), (1, .int (nI n))]) hx hb d_Mo_nextOrder_93 hl (by decide) rfl (fun ls hl => ?_)
    refine lv_iload_n (pc := 95) hx hb d_Mo_nextOrder_95 rfl (lv_at hl 5 rfl) ?_
    refine lv_iconst (pc := 96) (v := 1) hx hb d_Mo_nextOrder_96 (by decide) ?_
    refine k_sub (pc := 97) (x := n) (y := 1) hx hb (by omega) d_Mo_nextOrder_97 ?_
    refine lv_istore (pc := 98) (lv' := [(6, .int (nI (n - 1))), (5, .int (nI (i0 + 1))), (4, .int (f i0)), (3, .int (nI j0)), (2, .int (nI i0)), (0, .ref h), (1, .int (nI n))]) hx hb d_Mo_nextOrder_98 hl (by decide) rfl (fun ls hl => ?_)
    have e : rvf n (upd (upd f i0 (f j0)) j0 (f i0)) (i0 + 1) (n - 1) = nof f n := by unfold nof; rw [if_neg (by omega), hd, hj0]; rfl
    refine lp3_Mo_nextOrder X hK h q x y n i0 j0 hn (nof f n) (fun H locs ls hP hD hS hsz => ?_) n (upd (upd f i0 (f j0)) j0 (f i0)) (i0 + 1) (n - 1) (f i0) (by omega) (by omega) (by omega) e _ _ ls hP hD hS hl
    refine lv_iconst (pc := 148) (v := 1) hx hb d_Mo_nextOrder_148 (by decide) ?_
    refine W.widen (k := 0) (n := 0) (Nat.le_of_ble_eq_true rfl) (Nat.le_of_ble_eq_true rfl) ?_
    exact W.zret (v := 1) hx hb hr rfl (fun t ht hW => ⟨⟨1, (), rfl, (by rw [if_neg (by omega)]), by rw [ht]; exact hP, va_K.moved hW.alike hK, hD⟩, hS.F ht⟩) hS.2.2 d_Mo_nextOrder_149
