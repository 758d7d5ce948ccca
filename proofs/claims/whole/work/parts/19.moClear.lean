theorem wm_2424 : (Cond.code ({ cls := "DrawingHouseModel", name := "clear", desc := "(I)V" } : MethodName) prog_15_method_8_code (3 : Nat) (Option.none : Option ClassFile.FieldType) : Cond) ∈ lw_g := lw_gi (lw_c11 (List.mem_of_getElem? (i := 24) rfl)) rfl
theorem wm_2435 : (Cond.fieldLink "DrawingHouseModel" (16 : Nat) "DrawingHouseModel" "all" "[I" : Cond) ∈ lw_g := lw_gi (lw_c11 (List.mem_of_getElem? (i := 35) rfl)) rfl
def mF (q : Nat → Nat) (x : Nat → Int32) (y : Nat → Int64) : List Value := [.int (x 0), .ref (q 1), .ref (q 2), .ref (q 3), .ref (q 4), .int (x 5), .ref (q 6), .int (x 7), .int (x 8), .int (x 9), .int (x 10), .int (x 11), .int (x 12), .int (x 13), .int (x 14), .int (x 15), .ref (q 16), .ref (q 17), .ref (q 18), .ref (q 19), .ref (q 20), .ref (q 21), .ref (q 22), .ref (q 23), .ref (q 24), .int (x 25), .int (x 26), .int (x 27), .int (x 28), .int (x 29), .int (x 30), .int (x 31), .int (x 32), .ref (q 33), .ref (q 34), .ref (q 35), .ref (q 36), .ref (q 37), .ref (q 38), .int (x 39), .ref (q 40), .ref (q 41), .ref (q 42), .ref (q 43), .ref (q 44), .int (x 45), .ref (q 46), .int (x 47), .ref (q 48), .int (x 49), .ref (q 50), .ref (q 51), .ref (q 52), .int (x 53), .ref (q 54), .ref (q 55), .ref (q 56), .ref (q 57), .int (x 58), .int (x 59), .ref (q 60), .ref (q 61), .ref (q 62), .ref (q 63), .ref (q 64), .ref (q 65), .ref (q 66), .ref (q 67), .ref (q 68), .ref (q 69), .ref (q 70), .ref (q 71), .ref (q 72), .ref (q 73), .ref (q 74), .ref (q 75), .ref (q 76), .ref (q 77), .ref (q 78), .int (x 79), .int (x 80), .int (x 81), .ref (q 82), .ref (q 83), .ref (q 84), .ref (q 85), .ref (q 86), .ref (q 87), .ref (q 88), .ref (q 89), .ref (q 90), .ref (q 91), .ref (q 92), .ref (q 93), .int (x 94), .ref (q 95), .ref (q 96), .ref (q 97), .ref (q 98), .int (x 99), .int (x 100), .int (x 101), .ref (q 102), .ref (q 103), .ref (q 104), .ref (q 105), .ref (q 106), .int (x 107), .ref (q 108), .ref (q 109), .ref (q 110), .ref (q 111), .ref (q 112), .ref (q 113), .ref (q 114), .ref (q 115), .ref (q 116), .ref (q 117), .ref (q 118), .ref (q 119), .ref (q 120), .int (x 121), .ref (q 122), .ref (q 123), .ref (q 124), .int (x 125), .ref (q 126), .ref (q 127), .ref (q 128), .ref (q 129), .ref (q 130), .ref (q 131), .int (x 132), .long (y 133), .long (y 134), .ref (q 135), .ref (q 136), .ref (q 137), .ref (q 138), .int (x 139), .ref (q 140), .ref (q 141), .ref (q 142), .ref (q 143), .int (x 144), .int (x 145), .int (x 146), .int (x 147), .ref (q 148), .ref (q 149), .int (x 150), .ref (q 151), .ref (q 152), .int (x 153), .int (x 154), .int (x 155), .int (x 156), .int (x 157), .int (x 158), .int (x 159), .ref (q 160), .ref (q 161), .ref (q 162), .ref (q 163), .int (x 164), .int (x 165), .ref (q 166), .ref (q 167), .ref (q 168), .int (x 169), .int (x 170), .ref (q 171), .ref (q 172), .int (x 173), .int (x 174), .ref (q 175)]
abbrev b_Mo_clear : ByteArray := prog_15_method_8_code
def y_Mo_clear : MethodName := ⟨"DrawingHouseModel", "clear", "(I)V"⟩
abbrev z_Mo_clear : List Cond := Cond.code y_Mo_clear b_Mo_clear 3 none :: lw_g
theorem d_Mo_clear_0 : decode b_Mo_clear 0 = .ok (.iconst 0, 1) := by decide +kernel
theorem d_Mo_clear_1 : decode b_Mo_clear 1 = .ok (.istore_n 2, 1) := by decide +kernel
theorem d_Mo_clear_2 : decode b_Mo_clear 2 = .ok (.iload_n 2, 1) := by decide +kernel
theorem d_Mo_clear_3 : decode b_Mo_clear 3 = .ok (.sipush 539, 3) := by decide +kernel
theorem d_Mo_clear_6 : decode b_Mo_clear 6 = .ok (.if_icmp .ge 18, 3) := by decide +kernel
theorem d_Mo_clear_9 : decode b_Mo_clear 9 = .ok (.aload_n 0, 1) := by decide +kernel
theorem d_Mo_clear_10 : decode b_Mo_clear 10 = .ok (.getfield 16, 3) := by decide +kernel
theorem d_Mo_clear_13 : decode b_Mo_clear 13 = .ok (.iload_n 1, 1) := by decide +kernel
theorem d_Mo_clear_14 : decode b_Mo_clear 14 = .ok (.iload_n 2, 1) := by decide +kernel
theorem d_Mo_clear_15 : decode b_Mo_clear 15 = .ok (.iadd, 1) := by decide +kernel
theorem d_Mo_clear_16 : decode b_Mo_clear 16 = .ok (.iconst 0, 1) := by decide +kernel
theorem d_Mo_clear_17 : decode b_Mo_clear 17 = .ok (.iastore, 1) := by decide +kernel
theorem d_Mo_clear_18 : decode b_Mo_clear 18 = .ok (.iinc 2 1, 3) := by decide +kernel
theorem d_Mo_clear_21 : decode b_Mo_clear 21 = .ok (.goto (-19), 3) := by decide +kernel
theorem d_Mo_clear_24 : decode b_Mo_clear 24 = .ok (.aload_n 0, 1) := by decide +kernel
theorem d_Mo_clear_25 : decode b_Mo_clear 25 = .ok (.getfield 16, 3) := by decide +kernel
theorem d_Mo_clear_28 : decode b_Mo_clear 28 = .ok (.iload_n 1, 1) := by decide +kernel
theorem d_Mo_clear_29 : decode b_Mo_clear 29 = .ok (.iconst 2, 1) := by decide +kernel
theorem d_Mo_clear_30 : decode b_Mo_clear 30 = .ok (.iadd, 1) := by decide +kernel
theorem d_Mo_clear_31 : decode b_Mo_clear 31 = .ok (.iconst 1, 1) := by decide +kernel
theorem d_Mo_clear_32 : decode b_Mo_clear 32 = .ok (.iastore, 1) := by decide +kernel
theorem d_Mo_clear_33 : decode b_Mo_clear 33 = .ok (.aload_n 0, 1) := by decide +kernel
theorem d_Mo_clear_34 : decode b_Mo_clear 34 = .ok (.getfield 16, 3) := by decide +kernel
theorem d_Mo_clear_37 : decode b_Mo_clear 37 = .ok (.iload_n 1, 1) := by decide +kernel
theorem d_Mo_clear_38 : decode b_Mo_clear 38 = .ok (.sipush 531, 3) := by decide +kernel
theorem d_Mo_clear_41 : decode b_Mo_clear 41 = .ok (.iadd, 1) := by decide +kernel
theorem d_Mo_clear_42 : decode b_Mo_clear 42 = .ok (.iconst (-1), 1) := by decide +kernel
theorem d_Mo_clear_43 : decode b_Mo_clear 43 = .ok (.iastore, 1) := by decide +kernel
theorem d_Mo_clear_44 : decode b_Mo_clear 44 = .ok (.return_, 1) := by decide +kernel
def clr (f : Nat → Int32) (row n : Nat) : Nat → Int32 := fun j => if row ≤ j ∧ j < row + n then 0 else f j
theorem clr_0 (f : Nat → Int32) (row : Nat) : clr f row 0 = f := by funext j; simp only [clr]; rw [if_neg (by omega)]
theorem clr_s (f : Nat → Int32) (row n : Nat) : upd (clr f row n) (row + n) 0 = clr f row (n + 1) := by
  funext j; simp only [upd, clr]
  by_cases h : j = row + n
  · subst h; simp
  · by_cases h2 : row ≤ j ∧ j < row + n
    · rw [if_neg h, if_pos h2, if_pos (by omega)]
    · rw [if_neg h, if_neg h2, if_neg (by omega)]
set_option maxRecDepth 100000 in
set_option maxHeartbeats 4000000 in
theorem lp_Mo_clear {p : Program} {l : Launch} {e : Env} {R : Room} {s : State} {m : MethodId} {args : Array Value} {below : List Frame} {meth : Method} {c : Code} {cells slots : Nat} {Q : State → Prop} {D : va_G} {kA : Nat → ClassId} {A : Nat → Prop} (X : cx p s m args meth c b_Mo_clear 3 none "DrawingHouseModel" "clear") (hK : va_K D classes (TY kA) s) (h : Nat) (q : Nat → Nat) (x : Nat → Int32) (y : Nat → Int64) (f : Nat → Int32) (row : Nat) (hrow : row + 539 ≤ 66836)
    (hex : ∀ (H : Heap) (locs : List Loc) (ls : Array Slot), va_P D classes (cat [[(h, .inr (13, mF q x y))], [(q 2, .inl (kA 0, 66836, .inl (clr f row (539))))]]) H → va_D A (cat [[(h, .inr (13, mF q x y))], [(q 2, .inl (kA 0, 66836, .inl (clr f row (539))))]]) → va_S A s.heap H locs → lv_has ls 3 [(2, .int (nI (539))), (0, .ref h), (1, .int (nI row))] → W p l e R s m args below meth c H locs cells slots Q (F0 m 24 ls [])) :
    ∀ (k i : Nat), i + k = 539 → ∀ (H : Heap) (locs : List Loc) (ls : Array Slot), va_P D classes (cat [[(h, .inr (13, mF q x y))], [(q 2, .inl (kA 0, 66836, .inl (clr f row (i))))]]) H → va_D A (cat [[(h, .inr (13, mF q x y))], [(q 2, .inl (kA 0, 66836, .inl (clr f row (i))))]]) → va_S A s.heap H locs → lv_has ls 3 [(2, .int (nI (i))), (0, .ref h), (1, .int (nI row))] → W p l e R s m args below meth c H locs cells slots Q (F0 m 2 ls []) := by
  obtain ⟨hx, hb, hml, hown, hts, hr, hlk, hnm⟩ := id X
  intro k
  induction k with
  | zero =>
    intro i hi H locs ls hP hD hS hl
    have hi : i = 539 := hi
    subst hi
    refine lv_iload_n (pc := 2) hx hb d_Mo_clear_2 rfl (lv_at hl 0 rfl) ?_
    refine lv_sipush (pc := 3) (v := 539) hx hb d_Mo_clear_3 (by decide) ?_
    refine k_cge (pc := 6) (x := 539) (y := 539) (tgt := 24) hx hb (by decide) (by decide) d_Mo_clear_6 (by decide) (fun c1 => ?_) (fun c1 => absurd c1 (by omega))
    exact hex H locs ls hP hD hS hl
  | succ k ih =>
    intro i hi H locs ls hP hD hS hl
    have hlt : i < 539 := by omega
    refine lv_iload_n (pc := 2) hx hb d_Mo_clear_2 rfl (lv_at hl 0 rfl) ?_
    refine lv_sipush (pc := 3) (v := 539) hx hb d_Mo_clear_3 (by decide) ?_
    refine k_cge (pc := 6) (x := i) (y := 539) (tgt := 24) hx hb (by omega) (by decide) d_Mo_clear_6 (by decide) (fun c1 => absurd c1 (by omega)) (fun c1 => ?_)
    refine lv_aload_n (pc := 9) hx hb d_Mo_clear_9 rfl (lv_at hl 1 rfl) ?_
    refine k_get (pc := 10) X hK hP 0 rfl rfl i_Mo 2 (by decide) wm_2435 rfl rfl d_Mo_clear_10 ?_
    refine lv_iload_n (pc := 13) hx hb d_Mo_clear_13 rfl (lv_at hl 2 rfl) ?_
    refine lv_iload_n (pc := 14) hx hb d_Mo_clear_14 rfl (lv_at hl 0 rfl) ?_
    refine k_add (pc := 15) (x := row) (y := i) hx hb d_Mo_clear_15 ?_
    refine lv_iconst (pc := 16) (v := 0) hx hb d_Mo_clear_16 (by decide) ?_
    refine k_ist (pc := 17) hx hb hK hP hD hS 1 0 rfl rfl (row + i) rfl (by omega) (by decide) d_Mo_clear_17 (fun H locs hP hD hS => ?_)
    have hP : va_P D classes (cat [[(h, .inr (13, mF q x y))], [(q 2, .inl (kA 0, 66836, .inl (upd (clr f row i) (row + i) 0)))]]) H := hP
    have hD : va_D A (cat [[(h, .inr (13, mF q x y))], [(q 2, .inl (kA 0, 66836, .inl (upd (clr f row i) (row + i) 0)))]]) := hD
    rw [clr_s] at hP hD
    refine lv_iinc (pc := 18) (v := nI (i + 1)) (lv' := [(2, .int (nI (i + 1))), (0, .ref h), (1, .int (nI row))]) hx hb d_Mo_clear_18 hl (k := 0) rfl (nI_add _ 1) (by decide) rfl (fun ls hl => ?_)
    refine lv_goto (pc := 21) (tgt := 2) hx hb d_Mo_clear_21 (by decide) ?_
    exact ih (i + 1) (by omega) H locs ls hP hD hS hl
set_option maxRecDepth 100000 in
set_option maxHeartbeats 4000000 in
/-- clear(row) -/
theorem c_Mo_clear (l : Launch) (D : va_G) (kA : Nat → ClassId) (h : Nat) (q : Nat → Nat) (x : Nat → Int32) (y : Nat → Int64) (f : Nat → Int32) (row : Nat) (hrow : row + 539 ≤ 66836) : Cv l y_Mo_clear z_Mo_clear { frames := 0, cells := 0, slots := 0, locals := 0 } D classes (TY kA) [.ref h, .int (nI row)] [[(h, .inr (13, mF q x y))], [(q 2, .inl (kA 0, 66836, .inl f))]] (fun _ : Unit => True) (fun _ => [[(h, .inr (13, mF q x y))], [(q 2, .inl (kA 0, 66836, .inl (upd (upd (clr f row 539) (row + 2) 1) (row + 531) (-1))))]]) 0 0 := by
  intro sz
  refine k_met (cc := b_Mo_clear) (maxL := 3) (ret := none) (by decide) rfl (Nat.le_of_ble_eq_true rfl) (fun p e s m below meth c ls X hl hB => ?_)
  obtain ⟨hsz, hP, hK, hD0, hN⟩ := hB
  subst hsz
  have hD := hD0.self (sz := s.heap.size)
  generalize hAe : va_A (cat [[(h, .inr (13, mF q x y))], [(q 2, .inl (kA 0, 66836, .inl f))]]) s.heap.size = A at hD ⊢
  have hA : ∀ q : Nat, s.heap.size ≤ q → A q := fun q h => by rw [← hAe]; exact Or.inr h
  have hS : va_S A s.heap s.heap [] := va_S.rf
  obtain ⟨hx, hb, hml, hown, hts, hr, hlk, hnm⟩ := id X
  have hl : lv_has ls 3 [(0, .ref h), (1, .int (nI row))] := hl
  have hP : va_P D classes (cat [[(h, .inr (13, mF q x y))], [(q 2, .inl (kA 0, 66836, .inl f))]]) s.heap := hP
  have hK : va_K D classes (TY kA) s := hK
  refine lv_iconst (pc := 0) (v := 0) hx hb d_Mo_clear_0 (by decide) ?_
  refine lv_istore_n (pc := 1) (lv' := [(2, .int 0), (0, .ref h), (1, .int (nI row))]) hx hb d_Mo_clear_1 rfl hl (by decide) rfl (fun ls hl => ?_)
  refine lp_Mo_clear X hK h q x y f row hrow (fun H locs ls hP hD hS hl => ?_) 539 0 (by omega) _ _ ls (by rw [clr_0]; exact hP) (by rw [clr_0]; exact hD) hS hl
  refine lv_aload_n (pc := 24) hx hb d_Mo_clear_24 rfl (lv_at hl 1 rfl) ?_
  refine k_get (pc := 25) X hK hP 0 rfl rfl i_Mo 2 (by decide) wm_2435 rfl rfl d_Mo_clear_25 ?_
  refine lv_iload_n (pc := 28) hx hb d_Mo_clear_28 rfl (lv_at hl 2 rfl) ?_
  refine lv_iconst (pc := 29) (v := 2) hx hb d_Mo_clear_29 (by decide) ?_
  refine k_add (pc := 30) (x := row) (y := 2) hx hb d_Mo_clear_30 ?_
  refine lv_iconst (pc := 31) (v := 1) hx hb d_Mo_clear_31 (by decide) ?_
  refine k_ist (pc := 32) hx hb hK hP hD hS 1 0 rfl rfl (row + 2) rfl (by omega) (by decide) d_Mo_clear_32 (fun H locs hP hD hS => ?_)
  have hP : va_P D classes (cat [[(h, .inr (13, mF q x y))], [(q 2, .inl (kA 0, 66836, .inl (upd (clr f row 539) (row + 2) 1)))]]) H := hP
  have hD : va_D A (cat [[(h, .inr (13, mF q x y))], [(q 2, .inl (kA 0, 66836, .inl (upd (clr f row 539) (row + 2) 1)))]]) := hD
  refine lv_aload_n (pc := 33) hx hb d_Mo_clear_33 rfl (lv_at hl 1 rfl) ?_
  refine k_get (pc := 34) X hK hP 0 rfl rfl i_Mo 2 (by decide) wm_2435 rfl rfl d_Mo_clear_34 ?_
  refine lv_iload_n (pc := 37) hx hb d_Mo_clear_37 rfl (lv_at hl 2 rfl) ?_
  refine lv_sipush (pc := 38) (v := 531) hx hb d_Mo_clear_38 (by decide) ?_
  refine k_add (pc := 41) (x := row) (y := 531) hx hb d_Mo_clear_41 ?_
  refine lv_iconst (pc := 42) (v := -1) hx hb d_Mo_clear_42 (by decide) ?_
  refine k_ist (pc := 43) hx hb hK hP hD hS 1 0 rfl rfl (row + 531) rfl (by omega) (by decide) d_Mo_clear_43 (fun H locs hP hD hS => ?_)
  have hP : va_P D classes (cat [[(h, .inr (13, mF q x y))], [(q 2, .inl (kA 0, 66836, .inl (upd (upd (clr f row 539) (row + 2) 1) (row + 531) ((-1)))))]]) H := hP
  have hD : va_D A (cat [[(h, .inr (13, mF q x y))], [(q 2, .inl (kA 0, 66836, .inl (upd (upd (clr f row 539) (row + 2) 1) (row + 531) ((-1)))))]]) := hD
  refine W.widen (k := 0) (n := 0) (Nat.le_of_ble_eq_true rfl) (Nat.le_of_ble_eq_true rfl) ?_
  exact W.vret hx hb hr (fun t ht hW => ⟨⟨(), rfl, trivial, by rw [ht]; exact hP, va_K.moved hW.alike hK, hD⟩, hS.F ht⟩) hS.2.2 d_Mo_clear_44
