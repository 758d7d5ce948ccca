abbrev b_jArr_fill1 : ByteArray := prog_24_method_103_code
def y_jArr_fill1 : MethodName := ⟨"java/util/Arrays", "fill", "([II)V"⟩
abbrev z_jArr_fill1 : List Cond := Cond.code y_jArr_fill1 b_jArr_fill1 4 none :: lw_g
theorem d_jArr_fill1_0 : decode b_jArr_fill1 0 = .ok (.iconst 0, 1) := by decide +kernel
theorem d_jArr_fill1_1 : decode b_jArr_fill1 1 = .ok (.istore_n 2, 1) := by decide +kernel
theorem d_jArr_fill1_2 : decode b_jArr_fill1 2 = .ok (.aload_n 0, 1) := by decide +kernel
theorem d_jArr_fill1_3 : decode b_jArr_fill1 3 = .ok (.arraylength, 1) := by decide +kernel
theorem d_jArr_fill1_4 : decode b_jArr_fill1 4 = .ok (.istore_n 3, 1) := by decide +kernel
theorem d_jArr_fill1_5 : decode b_jArr_fill1 5 = .ok (.iload_n 2, 1) := by decide +kernel
theorem d_jArr_fill1_6 : decode b_jArr_fill1 6 = .ok (.iload_n 3, 1) := by decide +kernel
theorem d_jArr_fill1_7 : decode b_jArr_fill1 7 = .ok (.if_icmp .ge 13, 3) := by decide +kernel
theorem d_jArr_fill1_10 : decode b_jArr_fill1 10 = .ok (.aload_n 0, 1) := by decide +kernel
theorem d_jArr_fill1_11 : decode b_jArr_fill1 11 = .ok (.iload_n 2, 1) := by decide +kernel
theorem d_jArr_fill1_12 : decode b_jArr_fill1 12 = .ok (.iload_n 1, 1) := by decide +kernel
theorem d_jArr_fill1_13 : decode b_jArr_fill1 13 = .ok (.iastore, 1) := by decide +kernel
theorem d_jArr_fill1_14 : decode b_jArr_fill1 14 = .ok (.iinc 2 1, 3) := by decide +kernel
theorem d_jArr_fill1_17 : decode b_jArr_fill1 17 = .ok (.goto (-12), 3) := by decide +kernel
theorem d_jArr_fill1_20 : decode b_jArr_fill1 20 = .ok (.return_, 1) := by decide +kernel
set_option maxRecDepth 100000 in
set_option maxHeartbeats 4000000 in
/-- Arrays.fill(int[], int) -/
theorem c_fillI (l : Launch) (D : va_G) (tys : List (ClassId × FieldType)) (t0 : Nat) (cA : ClassId) (ht0 : tys[t0]? = some (cA, .int)) (a n : Nat) (hn : n < 2 ^ 31) (f : Nat → Int32) (v : Int32) :
    Cv l y_jArr_fill1 z_jArr_fill1 { frames := 0, cells := 0, slots := 0, locals := 0 } D classes tys [.ref a, .int v] [[(a, .inl (cA, n, .inl f))]] (fun _ : Unit => True) (fun _ => [[(a, .inl (cA, n, .inl (fl f n v)))]]) 0 0 := by
  intro sz
  refine k_met (cc := b_jArr_fill1) (maxL := 4) (ret := none) (by decide) rfl (Nat.le_of_ble_eq_true rfl) (fun p e s m below meth c ls X hl hB => ?_)
  obtain ⟨hsz, hP, hK, hD0, hN⟩ := hB
  subst hsz
  have hD := hD0.self (sz := s.heap.size)
  generalize hAe : va_A (cat [[(a, .inl (cA, n, .inl f))]]) s.heap.size = A at hD ⊢
  have hA : ∀ q : Nat, s.heap.size ≤ q → A q := fun q h => by rw [← hAe]; exact Or.inr h
  have hS : va_S A s.heap s.heap [] := va_S.rf
  obtain ⟨hx, hb, hml, hown, hts, hr, hlk, hnm⟩ := id X
  have hl : lv_has ls 4 [(0, .ref a), (1, .int v)] := hl
  refine lv_iconst (pc := 0) (v := 0) hx hb d_jArr_fill1_0 (by decide) ?_
  refine lv_istore_n (pc := 1) (lv' := [(2, .int 0), (0, .ref a), (1, .int v)]) hx hb d_jArr_fill1_1 rfl hl (by decide) rfl (fun ls hl => ?_)
  refine lv_aload_n (pc := 2) hx hb d_jArr_fill1_2 rfl (lv_at hl 1 rfl) ?_
  refine va_alen (pc := 3) hx hb hK hP 0 t0 rfl ht0 (v := nI n) rfl d_jArr_fill1_3 ?_
  refine lv_istore_n (pc := 4) (lv' := [(3, .int (nI n)), (2, .int 0), (0, .ref a), (1, .int v)]) hx hb d_jArr_fill1_4 rfl hl (by decide) rfl (fun ls hl => ?_)
  have loop : ∀ (k i : Nat), i + k = n → ∀ (H : Heap) (locs : List Loc) (ls : Array Slot), va_P D classes [(a, .inl (cA, n, .inl (fl f i v)))] H → va_D A [(a, .inl (cA, n, .inl (fl f i v)))] → va_S A s.heap H locs → lv_has ls 4 [(3, .int (nI n)), (2, .int (nI i)), (0, .ref a), (1, .int v)] →
      W p l e { frames := 0, cells := 0, slots := 0, locals := 0 } s m [Value.ref a, Value.int v].toArray below meth c H locs 0 0 (MQ below (va_Qv (fun _ : Unit => True) (fun u t => wq D classes tys A (cat [[(a, .inl (cA, n, .inl (fl f n v)))]]) t) A) [Value.ref a, Value.int v].toArray s 0 0 A) (F0 m 5 ls []) := by
    intro k
    induction k with
    | zero =>
      intro i hi H locs ls hP hD hS hl
      have hi : i = n := hi
      subst hi
      refine lv_iload_n (pc := 5) hx hb d_jArr_fill1_5 rfl (lv_at hl 1 rfl) ?_
      refine lv_iload_n (pc := 6) hx hb d_jArr_fill1_6 rfl (lv_at hl 0 rfl) ?_
      refine lv_icmp_ge (pc := 7) (tgt := 20) hx hb d_jArr_fill1_7 (by decide) (fun _ => ?_) (fun c1 => absurd (nI_le (Nat.le_refl _) hn) c1)
      exact W.vret hx hb hr (fun t ht hW => ⟨⟨(), rfl, trivial, by rw [ht]; exact hP, va_K.moved hW.alike hK, hD⟩, hS.F ht⟩) hS.2.2 d_jArr_fill1_20
    | succ k ih =>
      intro i hi H locs ls hP hD hS hl
      have hlt : i < n := by omega
      refine lv_iload_n (pc := 5) hx hb d_jArr_fill1_5 rfl (lv_at hl 1 rfl) ?_
      refine lv_iload_n (pc := 6) hx hb d_jArr_fill1_6 rfl (lv_at hl 0 rfl) ?_
      refine lv_icmp_ge (pc := 7) (tgt := 20) hx hb d_jArr_fill1_7 (by decide) (fun c1 => absurd c1 (nI_ge hlt hn)) (fun _ => ?_)
      refine lv_aload_n (pc := 10) hx hb d_jArr_fill1_10 rfl (lv_at hl 2 rfl) ?_
      refine lv_iload_n (pc := 11) hx hb d_jArr_fill1_11 rfl (lv_at hl 1 rfl) ?_
      refine lv_iload_n (pc := 12) hx hb d_jArr_fill1_12 rfl (lv_at hl 3 rfl) ?_
      refine va_iast (pc := 13) hx hb hK hP hD hS 0 t0 rfl ht0 (vp_in_nI hlt hn) d_jArr_fill1_13 (fun H locs hP hD hS => ?_)
      rw [nI_clamp (by omega), fl_s] at hP hD
      refine lv_iinc (pc := 14) (v := nI (i + 1)) (lv' := [(2, .int (nI (i + 1))), (3, .int (nI n)), (0, .ref a), (1, .int v)]) hx hb d_jArr_fill1_14 hl (k := 1) rfl (by rw [← nI_1]; rfl) (by decide) rfl (fun ls hl => ?_)
      refine lv_goto (pc := 17) (tgt := 5) hx hb d_jArr_fill1_17 (by decide) ?_
      exact ih (i + 1) (by omega) H locs ls hP hD hS (lv_sub hl [1, 0, 2, 3] rfl)
  exact loop n 0 (by omega) _ _ ls (by rw [fl_0]; exact hP) (by rw [fl_0]; exact hD) hS hl

