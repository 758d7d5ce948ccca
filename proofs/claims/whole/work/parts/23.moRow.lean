theorem wm_2420 : (Cond.code ({ cls := "DrawingHouseModel", name := "rowOf", desc := "(II)I" } : MethodName) prog_15_method_7_code (2 : Nat) (Option.some ClassFile.FieldType.int) : Cond) ∈ lw_g := lw_gi (lw_c11 (List.mem_of_getElem? (i := 20) rfl)) rfl
abbrev b_Mo_rowOf : ByteArray := prog_15_method_7_code
def y_Mo_rowOf : MethodName := ⟨"DrawingHouseModel", "rowOf", "(II)I"⟩
abbrev z_Mo_rowOf : List Cond := Cond.code y_Mo_rowOf b_Mo_rowOf 2 (some .int) :: lw_g
theorem d_Mo_rowOf_0 : decode b_Mo_rowOf 0 = .ok (.sipush 539, 3) := by decide +kernel
theorem d_Mo_rowOf_3 : decode b_Mo_rowOf 3 = .ok (.bipush 31, 2) := by decide +kernel
theorem d_Mo_rowOf_5 : decode b_Mo_rowOf 5 = .ok (.iload_n 0, 1) := by decide +kernel
theorem d_Mo_rowOf_6 : decode b_Mo_rowOf 6 = .ok (.imul, 1) := by decide +kernel
theorem d_Mo_rowOf_7 : decode b_Mo_rowOf 7 = .ok (.iload_n 1, 1) := by decide +kernel
theorem d_Mo_rowOf_8 : decode b_Mo_rowOf 8 = .ok (.iadd, 1) := by decide +kernel
theorem d_Mo_rowOf_9 : decode b_Mo_rowOf 9 = .ok (.imul, 1) := by decide +kernel
theorem d_Mo_rowOf_10 : decode b_Mo_rowOf 10 = .ok (.ireturn, 1) := by decide +kernel
set_option maxRecDepth 100000 in
set_option maxHeartbeats 4000000 in
/-- rowOf(g, k) -/
theorem c_Mo_rowOf (l : Launch) (D : va_G) (kA : Nat → ClassId) (g k : Nat) : Ci l y_Mo_rowOf z_Mo_rowOf { frames := 0, cells := 0, slots := 0, locals := 0 } D classes (TY kA) [.int (nI g), .int (nI k)] [] (fun r (_ : Unit) => r = nI (539 * (31 * g + k))) (fun _ => []) 0 0 := by
  intro sz
  refine k_met (cc := b_Mo_rowOf) (maxL := 2) (ret := (some .int)) (by decide) rfl (Nat.le_of_ble_eq_true rfl) (fun p e s m below meth c ls X hl hB => ?_)
  obtain ⟨hsz, hP, hK, hD0, hN⟩ := hB
  subst hsz
  have hD := hD0.self (sz := s.heap.size)
  generalize hAe : va_A (cat []) s.heap.size = A at hD ⊢
  have hA : ∀ q : Nat, s.heap.size ≤ q → A q := fun q h => by rw [← hAe]; exact Or.inr h
  have hS : va_S A s.heap s.heap [] := va_S.rf
  obtain ⟨hx, hb, hml, hown, hts, hr, hlk, hnm⟩ := id X
  have hl : lv_has ls 2 [(0, .int (nI g)), (1, .int (nI k))] := hl
  have hP : va_P D classes (cat []) s.heap := hP
  have hK : va_K D classes (TY kA) s := hK
  refine lv_sipush (pc := 0) (v := 539) hx hb d_Mo_rowOf_0 (by decide) ?_
  refine lv_bipush (pc := 3) (v := 31) hx hb d_Mo_rowOf_3 (by decide) ?_
  refine lv_iload_n (pc := 5) hx hb d_Mo_rowOf_5 rfl (lv_at hl 0 rfl) ?_
  refine k_mul (pc := 6) (x := 31) (y := g) hx hb d_Mo_rowOf_6 ?_
  refine lv_iload_n (pc := 7) hx hb d_Mo_rowOf_7 rfl (lv_at hl 1 rfl) ?_
  refine k_add (pc := 8) (x := 31 * g) (y := k) hx hb d_Mo_rowOf_8 ?_
  refine k_mul (pc := 9) (x := 539) (y := (31 * g) + k) hx hb d_Mo_rowOf_9 ?_
  refine W.widen (k := 0) (n := 0) (Nat.le_of_ble_eq_true rfl) (Nat.le_of_ble_eq_true rfl) ?_
  exact W.iret (v := nI (539 * (31 * g + k))) hx hb hr (fun t ht hW => ⟨⟨nI (539 * (31 * g + k)), (), rfl, rfl, by rw [ht]; exact hP, va_K.moved hW.alike hK, hD⟩, hS.F ht⟩) hS.2.2 d_Mo_rowOf_10
