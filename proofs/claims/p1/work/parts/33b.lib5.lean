theorem rr_at {g : Nat → Nat} {j : Nat} (hj : j < 4) : rr g j = some (g j) := by
  match j, hj with
  | 0, _ => rfl
  | 1, _ => rfl
  | 2, _ => rfl
  | 3, _ => rfl
  | j + 4, hj => omega
section K5L
variable {p : Program} {l : Launch} {e : Env} {R : Room} {s : State} {m : MethodId} {args : Array Value} {below : List Frame} {meth : Method} {c : Code} {H : Heap} {locs : List Loc} {cells slots : Nat} {Q : State → Prop} {D : va_G} {cl : List vw_C} {tys : List (ClassId × FieldType)} {ws : va_W} {cc : ByteArray} {pc : Nat} {ls : Array Slot} {rest : List Value} {a : Nat}
theorem k_ald (hx : p.tables.exec = Jvm.exec) (hb : c.code = cc) (hK : va_K D cl tys s) (hP : va_P D cl ws H) (q0 t0 : Nat) {cA : ClassId} {C : String} {n : Nat} {f : Nat → Option Nat} (ha : ws[q0]? = some (a, .inl (cA, n, .inr (.inr (.inr (.inr f)))))) (ht : tys[t0]? = some (cA, .object C)) {i : Int32} (j : Nat) (hi : i = nI j) (hj : j < n) (hn : n < 2 ^ 31) {v : Nat} (hv : f j = some v) (hdg : decode cc pc = .ok (.aaload, 1)) (kk : W p l e R s m args below meth c H locs cells slots Q (F0 m (pc + 1) ls (.ref v :: rest))) : W p l e R s m args below meth c H locs cells slots Q (F0 m pc ls (.int i :: .ref a :: rest)) := by
  subst hi
  refine va_aldq hx hb hK hP q0 t0 ha ht (vp_in_nI hj hn) hdg ?_
  rw [nI_clamp (by omega), hv]
  exact kk
end K5L
theorem place_ok {j : Nat} (hj : j < 4) : sp_Ho_isPlace (nI j) = 1 := by
  match j, hj with
  | 0, _ => decide
  | 1, _ => decide
  | 2, _ => decide
  | 3, _ => decide
  | j + 4, hj => omega
theorem placeM_ok {j : Nat} (hj : j < 4) : sp_Mo_isPlace (nI j) = 1 := by
  match j, hj with
  | 0, _ => decide
  | 1, _ => decide
  | 2, _ => decide
  | 3, _ => decide
  | j + 4, hj => omega
theorem place_iff (g : Int32) : sp_Ho_isPlace g = sp_Mo_isPlace g := by
  unfold sp_Ho_isPlace sp_Mo_isPlace sp_Mo_in
  by_cases h : g < 0
  · rw [if_pos h, if_pos h]
  · rw [if_neg h, if_neg h]
    have e : (4 ≤ g) = (3 < g) := by
      rw [Int32.le_iff_toInt_le, Int32.lt_iff_toInt_lt]
      show ((4 : Int) ≤ g.toInt) = ((3 : Int) < g.toInt)
      exact propext ⟨fun h => by omega, fun h => by omega⟩
    by_cases h4 : 4 ≤ g
    · rw [if_pos h4, if_pos (e ▸ h4)]
    · rw [if_neg h4, if_neg (e ▸ h4)]
theorem place_no (g : Int32) : sp_Ho_isPlace g = 0 ∨ ∃ j : Nat, j < 4 ∧ g = nI j := by
  rcases pk_ix g (n := 4) (by decide) with h | h | h
  · exact Or.inl (by unfold sp_Ho_isPlace; rw [if_pos h])
  · by_cases h0 : g < 0
    · exact Or.inl (by unfold sp_Ho_isPlace; rw [if_pos h0])
    · have h4 : (4 : Int32) ≤ g := h
      exact Or.inl (by unfold sp_Ho_isPlace; rw [if_neg h0, if_pos h4])
  · exact Or.inr h
abbrev Cl {S : Type} (l : Launch) (y : MethodName) (z : List Cond) (rm : Room) (D : va_G) (cl : List vw_C) (tys : List (ClassId × FieldType)) (av : List Value) (sg : List va_W) (post : Int64 → S → Prop) (sf : S → List va_W) (mc ms : Nat) : Prop :=
  ∀ sz : Nat, Met l y z rm (va_Pc av (wp D cl tys sz (cat sg))) (va_Ql post (fun u t => wq D cl tys (va_A (cat sg) sz) (cat (sf u)) t) (va_A (cat sg) sz)) mc ms (va_A (cat sg) sz)
