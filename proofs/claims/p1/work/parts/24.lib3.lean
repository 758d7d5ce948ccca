/-- an object of many fields: its fields as a function -/
def mG (n : Nat) (r : Nat → Value) : List Value := (List.range n).map r
def rup (r : Nat → Value) (k : Nat) (v : Value) : Nat → Value := fun j => if j = k then v else r j
theorem mG_set (n : Nat) (r : Nat → Value) (k : Nat) (v : Value) : (mG n r).set k v = mG n (rup r k v) := by
  refine List.ext_getElem? (fun i => ?_)
  unfold mG
  rw [List.getElem?_set, List.getElem?_map, List.getElem?_map]
  by_cases h : k = i
  · subst h
    rw [if_pos rfl]
    by_cases hk : k < n
    · rw [if_pos (by rw [List.length_map, List.length_range]; exact hk), List.getElem?_range hk]
      show some v = some (rup r k v k)
      simp [rup]
    · rw [if_neg (by rw [List.length_map, List.length_range]; exact hk), List.getElem?_eq_none (by rw [List.length_range]; omega)]; rfl
  · rw [if_neg h]
    by_cases hi : i < n
    · rw [List.getElem?_range hi]
      show some (r i) = some (rup r k v i)
      have h2 : ¬ i = k := fun e => h e.symm
      simp [rup, h2]
    · rw [List.getElem?_eq_none (by rw [List.length_range]; omega)]; rfl
section K3L
variable {p : Program} {l : Launch} {e : Env} {R : Room} {s : State} {m : MethodId} {args : Array Value} {below : List Frame} {meth : Method} {c : Code} {H : Heap} {locs : List Loc} {cells slots : Nat} {Q : State → Prop}
  {D : va_G} {cl : List vw_C} {tys : List (ClassId × FieldType)} {w : va_W} {A : Nat → Prop} {cc : ByteArray} {nL : Nat} {ret : Option FieldType} {own nm : String} {pc : Nat} {ls : Array Slot} {rest : List Value} {a : Nat}
theorem k_putG (X : cx p s m args meth c cc nL ret own nm) {ci : Nat} {r : Nat → Value} {C : String} {T : u_T} {N : Nat} (hK : va_K D cl tys s) (hP : va_P D cl ((a, .inr (ci, mG N r)) :: w) H) (hD : va_D A ((a, .inr (ci, mG N r)) :: w)) (hS : va_S A s.heap H locs) (hc : cl[ci]? = some (C, T, N)) (hi : ∀ w ∈ u_ws C T N, w ∈ lw_g) (ty0 : Nat → FieldType) (hty : ∀ k, k < N → parseFieldDescriptor (T k).2.2.1 = some (ty0 k)) (hnm : ∀ a, a < N → ∀ b, b < N → a ≠ b → (T a).2.1 ≠ (T b).2.1) (k : Nat) (hk : k < N) {index : Nat}
    (hl : Cond.fieldLink own index C (T k).2.1 (T k).2.2.1 ∈ lw_g) (ho : (T k).1 = C) (hfin : (T k).2.2.2 = false ∨ (nm = "<init>" ∧ C = own)) {v : Value} (hn : narrow (ty0 k) v = v) (hfit : fits (ty0 k) v = true) (hdg : decode cc pc = .ok (.putfield index, 3))
    (kk : ∀ (H1 : Heap) (locs1 : List Loc), va_P D cl ((a, .inr (ci, mG N (rup r k v))) :: w) H1 → va_D A ((a, .inr (ci, mG N (rup r k v))) :: w) → va_S A s.heap H1 locs1 → W p l e R s m args below meth c H1 locs1 cells slots Q (F0 m (pc + 3) ls rest)) : W p l e R s m args below meth c H locs cells slots Q (F0 m pc ls (v :: .ref a :: rest)) :=
  k_put X hK hP hD hS 0 rfl hc hi ty0 hty hnm k hk hl ho hfin hn hfit (by unfold mG; rw [List.length_map, List.length_range]; exact hk) hdg (fun H1 locs1 h1 h2 h3 => kk H1 locs1 (by rw [← mG_set]; exact h1) (by rw [← mG_set]; exact h2) h3)
theorem k_newC (X : cx p s m args meth c cc nL ret own nm) {atype : ArrayType} {ty : FieldType} (hty : newarray.typeOf atype = ty) (hp : refKind ty = false) (hw : Cond.arrayClass (newarray.typeOf atype) ∈ lw_g) {o : Nat × va_E} (hK : va_K D cl tys s) (hP : va_P D cl (o :: w) H) (hD : va_D A (o :: w)) (hS : va_S A s.heap H locs) (hA : ∀ q, s.heap.size ≤ q → A q) (t0 : Nat) {cA : ClassId} (ht : tys[t0]? = some (cA, ty))
    {n : Int32} {N' : Nat} {a0 : vp_A} (ha : ∀ cA : ClassId, vp_cell cA a0 = arrV cA N' (fun _ => defaultValue ty)) (hn : ¬ n < 0) (hN : n.toNatClampNeg = N') (hbytes : N' * componentBytes ty ≤ 536870912) (hcells : cells + 1 ≤ R.cells) (hslots : slots + N' ≤ R.slots) (hdg : decode cc pc = .ok (.newarray atype, 2))
    (kk : ∀ (q : Nat) (H1 : Heap), va_P D cl (o :: (q, .inl (cA, a0)) :: w) H1 → va_D A (o :: (q, .inl (cA, a0)) :: w) → va_S A s.heap H1 locs → W p l e R s m args below meth c H1 locs (cells + 1) (slots + N') Q (F0 m (pc + 2) ls (.ref q :: rest))) : W p l e R s m args below meth c H locs cells slots Q (F0 m pc ls (.int n :: rest)) := by
  have e0 : cat [o :: w] = o :: w := List.append_nil _
  refine k_newa X hty hp hw (sg := [o :: w]) hK (by rw [e0]; exact hP) (by rw [e0]; exact hD) hS hA t0 ht ha hn hN hbytes hcells hslots hdg (fun q H1 h1 h2 h3 => ?_)
  have e1 : cat ([o :: w] ++ [[(q, .inl (cA, a0))]]) = o :: (w ++ [(q, .inl (cA, a0))]) := rfl
  rw [e1] at h1 h2
  have hpm : (o :: (w ++ [(q, .inl (cA, a0))])).Perm (o :: (q, .inl (cA, a0)) :: w) := List.Perm.cons o List.perm_append_comm
  exact kk q H1 (vP_perm hpm h1) (vD_perm hpm h2) h3
end K3L
