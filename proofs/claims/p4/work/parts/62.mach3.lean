/-- constants that an instruction pushes -/
def pk_c (i : ClassFile.Instr) (len : Nat) : Option (Value × tv_T) := match i, len with
  | .iconst n, 1 => some (.int (Int32.ofInt n), (0, (Int32.ofInt n).toInt, (Int32.ofInt n).toInt, []))
  | .bipush n, 2 => some (.int (Int8.ofInt n).toInt32, (0, (Int8.ofInt n).toInt32.toInt, (Int8.ofInt n).toInt32.toInt, []))
  | .sipush n, 3 => some (.int (Int16.ofInt n).toInt32, (0, (Int16.ofInt n).toInt32.toInt, (Int16.ofInt n).toInt32.toInt, []))
  | .lconst n, 1 => some (.long (Int64.ofNat (n : Nat)), (1, (Int64.ofNat (n : Nat)).toInt, (Int64.ofNat (n : Nat)).toInt, []))
  | .aconst_null, 1 => some (.null, (3, 0, 0, []))
  | _, _ => none
theorem pk_ty {ta : Nat → Option Nat} {i : ClassFile.Instr} {len : Nat} {v : Value} {t : tv_T} (h : pk_c i len = some (v, t)) : tv_ok ta t v := by
  unfold pk_c at h
  split at h <;> first | (cases h; exact Or.inl ⟨rfl, _, rfl, Int.le_refl _, Int.le_refl _⟩) | (cases h; exact Or.inr (Or.inl ⟨rfl, _, rfl, Int.le_refl _, Int.le_refl _⟩)) | (cases h; exact Or.inr (Or.inr (Or.inr (Or.inl ⟨rfl, Or.inl rfl⟩)))) | cases h
/-- loads and stores: which slot, which kind -/
def ld_c (i : ClassFile.Instr) (len : Nat) : Option (Nat × Nat) := match i, len with
  | .iload_n k, 1 => some (k, 0)
  | .iload k, 2 => some (k, 0)
  | .lload_n k, 1 => some (k, 1)
  | .lload k, 2 => some (k, 1)
  | .aload_n k, 1 => some (k, 2)
  | .aload k, 2 => some (k, 2)
  | _, _ => none
def st_c (i : ClassFile.Instr) (len : Nat) : Option (Nat × Nat) := match i, len with
  | .istore_n k, 1 => some (k, 0)
  | .istore k, 2 => some (k, 0)
  | .lstore_n k, 1 => some (k, 1)
  | .lstore k, 2 => some (k, 1)
  | .astore_n k, 1 => some (k, 2)
  | .astore k, 2 => some (k, 2)
  | _, _ => none
/-- what is of a kind -/
def kd_ok (k : Nat) (v : Value) : Prop := (k = 0 ∧ ∃ x : Int32, v = .int x) ∨ (k = 1 ∧ ∃ x : Int64, v = .long x) ∨ (k = 2 ∧ ∃ x : Nat, v = .ref x)
theorem kd_of {ta : Nat → Option Nat} {t : tv_T} {v : Value} (h : tv_ok ta t v) (hk : t.1 < 3) : kd_ok t.1 v := by
  rcases h with ⟨a, x, e, _⟩ | ⟨a, x, e, _⟩ | ⟨a, x, _, e, _⟩ | ⟨a, _⟩ | ⟨a, _⟩ | ⟨a, _⟩
  · exact Or.inl ⟨a, x, e⟩
  · exact Or.inr (Or.inl ⟨a, x, e⟩)
  · exact Or.inr (Or.inr ⟨a, x, e⟩)
  · omega
  · omega
  · omega
/-- two ints to an int -/
def op_i (i : ClassFile.Instr) : Option ((Int32 → Int32 → Int32) × (tv_T → tv_T → tv_T)) := match i with
  | .iadd => some (fun x y => x + y, fun t u => iv_mk (t.2.1 + u.2.1) (t.2.2.1 + u.2.2.1))
  | .isub => some (fun x y => x - y, fun t u => iv_mk (t.2.1 - u.2.2.1) (t.2.2.1 - u.2.1))
  | .imul => some (fun x y => x * y, fun t u => iv_mk (mn2 (mn2 (t.2.1 * u.2.1) (t.2.1 * u.2.2.1)) (mn2 (t.2.2.1 * u.2.1) (t.2.2.1 * u.2.2.1))) (mx2 (mx2 (t.2.1 * u.2.1) (t.2.1 * u.2.2.1)) (mx2 (t.2.2.1 * u.2.1) (t.2.2.1 * u.2.2.1))))
  | .iand => some (fun x y => x &&& y, iv_and)
  | .ior => some (fun x y => x ||| y, iv_or)
  | .ixor => some (fun x y => x ^^^ y, iv_or)
  | .ishl => some (fun x y => x <<< (y &&& 31), fun _ _ => iv_top)
  | .ishr => some (fun x y => x >>> (y &&& 31), fun _ _ => iv_top)
  | .iushr => some (fun x y => (x.toUInt32 >>> (y.toUInt32 &&& Int32.toUInt32 31)).toInt32, fun _ _ => iv_top)
  | _ => none
theorem op_i_ty {ta : Nat → Option Nat} {i : ClassFile.Instr} {f : Int32 → Int32 → Int32} {g : tv_T → tv_T → tv_T} (h : op_i i = some (f, g)) {t u : tv_T} {x y : Int32} (h1 : t.2.1 ≤ x.toInt) (h2 : x.toInt ≤ t.2.2.1) (h3 : u.2.1 ≤ y.toInt) (h4 : y.toInt ≤ u.2.2.1) : tv_ok ta (g t u) (.int (f x y)) := by
  unfold op_i at h
  split at h
  · cases h; exact iv_mk_ok (Int32.toInt_add x y) (by omega) (by omega)
  · cases h; exact iv_mk_ok (Int32.toInt_sub x y) (by omega) (by omega)
  · cases h; exact iv_mk_ok (Int32.toInt_mul x y) (mul_iv h1 h2 h3 h4).1 (mul_iv h1 h2 h3 h4).2
  · cases h; exact iv_and_ok h1 h2 h3 h4
  · cases h; exact iv_or_ok _ (Or.inl (by rw [Int32.toBitVec_or, BitVec.toNat_or])) h1 h2 h3 h4
  · cases h; exact iv_or_ok _ (Or.inr (by rw [Int32.toBitVec_xor, BitVec.toNat_xor])) h1 h2 h3 h4
  · cases h; exact iv_any _
  · cases h; exact iv_any _
  · cases h; exact iv_any _
  · cases h
/-- two longs to a long -/
def op_l (i : ClassFile.Instr) : Option ((Int64 → Int64 → Int64) × (tv_T → tv_T → tv_T)) := match i with
  | .ladd => some (fun x y => x + y, fun t u => lv_mk (t.2.1 + u.2.1) (t.2.2.1 + u.2.2.1))
  | .lsub => some (fun x y => x - y, fun t u => lv_mk (t.2.1 - u.2.2.1) (t.2.2.1 - u.2.1))
  | .lmul => some (fun x y => x * y, fun t u => lv_mk (mn2 (mn2 (t.2.1 * u.2.1) (t.2.1 * u.2.2.1)) (mn2 (t.2.2.1 * u.2.1) (t.2.2.1 * u.2.2.1))) (mx2 (mx2 (t.2.1 * u.2.1) (t.2.1 * u.2.2.1)) (mx2 (t.2.2.1 * u.2.1) (t.2.2.1 * u.2.2.1))))
  | .land => some (fun x y => x &&& y, fun _ _ => lv_top)
  | .lor => some (fun x y => x ||| y, fun _ _ => lv_top)
  | .lxor => some (fun x y => x ^^^ y, fun _ _ => lv_top)
  | _ => none
theorem op_l_ty {ta : Nat → Option Nat} {i : ClassFile.Instr} {f : Int64 → Int64 → Int64} {g : tv_T → tv_T → tv_T} (h : op_l i = some (f, g)) {t u : tv_T} {x y : Int64} (h1 : t.2.1 ≤ x.toInt) (h2 : x.toInt ≤ t.2.2.1) (h3 : u.2.1 ≤ y.toInt) (h4 : y.toInt ≤ u.2.2.1) : tv_ok ta (g t u) (.long (f x y)) := by
  unfold op_l at h
  split at h
  · cases h; exact lv_mk_ok (Int64.toInt_add x y) (by omega) (by omega)
  · cases h; exact lv_mk_ok (Int64.toInt_sub x y) (by omega) (by omega)
  · cases h; exact lv_mk_ok (Int64.toInt_mul x y) (mul_iv h1 h2 h3 h4).1 (mul_iv h1 h2 h3 h4).2
  · cases h; exact lv_any _
  · cases h; exact lv_any _
  · cases h; exact lv_any _
  · cases h
section M3
variable {p : Program} {l : Launch} {e : Env} {R : Room} {s : State} {m : MethodId} {args : Array Value} {below : List Frame} {meth : Method} {c : Code} {H : Heap} {locs : List Loc} {cells slots : Nat} {Q : State → Prop} {cc : ByteArray} {pc : Nat} {ls : Array Slot} {rest : List Value} {i : ClassFile.Instr} {len : Nat}
theorem pk_go (hx : p.tables.exec = Jvm.exec) (hb : c.code = cc) (hd : decode cc pc = .ok (i, len)) {v : Value} {t : tv_T} (h : pk_c i len = some (v, t)) (k : W p l e R s m args below meth c H locs cells slots Q (F0 m (pc + len) ls (v :: rest))) : W p l e R s m args below meth c H locs cells slots Q (F0 m pc ls rest) := by
  unfold pk_c at h
  split at h
  · cases h; exact lv_iconst hx hb hd rfl k
  · cases h; exact lv_bipush hx hb hd rfl k
  · cases h; exact lv_sipush hx hb hd rfl k
  · cases h; exact lv_lconst hx hb hd rfl k
  · cases h; exact lv_null hx hb hd k
  · cases h
theorem ld_go (hx : p.tables.exec = Jvm.exec) (hb : c.code = cc) (hd : decode cc pc = .ok (i, len)) {j kd : Nat} (h : ld_c i len = some (j, kd)) {v : Value} (hl : ls[j]? = some (.val v)) (hv : kd_ok kd v) (k : W p l e R s m args below meth c H locs cells slots Q (F0 m (pc + len) ls (v :: rest))) : W p l e R s m args below meth c H locs cells slots Q (F0 m pc ls rest) := by
  have hv0 : kd = 0 → ∃ x : Int32, v = .int x := fun q => by subst q; rcases hv with h | h | h; exact h.2; exact absurd h.1 (by decide); exact absurd h.1 (by decide)
  have hv1 : kd = 1 → ∃ x : Int64, v = .long x := fun q => by subst q; rcases hv with h | h | h; exact absurd h.1 (by decide); exact h.2; exact absurd h.1 (by decide)
  have hv2 : kd = 2 → ∃ x : Nat, v = .ref x := fun q => by subst q; rcases hv with h | h | h; exact absurd h.1 (by decide); exact absurd h.1 (by decide); exact h.2
  unfold ld_c at h
  split at h
  · cases h; obtain ⟨x, rfl⟩ := hv0 rfl; exact lv_iload_n hx hb hd rfl hl k
  · cases h; obtain ⟨x, rfl⟩ := hv0 rfl; exact lv_iload hx hb hd hl k
  · cases h; obtain ⟨x, rfl⟩ := hv1 rfl; exact lv_lload_n hx hb hd rfl hl k
  · cases h; obtain ⟨x, rfl⟩ := hv1 rfl; exact lv_lload hx hb hd hl k
  · cases h; obtain ⟨x, rfl⟩ := hv2 rfl; exact lv_aload_n hx hb hd rfl hl k
  · cases h; obtain ⟨x, rfl⟩ := hv2 rfl; exact lv_aload hx hb hd hl k
  · cases h
def st_keep (j kd : Nat) (q : Nat × Value) : Bool := !(q.1 == j) && !(kd == 1 && q.1 == j + 1) && !(q.1 + 1 == j && q.2.category == 2)
theorem st_go (hx : p.tables.exec = Jvm.exec) (hb : c.code = cc) (hd : decode cc pc = .ok (i, len)) {j kd nL : Nat} (h : st_c i len = some (j, kd)) {v : Value} (hv : kd_ok kd v) {lv : List (Nat × Value)} (hl : lv_has ls nL lv) (hn : j + 1 < nL ∨ (kd ≠ 1 ∧ j < nL))
    (k : ∀ ls' : Array Slot, lv_has ls' nL ((j, v) :: lv.filter (st_keep j kd)) → W p l e R s m args below meth c H locs cells slots Q (F0 m (pc + len) ls' rest)) : W p l e R s m args below meth c H locs cells slots Q (F0 m pc ls (v :: rest)) := by
  have hv0 : kd = 0 → ∃ x : Int32, v = .int x := fun q => by subst q; rcases hv with h | h | h; exact h.2; exact absurd h.1 (by decide); exact absurd h.1 (by decide)
  have hv1 : kd = 1 → ∃ x : Int64, v = .long x := fun q => by subst q; rcases hv with h | h | h; exact absurd h.1 (by decide); exact h.2; exact absurd h.1 (by decide)
  have hv2 : kd = 2 → ∃ x : Nat, v = .ref x := fun q => by subst q; rcases hv with h | h | h; exact absurd h.1 (by decide); exact absurd h.1 (by decide); exact h.2
  have f1 : kd ≠ 1 → (fun q : Nat × Value => !(q.1 == j) && !(q.1 + 1 == j && q.2.category == 2)) = st_keep j kd := fun hk => by
    funext q
    have e : (kd == 1) = false := by simp [hk]
    simp [st_keep, e]
  have f2 : kd = 1 → (fun q : Nat × Value => !(q.1 == j) && (!(q.1 == j + 1) && !(q.1 + 1 == j && q.2.category == 2))) = st_keep j kd := fun hk => by
    funext q
    have e : (kd == 1) = true := by simp [hk]
    simp [st_keep, e, Bool.and_assoc]
  have hn1 : kd ≠ 1 → j < nL := fun hk => by rcases hn with h | h; omega; exact h.2
  have hn2 : kd = 1 → j + 1 < nL := fun hk => by rcases hn with h | h; exact h; exact absurd hk h.1
  unfold st_c at h
  split at h
  · cases h; obtain ⟨x, rfl⟩ := hv0 rfl; exact lv_istore_n hx hb hd rfl hl (hn1 (by decide)) (by rw [f1 (by decide)]) k
  · cases h; obtain ⟨x, rfl⟩ := hv0 rfl; exact lv_istore hx hb hd hl (hn1 (by decide)) (by rw [f1 (by decide)]) k
  · cases h; obtain ⟨x, rfl⟩ := hv1 rfl; exact lv_lstore_n hx hb hd rfl hl (hn2 rfl) (by rw [f2 rfl]) k
  · cases h; obtain ⟨x, rfl⟩ := hv1 rfl; exact lv_lstore hx hb hd hl (hn2 rfl) (by rw [f2 rfl]) k
  · cases h; obtain ⟨x, rfl⟩ := hv2 rfl; exact lv_astore_n hx hb hd rfl hl (hn1 (by decide)) (by rw [f1 (by decide)]) k
  · cases h; obtain ⟨x, rfl⟩ := hv2 rfl; exact lv_astore hx hb hd hl (hn1 (by decide)) (by rw [f1 (by decide)]) k
  · cases h
theorem op_i_go (hx : p.tables.exec = Jvm.exec) (hb : c.code = cc) (hd : decode cc pc = .ok (i, 1)) {f : Int32 → Int32 → Int32} {g : tv_T → tv_T → tv_T} (h : op_i i = some (f, g)) {x y : Int32} (k : W p l e R s m args below meth c H locs cells slots Q (F0 m (pc + 1) ls (.int (f x y) :: rest))) : W p l e R s m args below meth c H locs cells slots Q (F0 m pc ls (.int y :: .int x :: rest)) := by
  unfold op_i at h
  split at h
  · cases h; exact lv_iadd hx hb hd k
  · cases h; exact lv_isub hx hb hd k
  · cases h; exact lv_imul hx hb hd k
  · cases h; exact lv_iand hx hb hd k
  · cases h; exact lv_ior hx hb hd k
  · cases h; exact lv_ixor hx hb hd k
  · cases h; exact lv_ishl hx hb hd k
  · cases h; exact lv_ishr hx hb hd k
  · cases h; exact lv_iushr hx hb hd rfl k
  · cases h
theorem op_l_go (hx : p.tables.exec = Jvm.exec) (hb : c.code = cc) (hd : decode cc pc = .ok (i, 1)) {f : Int64 → Int64 → Int64} {g : tv_T → tv_T → tv_T} (h : op_l i = some (f, g)) {x y : Int64} (k : W p l e R s m args below meth c H locs cells slots Q (F0 m (pc + 1) ls (.long (f x y) :: rest))) : W p l e R s m args below meth c H locs cells slots Q (F0 m pc ls (.long y :: .long x :: rest)) := by
  unfold op_l at h
  split at h
  · cases h; exact lv_ladd hx hb hd k
  · cases h; exact lv_lsub hx hb hd k
  · cases h; exact lv_lmul hx hb hd k
  · cases h; exact lv_land hx hb hd k
  · cases h; exact lv_lor hx hb hd k
  · cases h; exact lv_lxor hx hb hd k
  · cases h
end M3
