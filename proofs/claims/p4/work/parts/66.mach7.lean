section M7
variable {p : Program} {l : Launch} {e : Env} {R : Room} {s : State} {m : MethodId} {args : Array Value} {below : List Frame} {meth : Method} {c : Code} {H : Heap} {locs : List Loc} {cells slots : Nat} {Q : State → Prop} {cc : ByteArray} {pc : Nat} {i : ClassFile.Instr} {len nL : Nat} {v0 : List Value} {ta : Nat → Option Nat} {ws : va_W} {y y' : sy_T}
theorem op_j_go {rest : List Value} {ls : Array Slot} (hx : p.tables.exec = Jvm.exec) (hb : c.code = cc) (hd : decode cc pc = .ok (i, 1)) {f : Int32 → Int32 → Int32} {g : tv_T → tv_T → tv_T} (h : op_j i = some (f, g)) {x y : Int32} (k : W p l e R s m args below meth c H locs cells slots Q (F0 m (pc + 1) ls (.int (f x y) :: rest))) : W p l e R s m args below meth c H locs cells slots Q (F0 m pc ls (.int y :: .int x :: rest)) := by
  unfold op_j at h
  split at h
  · cases h; exact lv_ishl hx hb hd k
  · cases h; exact lv_ishr hx hb hd k
  · exact op_i_go hx hb hd h k
/-- the two topmost values -/
theorem sy_two {vs st : List Value} {env : List tv_T} {a b : Nat} {r : List Nat} (he : sy_env ta env vs) (h : sy_st vs (b :: a :: r) st) {t u : tv_T} (h1 : env[a]? = some t) (h2 : env[b]? = some u) : ∃ va vb rest, st = vb :: va :: rest ∧ vs[a]? = some va ∧ vs[b]? = some vb ∧ tv_ok ta t va ∧ tv_ok ta u vb ∧ sy_st vs r rest := by
  cases st with
  | nil => exact h.elim
  | cons vb st =>
    cases st with
    | nil => exact h.2.elim
    | cons va rest => exact ⟨va, vb, rest, rfl, h.2.1, h.1, he.2 a t va h1 h.2.1, he.2 b u vb h2 h.1, h.2.2⟩
theorem sy_one {vs st : List Value} {env : List tv_T} {a : Nat} {r : List Nat} (he : sy_env ta env vs) (h : sy_st vs (a :: r) st) {t : tv_T} (h1 : env[a]? = some t) : ∃ va rest, st = va :: rest ∧ vs[a]? = some va ∧ tv_ok ta t va ∧ sy_st vs r rest := by
  cases st with
  | nil => exact h.elim
  | cons va rest => exact ⟨va, rest, rfl, h.1, he.2 a t va h1 h.1, h.2⟩
/-- the same, where more is known of the values -/
def sy_goX (p : Program) (l : Launch) (e : Env) (R : Room) (s : State) (m : MethodId) (args : Array Value) (below : List Frame) (meth : Method) (c : Code) (H : Heap) (locs : List Loc) (cells slots : Nat) (Q : State → Prop) (nL : Nat) (v0 : List Value) (ta : Nat → Option Nat) (ws : va_W) (X : List Value → Prop) (pc : Nat) (y : sy_T) : Prop :=
  ∀ (vs : List Value) (ls : Array Slot) (st : List Value), v0 <+: vs → X vs → sy_ok ta ws vs ls nL st y → W p l e R s m args below meth c H locs cells slots Q (F0 m pc ls st)
theorem sy_go.x {X : List Value → Prop} (h : sy_go p l e R s m args below meth c H locs cells slots Q nL v0 ta ws pc y) : sy_goX p l e R s m args below meth c H locs cells slots Q nL v0 ta ws X pc y := fun vs ls st a _ b => h vs ls st a b
def op_X (i : ClassFile.Instr) (y : sy_T) (vs : List Value) : Prop := ∀ f g, op_j i = some (f, g) → ∀ a b r, y.2.2.1 = b :: a :: r → ∃ x z : Int32, vs[a]? = some (.int x) ∧ vs[b]? = some (.int z) ∧ vs[y.1.length]? = some (.int (f x z))
theorem tr_opi_okX (hx : p.tables.exec = Jvm.exec) (hb : c.code = cc) (hd : decode cc pc = .ok (i, len)) (h : tr_opi i len y = some y') (k : sy_goX p l e R s m args below meth c H locs cells slots Q nL v0 ta ws (op_X i y) (pc + len) y') : sy_go p l e R s m args below meth c H locs cells slots Q nL v0 ta ws pc y := by
  intro vs ls st hp0 hy
  unfold tr_opi at h
  have hs := hy.2.2.1
  split at h
  · rename_i f g hop
    split at h
    · rename_i b a r hst
      rw [hst] at hs
      split at h
      · rename_i t u hta hub
        split at h
        · rename_i hk
          obtain rfl := Option.some.inj h
          obtain ⟨va, vb, rest, rfl, ha, hb2, oa, ob, hr⟩ := sy_two hy.1 hs hta hub
          obtain ⟨x, rfl, x1, x2⟩ := tv_int oa hk.1
          obtain ⟨z, rfl, z1, z2⟩ := tv_int ob hk.2.1
          obtain rfl := hk.2.2
          have hp := sy_pushed hy hr (sb_cut_ok hop hy ha hb2 x1 x2 z1 z2 (op_j_ty (ta := ta) hop x1 x2 z1 z2))
          have hn : (vs ++ [Value.int (f x z)])[y.1.length]? = some (.int (f x z)) := by rw [← hy.1.1, List.getElem?_append_right (Nat.le_refl _), Nat.sub_self]; rfl
          refine op_j_go hx hb hd hop (k _ _ _ (pre_app hp0) ?_ (sy_offs_ok hop hp hn (sy_app ha) (sy_app hb2) x1 x2 z1 z2))
          intro f' g' h' a' b' r' hst'
          rw [hop] at h'
          rw [hst] at hst'
          cases h'; cases hst'
          exact ⟨x, z, sy_app ha, sy_app hb2, hn⟩
        · cases h
      · cases h
    · cases h
  · cases h
theorem tr_opi_ok (hx : p.tables.exec = Jvm.exec) (hb : c.code = cc) (hd : decode cc pc = .ok (i, len)) (h : tr_opi i len y = some y') (k : sy_go p l e R s m args below meth c H locs cells slots Q nL v0 ta ws (pc + len) y') : sy_go p l e R s m args below meth c H locs cells slots Q nL v0 ta ws pc y := tr_opi_okX hx hb hd h k.x
theorem tr_opl_ok (hx : p.tables.exec = Jvm.exec) (hb : c.code = cc) (hd : decode cc pc = .ok (i, len)) (h : tr_opl i len y = some y') (k : sy_go p l e R s m args below meth c H locs cells slots Q nL v0 ta ws (pc + len) y') : sy_go p l e R s m args below meth c H locs cells slots Q nL v0 ta ws pc y := by
  intro vs ls st hp0 hy
  unfold tr_opl at h
  have hs := hy.2.2.1
  split at h
  · rename_i f g hop
    split at h
    · rename_i b a r hst
      rw [hst] at hs
      split at h
      · rename_i t u hta hub
        split at h
        · rename_i hk
          obtain rfl := Option.some.inj h
          obtain ⟨va, vb, rest, rfl, ha, hb2, oa, ob, hr⟩ := sy_two hy.1 hs hta hub
          obtain ⟨x, rfl, x1, x2⟩ := tv_long oa hk.1
          obtain ⟨z, rfl, z1, z2⟩ := tv_long ob hk.2.1
          obtain rfl := hk.2.2
          exact op_l_go hx hb hd hop (k _ _ _ (by first | exact hp0 | exact pre_app hp0) (sy_pushed hy hr (op_l_ty (ta := ta) hop x1 x2 z1 z2)))
        · cases h
      · cases h
    · cases h
  · cases h
theorem cmp_ty (x y : Int64) : tv_ok ta (0, -1, 1, []) (.int (lg_cmp x y)) := by
  refine Or.inl ⟨rfl, _, rfl, ?_, ?_⟩
  · show (-1 : Int) ≤ (lg_cmp x y).toInt
    unfold lg_cmp
    split
    · decide
    · split <;> decide
  · show (lg_cmp x y).toInt ≤ (1 : Int)
    unfold lg_cmp
    split
    · decide
    · split <;> decide
theorem l_ne0 {u : tv_T} {z : Int64} (h : 1 ≤ u.2.1 ∨ u.2.2.1 ≤ -1) (h1 : u.2.1 ≤ z.toInt) (h2 : z.toInt ≤ u.2.2.1) : ¬ z = 0 := fun q => by
  subst q
  have e : (0 : Int64).toInt = 0 := by decide
  rw [e] at h1 h2
  omega
theorem i_ne0 {u : tv_T} {z : Int32} (h : 1 ≤ u.2.1) (h1 : u.2.1 ≤ z.toInt) : ¬ z = 0 := fun q => by
  subst q
  have e : (0 : Int32).toInt = 0 := by decide
  rw [e] at h1
  omega
theorem tr_dv_ok (hx : p.tables.exec = Jvm.exec) (hb : c.code = cc) (hd : decode cc pc = .ok (i, len)) (h : tr_dv i len y = some y') (k : sy_go p l e R s m args below meth c H locs cells slots Q nL v0 ta ws (pc + len) y') : sy_go p l e R s m args below meth c H locs cells slots Q nL v0 ta ws pc y := by
  intro vs ls st hp0 hy
  unfold tr_dv at h
  have hs := hy.2.2.1
  split at h
  · rename_i b a r hst
    rw [hst] at hs
    split at h
    · rename_i t u hta hub
      obtain ⟨va, vb, rest, rfl, ha, hb2, oa, ob, hr⟩ := sy_two hy.1 hs hta hub
      split at h
      · split at h
        · rename_i hk
          obtain rfl := Option.some.inj h
          obtain ⟨x, rfl, x1, x2⟩ := tv_int oa hk.1
          obtain ⟨z, rfl, z1, z2⟩ := tv_int ob hk.2.1
          obtain rfl := hk.2.2.1
          exact lv_idiv hx hb hd (i_ne0 hk.2.2.2 z1) (k _ _ _ (by first | exact hp0 | exact pre_app hp0) (sy_pushed hy hr (iv_div_ok hk.2.2.2 x1 x2 z1 z2)))
        · cases h
      · split at h
        · rename_i hk
          obtain rfl := Option.some.inj h
          obtain ⟨x, rfl, x1, x2⟩ := tv_int oa hk.1
          obtain ⟨z, rfl, z1, z2⟩ := tv_int ob hk.2.1
          obtain rfl := hk.2.2.1
          have hpu := sy_pushed hy hr (iv_rem_ok (ta := ta) hk.2.2.2 x1 x2 z1 z2)
          have z1' : 1 ≤ z.toInt := by have := hk.2.2.2; omega
          refine lv_irem hx hb hd (i_ne0 hk.2.2.2 z1) (k (vs ++ [Value.int (x - x / z * z)]) ls (Value.int (x - x / z * z) :: rest) (pre_app hp0) ?_)
          split
          · exact hpu
          · refine sy_off_ok hpu ?_
            obtain ⟨w, ew, _, w2⟩ := tv_int (iv_rem_ok (ta := ta) (t := (0, x.toInt, x.toInt, [])) (u := (0, z.toInt, z.toInt, [])) z1' (Int.le_refl _) (Int.le_refl _) (Int.le_refl _) (Int.le_refl _)) (by unfold iv_rem; split <;> rfl)
            have e1 : x - x / z * z = w := by injection ew
            have w3 : w.toInt ≤ z.toInt - 1 := by
              unfold iv_rem at w2
              split at w2
              · have w2' : w.toInt ≤ mn2 x.toInt (z.toInt - 1) := w2
                unfold mn2 at w2'
                split at w2' <;> omega
              · exact w2
            have w4 := w.le_toInt
            have w5 := z.toInt_lt
            refine ⟨x - x / z * z, z, ?_, ?_, ?_, ?_⟩
            · show (vs ++ [Value.int (x - x / z * z)])[y.1.length]? = _
              rw [← hy.1.1, List.getElem?_append_right (Nat.le_refl _), Nat.sub_self]; rfl
            · show (vs ++ [Value.int (x - x / z * z)])[b]? = _
              rw [List.getElem?_append_left (List.getElem?_eq_some_iff.mp hb2).1]; exact hb2
            · rw [e1]; show z.toInt + -4294967295 ≤ w.toInt; omega
            · rw [e1]; show w.toInt ≤ z.toInt + -1; omega
        · cases h
      · split at h
        · rename_i hk
          obtain rfl := Option.some.inj h
          obtain ⟨x, rfl, x1, x2⟩ := tv_long oa hk.1
          obtain ⟨z, rfl, z1, z2⟩ := tv_long ob hk.2.1
          obtain rfl := hk.2.2.1
          exact lv_ldiv hx hb hd (l_ne0 hk.2.2.2 z1 z2) (k _ _ _ (by first | exact hp0 | exact pre_app hp0) (sy_pushed hy hr (lv_any _)))
        · cases h
      · split at h
        · rename_i hk
          obtain rfl := Option.some.inj h
          obtain ⟨x, rfl, x1, x2⟩ := tv_long oa hk.1
          obtain ⟨z, rfl, z1, z2⟩ := tv_long ob hk.2.1
          obtain rfl := hk.2.2.1
          exact lv_lrem hx hb hd (l_ne0 hk.2.2.2 z1 z2) (k _ _ _ (by first | exact hp0 | exact pre_app hp0) (sy_pushed hy hr (lv_any _)))
        · cases h
      · split at h
        · rename_i hk
          obtain rfl := Option.some.inj h
          obtain ⟨x, rfl, x1, x2⟩ := tv_long oa hk.1
          obtain ⟨z, rfl, z1, z2⟩ := tv_long ob hk.2.1
          obtain rfl := hk.2.2
          exact W.lcmp hx hb hd (k _ _ _ (by first | exact hp0 | exact pre_app hp0) (sy_pushed hy hr (cmp_ty x z)))
        · cases h
      · split at h
        · rename_i hk
          obtain rfl := Option.some.inj h
          obtain ⟨x, rfl, x1, x2⟩ := tv_long oa hk.1
          obtain ⟨z, rfl, z1, z2⟩ := tv_int ob hk.2.1
          obtain rfl := hk.2.2
          exact lv_lshl hx hb hd rfl (k _ _ _ (by first | exact hp0 | exact pre_app hp0) (sy_pushed hy hr (lv_any _)))
        · cases h
      · split at h
        · rename_i hk
          obtain rfl := Option.some.inj h
          obtain ⟨x, rfl, x1, x2⟩ := tv_long oa hk.1
          obtain ⟨z, rfl, z1, z2⟩ := tv_int ob hk.2.1
          obtain rfl := hk.2.2
          exact lv_lshr hx hb hd rfl (k _ _ _ (by first | exact hp0 | exact pre_app hp0) (sy_pushed hy hr (lv_any _)))
        · cases h
      · split at h
        · rename_i hk
          obtain rfl := Option.some.inj h
          obtain ⟨x, rfl, x1, x2⟩ := tv_long oa hk.1
          obtain ⟨z, rfl, z1, z2⟩ := tv_int ob hk.2.1
          obtain rfl := hk.2.2
          exact lv_lushr hx hb hd rfl (k _ _ _ (by first | exact hp0 | exact pre_app hp0) (sy_pushed hy hr (lv_any _)))
        · cases h
      · split at h
        · rename_i hk
          obtain rfl := Option.some.inj h
          obtain rfl := hk.2.2
          exact lv_dup2_11 hx hb hd ((tv_cat ob).2 hk.2.1) ((tv_cat oa).2 hk.1) (k _ _ _ (by first | exact hp0 | exact pre_app hp0) (sy_stack hy (is := b :: a :: b :: a :: r) (st' := vb :: va :: vb :: va :: rest) ⟨hb2, ha, hb2, ha, hr⟩))
        · cases h
      · split at h
        · rename_i hk
          obtain rfl := Option.some.inj h
          obtain rfl := hk.2.2
          exact lv_pop2_11 hx hb hd ((tv_cat ob).2 hk.2.1) ((tv_cat oa).2 hk.1) (k _ _ _ (by first | exact hp0 | exact pre_app hp0) (sy_stack hy (is := r) (st' := rest) hr))
        · cases h
      · cases h
    · cases h
  · cases h
theorem i2l_ty {t : tv_T} {x : Int32} (h1 : t.2.1 ≤ x.toInt) (h2 : x.toInt ≤ t.2.2.1) : tv_ok ta (1, t.2.1, t.2.2.1, []) (.long x.toInt64) := Or.inr (Or.inl ⟨rfl, _, rfl, by show t.2.1 ≤ x.toInt64.toInt; rw [Int32.toInt_toInt64]; exact h1, by show x.toInt64.toInt ≤ t.2.2.1; rw [Int32.toInt_toInt64]; exact h2⟩)
theorem i2b_ty {t : tv_T} {x : Int32} (h1 : t.2.1 ≤ x.toInt) (h2 : x.toInt ≤ t.2.2.1) : tv_ok ta (if decide (-128 ≤ t.2.1) && decide (t.2.2.1 ≤ 127) then (0, t.2.1, t.2.2.1, []) else (0, -128, 127, [])) (.int x.toInt8.toInt32) := by
  have e : x.toInt8.toInt32.toInt = x.toInt.bmod (2 ^ 8) := by rw [Int8.toInt_toInt32, Int32.toInt_toInt8]
  split
  · rename_i q
    simp only [Bool.and_eq_true, decide_eq_true_eq] at q
    have e2 : x.toInt.bmod (2 ^ 8) = x.toInt := Int.bmod_eq_of_le_mul_two (by show -(256 : Int) ≤ _; omega) (by show _ < (256 : Int); omega)
    exact Or.inl ⟨rfl, _, rfl, by show t.2.1 ≤ _; omega, by show _ ≤ t.2.2.1; omega⟩
  · have a := Int.le_bmod (x := x.toInt) (m := 2 ^ 8) (by decide)
    have b := Int.bmod_lt (x := x.toInt) (m := 2 ^ 8) (by decide)
    have a2 : (-128 : Int) ≤ x.toInt.bmod (2 ^ 8) := a
    have b2 : x.toInt.bmod (2 ^ 8) < (128 : Int) := b
    exact Or.inl ⟨rfl, _, rfl, by show (-128 : Int) ≤ _; omega, by show _ ≤ (127 : Int); omega⟩
theorem i2c_ty (x : Int32) : tv_ok ta (0, 0, 65535, []) (.int (x.toUInt32 % 65536).toInt32) := by
  rw [pk_char]
  have h : x.toBitVec.toNat % 65536 < 65536 := Nat.mod_lt _ (by decide)
  have e := nI_toInt (n := x.toBitVec.toNat % 65536) (by omega)
  exact Or.inl ⟨rfl, _, rfl, by show (0 : Int) ≤ _; omega, by show _ ≤ (65535 : Int); omega⟩
/-- conversions and signs: from where to where they say what they say, and with which factor -/
def un_r (i : ClassFile.Instr) : Option (Int × Int × Int) := match i with
  | .ineg => some (-2147483647, 2147483647, -1)
  | .lneg => some (-9223372036854775807, 9223372036854775807, -1)
  | .i2l => some (-2147483648, 2147483647, 1)
  | .l2i => some (-2147483648, 2147483647, 1)
  | .i2b => some (-128, 127, 1)
  | .i2c => some (0, 65535, 1)
  | _ => none
def un_X (i : ClassFile.Instr) (y : sy_T) (vs : List Value) : Prop := ∀ lo hi sg, un_r i = some (lo, hi, sg) → ∀ a r, y.2.2.1 = a :: r → ∃ v w : Value, vs[a]? = some v ∧ vs[y.1.length]? = some w ∧ (lo ≤ v_iv v → v_iv v ≤ hi → v_iv w = sg * v_iv v)
theorem un_no {i : ClassFile.Instr} {y : sy_T} {vs : List Value} (h : un_r i = none) : un_X i y vs := fun lo hi sg q => by rw [h] at q; cases q
theorem un_mk {i : ClassFile.Instr} {y : sy_T} {vs : List Value} {a : Nat} {r : List Nat} {v w : Value} (hst : y.2.2.1 = a :: r) (ha : vs[a]? = some v) (hl : vs.length = y.1.length) (h : ∀ lo hi sg, un_r i = some (lo, hi, sg) → lo ≤ v_iv v → v_iv v ≤ hi → v_iv w = sg * v_iv v) : un_X i y (vs ++ [w]) := by
  intro lo hi sg q a' r' hst'
  rw [hst] at hst'
  obtain ⟨rfl, rfl⟩ := List.cons.inj hst'
  exact ⟨v, w, sy_app ha, by rw [← hl, List.getElem?_append_right (Nat.le_refl _), Nat.sub_self]; rfl, h lo hi sg q⟩
theorem un_ineg {x : Int32} {lo hi sg : Int} (q : un_r .ineg = some (lo, hi, sg)) (h1 : lo ≤ v_iv (.int x)) (h2 : v_iv (.int x) ≤ hi) : v_iv (.int (-x)) = sg * v_iv (.int x) := by
  cases q
  have h1' : (-2147483647 : Int) ≤ x.toInt := h1
  have h2' : x.toInt ≤ (2147483647 : Int) := h2
  show (-x).toInt = -1 * x.toInt
  rw [Int32.toInt_neg, iv_bm (lo := -2147483647) (hi := 2147483647) (by omega) (by omega) (by omega) (by omega)]; omega
theorem un_lneg {x : Int64} {lo hi sg : Int} (q : un_r .lneg = some (lo, hi, sg)) (h1 : lo ≤ v_iv (.long x)) (h2 : v_iv (.long x) ≤ hi) : v_iv (.long (-x)) = sg * v_iv (.long x) := by
  cases q
  have h1' : (-9223372036854775807 : Int) ≤ x.toInt := h1
  have h2' : x.toInt ≤ (9223372036854775807 : Int) := h2
  show (-x).toInt = -1 * x.toInt
  rw [Int64.toInt_neg, lv_bm (lo := -9223372036854775807) (hi := 9223372036854775807) (by omega) (by omega) (by omega) (by omega)]; omega
theorem un_i2l {x : Int32} {lo hi sg : Int} (q : un_r .i2l = some (lo, hi, sg)) : v_iv (.long x.toInt64) = sg * v_iv (.int x) := by
  cases q
  show x.toInt64.toInt = 1 * x.toInt
  rw [Int32.toInt_toInt64]; omega
theorem un_l2i {x : Int64} {lo hi sg : Int} (q : un_r .l2i = some (lo, hi, sg)) (h1 : lo ≤ v_iv (.long x)) (h2 : v_iv (.long x) ≤ hi) : v_iv (.int x.toInt32) = sg * v_iv (.long x) := by
  cases q
  have h1' : (-2147483648 : Int) ≤ x.toInt := h1
  have h2' : x.toInt ≤ (2147483647 : Int) := h2
  show x.toInt32.toInt = 1 * x.toInt
  rw [Int64.toInt_toInt32, iv_bm (lo := -2147483648) (hi := 2147483647) (by omega) (by omega) (by omega) (by omega)]; omega
theorem un_i2b {x : Int32} {lo hi sg : Int} (q : un_r .i2b = some (lo, hi, sg)) (h1 : lo ≤ v_iv (.int x)) (h2 : v_iv (.int x) ≤ hi) : v_iv (.int x.toInt8.toInt32) = sg * v_iv (.int x) := by
  cases q
  have h1' : (-128 : Int) ≤ x.toInt := h1
  have h2' : x.toInt ≤ (127 : Int) := h2
  show x.toInt8.toInt32.toInt = 1 * x.toInt
  rw [Int8.toInt_toInt32, Int32.toInt_toInt8, show x.toInt.bmod (2 ^ 8) = x.toInt from Int.bmod_eq_of_le_mul_two (by show -(256 : Int) ≤ _; omega) (by show _ < (256 : Int); omega)]; omega
theorem un_i2c {x : Int32} {lo hi sg : Int} (q : un_r .i2c = some (lo, hi, sg)) (h1 : lo ≤ v_iv (.int x)) (h2 : v_iv (.int x) ≤ hi) : v_iv (.int (x.toUInt32 % 65536).toInt32) = sg * v_iv (.int x) := by
  cases q
  have h1' : (0 : Int) ≤ x.toInt := h1
  have h2' : x.toInt ≤ (65535 : Int) := h2
  rw [pk_char]
  have e := nI_toInt (n := x.toBitVec.toNat % 65536) (by omega)
  have c := BitVec.toInt_eq_toNat_cond x.toBitVec
  have c2 : x.toInt = if 2 * x.toBitVec.toNat < 2 ^ 32 then (x.toBitVec.toNat : Int) else (x.toBitVec.toNat : Int) - ((2 ^ 32 : Nat) : Int) := c
  have c3 : x.toBitVec.toNat < 2 ^ 32 := x.toBitVec.isLt
  show (nI (x.toBitVec.toNat % 65536)).toInt = 1 * x.toInt
  split at c2 <;> omega
theorem tr_un_okX (hx : p.tables.exec = Jvm.exec) (hb : c.code = cc) (hd : decode cc pc = .ok (i, len)) (h : tr_un i len y = some y') (k : sy_goX p l e R s m args below meth c H locs cells slots Q nL v0 ta ws (un_X i y) (pc + len) y') : sy_go p l e R s m args below meth c H locs cells slots Q nL v0 ta ws pc y := by
  intro vs ls st hp0 hy
  unfold tr_un at h
  have hs := hy.2.2.1
  split at h
  · rename_i a r hst
    rw [hst] at hs
    split at h
    · rename_i t hta
      obtain ⟨va, rest, rfl, ha, oa, hr⟩ := sy_one hy.1 hs hta
      split at h
      · split at h
        · rename_i hk
          obtain rfl := Option.some.inj h
          obtain ⟨x, rfl, x1, x2⟩ := tv_int oa hk.1
          obtain rfl := hk.2
          exact lv_ineg hx hb hd (k _ _ _ (by first | exact hp0 | exact pre_app hp0) (un_mk hst ha hy.1.1 (fun lo hi sg q h1 h2 => un_ineg q h1 h2)) (sy_pushed hy hr (iv_mk_ok (Int32.toInt_neg x) (by omega) (by omega))))
        · cases h
      · split at h
        · rename_i hk
          obtain rfl := Option.some.inj h
          obtain ⟨x, rfl, x1, x2⟩ := tv_long oa hk.1
          obtain rfl := hk.2
          exact lv_lneg hx hb hd (k _ _ _ (by first | exact hp0 | exact pre_app hp0) (un_mk hst ha hy.1.1 (fun lo hi sg q h1 h2 => un_lneg q h1 h2)) (sy_pushed hy hr (lv_mk_ok (Int64.toInt_neg x) (by omega) (by omega))))
        · cases h
      · split at h
        · rename_i hk
          obtain rfl := Option.some.inj h
          obtain ⟨x, rfl, x1, x2⟩ := tv_int oa hk.1
          obtain rfl := hk.2
          exact lv_i2l hx hb hd rfl (k _ _ _ (by first | exact hp0 | exact pre_app hp0) (un_mk hst ha hy.1.1 (fun lo hi sg q h1 h2 => un_i2l q)) (sy_pushed hy hr (i2l_ty x1 x2)))
        · cases h
      · split at h
        · rename_i hk
          obtain rfl := Option.some.inj h
          obtain ⟨x, rfl, x1, x2⟩ := tv_long oa hk.1
          obtain rfl := hk.2
          exact lv_l2i hx hb hd rfl (k _ _ _ (by first | exact hp0 | exact pre_app hp0) (un_mk hst ha hy.1.1 (fun lo hi sg q h1 h2 => un_l2i q h1 h2)) (sy_pushed hy hr (iv_mk_ok (Int64.toInt_toInt32 x) x1 x2)))
        · cases h
      · split at h
        · rename_i hk
          obtain rfl := Option.some.inj h
          obtain ⟨x, rfl, x1, x2⟩ := tv_int oa hk.1
          obtain rfl := hk.2
          exact lv_i2b hx hb hd rfl (k _ _ _ (by first | exact hp0 | exact pre_app hp0) (un_mk hst ha hy.1.1 (fun lo hi sg q h1 h2 => un_i2b q h1 h2)) (sy_pushed hy hr (i2b_ty x1 x2)))
        · cases h
      · split at h
        · rename_i hk
          obtain rfl := Option.some.inj h
          obtain ⟨x, rfl, x1, x2⟩ := tv_int oa hk.1
          obtain rfl := hk.2
          exact lv_i2c hx hb hd rfl (k _ _ _ (by first | exact hp0 | exact pre_app hp0) (un_mk hst ha hy.1.1 (fun lo hi sg q h1 h2 => un_i2c q h1 h2)) (sy_pushed hy hr (i2c_ty x)))
        · cases h
      · split at h
        · rename_i hk
          obtain rfl := Option.some.inj h
          obtain rfl := hk.2
          exact lv_dup hx hb hd ((tv_cat oa).2 hk.1) (k _ _ _ (by first | exact hp0 | exact pre_app hp0) (un_no rfl) (sy_stack hy (is := a :: a :: r) (st' := va :: va :: rest) ⟨ha, ha, hr⟩))
        · cases h
      · split at h
        · rename_i hk
          obtain rfl := Option.some.inj h
          obtain rfl := hk.2
          exact lv_pop hx hb hd ((tv_cat oa).2 hk.1) (k _ _ _ (by first | exact hp0 | exact pre_app hp0) (un_no rfl) (sy_stack hy (is := r) (st' := rest) hr))
        · cases h
      · split at h
        · rename_i hk
          obtain rfl := Option.some.inj h
          obtain rfl := hk.2
          exact lv_dup2_2 hx hb hd ((tv_cat oa).1 hk.1) (k _ _ _ (by first | exact hp0 | exact pre_app hp0) (un_no rfl) (sy_stack hy (is := a :: a :: r) (st' := va :: va :: rest) ⟨ha, ha, hr⟩))
        · cases h
      · split at h
        · rename_i hk
          obtain rfl := Option.some.inj h
          obtain rfl := hk.2
          exact lv_pop2_2 hx hb hd ((tv_cat oa).1 hk.1) (k _ _ _ (by first | exact hp0 | exact pre_app hp0) (un_no rfl) (sy_stack hy (is := r) (st' := rest) hr))
        · cases h
      · cases h
    · cases h
  · cases h
theorem tr_un_ok (hx : p.tables.exec = Jvm.exec) (hb : c.code = cc) (hd : decode cc pc = .ok (i, len)) (h : tr_un i len y = some y') (k : sy_go p l e R s m args below meth c H locs cells slots Q nL v0 ta ws (pc + len) y') : sy_go p l e R s m args below meth c H locs cells slots Q nL v0 ta ws pc y := tr_un_okX hx hb hd h k.x
def inc_X (i : ClassFile.Instr) (y : sy_T) (vs : List Value) : Prop := ∀ j n, i = .iinc j n → ∀ a, sy_find y.2.1 j = some a → ∃ x : Int32, vs[a]? = some (.int x) ∧ vs[y.1.length]? = some (.int (x + Int32.ofInt n))
theorem tr_inc_okX (hx : p.tables.exec = Jvm.exec) (hb : c.code = cc) (hd : decode cc pc = .ok (i, len)) (h : tr_inc nL i len y = some y') (k : sy_goX p l e R s m args below meth c H locs cells slots Q nL v0 ta ws (inc_X i y) (pc + len) y') : sy_go p l e R s m args below meth c H locs cells slots Q nL v0 ta ws pc y := by
  intro vs ls st hp0 hy
  unfold tr_inc at h
  split at h
  · rename_i j n
    split at h
    · rename_i a hf
      split at h
      · rename_i t hta
        split at h
        · rename_i hk
          obtain ⟨v, h1, h2⟩ := hy.2.1.2.2 (j, a) (sy_find_ok hf)
          obtain ⟨x, rfl, x1, x2⟩ := tv_int (hy.1.2 a t v hta h1) hk.1
          obtain rfl := hk.2.1
          have hl := lv_of_has hy.2.1
          have hl2 : lv_has ls nL ((j, .int x) :: lv_of vs y.2.1) := ⟨hl.1, hl.2.1, fun q hq => by
            rcases List.mem_cons.mp hq with rfl | hq
            · exact h2
            · exact hl.2.2 q hq⟩
          refine lv_iinc hx hb hd hl2 (k := 0) rfl rfl hk.2.2 rfl (fun ls' hl' => k (vs ++ [Value.int (x + Int32.ofInt n)]) ls' st (pre_app hp0) ?_ ?_)
          rotate_left
          have hv : tv_ok ta (iv_mk (t.2.1 + (Int32.ofInt n).toInt) (t.2.2.1 + (Int32.ofInt n).toInt)) (.int (x + Int32.ofInt n)) := iv_mk_ok (Int32.toInt_add _ _) (by omega) (by omega)
          have hnew : (vs ++ [Value.int (x + Int32.ofInt n)])[y.1.length]? = some (.int (x + Int32.ofInt n)) := by rw [← hy.1.1, List.getElem?_append_right (Nat.le_refl _), Nat.sub_self]; rfl
          have hz : sy_ok ta ws (vs ++ [Value.int (x + Int32.ofInt n)]) ls' nL st (y.1 ++ [iv_mk (t.2.1 + (Int32.ofInt n).toInt) (t.2.2.1 + (Int32.ofInt n).toInt)], (sy_sto y j 0 y.1.length y.2.2.1).2.1, y.2.2.1, y.2.2.2.1, y.2.2.2.2) := by
            refine ⟨sy_env_app hy.1 hv, ⟨hl'.1, hl'.2.1, fun q hq => ?_⟩, sy_st_app hy.2.2.1, fun q hq => ?_, fun q hq => ?_, fun q hq => ?_⟩
            · rcases List.mem_cons.mp hq with rfl | hq
              · exact ⟨_, hnew, hl'.2.2 _ List.mem_cons_self⟩
              · obtain ⟨hq1, hq2⟩ := List.mem_filter.mp hq
                obtain ⟨w, g1, g2⟩ := hy.2.1.2.2 q hq1
                refine ⟨w, sy_app g1, hl'.2.2 (q.1, w) (List.mem_cons_of_mem _ (List.mem_filter.mpr ⟨List.mem_cons_of_mem _ (lv_of_mem (n := q.2) hq1 g1), ?_⟩))⟩
                simp only [Bool.and_eq_true, Bool.not_eq_true', Bool.and_eq_false_iff, beq_eq_false_iff_ne] at hq2 ⊢
                refine ⟨hq2.1.1, ?_⟩
                rcases hq2.2 with h3 | h3
                · exact Or.inl h3
                · refine Or.inr ?_
                  obtain ⟨t', h4, h5⟩ := sy_name hy.1 g1
                  have h6 : t'.1 ≠ 1 := by
                    unfold sy_kd at h3
                    rw [h4] at h3
                    exact h3
                  rw [(tv_cat h5).2 h6]; decide
            · obtain ⟨b1, ci, fs, w, g1, g2, g3, g4⟩ := hy.2.2.2.1 q hq; exact ⟨b1, ci, fs, w, sy_app g1, g2, g3, sy_app g4⟩
            · obtain ⟨b1, b2, g1, g2, g3⟩ := hy.2.2.2.2.1 q hq; exact ⟨b1, b2, sy_app g1, sy_app g2, g3⟩
            · obtain ⟨b1, b2, g1, g2⟩ := hy.2.2.2.2.2 q hq; exact ⟨b1, b2, sy_app g1, g2⟩
          obtain rfl := Option.some.inj h
          show sy_ok ta ws _ ls' nL st (if of_in (Int32.ofInt n).toInt t then _ else _)
          split
          · rename_i q
            simp only [of_in, Bool.and_eq_true, decide_eq_true_eq] at q
            have e9 : (x + Int32.ofInt n).toInt = x.toInt + (Int32.ofInt n).toInt := by rw [Int32.toInt_add, iv_bm (lo := t.2.1 + (Int32.ofInt n).toInt) (hi := t.2.2.1 + (Int32.ofInt n).toInt) (by omega) (by omega) (by omega) (by omega)]
            exact sy_off_ok hz ⟨x + Int32.ofInt n, x, hnew, sy_app h1, by rw [e9]; exact Int.le_refl _, by rw [e9]; exact Int.le_refl _⟩
          · exact hz
          · intro j' n' e' a' hf'
            cases e'
            rw [hf] at hf'
            cases hf'
            refine ⟨x, sy_app h1, ?_⟩
            rw [← hy.1.1, List.getElem?_append_right (Nat.le_refl _), Nat.sub_self]; rfl
        · cases h
      · cases h
    · cases h
  · cases h

theorem tr_inc_ok (hx : p.tables.exec = Jvm.exec) (hb : c.code = cc) (hd : decode cc pc = .ok (i, len)) (h : tr_inc nL i len y = some y') (k : sy_go p l e R s m args below meth c H locs cells slots Q nL v0 ta ws (pc + len) y') : sy_go p l e R s m args below meth c H locs cells slots Q nL v0 ta ws pc y := tr_inc_okX hx hb hd h k.x
end M7
