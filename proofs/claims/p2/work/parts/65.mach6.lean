def op_j (i : ClassFile.Instr) : Option ((Int32 → Int32 → Int32) × (tv_T → tv_T → tv_T)) := match i with
  | .ishl => some (fun x y => x <<< (y &&& 31), iv_shl)
  | .ishr => some (fun x y => x >>> (y &&& 31), iv_shr)
  | i => op_i i
theorem op_j_ty {ta : Nat → Option Nat} {i : ClassFile.Instr} {f : Int32 → Int32 → Int32} {g : tv_T → tv_T → tv_T} (h : op_j i = some (f, g)) {t u : tv_T} {x y : Int32} (h1 : t.2.1 ≤ x.toInt) (h2 : x.toInt ≤ t.2.2.1) (h3 : u.2.1 ≤ y.toInt) (h4 : y.toInt ≤ u.2.2.1) : tv_ok ta (g t u) (.int (f x y)) := by
  unfold op_j at h
  split at h
  · cases h; exact iv_shl_ok h1 h2 h3 h4
  · cases h; exact iv_shr_ok h1 h2 h3 h4
  · exact op_i_ty h h1 h2 h3 h4
/-- a name that is another and a number -/
def sy_off (y : sy_T) (new old : Nat) (d : Int) : sy_T := (y.1, y.2.1, y.2.2.1, y.2.2.2.1, (new, old, d) :: (y.2.2.2.2.filterMap (fun q => if q.1 = old then some (new, q.2.1, d + q.2.2) else none)) ++ y.2.2.2.2)
theorem sy_off_ok {ta : Nat → Option Nat} {ws : va_W} {vs : List Value} {ls : Array Slot} {nL : Nat} {st : List Value} {y : sy_T} {new old : Nat} {d : Int} (h : sy_ok ta ws vs ls nL st y) (ho : sy_ofs vs (new, old, d)) : sy_ok ta ws vs ls nL st (sy_off y new old d) := by
  refine ⟨h.1, h.2.1, h.2.2.1, h.2.2.2.1, fun q hq => ?_⟩
  rcases List.mem_append.mp hq with hq | hq
  · rcases List.mem_cons.mp hq with rfl | hq
    · exact ho
    · obtain ⟨z, hz, e⟩ := List.mem_filterMap.mp hq
      split at e
      · rename_i e1
        obtain rfl := Option.some.inj e
        obtain ⟨x1, x2, a1, a2, a3⟩ := ho
        obtain ⟨x3, x4, b1, b2, b3⟩ := h.2.2.2.2 z hz
        rw [e1] at b1
        have e2 : x2 = x3 := by
          have a2' : vs[old]? = some (.int x2) := a2
          rw [b1] at a2'
          exact (Value.int.inj (Option.some.inj a2')).symm
        exact ⟨x1, x4, a1, b2, by show x1.toInt = x4.toInt + (d + z.2.2); have a3' : x1.toInt = x2.toInt + d := a3; rw [e2] at a3'; omega⟩
      · cases e
  · exact h.2.2.2.2 q hq
def of_in (d : Int) (t : tv_T) : Bool := decide (-2147483648 ≤ t.2.1 + d) && decide (t.2.2.1 + d ≤ 2147483647)
def sy_offs (i : ClassFile.Instr) (y : sy_T) (n a b : Nat) (t u : tv_T) : sy_T := match i with
  | .iadd => if decide (u.2.1 = u.2.2.1) && of_in u.2.1 t then sy_off y n a u.2.1 else if decide (t.2.1 = t.2.2.1) && of_in t.2.1 u then sy_off y n b t.2.1 else y
  | .isub => if decide (u.2.1 = u.2.2.1) && of_in (-u.2.1) t then sy_off y n a (-u.2.1) else y
  | _ => y
theorem sy_offs_ok {ta : Nat → Option Nat} {ws : va_W} {vs : List Value} {ls : Array Slot} {nL : Nat} {st : List Value} {y : sy_T} {n a b : Nat} {i : ClassFile.Instr} {t u : tv_T} {f : Int32 → Int32 → Int32} {g : tv_T → tv_T → tv_T} (hop : op_j i = some (f, g)) {x z : Int32} (h : sy_ok ta ws vs ls nL st y) (hn : vs[n]? = some (.int (f x z))) (ha : vs[a]? = some (.int x)) (hb : vs[b]? = some (.int z)) (h1 : t.2.1 ≤ x.toInt) (h2 : x.toInt ≤ t.2.2.1) (h3 : u.2.1 ≤ z.toInt) (h4 : z.toInt ≤ u.2.2.1) : sy_ok ta ws vs ls nL st (sy_offs i y n a b t u) := by
  unfold sy_offs
  split
  · have ef : (fun x y : Int32 => x + y) = f := by
      have : some ((fun x y : Int32 => x + y), fun t u : tv_T => iv_mk (t.2.1 + u.2.1) (t.2.2.1 + u.2.2.1)) = some (f, g) := hop
      exact (Prod.mk.inj (Option.some.inj this)).1
    have hs := Int32.toInt_add x z
    rw [← ef] at hn
    split
    · rename_i q
      simp only [of_in, Bool.and_eq_true, decide_eq_true_eq] at q
      refine sy_off_ok h ⟨x + z, x, hn, ha, ?_⟩
      rw [hs, iv_bm (lo := t.2.1 + u.2.1) (hi := t.2.2.1 + u.2.1) (by omega) (by omega) (by omega) (by omega)]
      show x.toInt + z.toInt = x.toInt + u.2.1
      omega
    · split
      · rename_i q
        simp only [of_in, Bool.and_eq_true, decide_eq_true_eq] at q
        refine sy_off_ok h ⟨x + z, z, hn, hb, ?_⟩
        rw [hs, iv_bm (lo := u.2.1 + t.2.1) (hi := u.2.2.1 + t.2.1) (by omega) (by omega) (by omega) (by omega)]
        show x.toInt + z.toInt = z.toInt + t.2.1
        omega
      · exact h
  · have ef : (fun x y : Int32 => x - y) = f := by
      have : some ((fun x y : Int32 => x - y), fun t u : tv_T => iv_mk (t.2.1 - u.2.2.1) (t.2.2.1 - u.2.1)) = some (f, g) := hop
      exact (Prod.mk.inj (Option.some.inj this)).1
    have hs := Int32.toInt_sub x z
    rw [← ef] at hn
    split
    · rename_i q
      simp only [of_in, Bool.and_eq_true, decide_eq_true_eq] at q
      refine sy_off_ok h ⟨x - z, x, hn, ha, ?_⟩
      rw [hs, iv_bm (lo := t.2.1 + -u.2.1) (hi := t.2.2.1 + -u.2.1) (by omega) (by omega) (by omega) (by omega)]
      show x.toInt - z.toInt = x.toInt + -u.2.1
      omega
    · exact h
  · exact h
def tr_opi (i : ClassFile.Instr) (len : Nat) (y : sy_T) : Option sy_T := match op_j i with
  | some (_, g) => match y.2.2.1 with
    | b :: a :: r => match y.1[a]?, y.1[b]? with
      | some t, some u => if t.1 = 0 ∧ u.1 = 0 ∧ len = 1 then some (sy_offs i (sy_push y (g t u) r) y.1.length a b t u) else none
      | _, _ => none
    | _ => none
  | none => none
def tr_opl (i : ClassFile.Instr) (len : Nat) (y : sy_T) : Option sy_T := match op_l i with
  | some (_, g) => match y.2.2.1 with
    | b :: a :: r => match y.1[a]?, y.1[b]? with
      | some t, some u => if t.1 = 1 ∧ u.1 = 1 ∧ len = 1 then some (sy_push y (g t u) r) else none
      | _, _ => none
    | _ => none
  | none => none
/-- divisions by what is positive -/
def tr_dv (i : ClassFile.Instr) (len : Nat) (y : sy_T) : Option sy_T := match y.2.2.1 with
  | b :: a :: r => match y.1[a]?, y.1[b]? with
    | some t, some u => match i with
      | .idiv => if t.1 = 0 ∧ u.1 = 0 ∧ len = 1 ∧ 1 ≤ u.2.1 then some (sy_push y (iv_div t u) r) else none
      | .irem => if t.1 = 0 ∧ u.1 = 0 ∧ len = 1 ∧ 1 ≤ u.2.1 then some (sy_push y (iv_rem t u) r) else none
      | .ldiv => if t.1 = 1 ∧ u.1 = 1 ∧ len = 1 ∧ (1 ≤ u.2.1 ∨ u.2.2.1 ≤ -1) then some (sy_push y lv_top r) else none
      | .lrem => if t.1 = 1 ∧ u.1 = 1 ∧ len = 1 ∧ (1 ≤ u.2.1 ∨ u.2.2.1 ≤ -1) then some (sy_push y lv_top r) else none
      | .lcmp => if t.1 = 1 ∧ u.1 = 1 ∧ len = 1 then some (sy_push y (0, -1, 1, []) r) else none
      | .lshl => if t.1 = 1 ∧ u.1 = 0 ∧ len = 1 then some (sy_push y lv_top r) else none
      | .lshr => if t.1 = 1 ∧ u.1 = 0 ∧ len = 1 then some (sy_push y lv_top r) else none
      | .dup2 => if t.1 ≠ 1 ∧ u.1 ≠ 1 ∧ len = 1 then some (y.1, y.2.1, b :: a :: b :: a :: r, y.2.2.2.1, y.2.2.2.2) else none
      | .pop2 => if t.1 ≠ 1 ∧ u.1 ≠ 1 ∧ len = 1 then some (y.1, y.2.1, r, y.2.2.2.1, y.2.2.2.2) else none
      | _ => none
    | _, _ => none
  | _ => none
/-- one value -/
def tr_un (i : ClassFile.Instr) (len : Nat) (y : sy_T) : Option sy_T := match y.2.2.1 with
  | a :: r => match y.1[a]? with
    | some t => match i with
      | .ineg => if t.1 = 0 ∧ len = 1 then some (sy_push y (iv_mk (-t.2.2.1) (-t.2.1)) r) else none
      | .lneg => if t.1 = 1 ∧ len = 1 then some (sy_push y (lv_mk (-t.2.2.1) (-t.2.1)) r) else none
      | .i2l => if t.1 = 0 ∧ len = 1 then some (sy_push y (1, t.2.1, t.2.2.1, []) r) else none
      | .l2i => if t.1 = 1 ∧ len = 1 then some (sy_push y (iv_mk t.2.1 t.2.2.1) r) else none
      | .i2b => if t.1 = 0 ∧ len = 1 then some (sy_push y (if decide (-128 ≤ t.2.1) && decide (t.2.2.1 ≤ 127) then (0, t.2.1, t.2.2.1, []) else (0, -128, 127, [])) r) else none
      | .i2c => if t.1 = 0 ∧ len = 1 then some (sy_push y (0, 0, 65535, []) r) else none
      | .dup => if t.1 ≠ 1 ∧ len = 1 then some (y.1, y.2.1, a :: a :: r, y.2.2.2.1, y.2.2.2.2) else none
      | .pop => if t.1 ≠ 1 ∧ len = 1 then some (y.1, y.2.1, r, y.2.2.2.1, y.2.2.2.2) else none
      | .dup2 => if t.1 = 1 ∧ len = 1 then some (y.1, y.2.1, a :: a :: r, y.2.2.2.1, y.2.2.2.2) else none
      | .pop2 => if t.1 = 1 ∧ len = 1 then some (y.1, y.2.1, r, y.2.2.2.1, y.2.2.2.2) else none
      | _ => none
    | none => none
  | [] => none
/-- a local and a number -/
def tr_inc (nL : Nat) (i : ClassFile.Instr) (len : Nat) (y : sy_T) : Option sy_T := match i with
  | .iinc j n => match sy_find y.2.1 j with
    | some a => match y.1[a]? with
      | some t => if t.1 = 0 ∧ len = 3 ∧ j < nL then
          (let d := (Int32.ofInt n).toInt
           let z : sy_T := (y.1 ++ [iv_mk (t.2.1 + d) (t.2.2.1 + d)], (sy_sto y j 0 y.1.length y.2.2.1).2.1, y.2.2.1, y.2.2.2.1, y.2.2.2.2)
           some (if of_in d t then sy_off z y.1.length a d else z)) else none
      | none => none
    | none => none
  | _ => none
